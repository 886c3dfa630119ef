/-! ===== inputs, wired graphs; the order by numbers ===== -/
def ar (o : Nat) : Nat := if o = 0 then 0 else if o = 2 then 2 else if o = 3 then 2 else if o = 4 then 2 else 1
theorem ar_le (o : Nat) : ar o ≤ 2 := by unfold ar; split <;> (try split) <;> (try split) <;> (try split) <;> omega
/-- operations are 0 .. 7; no source where there is no input -/
def GW (n : Nat) (src : Nat → Nat → Option Nat) (op : Nat → Nat) : Prop := ∀ v, v < n → op v ≤ 7 ∧ ∀ i, ar (op v) ≤ i → src v i = none
def Wd (n : Nat) (src : Nat → Nat → Option Nat) (op : Nat → Nat) : Prop := ∀ v, v < n → ∀ i, i < ar (op v) → src v i ≠ none
theorem f_inputs7 {o : Nat} (h : o ≤ 7) : m_X7_inputs (nI o) = nI (ar o) := (by decide +kernel : ∀ o, o < 8 → m_X7_inputs (nI o) = nI (ar o)) o (by omega)
theorem f_inputs1 {σ : apM} {n v : Nat} {op : Nat → Nat} (hn : n ≤ 12) (hO : Nu σ 7 n op) (hv : v < n) (h : op v ≤ 7) : m_X1_inputs σ (nI v) = some (nI (ar (op v))) := by
  unfold m_X1_inputs
  simp (disch := omega) only [e_ald]
  rw [hO v hv]
  have key : ∀ o, o < 8 → ain (nI o) = some (nI (ar o)) := by decide +kernel
  rw [key _ (by omega)]
  rfl
theorem GC.at {σ : apM} {n v i : Nat} {src : Nat → Nat → Option Nat} (h : GC σ n src) (hv : v < n) (hi : i < 2) : σ (41 + v) i = eo (src v i) := by
  rcases (show i = 0 ∨ i = 1 by omega) with rfl | rfl
  · exact (h.2 v hv).1
  · exact (h.2 v hv).2
theorem GM.at {σ : apM} {n v i : Nat} {src : Nat → Nat → Option Nat} (h : GM σ n src) (hv : v < n) (hi : i < 2) : σ 4 (2 * v + i) = eo (src v i) := by
  rcases (show i = 0 ∨ i = 1 by omega) with rfl | rfl
  · exact (h.2 v hv).1
  · exact (h.2 v hv).2
theorem f_isWired1 {σ : apM} {n : Nat} {src : Nat → Nat → Option Nat} {op : Nat → Nat} (h : GS n src) (hw : GW n src op) (hC : GC σ n src) (hO : Nu σ 7 n op) : Ok (m_X1_isWired σ) (fun r => (r = 1 ∧ Wd n src op) ∨ (r = 0 ∧ ¬ Wd n src op)) := by
  have hn := h.1
  have nn : n < 2 ^ 31 := by omega
  unfold m_X1_isWired
  refine Ok.bind (P := fun x => match x with | .inl r => r = 0 ∧ ¬ Wd n src op | .inr _ => Wd n src op) (lp_forR (fun k (_ : Unit) => nI k) (fun k _ => ∀ v, v < k → ∀ i, i < ar (op v) → src v i ≠ none) n ?_ ?_ n 0 () FU (by omega) (FU_big (by omega)) (fun v hv => by omega)) ?_
  · intro k _ hk hJ
    have ha := ar_le (op k)
    simp only [m_X1_isWired_L2]
    rw [hC.1, if_neg (nI_ge hk nn)]
    refine Ok.bind (P := fun x => match x with | .inl r => r = 0 ∧ ¬ Wd n src op | .inr _ => ∀ i, i < ar (op k) → src k i ≠ none) (lp_forR (fun j (_ : Unit) => nI j) (fun j _ => ∀ i, i < j → src k i ≠ none) (ar (op k)) ?_ ?_ (ar (op k)) 0 () FU (by omega) (FU_big (by omega)) (fun v hv => by omega)) ?_
    · intro j _ hj hJ2
      simp only [m_X1_isWired_L12]
      rw [f_inputs1 hn hO hk (hw k hk).1, ob, if_neg (nI_ge hj (by omega))]
      simp (disch := omega) only [e_rix, e_ald]
      rw [hC.at hk (by omega)]
      cases e : src k j with
      | none =>
        rw [if_pos (show eo none = -1 from rfl)]
        exact Ok.pure (Or.inr ⟨_, rfl, rfl, fun q => q k hk j hj e⟩)
      | some u =>
        have := h.2 _ _ _ e
        rw [if_neg (show ¬ eo (some u) = -1 from m1_ne (by omega))]
        refine Ok.pure (Or.inl ⟨(), by rw [nI_1], fun i hi => ?_⟩)
        by_cases q : i = j
        · subst q; rw [e]; exact fun z => by cases z
        · exact hJ2 i (by omega)
    · intro _ hJ2
      simp only [m_X1_isWired_L12]
      rw [f_inputs1 hn hO hk (hw k hk).1, ob, if_pos (nI_le (Nat.le_refl _) (by omega))]
      exact Ok.pure ⟨_, rfl, hJ2⟩
    · rintro (r | r) hP
      · exact Ok.pure (Or.inr ⟨_, rfl, hP⟩)
      · refine Ok.pure (Or.inl ⟨(), by rw [nI_1], fun v hv => ?_⟩)
        by_cases q : v = k
        · subst q; exact hP
        · exact hJ v (by omega)
  · intro _ hJ
    simp only [m_X1_isWired_L2]
    rw [hC.1, if_pos (nI_le (Nat.le_refl _) nn)]
    exact Ok.pure ⟨_, rfl, hJ⟩
  · rintro (r | r) hP
    · obtain ⟨rfl, hP⟩ := hP
      exact Ok.pure (Or.inr ⟨rfl, hP⟩)
    · exact Ok.pure (Or.inl ⟨rfl, hP⟩)
theorem f_isWired7 {σ : apM} {n : Nat} {src : Nat → Nat → Option Nat} {op : Nat → Nat} (h : GS n src) (hw : GW n src op) (hM : GM σ n src) (hO : Nu σ 1 n op) : Ok (m_X7_isWired σ) (fun r => (r = 1 ∧ 0 < n ∧ Wd n src op) ∨ (r = 0 ∧ ¬ (0 < n ∧ Wd n src op))) := by
  have hn := h.1
  have nn : n < 2 ^ 31 := by omega
  have main : ∀ b : Bool, Ok (m_X7_isWired_B12 σ (bI b)) (fun r => (r = 1 ∧ b = true ∧ Wd n src op) ∨ (r = 0 ∧ ¬ (b = true ∧ Wd n src op))) := by
    intro b
    unfold m_X7_isWired_B12
    refine Ok.bind (P := fun x => ∃ c : Bool, x.1 = bI c ∧ (c = true ↔ (b = true ∧ Wd n src op))) (lp_for0 (fun k (c : Bool) => (bI c, nI k)) (fun k c => c = true ↔ (b = true ∧ ∀ v, v < k → ∀ i, i < ar (op v) → src v i ≠ none)) n (FU_big (by omega)) ?_ ?_ b (by simp)) ?_
    · intro k c hk hJ
      have ha := ar_le (op k)
      simp only [m_X7_isWired_L15]
      rw [hM.1, if_neg (nI_ge hk nn)]
      refine Ok.bind (P := fun x => ∃ c2 : Bool, x.1 = bI c2 ∧ (c2 = true ↔ (c = true ∧ ∀ i, i < ar (op k) → src k i ≠ none))) (lp_for0 (fun j (c2 : Bool) => (bI c2, nI j)) (fun j c2 => c2 = true ↔ (c = true ∧ ∀ i, i < j → src k i ≠ none)) (ar (op k)) (FU_big (by omega)) ?_ ?_ c (by simp)) ?_
      · intro j c2 hj hJ2
        simp only [m_X7_isWired_L25]
        simp (disch := omega) only [e_ald]
        rw [hO k hk, f_inputs7 (hw k hk).1, if_neg (nI_ge hj (by omega))]
        by_cases hc : c2 = true
        · rw [if_neg (show ¬ bI c2 = 0 from by rw [hc]; decide), l2, nI_add]
          simp (disch := omega) only [e_ald]
          rw [hM.at hk (by omega)]
          cases e : src k j with
          | none =>
            rw [if_pos (show eo none < 0 from m1_neg)]
            refine Ok.pure ⟨false, by rw [← nI_1]; rfl, ?_⟩
            constructor
            · intro q; cases q
            · intro ⟨_, q⟩; exact absurd e (q j (Nat.lt_succ_self _))
          | some u =>
            have := h.2 _ _ _ e
            rw [if_neg (show ¬ eo (some u) < 0 from nI_pos (by omega))]
            refine Ok.pure ⟨true, by rw [← nI_1]; rfl, ?_⟩
            refine ⟨fun _ => ⟨(hJ2.mp hc).1, fun i hi => ?_⟩, fun _ => rfl⟩
            by_cases q : i = j
            · subst q; rw [e]; exact fun z => by cases z
            · exact (hJ2.mp hc).2 i (by omega)
        · have hc : c2 = false := by simpa using hc
          subst hc
          rw [if_pos (show bI false = 0 from rfl)]
          refine Ok.pure ⟨false, by rw [← nI_1]; rfl, ?_⟩
          constructor
          · intro q; cases q
          · intro ⟨q1, q2⟩; exact hJ2.mpr ⟨q1, fun i hi => q2 i (by omega)⟩
      · intro c2 hJ2
        simp only [m_X7_isWired_L25]
        simp (disch := omega) only [e_ald]
        rw [hO k hk, f_inputs7 (hw k hk).1, if_pos (nI_le (Nat.le_refl _) (by omega))]
        exact Ok.pure ⟨_, rfl, c2, rfl, hJ2⟩
      · rintro ⟨x1, x2⟩ ⟨c2, rfl, hc2⟩
        refine Ok.pure ⟨c2, by rw [nI_1], ?_⟩
        rw [hc2, hJ]
        constructor
        · intro ⟨⟨a, b⟩, c⟩
          refine ⟨a, fun v hv => ?_⟩
          by_cases q : v = k
          · subst q; exact c
          · exact b v (by omega)
        · intro ⟨a, b⟩
          exact ⟨⟨a, fun v hv => b v (by omega)⟩, b k (Nat.lt_succ_self _)⟩
    · intro c hJ
      simp only [m_X7_isWired_L15]
      rw [hM.1, if_pos (nI_le (Nat.le_refl _) nn)]
      exact Ok.pure ⟨_, rfl, c, rfl, hJ⟩
    · rintro ⟨x1, x2⟩ ⟨c, rfl, hc⟩
      dsimp only
      rw [bI_z, ob]
      refine Ok.pure ?_
      cases c with
      | true => exact Or.inl ⟨rfl, hc.mp rfl⟩
      | false => exact Or.inr ⟨rfl, fun q => by have := hc.mpr q; cases this⟩
  unfold m_X7_isWired
  rw [hM.1]
  by_cases h0 : n = 0
  · subst h0
    rw [if_pos (show nI 0 ≤ 0 from Int32.le_refl _)]
    refine (main false).mono (fun r hr => ?_)
    rcases hr with ⟨-, q, -⟩ | ⟨q, -⟩
    · cases q
    · exact Or.inr ⟨q, fun z => by omega⟩
  · rw [if_neg (nI_nle (by omega) nn)]
    refine (main true).mono (fun r hr => ?_)
    rcases hr with ⟨q, -, z⟩ | ⟨q, z⟩
    · exact Or.inl ⟨q, by omega, z⟩
    · exact Or.inr ⟨q, fun y => z ⟨rfl, y.2⟩⟩
/-! sequences of nodes: k of them, sq i the i-th, st v its place -/
def upN {α : Type} (f : Nat → α) (k : Nat) (x : α) : Nat → α := fun i => if i = k then x else f i
def SQ (n k : Nat) (sq : Nat → Nat) (st : Nat → Option Nat) : Prop := k ≤ n ∧ (∀ v i, st v = some i ↔ (i < k ∧ sq i = v)) ∧ ∀ i, i < k → sq i < n
theorem SQ_none {n k : Nat} {sq : Nat → Nat} {st : Nat → Option Nat} (h : SQ n k sq st) {v : Nat} : st v = none ↔ ∀ i, i < k → sq i ≠ v := by
  constructor
  · intro e i hi q
    rw [(h.2.1 v i).mpr ⟨hi, q⟩] at e
    cases e
  · intro q
    cases e : st v with
    | none => rfl
    | some i => exact absurd ((h.2.1 v i).mp e).2 (q i ((h.2.1 v i).mp e).1)
theorem SQ_lt {n k : Nat} {sq : Nat → Nat} {st : Nat → Option Nat} (h : SQ n k sq st) {v : Nat} (hv : v < n) (e : st v = none) : k < n := by
  rcases Nat.lt_or_ge k n with q | q
  · exact q
  · exfalso
    have hk : k = n := Nat.le_antisymm h.1 q
    obtain ⟨i, j, hij, hj, hf⟩ := pigeon n (fun i => if i < n then sq i else v) (fun i hi => by
      by_cases c : i < n
      · simp only [c, if_true]; exact h.2.2 i (by omega)
      · simp only [c, if_false]; exact hv)
    have hin : i < n := by omega
    simp only [hin, if_true] at hf
    by_cases c : j < n
    · simp only [c, if_true] at hf
      have h1 := (h.2.1 (sq i) i).mpr ⟨by omega, rfl⟩
      have h2 := (h.2.1 (sq i) j).mpr ⟨by omega, hf.symm⟩
      rw [h1] at h2
      cases h2
      omega
    · simp only [c, if_false] at hf
      exact (SQ_none h).mp e i (by omega) hf
theorem SQ_add {n k : Nat} {sq : Nat → Nat} {st : Nat → Option Nat} (h : SQ n k sq st) {v : Nat} (hv : v < n) (e : st v = none) : SQ n (k + 1) (upN sq k v) (upN st v (some k)) := by
  have hk := SQ_lt h hv e
  refine ⟨hk, fun u i => ?_, fun i hi => ?_⟩
  · unfold upN
    by_cases c : u = v
    · subst c
      simp only [if_true]
      constructor
      · intro q; cases q; simp
      · intro ⟨q1, q2⟩
        by_cases d : i = k
        · rw [d]
        · simp only [d, if_false] at q2
          exact absurd q2 ((SQ_none h).mp e i (by omega))
    · simp only [c, if_false]
      rw [h.2.1 u i]
      constructor
      · intro ⟨q1, q2⟩
        exact ⟨by omega, by simp [show ¬ i = k by omega, q2]⟩
      · intro ⟨q1, q2⟩
        by_cases d : i = k
        · simp only [d, if_true] at q2; exact absurd q2.symm c
        · simp only [d, if_false] at q2; exact ⟨by omega, q2⟩
  · unfold upN
    split
    · exact hv
    · exact h.2.2 i (by omega)
theorem SQ_all {n : Nat} {sq : Nat → Nat} {st : Nat → Option Nat} (h : SQ n n sq st) {v : Nat} (hv : v < n) : ∃ i, i < n ∧ st v = some i ∧ sq i = v := by
  cases e : st v with
  | none => exact absurd (SQ_lt h hv e) (Nat.lt_irrefl _)
  | some i => exact ⟨i, ((h.2.1 v i).mp e).1, rfl, ((h.2.1 v i).mp e).2⟩
theorem SQ_0 {n : Nat} {sq : Nat → Nat} : SQ n 0 sq (fun _ => none) := ⟨Nat.zero_le _, fun v i => ⟨fun q => (by cases q), fun q => absurd q.1 (Nat.not_lt_zero _)⟩, fun i hi => absurd hi (Nat.not_lt_zero _)⟩
theorem SQ_iff {n k : Nat} {sq : Nat → Nat} {st : Nat → Option Nat} (h : SQ n k sq st) {u : Nat} : st u ≠ none ↔ ∃ i, i < k ∧ sq i = u := by
  constructor
  · intro q
    cases e : st u with
    | none => exact absurd e q
    | some i => exact ⟨i, (h.2.1 u i).mp e⟩
  · intro ⟨i, hi⟩ q
    rw [(h.2.1 u i).mpr hi] at q
    cases q
/-- ready: not there, but all its dependencies are -/
def rdy (src : Nat → Nat → Option Nat) (st : Nat → Option Nat) (v : Nat) : Prop := st v = none ∧ ∀ u, ed src v u = true → st u ≠ none
def rdyK (src : Nat → Nat → Option Nat) (sq : Nat → Nat) (k v : Nat) : Prop := (∀ i, i < k → sq i ≠ v) ∧ ∀ u, ed src v u = true → ∃ i, i < k ∧ sq i = u
theorem rdy_iff {n k : Nat} {src : Nat → Nat → Option Nat} {sq : Nat → Nat} {st : Nat → Option Nat} (h : SQ n k sq st) {v : Nat} : rdy src st v ↔ rdyK src sq k v := by
  unfold rdy rdyK
  rw [SQ_none h]
  constructor
  · intro ⟨a, b⟩; exact ⟨a, fun u hu => (SQ_iff h).mp (b u hu)⟩
  · intro ⟨a, b⟩; exact ⟨a, fun u hu => (SQ_iff h).mpr (b u hu)⟩
/-- the order by numbers -/
def IsON (n k : Nat) (src : Nat → Nat → Option Nat) (sq : Nat → Nat) : Prop := ∀ i, i < k → sq i < n ∧ rdyK src sq i (sq i) ∧ ∀ u, u < sq i → ¬ rdyK src sq i u
theorem rdyK_cg {src : Nat → Nat → Option Nat} {sq s2 : Nat → Nat} {k v : Nat} (h : ∀ i, i < k → sq i = s2 i) : rdyK src sq k v → rdyK src s2 k v := fun ⟨a, b⟩ => ⟨fun i hi => by rw [← h i hi]; exact a i hi, fun u hu => by obtain ⟨i, hi, e⟩ := b u hu; exact ⟨i, hi, by rw [← h i hi]; exact e⟩⟩
theorem IsON_uniq {n : Nat} {src : Nat → Nat → Option Nat} {sq s2 : Nat → Nat} (h1 : IsON n n src sq) (h2 : IsON n n src s2) : ∀ k, k < n → sq k = s2 k := by
  intro k
  induction k using Nat.strongRecOn with
  | ind k ih =>
    intro hk
    have e : ∀ i, i < k → sq i = s2 i := fun i hi => ih i hi (by omega)
    obtain ⟨-, a, b⟩ := h1 k hk
    obtain ⟨-, c, d⟩ := h2 k hk
    rcases Nat.lt_trichotomy (sq k) (s2 k) with q | q | q
    · exact absurd (rdyK_cg e a) (d _ q)
    · exact q
    · exact absurd (rdyK_cg (fun i hi => (e i hi).symm) c) (b _ q)
theorem IsON_add {n k : Nat} {src : Nat → Nat → Option Nat} {sq : Nat → Nat} {v : Nat} (h : IsON n k src sq) (hv : v < n) (h1 : rdyK src sq k v) (h2 : ∀ u, u < v → ¬ rdyK src sq k u) : IsON n (k + 1) src (upN sq k v) := by
  intro i hi
  have e : ∀ j, j < i → sq j = upN sq k v j := fun j hj => by unfold upN; rw [if_neg (by omega)]
  by_cases c : i = k
  · subst c
    have q : upN sq i v i = v := by unfold upN; rw [if_pos rfl]
    rw [q]
    exact ⟨hv, rdyK_cg e h1, fun u hu z => h2 u hu (rdyK_cg (fun j hj => (e j hj).symm) z)⟩
  · have q : upN sq k v i = sq i := by unfold upN; rw [if_neg c]
    rw [q]
    obtain ⟨a, b, d⟩ := h i (by omega)
    exact ⟨a, rdyK_cg e b, fun u hu z => d u hu (rdyK_cg (fun j hj => (e j hj).symm) z)⟩
/-- dependencies before what depends on them -/
def TP (n : Nat) (src : Nat → Nat → Option Nat) (sq : Nat → Nat) : Prop := ∀ k, k < n → ∀ u, ed src (sq k) u = true → ∃ i, i < k ∧ sq i = u
theorem IsON_TP {n : Nat} {src : Nat → Nat → Option Nat} {sq : Nat → Nat} (h : IsON n n src sq) : TP n src sq := fun k hk => (h k hk).2.1.2
/-- without a ring some node that is not there is ready -/
theorem rdy_ex {n k : Nat} {src : Nat → Nat → Option Nat} {sq : Nat → Nat} {st : Nat → Option Nat} (h : GS n src) (hA : ∀ v, v < n → Tr src n v v = false) (hS : SQ n k sq st) {w : Nat} (hw : w < n) (e : st w = none) : ∃ v, v < n ∧ rdy src st v := by
  have key : ∀ m, m ≤ n → (∃ v, v < m ∧ st v = none) → ∃ v, v < m ∧ st v = none ∧ ∀ u, u < m → st u = none → Tr src n v u = false := by
    intro m
    induction m with
    | zero => intro _ ⟨v, hv, _⟩; omega
    | succ m ih =>
      intro hm hex
      by_cases c : ∃ v, v < m ∧ st v = none
      · obtain ⟨v, hv, e1, e2⟩ := ih (by omega) c
        by_cases d : st m = none ∧ Tr src n v m = true
        · refine ⟨m, Nat.lt_succ_self _, d.1, fun u hu hn => ?_⟩
          by_cases q : u = m
          · subst q; exact hA u (by omega)
          · cases z : Tr src n m u with
            | false => rfl
            | true => rw [← e2 u (by omega) hn]; exact (Tr_tr (by omega) d.2 z).symm
        · refine ⟨v, by omega, e1, fun u hu hn => ?_⟩
          by_cases q : u = m
          · subst q
            cases z : Tr src n v u with
            | false => rfl
            | true => exact absurd ⟨hn, z⟩ d
          · exact e2 u (by omega) hn
      · obtain ⟨v, hv, e1⟩ := hex
        have hvm : v = m := by
          rcases Nat.lt_or_ge v m with q | q
          · exact absurd ⟨v, q, e1⟩ c
          · omega
        subst hvm
        refine ⟨v, Nat.lt_succ_self _, e1, fun u hu hn => ?_⟩
        by_cases q : u = v
        · subst q; exact hA u (by omega)
        · exact absurd ⟨u, by omega, hn⟩ c
  obtain ⟨v, hv, e1, e2⟩ := key n (Nat.le_refl _) ⟨w, hw, e⟩
  refine ⟨v, hv, e1, fun u hu hn => ?_⟩
  have := e2 u (ed_lt h hu) hn
  rw [Tr_mono (k := 0) hu (Nat.zero_le _)] at this
  cases this
theorem least_rdy {n k : Nat} {src : Nat → Nat → Option Nat} {sq : Nat → Nat} {st : Nat → Option Nat} (h : GS n src) (hA : ∀ v, v < n → Tr src n v v = false) (hS : SQ n k sq st) (hk : k < n) : ∃ v, v < n ∧ rdy src st v ∧ ∀ u, u < v → ¬ rdy src st u := by
  have hex : ∃ w, w < n ∧ st w = none := by
    refine Classical.byContradiction fun hc => ?_
    have hall : ∀ w, w < n → ∃ i, i < k ∧ sq i = w := fun w hw => (SQ_iff hS).mp (fun q => hc ⟨w, hw, q⟩)
    obtain ⟨i, j, hij, hj, hf⟩ := pigeon k (fun w => if hw : w < n then (hall w hw).choose else 0) (fun w hw => by
      have hw : w < n := by omega
      simp only [hw, dif_pos]
      exact (hall w hw).choose_spec.1)
    have hi : i < n := by omega
    have hj : j < n := by omega
    simp only [hi, hj, dif_pos] at hf
    have h1 := (hall i hi).choose_spec.2
    have h2 := (hall j hj).choose_spec.2
    rw [hf, h2] at h1
    omega
  obtain ⟨w, hw, e⟩ := hex
  obtain ⟨v, hv, hr⟩ := rdy_ex h hA hS hw e
  obtain ⟨m, hm, hmin⟩ := pk_least (fun v => rdy src st v) ⟨v, hr⟩
  refine ⟨m, ?_, hm, hmin⟩
  rcases Nat.lt_or_ge v m with q | q
  · exact absurd hr (hmin v q)
  · omega
