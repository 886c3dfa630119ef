/-! ===== the order by numbers, in the class's cells and in the model's ===== -/
def SC (σ : apM) (n k : Nat) (sq : Nat → Nat) (st : Nat → Option Nat) : Prop := (∀ i, i < k → σ 20 i = nI (sq i)) ∧ (∀ v, v < n → σ 21 v = eo (st v)) ∧ σ 3 10 = nI k ∧ isS (σ 3 9) (fun v => (st v).isSome)
def SM (σ : apM) (n k : Nat) (sq : Nat → Nat) (st : Nat → Option Nat) : Prop := (∀ i, i < k → σ 11 i = nI (sq i)) ∧ (∀ v, v < n → σ 12 v = eo (st v)) ∧ σ 0 19 = nI k
theorem eo_upN {st : Nat → Option Nat} {v k u : Nat} : eo (upN st v (some k) u) = if u = v then nI k else eo (st u) := by
  unfold upN
  split <;> rfl
theorem f_append {σ : apM} {n k v : Nat} {sq : Nat → Nat} {st : Nat → Option Nat} (hn : n ≤ 12) (hQ : SQ n k sq st) (hS : SC σ n k sq st) (hv : v < n) (e : st v = none) : Ok (m_X4_append σ (nI v)) (fun σ' => Fr [20, 21, 3] σ σ' ∧ σ' 3 11 = σ 3 11 ∧ SC σ' n (k + 1) (upN sq k v) (upN st v (some k))) := by
  have hk := SQ_lt hQ hv e
  unfold m_X4_append
  rw [hS.2.2.1]
  simp (disch := omega) only [e_ast]
  rw [show mst σ 20 k (nI v) 3 10 = nI k by rw [mst_k (by decide)]; exact hS.2.2.1]
  refine Ok.pure ⟨?_, ?_, ?_, ?_, ?_, ?_⟩
  · exact (((Fr.mst (by decide)).tr (Fr.mst (by decide))).tr (Fr.mst (by decide))).tr (Fr.mst (by decide))
  · rw [mst_ni (by decide), mst_ni (by decide), mst_k (by decide), mst_k (by decide)]
  · intro i hi
    rw [mst_k (by decide), mst_k (by decide), mst_k (by decide), mst_ap]
    unfold upN
    by_cases c : i = k
    · subst c; simp
    · simp only [c, and_false, if_false]; exact hS.1 i (by omega)
  · intro u hu
    rw [mst_k (by decide), mst_k (by decide), mst_ap, eo_upN]
    by_cases c : u = v
    · subst c; simp
    · simp only [c, and_false, if_false]
      rw [mst_k (by decide)]; exact hS.2.1 u hu
  · rw [mst_at, mst_ni (by decide), mst_k (by decide), mst_k (by decide), hS.2.2.1, nI_1]
  · rw [mst_ni (by decide), mst_at, mst_k (by decide), mst_k (by decide)]
    refine isS_cg (isS_or hS.2.2.2 (f_setOf (v := v) (by omega))) (fun i _ => ?_)
    unfold upN
    by_cases c : i = v
    · subst c; simp
    · simp [c]
theorem f_come {σ : apM} {n k v : Nat} {sq : Nat → Nat} {st : Nat → Option Nat} (hn : n ≤ 12) (hQ : SQ n k sq st) (hS : SM σ n k sq st) (hv : v < n) (e : st v = none) : Ok (m_X7_come σ (nI v)) (fun σ' => Fr [11, 12, 0] σ σ' ∧ (∀ j, j ≠ 19 → σ' 0 j = σ 0 j) ∧ SM σ' n (k + 1) (upN sq k v) (upN st v (some k))) := by
  have hk := SQ_lt hQ hv e
  unfold m_X7_come
  rw [hS.2.2]
  simp (disch := omega) only [e_ast]
  rw [show mst σ 12 v (nI k) 0 19 = nI k by rw [mst_k (by decide)]; exact hS.2.2]
  simp (disch := omega) only [e_ast]
  refine Ok.pure ⟨?_, ?_, ?_, ?_, ?_⟩
  · exact ((Fr.mst (by decide)).tr (Fr.mst (by decide))).tr (Fr.mst (by decide))
  · intro j hj
    rw [mst_ni hj, mst_k (by decide), mst_k (by decide)]
  · intro i hi
    rw [mst_k (by decide), mst_ap]
    unfold upN
    by_cases c : i = k
    · subst c; simp
    · simp only [c, and_false, if_false]
      rw [mst_k (by decide)]; exact hS.1 i (by omega)
  · intro u hu
    rw [mst_k (by decide), mst_k (by decide), mst_ap, eo_upN]
    by_cases c : u = v
    · subst c; simp
    · simp only [c, and_false, if_false]; exact hS.2.1 u hu
  · rw [mst_at, mst_k (by decide), mst_k (by decide), hS.2.2, nI_1]
theorem SQ_b {n k : Nat} {sq : Nat → Nat} {st : Nat → Option Nat} (h : SQ n k sq st) {v i : Nat} (e : st v = some i) : i < k := ((h.2.1 v i).mp e).1
theorem f_isMissing {σ : apM} {n k v : Nat} {sq : Nat → Nat} {st : Nat → Option Nat} (hn : n ≤ 12) (hQ : SQ n k sq st) (hS : ∀ v, v < n → σ 21 v = eo (st v)) (hv : v < n) : m_X4_isMissing σ (nI v) = some (bI (st v).isNone) := by
  unfold m_X4_isMissing
  simp (disch := omega) only [e_ald]
  rw [hS v hv]
  cases e : st v with
  | none => rfl
  | some i =>
    have := SQ_b hQ e
    have := hQ.1
    rw [if_neg (show ¬ eo (some i) = -1 from m1_ne (by omega))]
    rfl
theorem f_isThere {σ : apM} {n k v : Nat} {sq : Nat → Nat} {st : Nat → Option Nat} (hn : n ≤ 12) (hQ : SQ n k sq st) (hS : ∀ v, v < n → σ 12 v = eo (st v)) (hv : v < n) : m_X7_isThere σ (nI v) = some (bI (st v).isSome) := by
  unfold m_X7_isThere
  simp (disch := omega) only [e_ald]
  rw [hS v hv]
  cases e : st v with
  | none => rfl
  | some i =>
    have := SQ_b hQ e
    have := hQ.1
    rw [if_neg (show ¬ eo (some i) < 0 from nI_pos (by omega))]
    rfl
theorem f_isReady4 {σ : apM} {n k v : Nat} {src : Nat → Nat → Option Nat} {sq : Nat → Nat} {st : Nat → Option Nat} (h : GS n src) (hQ : SQ n k sq st) (hS : SC σ n k sq st) (hD : ∀ v, v < n → isS (σ 16 v) (ed src v)) (hv : v < n) : Ok (m_X4_isReady σ (nI v)) (fun r => r = 0 ↔ ¬ rdy src st v) := by
  have hn := h.1
  unfold m_X4_isReady
  rw [f_isMissing hn hQ hS.2.1 hv, ob]
  cases e : st v with
  | some i =>
    rw [if_pos (show bI (some i).isNone = 0 from rfl)]
    refine Ok.pure ⟨fun _ q => ?_, fun _ => rfl⟩
    rw [q.1] at e
    cases e
  | none =>
    rw [if_neg (show ¬ bI (none : Option Nat).isNone = 0 by decide)]
    simp (disch := omega) only [e_ald]
    have hp := f_isPartOf (hD v hv) hS.2.2.2
    have hr : rdy src st v ↔ ∀ i, i < 32 → ed src v i = true → (st i).isSome = true := by
      unfold rdy
      constructor
      · intro q i _ hi
        have := q.2 i hi
        cases z : st i with
        | none => exact absurd z this
        | some _ => rfl
      · intro q
        refine ⟨e, fun u hu z => ?_⟩
        have := q u (by have := ed_lt h hu; omega) hu
        rw [z] at this
        cases this
    by_cases c : m_X6_isPartOf (σ 16 v) (σ 3 9) = 0
    · rw [if_pos c]
      exact Ok.pure ⟨fun _ q => (hp.mp c) (hr.mp q), fun _ => rfl⟩
    · rw [if_neg c]
      exact Ok.pure ⟨fun q => absurd q (by decide), fun q => absurd (hp.mpr (fun z => q (hr.mpr z))) c⟩
theorem f_leastReady {σ : apM} {n k v : Nat} {src : Nat → Nat → Option Nat} {sq : Nat → Nat} {st : Nat → Option Nat} (h : GS n src) (hC : GC σ n src) (hQ : SQ n k sq st) (hS : SC σ n k sq st) (hD : ∀ v, v < n → isS (σ 16 v) (ed src v)) (hv : v < n) (hr : rdy src st v) (hl : ∀ u, u < v → ¬ rdy src st u) : m_X4_leastReady σ = some (nI v) := by
  have hn := h.1
  unfold m_X4_leastReady
  refine Ok.eq (Ok.bind (P := fun x => x = nI v) (lp_forR (fun i (_ : Unit) => nI i) (fun i _ => i ≤ v) v ?_ ?_ v 0 () FU (by omega) (FU_big (by omega)) (Nat.zero_le _)) (fun x hx => Ok.pure hx))
  · intro i _ hi _
    simp only [m_X4_leastReady_L2]
    rw [hC.1, show (nI n - 1 : Int32) = nI (n - 1) from pk_sub (a := n) (b := 1) (by omega), if_neg (nI_ge (show i < n - 1 by omega) (by omega))]
    obtain ⟨r, e, hre⟩ := f_isReady4 h hQ hS hD (show i < n by omega)
    rw [e, ob, if_pos (hre.mpr (hl i hi))]
    exact Ok.pure (Or.inl ⟨(), by rw [nI_1], hi⟩)
  · intro _ _
    simp only [m_X4_leastReady_L2]
    rw [hC.1, show (nI n - 1 : Int32) = nI (n - 1) from pk_sub (a := n) (b := 1) (by omega)]
    by_cases c : n - 1 ≤ v
    · rw [if_pos (nI_le c (by omega))]
      exact Ok.pure ⟨_, rfl, rfl⟩
    · rw [if_neg (fun q => c ((nI_leI (by omega) (by omega)).mp q))]
      obtain ⟨r, e, hre⟩ := f_isReady4 h hQ hS hD hv
      rw [e, ob, if_neg (fun q => hre.mp q hr)]
      exact Ok.pure ⟨_, rfl, rfl⟩
theorem f_orderN4 {σ : apM} {n : Nat} {src : Nat → Nat → Option Nat} (h : GS n src) (hA : ∀ v, v < n → Tr src n v v = false) (hC : GC σ n src) (hD : ∀ v, v < n → isS (σ 16 v) (ed src v)) : Ok (m_X4_orderByNumbers σ) (fun σ' => Fr [20, 21, 3] σ σ' ∧ σ' 3 11 = σ 3 11 ∧ ∃ sq st, SQ n n sq st ∧ SC σ' n n sq st ∧ IsON n n src sq) := by
  have hn := h.1
  have nn : n < 2 ^ 31 := by omega
  unfold m_X4_orderByNumbers m_X4_beginOrder
  rw [ob]
  refine Ok.bind (P := fun x => Fr [20, 21, 3] σ x.1 ∧ x.1 3 11 = σ 3 11 ∧ ∃ sq st, SQ n n sq st ∧ SC x.1 n n sq st ∧ IsON n n src sq) (lp_for0 (fun k (t : apM) => (t, nI k)) (fun k t => Fr [20, 21, 3] σ t ∧ t 3 11 = σ 3 11 ∧ ∃ sq st, SQ n k sq st ∧ SC t n k sq st ∧ IsON n k src sq) n (FU_big (by omega)) ?_ ?_ _ ⟨?_, ?_, fun _ => 0, fun _ => none, SQ_0, ⟨fun i hi => by omega, fun v hv => ?_, ?_, ?_⟩, fun i hi => by omega⟩) ?_
  · intro k t hk ⟨hf, h11, sq, st, hQ, hS, hI⟩
    have hCt := hC.fr hn hf (by decide) (by decide)
    simp only [m_X4_orderByNumbers_L6]
    rw [hCt.1, if_neg (nI_ge hk nn)]
    obtain ⟨v, hv, hr, hl⟩ := least_rdy h hA hQ hk
    have hDt : ∀ v, v < n → isS (t 16 v) (ed src v) := fun v hv => by rw [hf 16 (by decide)]; exact hD v hv
    rw [f_leastReady h hCt hQ hS hDt hv hr hl, ob]
    refine Ok.bind (f_append hn hQ hS hv hr.1) (fun s2 ⟨a, b, c⟩ => ?_)
    exact Ok.pure ⟨s2, by rw [nI_1], hf.tr a, b.trans h11, _, _, SQ_add hQ hv hr.1, c, IsON_add hI hv ((rdy_iff hQ).mp hr) (fun u hu q => hl u hu ((rdy_iff hQ).mpr q))⟩
  · intro t ⟨hf, hJ⟩
    have hCt := hC.fr hn hf (by decide) (by decide)
    simp only [m_X4_orderByNumbers_L6]
    rw [hCt.1, if_pos (nI_le (Nat.le_refl _) nn)]
    exact Ok.pure ⟨_, rfl, hf, hJ⟩
  · exact ((Fr.mfl (by decide)).tr (Fr.mst (by decide))).tr (Fr.mst (by decide))
  · rw [mst_ni (by decide), mst_ni (by decide), mfl_k (by decide)]
  · rw [mst_k (by decide), mst_k (by decide), mfl_at, if_pos (by omega)]
    rfl
  · exact mst_at
  · rw [mst_ni (by decide), mst_at]
    exact isS_0
  · rintro ⟨s1, v1⟩ hP
    exact Ok.pure hP
theorem ed_ar {n v i u : Nat} {src : Nat → Nat → Option Nat} {op : Nat → Nat} (hw : GW n src op) (hv : v < n) (e : src v i = some u) (hi : i < 2) : i < ar (op v) := by
  rcases Nat.lt_or_ge i (ar (op v)) with q | q
  · exact q
  · rw [(hw v hv).2 i q] at e; cases e
theorem ed_of {src : Nat → Nat → Option Nat} {v i u : Nat} (hi : i < 2) (e : src v i = some u) : ed src v u = true := by
  unfold ed
  rcases (show i = 0 ∨ i = 1 by omega) with rfl | rfl
  · simp [e]
  · simp [e]
theorem ed_in {src : Nat → Nat → Option Nat} {v u : Nat} (e : ed src v u = true) : ∃ i, i < 2 ∧ src v i = some u := by
  unfold ed at e
  simp only [Bool.or_eq_true, decide_eq_true_eq] at e
  rcases e with e | e
  · exact ⟨0, by omega, e⟩
  · exact ⟨1, by omega, e⟩
theorem f_isFree {σ : apM} {n k v : Nat} {src : Nat → Nat → Option Nat} {op : Nat → Nat} {sq : Nat → Nat} {st : Nat → Option Nat} (h : GS n src) (hw : GW n src op) (hW : Wd n src op) (hM : GM σ n src) (hO : Nu σ 1 n op) (hQ : SQ n k sq st) (hS : ∀ v, v < n → σ 12 v = eo (st v)) (hv : v < n) : ∃ b : Bool, m_X7_isFree σ (nI v) = some (bI b) ∧ (b = true ↔ ∀ u, ed src v u = true → st u ≠ none) := by
  have hn := h.1
  have ha := ar_le (op v)
  unfold m_X7_isFree
  have main : Ok (lp FU (m_X7_isFree_L4 σ (nI v)) (bI true, nI 0)) (fun x => ∃ b : Bool, x.1 = bI b ∧ (b = true ↔ ∀ i u, i < ar (op v) → src v i = some u → st u ≠ none)) := by
    refine lp_for0 (fun j (b : Bool) => (bI b, nI j)) (fun j b => b = true ↔ ∀ i u, i < j → src v i = some u → st u ≠ none) (ar (op v)) (FU_big (by omega)) ?_ ?_ true (by simp)
    · intro j b hj hJ
      simp only [m_X7_isFree_L4]
      simp (disch := omega) only [e_ald]
      rw [hO v hv, f_inputs7 (hw v hv).1, if_neg (nI_ge hj (by omega))]
      cases b with
      | false =>
        rw [if_pos (show bI false = 0 from rfl)]
        refine Ok.pure ⟨false, by rw [← nI_1]; rfl, ?_⟩
        constructor
        · intro q; cases q
        · intro q; exact hJ.mpr (fun i u hi => q i u (by omega))
      | true =>
        rw [if_neg (show ¬ bI true = 0 by decide), l2, nI_add]
        simp (disch := omega) only [e_ald]
        rw [hM.at hv (by omega)]
        cases e : src v j with
        | none => exact absurd e (hW v hv j hj)
        | some u =>
          have hu := h.2 _ _ _ e
          rw [show eo (some u) = nI u from rfl, f_isThere hn hQ hS hu, ob]
          cases z : st u with
          | none =>
            rw [if_pos (show bI (none : Option Nat).isSome = 0 from rfl)]
            refine Ok.pure ⟨false, by rw [← nI_1]; rfl, ?_⟩
            constructor
            · intro q; cases q
            · intro q; exact absurd z (q j u (Nat.lt_succ_self _) e)
          | some x =>
            rw [if_neg (show ¬ bI (some x).isSome = 0 from show ¬ (1 : Int32) = 0 by decide)]
            refine Ok.pure ⟨true, by rw [← nI_1]; rfl, fun _ i w hi hw => ?_, fun _ => rfl⟩
            by_cases c : i = j
            · subst c; rw [e] at hw; cases hw; rw [z]; exact fun y => by cases y
            · exact hJ.mp rfl i w (by omega) hw
    · intro b hJ
      simp only [m_X7_isFree_L4]
      simp (disch := omega) only [e_ald]
      rw [hO v hv, f_inputs7 (hw v hv).1, if_pos (nI_le (Nat.le_refl _) (by omega))]
      exact Ok.pure ⟨_, rfl, b, rfl, hJ⟩
  obtain ⟨x, e, b, hx, hb⟩ := main
  refine ⟨b, ?_, ?_⟩
  · rw [show (1, 0) = (bI true, nI 0) from rfl, e, ob]
    obtain ⟨x1, x2⟩ := x
    dsimp only at hx ⊢
    rw [hx, bI_z]
    rfl
  · rw [hb]
    constructor
    · intro q u hu
      obtain ⟨i, hi, e⟩ := ed_in hu
      exact q i u (ed_ar hw hv e hi) e
    · intro q i u hi e
      exact q u (ed_of (by omega) e)
theorem f_orderN7 {σ : apM} {n : Nat} {src : Nat → Nat → Option Nat} {op : Nat → Nat} (h : GS n src) (hw : GW n src op) (hW : Wd n src op) (hA : ∀ v, v < n → Tr src n v v = false) (hM : GM σ n src) (hO : Nu σ 1 n op) (hS0 : ∀ v, v < n → σ 12 v = -1) (hp : σ 0 19 = 0) : Ok (m_X7_orderByNumbers σ) (fun σ' => Fr [11, 12, 0] σ σ' ∧ (∀ j, j ≠ 19 → σ' 0 j = σ 0 j) ∧ ∃ sq st, SQ n n sq st ∧ SM σ' n n sq st ∧ IsON n n src sq) := by
  have hn := h.1
  have nn : n < 2 ^ 31 := by omega
  unfold m_X7_orderByNumbers
  refine Ok.bind (P := fun x => Fr [11, 12, 0] σ x ∧ (∀ j, j ≠ 19 → x 0 j = σ 0 j) ∧ ∃ sq st, SQ n n sq st ∧ SM x n n sq st ∧ IsON n n src sq) (lp_for0 (fun k (t : apM) => t) (fun k t => Fr [11, 12, 0] σ t ∧ (∀ j, j ≠ 19 → t 0 j = σ 0 j) ∧ ∃ sq st, SQ n k sq st ∧ SM t n k sq st ∧ IsON n k src sq) n (FU_big (by omega)) ?_ ?_ σ ⟨Fr.rf, fun _ _ => rfl, fun _ => 0, fun _ => none, SQ_0, ⟨fun i hi => by omega, hS0, hp⟩, fun i hi => by omega⟩) ?_
  · intro k t hk ⟨hf, h0, sq, st, hQ, hS, hI⟩
    have hMt := hM.fr hf (h0 1 (by decide)) (by decide)
    have hOt := hO.fr hf (by decide)
    simp only [m_X7_orderByNumbers_L0]
    rw [hMt.1, hS.2.2, if_neg (nI_ge hk nn)]
    obtain ⟨v, hv, hr, hl⟩ := least_rdy h hA hQ hk
    have hin : lp FU (m_X7_orderByNumbers_L13 t) 0 = some (nI v) := by
      refine Ok.eq (lp_for0 (fun i (_ : Unit) => nI i) (fun i _ => i ≤ v) v (FU_big (by omega)) ?_ ?_ () (Nat.zero_le _))
      · intro i _ hi _
        simp only [m_X7_orderByNumbers_L13]
        rw [f_isThere hn hQ hS.2.1 (show i < n by omega), ob]
        cases z : st i with
        | some x =>
          rw [if_neg (show ¬ bI (some x).isSome = 0 from show ¬ (1 : Int32) = 0 by decide)]
          exact Ok.pure ⟨(), by rw [nI_1], hi⟩
        | none =>
          rw [if_pos (show bI (none : Option Nat).isSome = 0 from rfl)]
          obtain ⟨b, e, hb⟩ := f_isFree h hw hW hMt hOt hQ hS.2.1 (show i < n by omega)
          rw [e, ob]
          cases b with
          | true => exact absurd ⟨z, hb.mp rfl⟩ (hl i hi)
          | false =>
            rw [if_pos (show bI false = 0 from rfl)]
            exact Ok.pure ⟨(), by rw [nI_1], hi⟩
      · intro _ _
        simp only [m_X7_orderByNumbers_L13]
        rw [f_isThere hn hQ hS.2.1 hv, ob, hr.1, if_pos (show bI (none : Option Nat).isSome = 0 from rfl)]
        obtain ⟨b, e, hb⟩ := f_isFree h hw hW hMt hOt hQ hS.2.1 hv
        rw [e, ob, hb.mpr hr.2, if_neg (show ¬ bI true = 0 by decide)]
        exact Ok.pure ⟨_, rfl, rfl⟩
    rw [hin, ob]
    refine Ok.bind (f_come hn hQ hS hv hr.1) (fun s2 ⟨a, b, c⟩ => ?_)
    exact Ok.pure ⟨s2, rfl, hf.tr a, fun j hj => (b j hj).trans (h0 j hj), _, _, SQ_add hQ hv hr.1, c, IsON_add hI hv ((rdy_iff hQ).mp hr) (fun u hu q => hl u hu ((rdy_iff hQ).mpr q))⟩
  · intro t ⟨hf, h0, sq, st, hQ, hS, hI⟩
    have hMt := hM.fr hf (h0 1 (by decide)) (by decide)
    simp only [m_X7_orderByNumbers_L0]
    rw [hMt.1, hS.2.2, if_pos (nI_le (Nat.le_refl _) nn)]
    exact Ok.pure ⟨_, rfl, hf, h0, sq, st, hQ, hS, hI⟩
  · intro x hP
    exact Ok.pure hP
