/-! ===== the order by labels in the model ===== -/
theorem lp_okg {S E : Type} {b : S → Option (S ⊕ E)} (I : Nat → S → Prop) {P : E → Prop} (hs : ∀ m s, I m s → Ok (b s) (fun r => match r with | .inl s' => ∃ m', m' < m ∧ I m' s' | .inr e => P e)) : ∀ (n m : Nat) (s : S), m < n → I m s → Ok (lp n b s) P := by
  intro n
  induction n with
  | zero => intro m s h; omega
  | succ n ih =>
    intro m s hm hi
    obtain ⟨r, e, hr⟩ := hs m s hi
    unfold lp
    rw [e]
    cases r with
    | inl s' =>
      obtain ⟨m', h1, h2⟩ := hr
      exact ih m' s' (by omega) h2
    | inr e' => exact Ok.pure hr
theorem oe_if {ms : Nat → Bool} {p q u : Nat} (h : oe (mo ms (some p)) (mo ms (some q)) = some u) : (if ms p = true then p else q) = u := by
  cases z : ms p with
  | true => rw [mo_t z] at h; rw [if_pos rfl]; cases h; rfl
  | false => rw [mo_f z] at h; rw [if_neg (by decide)]; have := (mo_some (show mo ms (some q) = some u from h)).1; cases this; rfl
theorem f_due7 {σ : apM} {n k v u : Nat} {src : Nat → Nat → Option Nat} {op Lb : Nat → Nat} {sq : Nat → Nat} {st : Nat → Option Nat} (h : GS n src) (hw : GW n src op) (hW : Wd n src op) (hM : GM σ n src) (hO : Nu σ 1 n op) (hQ : SQ n k sq st) (hS : ∀ v, v < n → σ 12 v = eo (st v)) (hL : Nu σ 10 n Lb) (hb : ∀ v, v < n → Lb v < 1000) (hv : v < n) (e : nx src Lb (msK sq k) v = some u) : m_X7_due σ (nI v) = some (nI u) := by
  have hn := h.1
  have h7 := (hw v hv).1
  have ha := ar_le (op v)
  have h81 : ∀ p q : Nat, p < n → m_X7_due_B81 σ (nI p) (nI q) = some (nI (if msK sq k p = true then p else q)) := by
    intro p q hp
    unfold m_X7_due_B81
    rw [f_isThere hn hQ hS hp, ob, show msK sq k p = (st p).isNone from congrFun (msK_st hQ) p]
    cases z : st p with
    | none => rw [if_pos (show bI (none : Option Nat).isSome = 0 from rfl)]; rfl
    | some x => rw [if_neg (show ¬ bI (some x).isSome = 0 from show ¬ (1 : Int32) = 0 by decide)]; rfl
  have h36 : ∀ x y : Nat, x < n → y < n → m_X7_due_B36 σ (nI x) (nI y) = some (nI (if Lb x < Lb y then (if msK sq k y = true then y else x) else (if msK sq k x = true then x else y))) := by
    intro x y hx hy
    have bx := hb x hx
    have bY := hb y hy
    unfold m_X7_due_B36
    simp (disch := omega) only [e_ald]
    rw [hL x hx, hL y hy]
    unfold m_X7_due_B57 m_X7_due_B69
    by_cases c : Lb y ≤ Lb x
    · rw [if_pos (nI_le c (by omega)), if_pos rfl, if_pos rfl, h81 x y hx, if_neg (show ¬ Lb x < Lb y by omega)]
    · rw [if_neg (fun q => c ((nI_leI (by omega) (by omega)).mp q)), if_neg (by decide), if_neg (by decide), h81 y x hy, if_pos (show Lb x < Lb y by omega)]
  unfold m_X7_due
  rw [l2]
  simp (disch := omega) only [e_ald]
  rw [show σ 4 (2 * v) = _ from hM.at hv (show 0 < 2 by omega), hO v hv, f_inputs7 h7]
  have hp : 0 < ar (op v) := by
    rcases Nat.lt_or_ge 0 (ar (op v)) with q | q
    · exact q
    · exact absurd (ed_ar hw hv (ed_in (nx_some e).1).choose_spec.2 (ed_in (nx_some e).1).choose_spec.1) (by omega)
  cases e0 : src v 0 with
  | none => exact absurd e0 (hW v hv 0 hp)
  | some x =>
    have hx := h.2 _ _ _ e0
    by_cases c : ar (op v) ≤ 1
    · rw [if_pos (show nI (ar (op v)) ≤ (1 : Int32) from nI_le (b := 1) c (by decide)), show eo (some x) = nI x from rfl, h36 x x hx hx, if_neg (Nat.lt_irrefl _)]
      have e1 := (hw v hv).2 1 c
      rcases ed_or (nx_some e).1 with q | q
      · rw [e0] at q; cases q; simp
      · rw [e1] at q; cases q
    · rw [if_neg (show ¬ nI (ar (op v)) ≤ (1 : Int32) from fun q => c ((nI_leI (b := 1) (by omega) (by decide)).mp q)), nI_1]
      simp (disch := omega) only [e_ald]
      rw [show σ 4 (2 * v + 1) = _ from hM.at hv (show 1 < 2 by omega)]
      cases e1 : src v 1 with
      | none => exact absurd e1 (hW v hv 1 (by omega))
      | some y =>
        have hy := h.2 _ _ _ e1
        rw [show eo (some x) = nI x from rfl, show eo (some y) = nI y from rfl, h36 x y hx hy]
        unfold nx swp at e
        rw [e0, e1] at e
        by_cases d : Lb x < Lb y
        · simp only [d, decide_true, if_true] at e ⊢
          rw [oe_if e]
        · simp only [d, decide_false, Bool.false_eq_true, if_false] at e ⊢
          rw [oe_if e]
/-- what stands while a root is visited -/
def VI (σ t : apM) (n v : Nat) (src : Nat → Nat → Option Nat) (Lb : Nat → Nat) (k L : Nat) (sq : Nat → Nat) (st : Nat → Option Nat) (c : Nat → Nat) : Prop :=
  Fr [17, 11, 12, 0] σ t ∧ (∀ j, j ≠ 19 → j ≠ 25 → t 0 j = σ 0 j) ∧ t 0 25 = nI L ∧ SQ n k sq st ∧ SM t n k sq st ∧ IsOL n k src Lb sq ∧ (∀ u, u < v → nod n src u → st u ≠ none) ∧ (∀ u, u < n → st u ≠ none → nod n src u → u < v + 1)
theorem rk_chain {n : Nat} {src : Nat → Nat → Option Nat} {Lb rk : Nat → Nat} {ms : Nat → Bool} {c : Nat → Nat} {L : Nat} (hR : Rk n src rk) (hc : ∀ i, i < L → c i < n) (hx : ∀ i, i + 1 < L → nx src Lb ms (c i) = some (c (i + 1))) : ∀ d i, i + d < L → rk (c (i + d)) + d ≤ rk (c i) := by
  intro d
  induction d with
  | zero => intro i _; exact Nat.le_refl _
  | succ d ih =>
    intro i hi
    have h1 := ih i (by omega)
    have h2 := (hR (c (i + d)) (hc _ (by omega))).2 _ (nx_some (hx (i + d) (by omega))).1
    show rk (c (i + d + 1)) + (d + 1) ≤ rk (c i)
    omega
theorem f_visit7 {σ : apM} {n k v : Nat} {src : Nat → Nat → Option Nat} {op Lb rk : Nat → Nat} {sq : Nat → Nat} {st : Nat → Option Nat} (h : GS n src) (hw : GW n src op) (hW : Wd n src op) (hR : Rk n src rk) (hM : GM σ n src) (hO : Nu σ 1 n op) (hL : Nu σ 10 n Lb) (hb : ∀ v, v < n → Lb v < 1000) (hv : v < n) (hd : nod n src v) (hQ : SQ n k sq st) (hS : SM σ n k sq st) (hI : IsOL n k src Lb sq) (hJ : ∀ u, u < v → nod n src u → st u ≠ none) (hJ2 : ∀ u, u < n → st u ≠ none → nod n src u → u < v) : Ok (m_X7_visit σ (nI v)) (fun σ' => Fr [17, 11, 12, 0] σ σ' ∧ (∀ j, j ≠ 19 → j ≠ 25 → σ' 0 j = σ 0 j) ∧ ∃ k sq st, SQ n k sq st ∧ SM σ' n k sq st ∧ IsOL n k src Lb sq ∧ (∀ u, u < v + 1 → nod n src u → st u ≠ none) ∧ ∀ u, u < n → st u ≠ none → nod n src u → u < v + 1) := by
  have hn := h.1
  have nn : n < 2 ^ 31 := by omega
  have sv : st v = none := by
    cases z : st v with
    | none => rfl
    | some _ => exact absurd (hJ2 v hv (by rw [z]; exact fun q => by cases q) hd) (Nat.lt_irrefl _)
  unfold m_X7_visit
  rw [show (0 : Int32) = nI 0 from rfl]
  simp (disch := omega) only [e_ast]
  refine Ok.bind (lp_okg (fun m t => ∃ k L sq st c, m = 26 * (n - k) + (13 - L) ∧ L ≤ n ∧ VI σ t n v src Lb k L sq st c ∧ (∀ i, i < L → t 17 i = nI (c i) ∧ c i < n ∧ st (c i) = none) ∧ (0 < L → c 0 = v) ∧ (L = 0 → st v ≠ none) ∧ ∀ i, i + 1 < L → nx src Lb (msK sq k) (c i) = some (c (i + 1))) (P := fun σ' => Fr [17, 11, 12, 0] σ σ' ∧ (∀ j, j ≠ 19 → j ≠ 25 → σ' 0 j = σ 0 j) ∧ ∃ k sq st, SQ n k sq st ∧ SM σ' n k sq st ∧ IsOL n k src Lb sq ∧ (∀ u, u < v + 1 → nod n src u → st u ≠ none) ∧ ∀ u, u < n → st u ≠ none → nod n src u → u < v + 1) ?_ FU _ _ (FU_big (show 26 * (n - k) + (13 - 1) < 5000 by omega)) ⟨k, 1, sq, st, fun _ => v, rfl, by omega, ⟨?_, ?_, ?_, hQ, ?_, hI, hJ, ?_⟩, ?_, fun _ => rfl, fun q => by omega, fun i hi => by omega⟩) (fun x hx => Ok.pure hx)
  · rintro m t ⟨k, L, sq, st, c, rfl, hLn, ⟨hf, h0, h25, hQ, hS, hI, hJ, hJ2⟩, hc, hc0, hL0, hch⟩
    have hMt := hM.fr hf (h0 1 (by decide) (by decide)) (by decide)
    have hOt := hO.fr hf (by decide)
    have hLt := hL.fr hf (by decide)
    have hrc := rk_chain hR (fun i hi => (hc i hi).2.1) hch
    simp only [m_X7_visit_L12]
    rw [h25]
    by_cases cL : L = 0
    · subst cL
      rw [if_pos (show nI 0 ≤ (0 : Int32) by decide)]
      refine Ok.pure ⟨hf, h0, k, sq, st, hQ, hS, hI, fun u hu q => ?_, hJ2⟩
      by_cases d : u = v
      · rw [d]; exact hL0 rfl
      · exact hJ u (by omega) q
    · rw [if_neg (show ¬ nI L ≤ (0 : Int32) from fun q => cL (by have := (nI_leI (b := 0) (by omega) (by decide)).mp q; omega)), show (nI L - 1 : Int32) = nI (L - 1) from pk_sub (a := L) (b := 1) (by omega)]
      simp (disch := omega) only [e_ald]
      obtain ⟨cx1, cx2, cx3⟩ := hc (L - 1) (by omega)
      rw [cx1, f_isThere hn hQ hS.2.1 cx2, ob, cx3, if_pos (show bI (none : Option Nat).isSome = 0 from rfl)]
      obtain ⟨b, eb, hbf⟩ := f_isFree h hw hW hMt hOt hQ hS.2.1 cx2
      rw [eb, ob]
      cases b with
      | false =>
        rw [if_pos (show bI false = 0 from rfl)]
        cases e : nx src Lb (msK sq k) (c (L - 1)) with
        | none =>
          exfalso
          have := hbf.mpr (fun u hu => by
            have := nx_none e hu
            rw [show msK sq k u = (st u).isNone from congrFun (msK_st hQ) u] at this
            intro z; rw [z] at this; cases this)
          cases this
        | some u =>
          obtain ⟨eu, mu⟩ := nx_some e
          have hu := ed_lt h eu
          have r1 := hrc (L - 1) 0 (by omega)
          have r2 := (hR _ cx2).2 u eu
          have r3 := (hR (c 0) (hc 0 (by omega)).2.1).1
          rw [Nat.zero_add] at r1
          rw [f_due7 h hw hW hMt hOt hQ hS.2.1 hLt hb cx2 e, ob]
          simp (disch := omega) only [e_ast]
          rw [show mst t 17 L (nI u) 0 25 = nI L by rw [mst_k (by decide)]; exact h25, nI_1]
          refine Ok.pure ⟨26 * (n - k) + (13 - (L + 1)), by omega, k, L + 1, sq, st, upN c L u, rfl, by omega, ⟨hf.tr ((Fr.mst (by decide)).tr (Fr.mst (by decide))), fun j j1 j2 => ?_, mst_at, hQ, ⟨?_, ?_, ?_⟩, hI, hJ, hJ2⟩, fun i hi => ?_, fun _ => ?_, fun q => by omega, fun i hi => ?_⟩
          · rw [mst_ni j2, mst_k (by decide)]; exact h0 j j1 j2
          · intro i hi; rw [mst_k (by decide), mst_k (by decide)]; exact hS.1 i hi
          · intro i hi; rw [mst_k (by decide), mst_k (by decide)]; exact hS.2.1 i hi
          · rw [mst_ni (by decide), mst_k (by decide)]; exact hS.2.2
          · rw [mst_k (by decide), mst_ap]
            unfold upN
            by_cases d : i = L
            · subst d
              rw [if_pos rfl]
              refine ⟨by simp, hu, ?_⟩
              rw [show msK sq k u = (st u).isNone from congrFun (msK_st hQ) u] at mu
              simpa using mu
            · simp only [d, and_false, if_false]; exact hc i (by omega)
          · unfold upN; rw [if_neg (by omega)]; exact hc0 (by omega)
          · unfold upN
            rw [if_neg (by omega)]
            by_cases d : i + 1 = L
            · rw [if_pos d, show i = L - 1 by omega]; exact e
            · rw [if_neg d]; exact hch i (by omega)
      | true =>
        rw [if_neg (show ¬ bI true = 0 by decide)]
        have hk := SQ_lt hQ cx2 cx3
        have hnx : nx src Lb (msK sq k) (c (L - 1)) = none := by
          cases e : nx src Lb (msK sq k) (c (L - 1)) with
          | none => rfl
          | some u =>
            obtain ⟨eu, mu⟩ := nx_some e
            have := hbf.mp rfl u eu
            rw [show msK sq k u = (st u).isNone from congrFun (msK_st hQ) u] at mu
            simp only [Option.isNone_iff_eq_none] at mu
            exact absurd mu this
        have hdw := dw_chain (n := n) (L := L - 1) (k := n) (fun i hi => hch i (by omega)) hnx (by omega)
        have hm0 : msK sq k v = true := by
          rw [show msK sq k v = (st v).isNone from congrFun (msK_st hQ) v, ← hc0 (by omega), (hc 0 (by omega)).2.2]
          rfl
        refine Ok.bind (f_come hn hQ hS cx2 cx3) (fun s2 ⟨a1, a2, a3⟩ => ?_)
        have h2 : s2 0 25 = nI L := (a2 25 (by decide)).trans h25
        rw [h2, show (nI L - 1 : Int32) = nI (L - 1) from pk_sub (a := L) (b := 1) (by omega)]
        have hne : ∀ i, i < L - 1 → c i ≠ c (L - 1) := fun i hi z => by
          have := hrc (L - 1 - i) i (by omega)
          rw [show i + (L - 1 - i) = L - 1 by omega, ← z] at this
          omega
        have hQ2 := SQ_add hQ cx2 cx3
        have hms : ∀ u, msK (upN sq k (c (L - 1))) (k + 1) u = true → msK sq k u = true := fun u q => by
          rw [show msK (upN sq k (c (L - 1))) (k + 1) u = _ from congrFun (msK_st hQ2) u] at q
          rw [show msK sq k u = (st u).isNone from congrFun (msK_st hQ) u]
          unfold upN at q
          split at q
          · cases q
          · exact q
        have hms2 : ∀ i, i < L - 1 → msK (upN sq k (c (L - 1))) (k + 1) (c i) = true := fun i hi => by
          rw [show msK (upN sq k (c (L - 1))) (k + 1) (c i) = _ from congrFun (msK_st hQ2) (c i)]
          unfold upN
          rw [if_neg (hne i hi), (hc i (by omega)).2.2]
          rfl
        refine Ok.pure ⟨26 * (n - (k + 1)) + (13 - (L - 1)), by omega, k + 1, L - 1, _, _, c, rfl, by omega, ⟨(hf.tr (a1.mono (by decide))).tr (Fr.mst (by decide)), fun j j1 j2 => ?_, mst_at, hQ2, ⟨?_, ?_, ?_⟩, IsOL_add hI ⟨v, hv, hd, hm0, fun u hu q => ?_, ?_⟩, fun u hu q => ?_, fun u hu q1 q2 => ?_⟩, fun i hi => ?_, fun q => hc0 (by omega), fun q => ?_, fun i hi => ?_⟩
        · rw [mst_ni j2, a2 j j1]; exact h0 j j1 j2
        · intro i hi; rw [mst_k (by decide)]; exact a3.1 i hi
        · intro i hi; rw [mst_k (by decide)]; exact a3.2.1 i hi
        · rw [mst_ni (by decide)]; exact a3.2.2
        · rw [show msK sq k u = (st u).isNone from congrFun (msK_st hQ) u]
          cases z : st u with
          | none => exact absurd z (hJ u hu q)
          | some _ => rfl
        · rw [← hc0 (by omega)]; exact hdw.symm
        · unfold upN
          split
          · exact fun z => by cases z
          · exact hJ u hu q
        · unfold upN at q1
          split at q1
          · next d =>
            subst d
            by_cases d1 : L = 1
            · subst d1; rw [show 1 - 1 = 0 from rfl, hc0 (by omega)]; omega
            · exfalso
              have := (nx_some (hch (L - 2) (by omega))).1
              rw [show L - 2 + 1 = L - 1 by omega, q2 _ (hc (L - 2) (by omega)).2.1] at this
              cases this
          · exact hJ2 u hu q1 q2
        · rw [mst_k (by decide), a1 17 (by decide)]
          obtain ⟨b1, b2, b3⟩ := hc i (by omega)
          refine ⟨b1, b2, ?_⟩
          unfold upN
          rw [if_neg (hne i hi)]; exact b3
        · unfold upN
          rw [if_pos (by rw [q]; exact (hc0 (by omega)).symm)]
          exact fun z => by cases z
        · exact nx_st hms (hch i (by omega)) (hms2 (i + 1) (by omega))
  · exact (Fr.mst (by decide)).tr (Fr.mst (by decide))
  · intro j _ j2
    rw [mst_ni j2, mst_k (by decide)]
  · exact mst_at
  · refine ⟨fun i hi => ?_, fun i hi => ?_, ?_⟩
    · rw [mst_k (by decide), mst_k (by decide)]; exact hS.1 i hi
    · rw [mst_k (by decide), mst_k (by decide)]; exact hS.2.1 i hi
    · rw [mst_ni (by decide), mst_k (by decide)]; exact hS.2.2
  · intro u hu a b
    have := hJ2 u hu a b
    omega
  · intro i hi
    have : i = 0 := by omega
    subst this
    rw [mst_k (by decide)]
    exact ⟨mst_at, hv, sv⟩
theorem f_isUsed7 {σ : apM} {n v : Nat} {src : Nat → Nat → Option Nat} (h : GS n src) (hM : GM σ n src) (hv : v < n) : ∃ b : Bool, m_X7_isUsed σ (nI v) = some (bI b) ∧ (b = false ↔ nod n src v) := by
  have hn := h.1
  unfold m_X7_isUsed
  have main : Ok (lp FU (m_X7_isUsed_L4 σ (nI v)) (bI false, nI 0)) (fun x => ∃ b : Bool, x.1 = bI b ∧ (b = false ↔ ∀ i, i < 2 * n → src (i / 2) (i % 2) ≠ some v)) := by
    refine lp_for0 (fun j (b : Bool) => (bI b, nI j)) (fun j b => b = false ↔ ∀ i, i < j → src (i / 2) (i % 2) ≠ some v) (2 * n) (FU_big (by omega)) ?_ ?_ false (by simp)
    · intro j b hj hJ
      simp only [m_X7_isUsed_L4, m_X7_isUsed_B28, m_X7_isUsed_B33]
      rw [hM.1, l2, if_neg (nI_ge hj (by omega))]
      cases b with
      | true =>
        rw [if_neg (show ¬ bI true = 0 by decide)]
        refine Ok.pure ⟨true, by rw [← nI_1]; rfl, ?_⟩
        constructor
        · intro q; cases q
        · intro q; exact hJ.mpr (fun i hi => q i (by omega))
      | false =>
        rw [if_pos (show bI false = 0 from rfl)]
        simp (disch := omega) only [e_ald]
        have hjj : 2 * (j / 2) + j % 2 = j := by omega
        have hat := hM.at (show j / 2 < n by omega) (show j % 2 < 2 by omega)
        rw [hjj] at hat
        rw [hat]
        by_cases c : src (j / 2) (j % 2) = some v
        · rw [c, if_pos (show eo (some v) = nI v from rfl)]
          refine Ok.pure ⟨true, by rw [← nI_1]; rfl, ?_⟩
          constructor
          · intro q; cases q
          · intro q; exact absurd c (q j (Nat.lt_succ_self _))
        · have : ¬ eo (src (j / 2) (j % 2)) = nI v := by
            cases e : src (j / 2) (j % 2) with
            | none => exact m1_ne' (by omega)
            | some u =>
              have hu := h.2 _ _ _ e
              intro q
              have := (nI_eq (by omega) (by omega)).mp q
              subst this
              exact c e
          rw [if_neg this]
          refine Ok.pure ⟨false, by rw [← nI_1]; rfl, fun _ i hi => ?_, fun _ => rfl⟩
          by_cases d : i = j
          · subst d; exact c
          · exact hJ.mp rfl i (by omega)
    · intro b hJ
      simp only [m_X7_isUsed_L4]
      rw [hM.1, l2, if_pos (nI_le (Nat.le_refl _) (by omega))]
      exact Ok.pure ⟨_, rfl, b, rfl, hJ⟩
  obtain ⟨x, e, b, hx, hb⟩ := main
  refine ⟨b, ?_, ?_⟩
  · rw [show (0, 0) = (bI false, nI 0) from rfl, e, ob]
    obtain ⟨x1, x2⟩ := x
    dsimp only at hx ⊢
    rw [hx, bI_z]
    rfl
  · rw [hb]
    constructor
    · intro q w hw
      cases z : ed src w v with
      | false => rfl
      | true =>
        obtain ⟨i, hi, e⟩ := ed_in z
        have := q (2 * w + i) (by omega)
        rw [show (2 * w + i) / 2 = w by omega, show (2 * w + i) % 2 = i by omega] at this
        exact absurd e this
    · intro q i hi z
      have := q (i / 2) (by omega)
      rw [ed_of (show i % 2 < 2 by omega) z] at this
      cases this
theorem f_orderL7 {σ : apM} {n : Nat} {src : Nat → Nat → Option Nat} {op Lb : Nat → Nat} (h : GS n src) (hw : GW n src op) (hW : Wd n src op) (hA : ∀ v, v < n → Tr src n v v = false) (hM : GM σ n src) (hO : Nu σ 1 n op) (hL : Nu σ 10 n Lb) (hb : ∀ v, v < n → Lb v < 1000) (hS0 : ∀ v, v < n → σ 12 v = -1) (hp : σ 0 19 = 0) : Ok (m_X7_orderByLabels σ) (fun σ' => Fr [17, 11, 12, 0] σ σ' ∧ (∀ j, j ≠ 19 → j ≠ 25 → σ' 0 j = σ 0 j) ∧ ∃ sq st, SQ n n sq st ∧ SM σ' n n sq st ∧ IsOL n n src Lb sq) := by
  have hn := h.1
  have nn : n < 2 ^ 31 := by omega
  obtain ⟨rk, hR⟩ := Rk_ex h hA
  unfold m_X7_orderByLabels
  refine Ok.bind (P := fun x => Fr [17, 11, 12, 0] σ x.1 ∧ (∀ j, j ≠ 19 → j ≠ 25 → x.1 0 j = σ 0 j) ∧ ∃ k sq st, SQ n k sq st ∧ SM x.1 n k sq st ∧ IsOL n k src Lb sq ∧ ∀ u, u < n → nod n src u → st u ≠ none) (lp_for0 (fun j (t : apM) => (t, nI j)) (fun j t => Fr [17, 11, 12, 0] σ t ∧ (∀ j, j ≠ 19 → j ≠ 25 → t 0 j = σ 0 j) ∧ ∃ k sq st, SQ n k sq st ∧ SM t n k sq st ∧ IsOL n k src Lb sq ∧ (∀ u, u < j → nod n src u → st u ≠ none) ∧ ∀ u, u < n → st u ≠ none → nod n src u → u < j) n (FU_big (by omega)) ?_ ?_ σ ⟨Fr.rf, fun _ _ _ => rfl, 0, fun _ => 0, fun _ => none, SQ_0, ⟨fun i hi => by omega, hS0, hp⟩, fun i hi => by omega, fun u hu => by omega, fun u hu q => absurd rfl q⟩) ?_
  · intro j t hj ⟨hf, h0, k, sq, st, hQ, hS, hI, hJ, hJ2⟩
    have hMt := hM.fr hf (h0 1 (by decide) (by decide)) (by decide)
    have hOt := hO.fr hf (by decide)
    have hLt := hL.fr hf (by decide)
    simp only [m_X7_orderByLabels_L2]
    rw [hMt.1, if_neg (nI_ge hj nn)]
    obtain ⟨b, eb, hbn⟩ := f_isUsed7 h hMt hj
    rw [eb, ob]
    cases b with
    | false =>
      rw [if_pos (show bI false = 0 from rfl)]
      refine Ok.bind (f_visit7 h hw hW hR hMt hOt hLt hb hj (hbn.mp rfl) hQ hS hI hJ hJ2) (fun s2 ⟨a1, a2, k, sq, st, q1, q2, q3, q4, q5⟩ => ?_)
      exact Ok.pure ⟨s2, by rw [nI_1], hf.tr a1, fun j j1 j2 => (a2 j j1 j2).trans (h0 j j1 j2), k, sq, st, q1, q2, q3, q4, q5⟩
    | true =>
      rw [if_neg (show ¬ bI true = 0 by decide)]
      have c : ¬ nod n src j := fun q => by have := hbn.mpr q; cases this
      refine Ok.pure ⟨t, by rw [nI_1], hf, h0, k, sq, st, hQ, hS, hI, fun u hu q => ?_, fun u hu q1 q2 => ?_⟩
      · by_cases d : u = j
        · subst d; exact absurd q c
        · exact hJ u (by omega) q
      · have := hJ2 u hu q1 q2
        omega
  · intro t ⟨hf, h0, k, sq, st, hQ, hS, hI, hJ, hJ2⟩
    have hMt := hM.fr hf (h0 1 (by decide) (by decide)) (by decide)
    simp only [m_X7_orderByLabels_L2]
    rw [hMt.1, if_pos (nI_le (Nat.le_refl _) nn)]
    exact Ok.pure ⟨_, rfl, hf, h0, k, sq, st, hQ, hS, hI, hJ⟩
  · rintro ⟨s1, v1⟩ ⟨a, b, k, sq, st, q1, q2, q3, q4⟩
    have := IsOL_all h hA hR q1 q3 q4
    subst this
    exact Ok.pure ⟨a, b, sq, st, q1, q2, q3⟩
