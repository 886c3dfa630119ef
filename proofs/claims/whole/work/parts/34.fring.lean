/-! ===== the ring, in the class and in the model ===== -/
theorem l2 (k : Nat) : (2 : Int32) * nI k = nI (2 * k) := pk_mul 2 k
theorem l16 (k : Nat) : (16 : Int32) * nI k = nI (16 * k) := pk_mul 16 k
theorem l40 (k : Nat) : (40 : Int32) * nI k = nI (40 * k) := pk_mul 40 k
theorem nI_i0 : (0 : Int32) = nI 0 := rfl
theorem nI_i1 : (1 : Int32) = nI 1 := rfl
theorem GM.fr {ks : List Nat} {σ σ' : apM} {n : Nat} {src : Nat → Nat → Option Nat} (h : GM σ n src) (hf : Fr ks σ σ') (h0 : σ' 0 1 = σ 0 1) (h1 : 4 ∉ ks) : GM σ' n src := by
  refine ⟨by rw [h0]; exact h.1, fun v hv => ?_⟩
  rw [hf _ h1]
  exact h.2 v hv
/-- an array's cells hold small numbers -/
def Nu (σ : apM) (k n : Nat) (f : Nat → Nat) : Prop := ∀ v, v < n → σ k v = nI (f v)
theorem Nu.st {σ : apM} {k n v x : Nat} {f : Nat → Nat} (h : Nu σ k n f) : Nu (mst σ k v (nI x)) k n (fun i => if i = v then x else f i) := by
  intro i hi
  rw [mst_ap]
  by_cases e : i = v
  · subst e; simp
  · simp [e, h i hi]
theorem Nu.fr {ks : List Nat} {σ σ' : apM} {k n : Nat} {f : Nat → Nat} (h : Nu σ k n f) (hf : Fr ks σ σ') (hk : k ∉ ks) : Nu σ' k n f := fun v hv => by rw [hf k hk]; exact h v hv
theorem imax {a b : Nat} (ha : a < 2 ^ 31) (hb : b < 2 ^ 31) : (if nI a < nI b then nI b else nI a) = nI (max a b) := by
  by_cases h : a < b
  · rw [if_pos (nI_lt h hb), Nat.max_eq_right (Nat.le_of_lt h)]
  · rw [if_neg (fun q => h ((nI_ltI ha hb).mp q)), Nat.max_eq_left (Nat.le_of_not_lt h)]
theorem imin {a b : Nat} (ha : a < 2 ^ 31) (hb : b < 2 ^ 31) : (if nI a < nI b then nI a else nI b) = nI (min a b) := by
  by_cases h : a < b
  · rw [if_pos (nI_lt h hb), Nat.min_eq_left (Nat.le_of_lt h)]
  · rw [if_neg (fun q => h ((nI_ltI ha hb).mp q)), Nat.min_eq_right (Nat.le_of_not_lt h)]
theorem f_near5 {σ : apM} {n v : Nat} {src : Nat → Nat → Option Nat} {dd : Nat → Nat} (h : GS n src) (hC : GC σ n src) (hd : Nu σ 14 n dd) (hb : ∀ u, u < n → dd u < 2 ^ 31) (hv : v < n) : m_X5_nearest σ (nI v) = some (eo (nrs dd (src v 0) (src v 1))) := by
  have hn := h.1
  unfold m_X5_nearest
  simp (disch := omega) only [e_rix, e_ald0, e_ald1]
  rw [(hC.2 v hv).1, (hC.2 v hv).2]
  cases h0 : src v 0 with
  | none => rw [if_pos (by rfl)]; rfl
  | some x =>
    have hx := h.2 _ _ _ h0
    rw [if_neg (show ¬ eo (some x) = -1 from m1_ne (by omega))]
    cases h1 : src v 1 with
    | none => rw [if_pos (by rfl)]; rfl
    | some y =>
      have hy := h.2 _ _ _ h1
      rw [if_neg (show ¬ eo (some y) = -1 from m1_ne (by omega))]
      simp only [eo]
      simp (disch := omega) only [e_ald]
      rw [hd x hx, hd y hy]
      by_cases hc : dd x ≤ dd y
      · rw [if_pos (nI_le hc (hb y hy))]
        simp [nrs, hc]
      · rw [if_neg (fun q => hc ((nI_leI (hb x hx) (hb y hy)).mp q))]
        simp [nrs, hc]
theorem f_countSteps {σ : apM} {n to : Nat} {src : Nat → Nat → Option Nat} (h : GS n src) (hC : GC σ n src) (ht : to < n) : Ok (m_X5_countSteps σ (nI to)) (fun σ' => Fr [14] σ σ' ∧ ∃ dd, Nu σ' 14 n dd ∧ IsD 12 n src to dd) := by
  have hn := h.1
  have nn : n < 2 ^ 31 := by omega
  unfold m_X5_countSteps
  simp (disch := omega) only [e_ast]
  have hf0 : Fr [14] σ (mst (mfl σ 14 12 12) 14 to 0) := (Fr.mfl (by decide)).tr (Fr.mst (by decide))
  refine Ok.bind (P := fun x => Fr [14] σ x.1 ∧ ∃ dd, Nu x.1 14 n dd ∧ BI 12 n src to dd ∧ BP n src to n dd) (lp_for0 (fun k (t : apM) => (t, nI k)) (fun k t => Fr [14] σ t ∧ ∃ dd, Nu t 14 n dd ∧ BI 12 n src to dd ∧ BP n src to k dd) n (FU_big (by omega)) ?_ ?_ _ ⟨hf0, fun x => if x = to then 0 else 12, ?_, ?_, ?_⟩) ?_
  · intro k t hk ⟨hf, dd, hN, hI, hP⟩
    have hCt := hC.fr hn hf (by decide) (by decide)
    simp only [m_X5_countSteps_L18]
    rw [hCt.1, if_neg (nI_ge hk nn)]
    refine Ok.bind (P := fun x => Fr [14] σ x.1 ∧ ∃ dd, Nu x.1 14 n dd ∧ BI 12 n src to dd ∧ BP n src to (k + 1) dd) (lp_for0 (fun j (t : apM) => (t, nI j)) (fun j t => Fr [14] σ t ∧ ∃ dd, Nu t 14 n dd ∧ BI 12 n src to dd ∧ BP n src to k dd ∧ ∀ v, v < j → ∀ L, L ≤ k + 1 → Wk src L v to → dd v ≤ L) n (FU_big (by omega)) ?_ ?_ t ⟨hf, dd, hN, hI, hP, fun v hv => by omega⟩) ?_
    · intro j u hj ⟨hfu, dd, hN, hI, hP, hJ⟩
      have hCu := hC.fr hn hfu (by decide) (by decide)
      have hb : ∀ u, u < n → dd u < 2 ^ 31 := fun u hu => by have := (hI u hu).1; omega
      have hjb := (hI j hj).1
      simp only [m_X5_countSteps_L31]
      rw [hCu.1, if_neg (nI_ge hj nn), f_near5 h hCu hN hb hj, ob]
      have hle : ∀ i u, src j i = some u → dd u ≤ 12 := fun i u e => (hI u (h.2 _ _ _ e)).1
      have hfv := nrs_fv (F := 12) (dd := dd) (hle 0) (hle 1)
      cases hx : nrs dd (src j 0) (src j 1) with
      | none =>
        rw [if_pos (by rfl)]
        rw [hx] at hfv
        have hnr : nrm 12 src dd j = 12 := hfv.symm
        refine Ok.pure ⟨u, by rw [nI_1], hfu, dd, hN, hI, hP, fun v hv L hL hw => ?_⟩
        by_cases e : v = j
        · subst e
          have h9 := rlx_at (F := 12) h hj hP L hL hw
          unfold rlx at h9
          rw [if_pos rfl, hnr] at h9
          omega
        · exact hJ v (by omega) L hL hw
      | some x =>
        have hxn : x < n := by
          cases h0 : src j 0 with
          | none => rw [h0] at hx; exact h.2 _ _ _ hx
          | some a =>
            cases h1 : src j 1 with
            | none => rw [h0, h1] at hx; cases hx; exact h.2 _ _ _ h0
            | some b =>
              rw [h0, h1] at hx
              simp only [nrs] at hx
              split at hx
              · cases hx; exact h.2 _ _ _ h0
              · cases hx; exact h.2 _ _ _ h1
        rw [hx] at hfv
        have hnr : nrm 12 src dd j = dd x := hfv.symm
        rw [if_neg (show ¬ eo (some x) = -1 from m1_ne (by omega))]
        simp only [eo]
        simp (disch := omega) only [e_ald]
        rw [hN j hj, hN x hxn, nI_1, imin (by have := (hI x hxn).1; omega) (hb j hj)]
        simp (disch := omega) only [e_ast]
        have hmin : min (dd x + 1) (dd j) = rlx 12 src dd j j := by
          unfold rlx
          rw [if_pos rfl, hnr, Nat.min_comm]
        rw [hmin]
        refine Ok.pure ⟨_, by rw [nI_1], hfu.tr (Fr.mst (by decide)), rlx 12 src dd j, ?_, rlx_BI h hI, rlx_BP hP, fun v hv L hL hw => ?_⟩
        · intro i hi
          rw [mst_ap]
          by_cases e : i = j
          · subst e; simp
          · simp only [e, and_false, if_false, rlx]
            exact hN i hi
        · by_cases e : v = j
          · subst e; exact rlx_at h hj hP L hL hw
          · exact Nat.le_trans rlx_le (hJ v (by omega) L hL hw)
    · intro u ⟨hfu, dd, hN, hI, hP, hJ⟩
      have hCu := hC.fr hn hfu (by decide) (by decide)
      simp only [m_X5_countSteps_L31]
      rw [hCu.1, if_pos (nI_le (Nat.le_refl _) nn)]
      exact Ok.pure ⟨_, rfl, hfu, dd, hN, hI, hJ⟩
    · rintro ⟨s2, v2⟩ ⟨hf2, h2⟩
      exact Ok.pure ⟨s2, by rw [nI_1], hf2, h2⟩
  · intro t ⟨hf, h2⟩
    have hCt := hC.fr hn hf (by decide) (by decide)
    simp only [m_X5_countSteps_L18]
    rw [hCt.1, if_pos (nI_le (Nat.le_refl _) nn)]
    exact Ok.pure ⟨_, rfl, hf, h2⟩
  · intro i hi
    rw [mst_ap]
    by_cases e : i = to
    · subst e; simp; rfl
    · simp only [e, and_false, if_false]
      rw [mfl_at, if_pos (by omega)]
      rfl
  · intro v hv
    dsimp only
    split
    · next e => subst e; exact ⟨by omega, fun _ => rfl⟩
    · exact ⟨Nat.le_refl _, fun q => absurd q (Nat.lt_irrefl _)⟩
  · intro v hv L hL hw
    have hL : L = 0 := by omega
    subst hL
    cases hw
    simp
  · rintro ⟨s1, v1⟩ ⟨hf1, dd, hN, hI, hP⟩
    exact Ok.pure ⟨hf1, dd, hN, IsD_of h (by omega) hI hP⟩
/-! the same in the model, with 1000 for 'not come to' -/
theorem f_far7 {σ : apM} {n : Nat} {dd : Nat → Nat} (hn : n ≤ 12) (hN : Nu σ 7 n dd) {x : Option Nat} (hx : ∀ u, x = some u → u < n) : m_X7_far σ (eo x) = some (nI (fv 1000 dd x)) := by
  unfold m_X7_far
  cases x with
  | none => rw [if_neg (by decide)]; rfl
  | some u =>
    have := hx u rfl
    rw [if_pos (show 0 ≤ eo (some u) from nI_pos' (by omega))]
    simp only [eo]
    simp (disch := omega) only [e_ald]
    rw [hN u this]
    rfl
theorem f_measure7 {σ : apM} {n to : Nat} {src : Nat → Nat → Option Nat} (h : GS n src) (hM : GM σ n src) (ht : to < n) : Ok (m_X7_measure σ (nI to)) (fun σ' => Fr [7] σ σ' ∧ ∃ dd, Nu σ' 7 n dd ∧ IsD 1000 n src to dd) := by
  have hn := h.1
  have nn : n < 2 ^ 31 := by omega
  unfold m_X7_measure
  refine Ok.bind (P := fun x => Fr [7] σ x.1 ∧ Nu x.1 7 n (fun v => if v = to then 0 else 1000)) (lp_for0 (fun k (t : apM) => (t, nI k)) (fun k t => Fr [7] σ t ∧ Nu t 7 k (fun v => if v = to then 0 else 1000)) n (FU_big (by omega)) ?_ ?_ _ ⟨Fr.rf, fun v hv => by omega⟩) ?_
  · intro k t hk ⟨hf, hN⟩
    have hMt := hM.fr hf (by rw [hf 0 (by decide)]) (by decide)
    simp only [m_X7_measure_L2]
    rw [hMt.1, if_neg (nI_ge hk nn)]
    have key : ∀ x : Nat, (x = if k = to then 0 else 1000) → Ok (m_X7_measure_B27 t (nI to) (nI k) (nI x) (nI k)) (fun r => ∃ t', r = .inl (t', nI (k + 1)) ∧ Fr [7] σ t' ∧ Nu t' 7 (k + 1) (fun v => if v = to then 0 else 1000)) := by
      intro x hx
      unfold m_X7_measure_B27
      simp (disch := omega) only [e_ast]
      refine Ok.pure ⟨_, by rw [nI_1], hf.tr (Fr.mst (by decide)), fun v hv => ?_⟩
      rw [mst_ap]
      by_cases e : v = k
      · subst e; simp [hx]
      · simp only [e, and_false, if_false]; exact hN v (by omega)
    by_cases e : k = to
    · rw [if_pos (by rw [e])]
      exact key 0 (by rw [if_pos e])
    · rw [if_neg (fun q => e ((nI_eq (by omega) (by omega)).mp q))]
      exact key 1000 (by rw [if_neg e])
  · intro t ⟨hf, hN⟩
    have hMt := hM.fr hf (by rw [hf 0 (by decide)]) (by decide)
    simp only [m_X7_measure_L2]
    rw [hMt.1, if_pos (nI_le (Nat.le_refl _) nn)]
    exact Ok.pure ⟨_, rfl, hf, hN⟩
  · rintro ⟨s1, v1⟩ ⟨hf1, hN1⟩
    dsimp only at hf1 hN1 ⊢
    refine Ok.bind (P := fun x => Fr [7] σ x.1 ∧ ∃ dd, Nu x.1 7 n dd ∧ BI 1000 n src to dd ∧ BP n src to n dd) (lp_for0 (fun k (t : apM) => (t, nI k)) (fun k t => Fr [7] σ t ∧ ∃ dd, Nu t 7 n dd ∧ BI 1000 n src to dd ∧ BP n src to k dd) n (FU_big (by omega)) ?_ ?_ _ ⟨hf1, _, hN1, ?_, ?_⟩) ?_
    · intro k t hk ⟨hf, dd, hN, hI, hP⟩
      have hMt := hM.fr hf (by rw [hf 0 (by decide)]) (by decide)
      simp only [m_X7_measure_L36]
      rw [hMt.1, if_neg (nI_ge hk nn)]
      refine Ok.bind (P := fun x => Fr [7] σ x.1 ∧ ∃ dd, Nu x.1 7 n dd ∧ BI 1000 n src to dd ∧ BP n src to (k + 1) dd) (lp_for0 (fun j (t : apM) => (t, nI j)) (fun j t => Fr [7] σ t ∧ ∃ dd, Nu t 7 n dd ∧ BI 1000 n src to dd ∧ BP n src to k dd ∧ ∀ v, v < j → ∀ L, L ≤ k + 1 → Wk src L v to → dd v ≤ L) n (FU_big (by omega)) ?_ ?_ t ⟨hf, dd, hN, hI, hP, fun v hv => by omega⟩) ?_
      · intro j u hj ⟨hfu, dd, hN, hI, hP, hJ⟩
        have hMu := hM.fr hfu (by rw [hfu 0 (by decide)]) (by decide)
        have hjb := (hI j hj).1
        have hle : ∀ i, fv 1000 dd (src j i) ≤ 1000 := fun i => by
          cases e : src j i with
          | none => exact Nat.le_refl _
          | some u => exact (hI u (h.2 _ _ _ e)).1
        have f0 := f_far7 hn hN (x := src j 0) (fun u e => h.2 _ _ _ e)
        have f1 := f_far7 hn hN (x := src j 1) (fun u e => h.2 _ _ _ e)
        have l0 := hle 0
        have l1 := hle 1
        have key : ∀ x : Nat, x = nrm 1000 src dd j → Ok (m_X7_measure_B112 u (nI k) (nI j) (nI x)) (fun r => ∃ t', r = .inl (t', nI (j + 1)) ∧ Fr [7] σ t' ∧ ∃ dd, Nu t' 7 n dd ∧ BI 1000 n src to dd ∧ BP n src to k dd ∧ ∀ v, v < j + 1 → ∀ L, L ≤ k + 1 → Wk src L v to → dd v ≤ L) := by
          intro x hx
          have hxb : x ≤ 1000 := by rw [hx]; unfold nrm; omega
          have fin : ∀ y : Nat, y = rlx 1000 src dd j j → Ok (m_X7_measure_B145 u (nI k) (nI j) (nI y) (nI j)) (fun r => ∃ t', r = .inl (t', nI (j + 1)) ∧ Fr [7] σ t' ∧ ∃ dd, Nu t' 7 n dd ∧ BI 1000 n src to dd ∧ BP n src to k dd ∧ ∀ v, v < j + 1 → ∀ L, L ≤ k + 1 → Wk src L v to → dd v ≤ L) := by
            intro y hy
            unfold m_X7_measure_B145
            simp (disch := omega) only [e_ast]
            refine Ok.pure ⟨_, by rw [nI_1], hfu.tr (Fr.mst (by decide)), rlx 1000 src dd j, ?_, rlx_BI h hI, rlx_BP hP, fun v hv L hL hw => ?_⟩
            · intro i hi
              rw [mst_ap]
              by_cases e : i = j
              · subst e; simp [hy]
              · simp only [e, and_false, if_false, rlx]
                exact hN i hi
            · by_cases e : v = j
              · subst e; exact rlx_at h hj hP L hL hw
              · exact Nat.le_trans rlx_le (hJ v (by omega) L hL hw)
          unfold m_X7_measure_B112
          simp (disch := omega) only [e_ald]
          rw [hN j hj, nI_1]
          by_cases hc : dd j ≤ x + 1
          · rw [if_pos (nI_le hc (by omega))]
            exact fin (dd j) (by unfold rlx; rw [if_pos rfl, ← hx]; omega)
          · rw [if_neg (fun q => hc ((nI_leI (by omega) (by omega)).mp q))]
            exact fin (x + 1) (by unfold rlx; rw [if_pos rfl, ← hx]; omega)
        simp only [m_X7_measure_L46]
        rw [hMu.1, if_neg (nI_ge hj nn)]
        simp only [l2, nI_1]
        simp (disch := omega) only [e_ald]
        rw [(hMu.2 j hj).1, (hMu.2 j hj).2, f0, f1, ob, ob]
        by_cases hc : fv 1000 dd (src j 1) ≤ fv 1000 dd (src j 0)
        · rw [if_pos (nI_le hc (by omega)), ob]
          exact key _ (by unfold nrm; omega)
        · rw [if_neg (fun q => hc ((nI_leI (by omega) (by omega)).mp q)), ob]
          exact key _ (by unfold nrm; omega)
      · intro u ⟨hfu, dd, hN, hI, hP, hJ⟩
        have hMu := hM.fr hfu (by rw [hfu 0 (by decide)]) (by decide)
        simp only [m_X7_measure_L46]
        rw [hMu.1, if_pos (nI_le (Nat.le_refl _) nn)]
        exact Ok.pure ⟨_, rfl, hfu, dd, hN, hI, hJ⟩
      · rintro ⟨s2, v2⟩ ⟨hf2, h2⟩
        exact Ok.pure ⟨s2, by rw [nI_1], hf2, h2⟩
    · intro t ⟨hf, h2⟩
      have hMt := hM.fr hf (by rw [hf 0 (by decide)]) (by decide)
      simp only [m_X7_measure_L36]
      rw [hMt.1, if_pos (nI_le (Nat.le_refl _) nn)]
      exact Ok.pure ⟨_, rfl, hf, h2⟩
    · intro v hv
      dsimp only
      split
      · next e => subst e; exact ⟨by omega, fun _ => rfl⟩
      · exact ⟨Nat.le_refl _, fun q => absurd q (Nat.lt_irrefl _)⟩
    · intro v hv L hL hw
      have hL : L = 0 := by omega
      subst hL
      cases hw
      simp
    · rintro ⟨s2, v2⟩ ⟨hf2, dd, hN, hI, hP⟩
      exact Ok.pure ⟨hf2, dd, hN, IsD_of h (by omega) hI hP⟩
