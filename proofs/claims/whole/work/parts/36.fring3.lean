/-! ===== the model's ring ===== -/
theorem f_near7 {σ : apM} {n v : Nat} {src : Nat → Nat → Option Nat} {dd : Nat → Nat} (h : GS n src) (hM : GM σ n src) (hN : Nu σ 7 n dd) (hb : ∀ u, u < n → dd u ≤ 1000) (hv : v < n) :
    m_X7_nearest σ (nI v) = some (eo (match nrs dd (src v 0) (src v 1) with | none => none | some x => if dd x < 1000 then some x else none)) := by
  have hn := h.1
  unfold m_X7_nearest
  simp only [l2, nI_1]
  simp (disch := omega) only [e_ald]
  have f0 := f_far7 hn hN (x := src v 0) (fun u e => h.2 _ _ _ e)
  have f1 := f_far7 hn hN (x := src v 1) (fun u e => h.2 _ _ _ e)
  have hle : ∀ i, fv 1000 dd (src v i) ≤ 1000 := fun i => by
    cases e : src v i with
    | none => exact Nat.le_refl _
    | some u => exact hb u (h.2 _ _ _ e)
  have l0 := hle 0
  have l1 := hle 1
  rw [(hM.2 v hv).1, (hM.2 v hv).2, f1, ob, f0, ob]
  have fin : ∀ i, i < 2 → m_X7_nearest_B38 σ (eo (src v i)) = some (eo (match src v i with | none => none | some x => if dd x < 1000 then some x else none)) := by
    intro i hi
    unfold m_X7_nearest_B38
    rw [f_far7 hn hN (x := src v i) (fun u e => h.2 _ _ _ e), ob]
    have := hle i
    cases e : src v i with
    | none => rw [if_pos (show (1000 : Int32) ≤ nI (fv 1000 dd none) from Int32.le_refl _)]; rfl
    | some x =>
      rw [e] at this
      have this : dd x ≤ 1000 := this
      by_cases hx : dd x < 1000
      · rw [if_neg (show ¬ (1000 : Int32) ≤ nI (fv 1000 dd (some x)) from nI_ge (b := 1000) hx (by decide))]
        simp [hx]
      · rw [if_pos (show (1000 : Int32) ≤ nI (fv 1000 dd (some x)) from nI_le (Nat.le_of_not_lt hx) (by show dd x < _; omega))]
        simp [hx, eo]
  by_cases hc : fv 1000 dd (src v 0) ≤ fv 1000 dd (src v 1)
  · rw [if_pos (nI_le hc (by omega)), fin 0 (by omega)]
    congr 2
    cases e0 : src v 0 with
    | none =>
      rw [e0] at hc
      have hc : 1000 ≤ fv 1000 dd (src v 1) := hc
      cases e1 : src v 1 with
      | none => rfl
      | some y =>
        rw [e1] at hc
        have hc : 1000 ≤ dd y := hc
        simp [nrs, show ¬ dd y < 1000 by omega]
    | some x =>
      cases e1 : src v 1 with
      | none => rfl
      | some y =>
        rw [e0, e1] at hc
        have hc : dd x ≤ dd y := hc
        simp [nrs, hc]
  · rw [if_neg (fun q => hc ((nI_leI (by omega) (by omega)).mp q)), fin 1 (by omega)]
    congr 2
    cases e0 : src v 0 with
    | none => rfl
    | some x =>
      cases e1 : src v 1 with
      | none =>
        rw [e0, e1] at hc
        exact absurd (hb x (h.2 _ _ _ e0)) hc
      | some y =>
        rw [e0, e1] at hc
        have hc : ¬ dd x ≤ dd y := hc
        simp [nrs, hc]
theorem f_findRing7 {σ : apM} {n : Nat} {src : Nat → Nat → Option Nat} (h : GS n src) (hM : GM σ n src) : Ok (m_X7_findRing σ) (fun σ' => Fr [0, 7, 8] σ σ' ∧ (∀ j, j ≠ 9 → σ' 0 j = σ 0 j) ∧ ∃ l rs, IsRing n src l rs ∧ l ≤ n ∧ (∀ i, i < l → rs i < n) ∧ σ' 0 9 = nI l ∧ ∀ i, i < l → σ' 8 i = nI (rs i)) := by
  have hn := h.1
  have nn : n < 2 ^ 31 := by omega
  unfold m_X7_findRing
  refine Ok.bind (P := fun x => Fr [0, 7, 8] σ x.1 ∧ (∀ j, j ≠ 9 → x.1 0 j = σ 0 j) ∧ ∃ l rs, IsRing n src l rs ∧ l ≤ n ∧ (∀ i, i < l → rs i < n) ∧ x.1 0 9 = nI l ∧ ∀ i, i < l → x.1 8 i = nI (rs i)) (lp_forR (fun k (t : apM) => (t, nI k)) (fun k t => Fr [0, 7, 8] σ t ∧ (∀ j, j ≠ 9 → t 0 j = σ 0 j) ∧ ((t 0 9 = 0 ∧ ∀ v, v < k → Tr src n v v = false) ∨ ∃ l rs, 0 < l ∧ IsRing n src l rs ∧ l ≤ n ∧ (∀ i, i < l → rs i < n) ∧ t 0 9 = nI l ∧ ∀ i, i < l → t 8 i = nI (rs i))) n ?_ ?_ n 0 _ FU (by omega) (FU_big (by omega)) ⟨Fr.mst (by decide), fun j hj => by rw [mst_ni hj], Or.inl ⟨mst_at, fun v hv => by omega⟩⟩) ?_
  · intro k t hk ⟨hf, h0, hJ⟩
    have hMt := hM.fr hf (h0 1 (by decide)) (by decide)
    simp only [m_X7_findRing_L7]
    rw [hMt.1, if_neg (nI_ge hk nn)]
    rcases hJ with ⟨hz, hJ⟩ | ⟨l, rs, hl0, hJ⟩
    · rw [if_pos hz]
      refine Ok.bind (f_measure7 h hMt hk) (fun s1 ⟨hf1, dd, hN, hD⟩ => ?_)
      have hle := IsD_le hD (by omega)
      have hf01 := hf.tr (hf1.mono (k2 := [0, 7, 8]) (by decide))
      have h01 : ∀ j, s1 0 j = t 0 j := fun j => by rw [hf1 0 (by decide)]
      have hM1 := hMt.fr hf1 (h01 1) (by decide)
      rw [f_near7 h hM1 hN hle hk, ob]
      by_cases hT : Tr src n k k = true
      · -- a ring begins here
        obtain ⟨l, hl, hR, hlt⟩ := ring_ex h (by omega) hk hT hD
        have hRing : IsRing n src l (rsq src dd k) := Or.inr ⟨k, dd, hk, hT, hJ, hD, hR⟩
        have hfin : ∀ i, i < l → dd (rsq src dd k i) < 1000 := fun i hi => by
          obtain ⟨L, hL⟩ := RS_reach (n := n) hR (l - 1 - i) i (by omega)
          have := (IsD_fin hD (hlt i hi) hL).1
          omega
        generalize hrs : rsq src dd k = rs at hR hlt hRing hfin
        have hkk : dd k < 1000 := by have := hfin 0 hR.1; rw [hR.2.1] at this; exact this
        -- what follows a node of the ring
        have hnext : ∀ i, i < l → (match nrs dd (src (rs i) 0) (src (rs i) 1) with | none => none | some x => if dd x < 1000 then some x else none) = some (if i + 1 < l then rs (i + 1) else k) := by
          intro i hi
          by_cases e : i + 1 < l
          · rw [(hR.2.2.1 i e).1, if_pos e]
            simp [hfin (i + 1) e]
          · have e2 : i = l - 1 := by omega
            rw [e2, hR.2.2.2, if_neg (by omega)]
            simp [hkk]
        have hx0 := hnext 0 hR.1
        rw [hR.2.1] at hx0
        rw [hx0]
        generalize hx1 : (if 0 + 1 < l then rs (0 + 1) else k) = x1
        have hx1n : x1 < n := by
          rw [← hx1]; split
          · next q => exact hlt 1 q
          · exact hk
        rw [if_neg (show ¬ eo (some x1) < 0 from nI_pos (by omega)), show (0 : Int32) = nI 0 from rfl]
        simp (disch := omega) only [e_ast]
        refine Ok.bind (P := fun x => Fr [0, 7, 8] σ x.1 ∧ (∀ j, j ≠ 9 → x.1 0 j = σ 0 j) ∧ x.1 0 9 = nI l ∧ ∀ i, i < l → x.1 8 i = nI (rs i)) (lp_forR (fun i (t : apM) => (t, nI (if i + 1 < l then rs (i + 1) else k))) (fun i t => i < l ∧ Fr [0, 7, 8] σ t ∧ (∀ j, j ≠ 9 → t 0 j = σ 0 j) ∧ Nu t 7 n dd ∧ t 0 9 = nI (i + 1) ∧ ∀ j, j < i + 1 → t 8 j = nI (rs j)) (l - 1) ?_ ?_ (l - 1) 0 _ FU (by omega) (FU_big (by omega)) ⟨hR.1, (hf01.tr (Fr.mst (by decide))).tr (Fr.mst (by decide)), fun j hj => by rw [mst_ni hj, mst_k (by decide), h01]; exact h0 j hj, (hN.fr (Fr.mst (ks := [8]) (by decide)) (by decide)).fr (Fr.mst (ks := [0]) (by decide)) (by decide), mst_at, fun j hj => ?_⟩ |> fun z => by rw [hx1] at z; exact z) ?_
        · intro i u hi ⟨hil, hfu, h0u, hNu, hlen, hmem⟩
          have hi1 : i + 1 < l := by omega
          have hri := hlt (i + 1) hi1
          have hMu := hM.fr hfu (h0u 1 (by decide)) (by decide)
          simp only [m_X7_findRing_L49]
          rw [if_pos hi1, if_neg (fun q => (hR.2.2.1 i hi1).2 ((nI_eq (by omega) (by omega)).mp q)), hlen]
          simp (disch := omega) only [e_ast]
          generalize hw : mst (mst u 8 (i + 1) (nI (rs (i + 1)))) 0 9 ((mst u 8 (i + 1) (nI (rs (i + 1)))) 0 9 + 1) = w
          have hfw : Fr [0, 7, 8] σ w := by rw [← hw]; exact (hfu.tr (Fr.mst (by decide))).tr (Fr.mst (by decide))
          have h0w : ∀ j, j ≠ 9 → w 0 j = σ 0 j := fun j hj => by rw [← hw, mst_ni hj, mst_k (by decide)]; exact h0u j hj
          have hNw : Nu w 7 n dd := by rw [← hw]; exact (hNu.fr (Fr.mst (ks := [8]) (by decide)) (by decide)).fr (Fr.mst (ks := [0]) (by decide)) (by decide)
          have hw9 : w 0 9 = nI (i + 1 + 1) := by rw [← hw, mst_at, mst_k (by decide), hlen, nI_1]
          have hMw := hM.fr hfw (h0w 1 (by decide)) (by decide)
          rw [f_near7 h hMw hNw hle hri, ob, hnext (i + 1) hi1]
          refine Ok.pure (Or.inl ⟨w, rfl, hi1, hfw, h0w, hNw, hw9, fun j hj => ?_⟩)
          rw [← hw, mst_k (by decide), mst_ap]
          by_cases e : j = i + 1
          · subst e; simp
          · simp only [e, and_false, if_false]; exact hmem j (by omega)
        · intro u ⟨hil, hfu, h0u, hNu, hlen, hmem⟩
          simp only [m_X7_findRing_L49]
          rw [if_neg (show ¬ l - 1 + 1 < l by omega), if_pos rfl]
          exact Ok.pure ⟨_, rfl, hfu, h0u, by show u 0 9 = _; rw [hlen, show l - 1 + 1 = l by have := hR.1; omega], fun j hj => hmem j (by omega)⟩
        · have e : j = 0 := by omega
          subst e
          rw [mst_k (by decide), mst_at, hR.2.1]
        · rintro ⟨s3, v3⟩ ⟨a, b, c, d⟩
          exact Ok.pure (Or.inl ⟨s3, by rw [nI_1], a, b, Or.inr ⟨l, rs, hR.1, hRing, hl, hlt, c, d⟩⟩)
      · -- no ring here
        have hno : (match nrs dd (src k 0) (src k 1) with | none => none | some x => if dd x < 1000 then some x else none) = none := by
          cases e : nrs dd (src k 0) (src k 1) with
          | none => rfl
          | some x =>
            have hx := nrs_ed e
            have hxn := ed_lt h hx
            by_cases q : dd x < 1000
            · exfalso
              rcases hD x hxn with ⟨a, -⟩ | ⟨-, a, -⟩
              · omega
              · exact hT ((Tr_iff h).mpr ⟨_, x, hx, a⟩)
            · simp [q]
        rw [hno, if_pos (show eo none < 0 from m1_neg)]
        refine Ok.pure (Or.inl ⟨s1, by rw [nI_1], hf01, fun j hj => by rw [h01]; exact h0 j hj, Or.inl ⟨by rw [h01]; exact hz, fun v hv => ?_⟩⟩)
        by_cases e : v = k
        · subst e; simpa using hT
        · exact hJ v (by omega)
    · rw [if_neg (show ¬ t 0 9 = 0 from by rw [hJ.2.2.2.1]; exact nI_ne0 hl0 (by have := hJ.2.1; omega))]
      exact Ok.pure (Or.inr ⟨_, rfl, hf, h0, l, rs, hJ⟩)
  · intro t ⟨hf, h0, hJ⟩
    have hMt := hM.fr hf (h0 1 (by decide)) (by decide)
    simp only [m_X7_findRing_L7]
    rw [hMt.1, if_pos (nI_le (Nat.le_refl _) nn)]
    refine Ok.pure ⟨_, rfl, hf, h0, ?_⟩
    rcases hJ with ⟨hz, hJ⟩ | ⟨l, rs, -, hJ⟩
    · exact ⟨0, fun _ => 0, Or.inl ⟨rfl, hJ⟩, by omega, fun i hi => by omega, hz, fun i hi => by omega⟩
    · exact ⟨l, rs, hJ⟩
  · rintro ⟨s1, v1⟩ hP
    exact Ok.pure hP
