/-! ===== order, about, cost, peak, least, run, cell, result ===== -/
theorem w_in (x : Int32) {m : Nat} (hm : m < 2 ^ 31) : (m_X6_isWithin x (nI m) = 0 ∧ (x < 0 ∨ (¬ x < 0 ∧ ¬ x < nI m))) ∨ ∃ k, k < m ∧ x = nI k := by
  by_cases h0 : x < 0
  · left
    refine ⟨?_, Or.inl h0⟩
    unfold m_X6_isWithin
    rw [if_pos h0]
  · obtain ⟨j, hj, rfl⟩ := nI_of h0
    by_cases c : j < m
    · exact Or.inr ⟨j, c, rfl⟩
    · left
      refine ⟨?_, Or.inr ⟨h0, nI_nlt (by omega) hj⟩⟩
      rw [f_isWithin_nI hj hm, decide_eq_false c]
      rfl
theorem w_inT {k m : Nat} (hk : k < m) (hm : m < 2 ^ 31) : m_X6_isWithin (nI k) (nI m) = 1 := by
  rw [f_isWithin_nI (by omega) hm, decide_eq_true hk]
  rfl
theorem np0 {s : apM} (h : s 0 6 = 0) : m_X6_needPlan s = .inl ("java/lang/IllegalStateException", s) := by
  unfold m_X6_needPlan
  rw [if_pos h]
theorem np1 {s : apM} (h : s 0 6 = 1) : m_X6_needPlan s = .inr s := by
  unfold m_X6_needPlan
  rw [h, if_neg (by decide)]
theorem nw0 {s : apM} {x m : Int32} (h : m_X6_isWithin x m = 0) : m_X6_needWithin s x m = .inl ("java/lang/IndexOutOfBoundsException", s) := by
  unfold m_X6_needWithin
  rw [if_pos h]
theorem nw1 {s : apM} {k m : Nat} (h : k < m) (hm : m < 2 ^ 31) : m_X6_needWithin s (nI k) (nI m) = .inr s := by
  unfold m_X6_needWithin
  rw [w_inT h hm, if_neg (by decide)]
def cdIx : List (String × Int32) := [("java/lang/IllegalStateException", 1), ("java/lang/IndexOutOfBoundsException", 2)]
def cdSt : List (String × Int32) := [("java/lang/IllegalStateException", 1)]
def cdRs : List (String × Int32) := [("java/lang/IllegalStateException", 1), ("java/util/NoSuchElementException", 2), ("java/lang/IndexOutOfBoundsException", 3)]
theorem mst00 {s : apM} {x : Int32} : mst s 0 0 x 0 0 = x := mst_at
theorem q_order {σC σM : apM} (h : qIN σC σM) (x : Int32) : qThr cdIx (m_X6_order σC x) (m_X7_order σM x) := by
  have hth := fun y => h.thrown (x := y)
  obtain ⟨n, src, op, pn, qn, ke, gv, gs, gw, pb, bc, bm, pl⟩ := h
  have hn := gs.1
  have b24 : qThr cdIx (some (.inl ("java/lang/IndexOutOfBoundsException", σC))) (m_X7_order_B24 σM x) := by
    unfold m_X7_order_B24 m_X7_order_B29
    rw [mst00, if_neg (by decide)]
    exact qThr_x (x := 2) mst_at (by unfold cdIx; simp) (hth 2)
  unfold m_X6_order m_X7_order
  rcases pl with ⟨a, b⟩ | ⟨a, b, Z, Lb, sq, po, la, plf, G, ar, p1, p2, p3, p4⟩
  · rw [np0 a, if_pos b]
    unfold m_X7_order_B29
    rw [mst00, if_neg (by decide)]
    exact qThr_x (x := 1) mst_at (by unfold cdIx; simp) (hth 1)
  · rw [np1 a, if_neg (by rw [b]; decide)]
    dsimp only
    rw [bc.1.1, bm.1.1]
    rcases w_in x (show n < 2 ^ 31 by omega) with ⟨e, z⟩ | ⟨k, hk, rfl⟩
    · rw [nw0 e]
      dsimp only
      rcases z with z | ⟨z1, z2⟩
      · rw [if_pos z]; exact b24
      · rw [if_neg z1, if_neg z2]; exact b24
    · rw [nw1 hk (by omega), if_neg (nI_pos (by omega)), if_pos (nI_lt hk (by omega))]
      dsimp only
      unfold m_X7_order_B29
      obtain ⟨-, -, -, -, n20, -⟩ := p2
      obtain ⟨-, -, n11, -⟩ := p3
      rw [mst00, if_pos rfl, ald_nu n20 hk hn, ob, ald_nu (n11.fr (ks := [0]) (Fr.mst (by decide)) (by decide)) hk hn, ob]
      exact qThr_v mst_at (hth 0)
theorem q_about {σC σM : apM} (h : qIN σC σM) (x y : Int32) : qThr cdIx (m_X6_about σC x y) (m_X7_about σM x y) := by
  have hth := fun y => h.thrown (x := y)
  obtain ⟨n, src, op, pn, qn, ke, gv, gs, gw, pb, bc, bm, pl⟩ := h
  have hn := gs.1
  have b29 : qThr cdIx (some (.inl ("java/lang/IndexOutOfBoundsException", σC))) (m_X7_about_B29 σM x y) := by
    unfold m_X7_about_B29 m_X7_about_B34
    rw [mst00, if_neg (by decide)]
    exact qThr_x (x := 2) mst_at (by unfold cdIx; simp) (hth 2)
  unfold m_X6_about m_X7_about
  rcases pl with ⟨a, b⟩ | ⟨a, b, Z, Lb, sq, po, la, plf, G, ar, p1, p2, p3, p4⟩
  · rw [np0 a, if_pos b]
    unfold m_X7_about_B34
    rw [mst00, if_neg (by decide)]
    exact qThr_x (x := 1) mst_at (by unfold cdIx; simp) (hth 1)
  · rw [np1 a, if_neg (by rw [b]; decide)]
    dsimp only
    rw [bc.1.1, f_isNode hn bm.1.1]
    rcases w_in x (show n < 2 ^ 31 by omega) with ⟨e, z⟩ | ⟨k, hk, rfl⟩
    · rw [nw0 e, decide_eq_false, if_pos (show bI false = 0 from rfl)]
      · exact b29
      · rintro ⟨k, hk, rfl⟩
        rw [w_inT hk (by omega)] at e
        exact absurd e (by decide)
    · rw [nw1 hk (by omega), decide_eq_true ⟨k, hk, rfl⟩, if_neg (show ¬ bI true = 0 by decide)]
      dsimp only
      rcases w_in y (show 5 < 2 ^ 31 by decide) with ⟨e, z⟩ | ⟨j, hj, rfl⟩
      · rw [show m_X6_needWithin σC y 5 = _ from nw0 e]
        dsimp only
        rcases z with z | ⟨z1, z2⟩
        · rw [if_pos z]; exact b29
        · rw [if_neg z1]
          obtain ⟨i, hi, rfl⟩ := nI_of z1
          have : ¬ nI i ≤ (4 : Int32) := fun q => by
            have := (nI_leI (b := 4) hi (by decide)).mp q
            exact z2 (nI_lt (by omega) (by decide))
          rw [if_neg this]; exact b29
      · rw [show m_X6_needWithin σC (nI j) 5 = _ from nw1 (m := 5) hj (by decide), if_neg (nI_pos (by omega)), if_pos (show nI j ≤ (4 : Int32) from nI_le (b := 4) (by omega) (by decide))]
        dsimp only
        unfold m_X7_about_B34
        obtain ⟨-, -, n18, n19, n20, n21, n22, n23, n25, -⟩ := p2
        obtain ⟨n9, n10, n11, n12, n13, n14, -⟩ := p3
        have fr : ∀ {k f}, k ≠ 0 → Nu σM k n f → Nu (mst σM 0 0 0) k n f := fun hk hN v hv => by rw [mst_k hk]; exact hN v hv
        rw [mst00, if_pos (show (0 : Int32) ≤ 0 by decide), ald_nu n18 hk hn, ald_nu n21 hk hn, ald_nu n22 hk hn, ald_nu n25 hk hn, ald_nu n19 hk hn, ald_nu (fr (by decide) n9) hk hn, ald_nu (fr (by decide) n12) hk hn, ald_nu (fr (by decide) n13) hk hn, ald_nu (fr (by decide) n14) hk hn, ald_nu (fr (by decide) n10) hk hn]
        rcases (show j = 0 ∨ j = 1 ∨ j = 2 ∨ j = 3 ∨ j = 4 by omega) with rfl | rfl | rfl | rfl | rfl
        · rw [if_pos (by decide), if_pos (by decide)]
          exact qThr_v mst_at (hth 0)
        · rw [if_neg (by decide), if_pos (by decide), if_neg (by decide), if_pos (by decide)]
          exact qThr_v mst_at (hth 0)
        · rw [if_neg (by decide), if_neg (by decide), if_pos (by decide), if_neg (by decide), if_neg (by decide), if_pos (by decide)]
          exact qThr_v mst_at (hth 0)
        · rw [if_neg (by decide), if_neg (by decide), if_neg (by decide), if_pos (by decide), if_neg (by decide), if_neg (by decide), if_neg (by decide), if_pos (by decide)]
          exact qThr_v mst_at (hth 0)
        · rw [if_neg (by decide), if_neg (by decide), if_neg (by decide), if_neg (by decide), if_neg (by decide), if_neg (by decide), if_neg (by decide), if_neg (by decide)]
          exact qThr_v mst_at (hth 0)
theorem qPF_b {n : Nat} {src : Nat → Nat → Option Nat} {op pn qn : Nat → Nat} {ke : Nat → Bool} {Z Lb sq po la pl : Nat → Nat} {G a : Nat} (h : qPF n src op pn qn ke Z Lb sq po la pl G a) : (∀ v, v < n → po v < n) ∧ (∀ v, v < n → la v < n) ∧ a ≤ 480 := by
  obtain ⟨f1, f2, f3, f4, f5, f6, f7, f8, f9, f10, f11, f12, f13, f14, f15⟩ := h
  have hpo : ∀ v, v < n → po v < n := fun v hv => (f8.1 v hv).1
  refine ⟨hpo, fun v hv => (IsLa_b hpo hv (f10 v hv)).1, ?_⟩
  rcases f13.2.2 with q | ⟨w, hw, q⟩
  · omega
  · have := f12 w hw
    dsimp only at q
    omega
theorem q_cost {σC σM : apM} (h : qIN σC σM) (x : Int32) : qThr cdIx (m_X6_cost σC x) (m_X7_cost σM x) := by
  have hth := fun y => h.thrown (x := y)
  obtain ⟨n, src, op, pn, qn, ke, gv, gs, gw, pb, bc, bm, pl⟩ := h
  have hn := gs.1
  have b24 : qThr cdIx (some (.inl ("java/lang/IndexOutOfBoundsException", σC))) (m_X7_cost_B24 σM x) := by
    unfold m_X7_cost_B24 m_X7_cost_B29
    rw [mst00, if_neg (by decide)]
    exact qThr_x (x := 2) mst_at (by unfold cdIx; simp) (hth 2)
  unfold m_X6_cost m_X7_cost
  rcases pl with ⟨a, b⟩ | ⟨a, b, Z, Lb, sq, po, la, plf, G, ar, p1, p2, p3, p4⟩
  · rw [np0 a, if_pos b]
    unfold m_X7_cost_B29
    rw [mst00, if_neg (by decide)]
    exact qThr_x (x := 1) mst_at (by unfold cdIx; simp) (hth 1)
  · rw [np1 a, if_neg (by rw [b]; decide)]
    dsimp only
    rw [bc.1.1, bm.1.1]
    rcases w_in x (show n < 2 ^ 31 by omega) with ⟨e, z⟩ | ⟨k, hk, rfl⟩
    · rw [nw0 e]
      dsimp only
      rcases z with z | ⟨z1, z2⟩
      · rw [if_pos z]; exact b24
      · rw [if_neg z1, if_neg z2]; exact b24
    · rw [nw1 hk (by omega), if_neg (nI_pos (by omega)), if_pos (nI_lt hk (by omega))]
      dsimp only
      unfold m_X7_cost_B29
      obtain ⟨hpo, hlan, -⟩ := qPF_b p1
      obtain ⟨-, -, -, -, -, -, hZb, -⟩ := p1
      obtain ⟨-, -, -, -, -, -, -, n23, -⟩ := p2
      obtain ⟨n9, -, -, n12, n13, -⟩ := p3
      have fr : ∀ {k f}, k ≠ 0 → Nu σM k n f → Nu (mst σM 0 0 0) k n f := fun hk hN v hv => by rw [mst_k hk]; exact hN v hv
      rw [mst00, if_pos rfl, ald_nu n23 hk hn, ob, f_costOf7 hn (by rw [mst_ni (by decide)]; exact bm.1.1) (fr (by decide) n9) (fr (by decide) n12) (fr (by decide) n13) hpo hlan hZb hk, ob]
      exact qThr_v mst_at (hth 0)
theorem q_peak {σC σM : apM} (h : qIN σC σM) : qThr cdSt (some (m_X6_peak σC)) (m_X7_peak σM) := by
  have hth := fun y => h.thrown (x := y)
  obtain ⟨n, src, op, pn, qn, ke, gv, gs, gw, pb, bc, bm, pl⟩ := h
  have hn := gs.1
  unfold m_X6_peak
  rcases pl with ⟨a, b⟩ | ⟨a, b, Z, Lb, sq, po, la, plf, G, ar, p1, p2, p3, p4⟩
  · rw [np0 a]
    unfold m_X7_peak
    rw [if_pos b]
    unfold m_X7_peak_B13
    have : lp FU (m_X7_peak_L20 (mst σM 0 0 1)) (0, 0) = some (0, 0) := by
      refine Ok.eq (lp_for0 (fun k (_ : Unit) => ((0 : Int32), nI k)) (fun _ _ => True) 0 (FU_big (by omega)) (fun k _ hk => by omega) ?_ () trivial)
      intro _ _
      simp only [m_X7_peak_L20]
      rw [mst_ni (i := 0) (i' := 11) (by decide), b, if_pos rfl]
      by_cases c : mst σM 0 0 1 0 1 ≤ nI 0
      · rw [if_pos c]; exact Ok.pure ⟨_, rfl, rfl⟩
      · rw [if_neg c]; exact Ok.pure ⟨_, rfl, rfl⟩
    rw [this, ob]
    exact qThr_x (x := 1) mst_at (by unfold cdSt; simp) (hth 1)
  · rw [np1 a]
    obtain ⟨hpo, hlan, -⟩ := qPF_b p1
    obtain ⟨-, -, -, -, -, -, hZb, -, -, -, -, -, -, hG, -⟩ := p1
    obtain ⟨-, -, -, -, -, -, -, -, -, -, g11, -⟩ := p2
    obtain ⟨n9, -, -, n12, n13, -⟩ := p3
    rw [f_peak7 hn bm.1.1 b n9 n12 n13 hpo hlan hZb hG]
    dsimp only
    rw [g11]
    exact qThr_v mst_at (hth 0)
theorem q_least {σC σM : apM} (h : qIN σC σM) : qThr cdSt (m_X6_least σC) (m_X7_least σM) := by
  have hth := fun y => h.thrown (x := y)
  obtain ⟨n, src, op, pn, qn, ke, gv, gs, gw, pb, bc, bm, pl⟩ := h
  have hn := gs.1
  unfold m_X6_least m_X7_least m_X7_least_B13
  rcases pl with ⟨a, b⟩ | ⟨a, b, Z, Lb, sq, po, la, plf, G, ar, p1, p2, p3, p4⟩
  · rw [np0 a, if_pos b, mst_ni (i := 0) (i' := 11) (by decide), b, if_pos rfl]
    exact qThr_x (x := 1) mst_at (by unfold cdSt; simp) (hth 1)
  · have p1' := p1
    obtain ⟨f1, f2, f3, f4, f5, f6, f7, f8, f9, f10, f11, f12, f13, f14, f15⟩ := p1
    have p2' := p2
    have p3' := p3
    obtain ⟨n16, n17, n18, n19, n20, n21, n22, n23, n25, g10, g11, g3, g8⟩ := p2
    obtain ⟨n9, n10, n11, n12, n13, n14, m20, m21⟩ := p3
    have hLPG : qLP n src ke Z ≤ G := ls_own gs f8 f9 f10 f14 f15
    rw [np1 a, if_neg (by rw [b]; decide), mst_ni (i := 0) (i' := 11) (by decide), b, if_neg (by decide), mst_ni (i := 0) (i' := 21) (by decide)]
    dsimp only
    -- the class
    have hC : ∃ sC, (if σC 0 8 = 0 then Option.bind (m_X2_find σC) (fun p7 => some (.inr ((mst p7.2 0 8 p7.1) 0 8, mst p7.2 0 8 p7.1))) else some (.inr (σC 0 8, σC)) : Option ((String × apM) ⊕ (Int32 × apM))) = some (.inr (nI (qLP n src ke Z), sC)) ∧ Fr [27, 0] σC sC ∧ (∀ j, j ≠ 8 → sC 0 j = σC 0 j) ∧ (sC 0 8 = nI (qLP n src ke Z)) := by
      by_cases c : σC 0 8 = 0
      · rw [if_pos c]
        obtain ⟨⟨r, sC⟩, e, e1, e2⟩ := f_find2 (ke := ke) (Z := Z) gs g10 g11 f15 n16 n17 bc.2.2.2.1 n18 (fun v hv => (f7 v hv).2)
        dsimp only at e1 e2
        rw [e, ob, e1]
        have : lsK n src ke Z G (2 ^ n - 1) (2 ^ n - 1) = qLP n src ke Z := by
          have := ls_rel (n := n) (src := src) (ke := ke) (Z := Z) f15 (2 ^ n - 1) (2 ^ n - 1)
          rw [this]
          exact Nat.min_eq_right hLPG
        rw [this, mst_at]
        exact ⟨mst sC 0 8 (nI (qLP n src ke Z)), rfl, (e2.mono (by decide)).tr (Fr.mst (by decide)), fun j hj => by rw [mst_ni hj, show sC 0 = σC 0 from e2 0 (by decide)], mst_at⟩
      · rw [if_neg c]
        rcases g8 with q | q
        · exact absurd q c
        · exact ⟨σC, by rw [q], Fr.rf, fun _ _ => rfl, q⟩
    -- the model
    have hM : ∃ sM, (if 0 ≤ σM 0 21 then some (σM 0 21, mst σM 0 0 0) else Option.bind (m_X7_findLeast (mst σM 0 0 0)) (fun s4 => some (s4 0 21, s4)) : Option (Int32 × apM)) = some (nI (qLP n src ke Z), sM) ∧ Fr [18, 0] (mst σM 0 0 0) sM ∧ (∀ j, j ≠ 21 → sM 0 j = mst σM 0 0 0 0 j) ∧ sM 0 21 = nI (qLP n src ke Z) := by
      have hLb : qLP n src ke Z ≤ 480 := by omega
      rcases m21 with q | q
      · rw [q, if_neg (by decide)]
        have bm0 := bm.fr (ks := [0]) (σ' := mst σM 0 0 0) (Fr.mst (by decide)) (mst_ni (by decide)) (by decide)
        obtain ⟨sM, e, e1, e2, e3⟩ := f_findLeast7 (ke := ke) (Z := Z) gs gw f2 bm0.1 bm0.2.1 bm0.2.2.2.1 (fun v hv => by rw [mst_k (by decide)]; exact n9 v hv) (fun v hv => (f7 v hv).2)
        rw [e, ob, e3]
        exact ⟨sM, rfl, e1, e2, e3⟩
      · rw [q, if_pos (nI_pos' (by omega))]
        exact ⟨_, rfl, Fr.rf, fun _ _ => rfl, by rw [mst_ni (by decide)]; exact q⟩
    obtain ⟨sC, eC, fC, c0, c8⟩ := hC
    obtain ⟨sM, eM, fM, m0, m21⟩ := hM
    rw [eC, eM]
    have fM2 : Fr [0, 18] σM sM := (Fr.mst (by decide)).tr (fM.mono (by decide))
    have m02 : ∀ j, j ≠ 21 → j ≠ 0 → sM 0 j = σM 0 j := fun j j1 j2 => by rw [m0 j j1, mst_ni j2]
    refine qThr_v ((m0 0 (by decide)).trans mst_at) ⟨n, src, op, pn, qn, ke, gv, gs, gw, pb, bc.fr hn fC (by decide), bm.fr fM2 (m02 1 (by decide) (by decide)) (by decide), Or.inr ⟨(c0 6 (by decide)).trans a, (m02 11 (by decide) (by decide)).trans b, Z, Lb, sq, po, la, plf, G, ar, p1', p2'.fr fC (Or.inr c8) (by decide), p3'.fr fM2 (m02 20 (by decide) (by decide)) (Or.inr m21) (by decide), p4.fr fC fM2 (c0 7 (by decide)) (m02 27 (by decide) (by decide)) (by decide) (by decide) (by decide)⟩⟩
theorem q_run {σC σM : apM} (h : qIN σC σM) : qThr cdSt (m_X6_run σC) (m_X7_run σM) := by
  have hth := fun y => h.thrown (x := y)
  obtain ⟨n, src, op, pn, qn, ke, gv, gs, gw, pb, bc, bm, pl⟩ := h
  have hn := gs.1
  unfold m_X6_run
  rcases pl with ⟨a, b⟩ | ⟨a, b, Z, Lb, sq, po, la, plf, G, ar, p1, p2, p3, p4⟩
  · rw [np0 a]
    unfold m_X7_run
    rw [if_pos b]
    unfold m_X7_run_B13
    rw [mst_ni (i := 0) (i' := 11) (by decide), b, if_pos rfl]
    exact qThr_x (x := 1) mst_at (by unfold cdSt; simp) (hth 1)
  · have p1' := p1
    obtain ⟨f1, f2, f3, f4, f5, f6, f7, f8, f9, f10, f11, f12, f13, f14, f15⟩ := p1
    obtain ⟨sq0, st0, hQ0, hI0⟩ := SQ_ex gs f3
    obtain ⟨V, hV⟩ : ∃ V, IsV n src op pn Z gv V := rec_exg (fun _ => (0 : Int32)) hQ0 (IsON_TP hI0) (fun v hv f g e => WV_cg f2 v hv f g e)
    have fc : Fr [0] σC (mst σC 0 7 1) := Fr.mst (by decide)
    have bc1 := bc.fr hn fc (by decide)
    have p2' := p2.fr fc (Or.inl (mst_ni (by decide))) (by decide)
    obtain ⟨n16, n17, n18, n19, n20, n21, n22, n23, n25, g10, g11, g3, g8⟩ := p2'
    have p3' := p3
    obtain ⟨n9, n10, n11, n12, n13, n14, m20, m21⟩ := p3
    obtain ⟨⟨rC, sC⟩, eC, e1, e2, e3⟩ := f_work4 (ke := ke) (V := V) gs gw f2 bc1.1 bc1.2.1 bc1.2.2.1 pb bc1.2.2.2.2.1 f4 f5 n18 f7 n25 f12 g10 n20 f8 f9 f10 f11 hV
    obtain ⟨⟨rM, sM⟩, eM, k1, k2, k3, k4, k5, k6, k7⟩ := f_run7 (V := V) gs gw f2 bm.1 bm.2.1 bm.2.2.1 pb bm.2.2.2.2 f4 f5 n9 f7 n14 f12 b n11 f8 f9 hV
    dsimp only at e1 e2 e3 k1 k2 k3 k4 k5 k6 k7
    subst e1
    subst k1
    rw [np1 a]
    dsimp only
    rw [eC, ob, eM]
    dsimp only
    have hpo : ∀ v, v < n → po v < n := fun v hv => (f8.1 v hv).1
    have hla : ∀ v, v < n → po v ≤ la v := fun v hv => (IsLa_b hpo hv (f10 v hv)).2.1
    have s7 : sC 0 7 = 1 := by rw [e2 0 (by decide), mst_at]
    have fall : Fr [0, 26] σC sC := (fc.mono (by decide)).tr (e2.mono (by decide))
    refine qThr_v k4 ⟨n, src, op, pn, qn, ke, gv, gs, gw, pb, bc.fr hn fall (by decide), bm.fr k2 (k3 1 (by decide) (by decide)) (by decide), Or.inr ⟨by rw [e2 0 (by decide), mst_ni (by decide)]; exact a, (k3 11 (by decide) (by decide)).trans b, Z, Lb, sq, po, la, plf, G, ar, p1', p2.fr fall (Or.inl (by rw [e2 0 (by decide), mst_ni (by decide)])) (by decide), p3'.fr k2 (k3 20 (by decide) (by decide)) (Or.inl (k3 21 (by decide) (by decide))) (by decide), Or.inr ⟨s7, k5, fun c hc => by rw [e3 c hc, k6 c hc], fun v hv hke i hi => ?_⟩⟩⟩
    have hp := f12 v hv
    have := hpo v hv
    have hl := (f10 v hv).1 hke
    rw [e3 _ (by omega), k7 v hv i hi]
    exact wr_live f8 f11 hla n (Nat.le_refl _) v hv this (by omega) i hi
theorem nr0 {s : apM} (h : s 0 6 = 0 ∨ s 0 7 = 0) : m_X6_needRun s = .inl ("java/lang/IllegalStateException", s) := by
  unfold m_X6_needRun
  by_cases c : s 0 6 = 0
  · rw [np0 c]
  · have h7 : s 0 7 = 0 := by
      rcases h with h | h
      · exact absurd h c
      · exact h
    unfold m_X6_needPlan
    rw [if_neg c]
    dsimp only
    rw [if_pos h7]
theorem nr1 {s : apM} (h : s 0 6 = 1) (h7 : s 0 7 = 1) : m_X6_needRun s = .inr s := by
  unfold m_X6_needRun
  rw [np1 h]
  dsimp only
  rw [h7, if_neg (by decide)]
theorem q_cell {σC σM : apM} (h : qIN σC σM) (x : Int32) : qThr cdIx (m_X6_cell σC x) (m_X7_cell σM x) := by
  have hth := fun y => h.thrown (x := y)
  obtain ⟨n, src, op, pn, qn, ke, gv, gs, gw, pb, bc, bm, pl⟩ := h
  have b15 : qThr cdIx (some (.inl ("java/lang/IllegalStateException", σC))) (m_X7_cell_B15 σM x) := by
    unfold m_X7_cell_B15 m_X7_cell_B36
    rw [mst00, if_neg (by decide)]
    exact qThr_x (x := 1) mst_at (by unfold cdIx; simp) (hth 1)
  have b31 : qThr cdIx (some (.inl ("java/lang/IndexOutOfBoundsException", σC))) (m_X7_cell_B31 σM x) := by
    unfold m_X7_cell_B31 m_X7_cell_B36
    rw [mst00, if_neg (by decide)]
    exact qThr_x (x := 2) mst_at (by unfold cdIx; simp) (hth 2)
  unfold m_X6_cell m_X7_cell
  rcases pl with ⟨a, b⟩ | ⟨a, b, Z, Lb, sq, po, la, plf, G, ar, p1, p2, p3, p4⟩
  · rw [nr0 (Or.inl a), if_pos b]; exact b15
  · rcases p4 with ⟨r1, r2⟩ | ⟨r1, r2, r3, r4⟩
    · rw [nr0 (Or.inr r1), if_neg (by rw [b]; decide), if_pos r2]; exact b15
    · obtain ⟨-, -, ha⟩ := qPF_b p1
      obtain ⟨-, -, -, -, -, -, -, -, -, -, -, g3, -⟩ := p2
      obtain ⟨-, -, -, -, -, -, m20, -⟩ := p3
      rw [nr1 a r1, if_neg (by rw [b]; decide), if_neg (by rw [r2]; decide)]
      dsimp only
      rw [g3, m20]
      rcases w_in x (show ar < 2 ^ 31 by omega) with ⟨e, z⟩ | ⟨k, hk, rfl⟩
      · rw [nw0 e]
        dsimp only
        rcases z with z | ⟨z1, z2⟩
        · rw [if_pos z]; exact b31
        · rw [if_neg z1, if_neg z2]; exact b31
      · rw [nw1 hk (by omega), if_neg (nI_pos (by omega)), if_pos (nI_lt hk (by omega))]
        dsimp only
        unfold m_X7_cell_B36
        rw [mst00, if_pos rfl, ald_nI (σ := σC) (k := 26) (by omega) (by decide), ob, ald_nI (by omega) (by decide), ob, mst_k (k := 0) (k' := 19) (by decide), r3 k (by omega)]
        exact qThr_v mst_at (hth 0)
theorem q_result {σC σM : apM} (h : qIN σC σM) (x y : Int32) : qThr cdRs (m_X6_result σC x y) (m_X7_result σM x y) := by
  have hth := fun y => h.thrown (x := y)
  obtain ⟨n, src, op, pn, qn, ke, gv, gs, gw, pb, bc, bm, pl⟩ := h
  have hn := gs.1
  have b15 : qThr cdRs (some (.inl ("java/lang/IllegalStateException", σC))) (m_X7_result_B15 σM x y) := by
    unfold m_X7_result_B15 m_X7_result_B59
    rw [mst00, if_neg (by decide)]
    exact qThr_x (x := 1) mst_at (by unfold cdRs; simp) (hth 1)
  have b36 : qThr cdRs (m_X6_result_B27 σC) (m_X7_result_B36 σM x y) := by
    unfold m_X6_result_B27 m_X7_result_B36 m_X7_result_B59
    rw [mst00, if_neg (by decide)]
    exact qThr_x (x := 2) mst_at (by unfold cdRs; simp) (hth 2)
  have b54 : qThr cdRs (some (.inl ("java/lang/IndexOutOfBoundsException", σC))) (m_X7_result_B54 σM x y) := by
    unfold m_X7_result_B54 m_X7_result_B59
    rw [mst00, if_neg (by decide)]
    exact qThr_x (x := 3) mst_at (by unfold cdRs; simp) (hth 3)
  unfold m_X6_result m_X7_result
  rcases pl with ⟨a, b⟩ | ⟨a, b, Z, Lb, sq, po, la, plf, G, ar, p1, p2, p3, p4⟩
  · rw [nr0 (Or.inl a), if_pos b]; exact b15
  · rcases p4 with ⟨r1, r2⟩ | ⟨r1, r2, r3, r4⟩
    · rw [nr0 (Or.inr r1), if_neg (by rw [b]; decide), if_pos r2]; exact b15
    · obtain ⟨f1, f2, f3, f4, f5, f6, f7, f8, f9, f10, f11, f12, f13, f14, f15⟩ := p1
      obtain ⟨-, -, n18, -, -, -, -, -, n25, -⟩ := p2
      obtain ⟨n9, -⟩ := p3
      rw [nr1 a r1, if_neg (by rw [b]; decide), if_neg (by rw [r2]; decide)]
      dsimp only
      rw [f_has hn bc.1.1, f_isNode hn bm.1.1]
      by_cases c : ∃ k, k < n ∧ x = nI k
      · rw [decide_eq_true c, if_neg (show ¬ bI true = 0 by decide), if_neg (show ¬ bI true = 0 by decide)]
        obtain ⟨v, hv, rfl⟩ := c
        have hzv := f7 v hv
        have hpv := f12 v hv
        rw [ald_nI (σ := σC) (k := 12) (by omega) (by decide), ob, ald_nI (σ := σM) (k := 5) (by omega) (by decide), ob, bc.2.2.2.1 v hv, bm.2.2.2.1 v hv]
        cases z : ke v with
        | false =>
          rw [if_pos (show bI false = 0 from rfl), if_pos (show bI false = 0 from rfl)]
          exact b36
        | true =>
          rw [if_neg (show ¬ bI true = 0 by decide), if_neg (show ¬ bI true = 0 by decide), ald_nu n18 hv hn, ob]
          rcases w_in y (show Z v < 2 ^ 31 by omega) with ⟨e, w⟩ | ⟨k, hk, rfl⟩
          · rw [nw0 e]
            dsimp only
            rcases w with w | ⟨w1, w2⟩
            · rw [if_pos w]; exact b54
            · rw [if_neg w1, ald_nu n9 hv hn, ob, if_neg w2]; exact b54
          · rw [nw1 hk (by omega), if_neg (nI_pos (by omega)), ald_nu n9 hv hn, ob, if_pos (nI_lt hk (by omega))]
            dsimp only
            unfold m_X7_result_B59
            rw [mst00, if_pos rfl, ald_nu n25 hv hn, ob, nI_add, ald_nI (σ := σC) (k := 26) (by omega) (by decide), ob, l40, nI_add, ald_nI (by omega) (by decide), ob, mst_k (k := 0) (k' := 20) (by decide), r4 v hv z k hk]
            exact qThr_v mst_at (hth 0)
      · rw [decide_eq_false c, if_pos (show bI false = 0 from rfl), if_pos (show bI false = 0 from rfl)]
        exact b36
