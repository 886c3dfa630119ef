theorem ald_nu {σ : apM} {k n v : Nat} {f : Nat → Nat} (h : Nu σ k n f) (hv : v < n) (hn : n ≤ 12) : ald σ k 12 (nI v) = some (nI (f v)) := by
  rw [ald_nI (by omega) (by decide), h v hv]
theorem qNo_e {r : Int32} {sC sM : apM} {c m : Option (Int32 × apM)} (hc : c = some (r, sC)) (hm : m = some (r, sM)) (h : qIN sC sM) : qNo c m := by
  rw [hc, hm]; exact qNo_v h
theorem q_give {σC σM : apM} (h : qIN σC σM) (x i y : Int32) : qNo (m_X6_give σC x i y) (m_X7_give σM x i y) := by
  have hth := h.thrown (x := 0)
  obtain ⟨n, src, op, pn, qn, ke, gv, gs, gw, pb, bc, bm, pl⟩ := h
  have hn := gs.1
  obtain ⟨c1, c2, c3, c4, c5, c6, c7⟩ := bc
  have hM0 : qBM (mst σM 0 0 0) n src op pn qn ke gv := bm.fr (ks := [0]) (Fr.mst (by decide)) (mst_ni (by decide)) (by decide)
  obtain ⟨m1, m2, m3, m4, m5⟩ := hM0
  have hpl0 : qPL σC (mst σM 0 0 0) n src op pn qn ke := pl.fr (Fr.rf (ks := [])) (Fr.mst (ks := [0]) (by decide)) (fun _ _ => rfl) (fun j hj => mst_ni (by omega)) (by decide) (by decide)
  unfold m_X6_give m_X7_give
  generalize hs : mst σM 0 0 0 = s at hth m1 m2 m3 m4 m5 hpl0 ⊢
  rw [f_has hn c1.1, f_isNode hn m1.1]
  by_cases c : ∃ k, k < n ∧ x = nI k
  · rw [decide_eq_true c, if_neg (show ¬ bI true = 0 by decide), if_neg (show ¬ bI true = 0 by decide)]
    obtain ⟨v, hv, rfl⟩ := c
    have h7 := (gw v hv).1
    rw [ald_nu c2 hv hn, ob, ald_nu m2 hv hn, ob]
    by_cases c0 : op v = 0
    · rw [if_pos (by rw [c0]; rfl), if_pos (by rw [c0]; rfl), ald_nI (σ := σC) (k := 8) (by omega) (by decide), ob, ald_nI (σ := s) (k := 2) (by omega) (by decide), ob, (c3 v hv).1 (Or.inl c0), (m3 v hv).1 (Or.inl c0)]
      have hp := (pb v hv).1 (Or.inl c0)
      rcases w_sign i with z | rfl | ⟨j, hj, rfl⟩
      · have hz := w_m1 z
        have : m_X6_isWithin i (nI (pn v)) = 0 := by unfold m_X6_isWithin; rw [if_pos hz]
        rw [this, if_pos rfl, if_pos hz]
        exact qNo_v hth
      · have : m_X6_isWithin (-1) (nI (pn v)) = 0 := by unfold m_X6_isWithin; rw [if_pos m1_neg]
        rw [this, if_pos rfl, if_pos m1_neg]
        exact qNo_v hth
      · rw [f_isWithin_nI hj (by omega), if_neg (nI_pos hj)]
        by_cases cj : j < pn v
        · rw [decide_eq_true cj, if_neg (show ¬ bI true = 0 by decide), if_pos (nI_lt cj (by omega)), rix_nI (by omega) (by decide), ob, ast_nI (by omega) (by decide), ob, l16, nI_add, ast_nI (by omega) (by decide), ob]
          refine qNo_v ⟨n, src, op, pn, qn, ke, fun w k => if w = v ∧ k = j then y else gv w k, gs, gw, pb, ⟨⟨by rw [mst_k (by omega)]; exact c1.1, fun w hw => by rw [mst_k (by omega)]; exact c1.2 w hw⟩, fun w hw => by rw [mst_k (by omega)]; exact c2 w hw, fun w hw => by rw [mst_k (by omega), mst_k (by omega)]; exact c3 w hw, fun w hw => by rw [mst_k (by omega)]; exact c4 w hw, fun w hw k hk => ?_, fun w w1 w2 => by rw [mst_k (by omega)]; exact c6 w w1 w2, fun w w1 w2 k hk => by rw [mst_k (by omega)]; exact c7 w w1 w2 k hk⟩, ⟨⟨by rw [mst_k (by decide)]; exact m1.1, fun w hw => by rw [mst_k (by decide)]; exact m1.2 w hw⟩, fun w hw => by rw [mst_k (by decide)]; exact m2 w hw, fun w hw => by rw [mst_k (by decide), mst_k (by decide)]; exact m3 w hw, fun w hw => by rw [mst_k (by decide)]; exact m4 w hw, fun w hw k hk => ?_⟩, hpl0.fr (Fr.mst (ks := [29 + v]) (by simp)) (Fr.mst (ks := [6]) (by decide)) (fun j2 hj2 => by rw [mst_k (by omega)]) (fun j2 hj2 => by rw [mst_k (by decide)]) (fun k hk => by simp at hk; omega) (by decide)⟩
          · rw [mst_ap]
            dsimp only
            by_cases z : w = v ∧ k = j
            · rw [if_pos z, if_pos (by omega)]
            · rw [if_neg z, if_neg (by omega)]; exact c5 w hw k hk
          · rw [mst_ap]
            dsimp only
            by_cases z : w = v ∧ k = j
            · rw [if_pos z, if_pos (by rw [z.1, z.2]; exact ⟨rfl, rfl⟩)]
            · rw [if_neg z, if_neg (by omega)]; exact m5 w hw k hk
        · rw [decide_eq_false cj, if_pos (show bI false = 0 from rfl), if_neg (nI_nlt (by omega) hj)]
          exact qNo_v hth
    · rw [if_neg (show ¬ nI (op v) = (0 : Int32) from fun z => c0 ((nI_eq (b := 0) (by omega) (by decide)).mp z)), if_neg (show ¬ nI (op v) = (0 : Int32) from fun z => c0 ((nI_eq (b := 0) (by omega) (by decide)).mp z))]
      exact qNo_v hth
  · rw [decide_eq_false c, if_pos (show bI false = 0 from rfl), if_pos (show bI false = 0 from rfl)]
    exact qNo_v hth
theorem f_wset {n v i : Nat} {src : Nat → Nat → Option Nat} {op : Nat → Nat} {t : Option Nat} (gs : GS n src) (gw : GW n src op) (hi : i < ar (op v)) (ht : ∀ u, t = some u → u < n) : GS n (fun w j => if w = v ∧ j = i then t else src w j) ∧ GW n (fun w j => if w = v ∧ j = i then t else src w j) op := by
  refine ⟨⟨gs.1, fun w j u e => ?_⟩, fun w hw => ⟨(gw w hw).1, fun j hj => ?_⟩⟩
  · by_cases z : w = v ∧ j = i
    · simp only [z, and_self, if_true] at e; exact ht u e
    · simp only [z, if_false] at e; exact gs.2 _ _ _ e
  · show (if w = v ∧ j = i then t else src w j) = none
    rw [if_neg (fun z => by rw [z.1, z.2] at hj; omega)]
    exact (gw w hw).2 j hj
theorem q_wire {σC σM : apM} (h : qIN σC σM) (x i y : Int32) : qNo (m_X6_wire σC x i y) (m_X7_wire σM x i y) := by
  have hth := h.thrown (x := 0)
  obtain ⟨n, src, op, pn, qn, ke, gv, gs, gw, pb, bc, bm, pl⟩ := h
  have hn := gs.1
  obtain ⟨c1, c2, c3, c4, c5, c6, c7⟩ := bc
  have hM0 : qBM (mst σM 0 0 0) n src op pn qn ke gv := bm.fr (ks := [0]) (Fr.mst (by decide)) (mst_ni (by decide)) (by decide)
  obtain ⟨m1, m2, m3, m4, m5⟩ := hM0
  unfold m_X6_wire m_X7_wire
  generalize hs : mst σM 0 0 0 = s at hth m1 m2 m3 m4 m5 ⊢
  rw [f_has hn c1.1, f_isNode hn m1.1]
  by_cases c : ∃ k, k < n ∧ x = nI k
  · rw [decide_eq_true c, if_neg (show ¬ bI true = 0 by decide), if_neg (show ¬ bI true = 0 by decide)]
    obtain ⟨v, hv, rfl⟩ := c
    have h7 := (gw v hv).1
    have ha := ar_le (op v)
    rw [f_inputs1 hn c2 hv h7, ob]
    rcases w_sign i with z | rfl | ⟨j, hj, rfl⟩
    · have hz := w_m1 z
      have : m_X6_isWithin i (nI (ar (op v))) = 0 := by unfold m_X6_isWithin; rw [if_pos hz]
      rw [this, if_pos rfl, if_pos hz]
      exact qNo_v hth
    · have : m_X6_isWithin (-1) (nI (ar (op v))) = 0 := by unfold m_X6_isWithin; rw [if_pos m1_neg]
      rw [this, if_pos rfl, if_pos m1_neg]
      exact qNo_v hth
    · rw [f_isWithin_nI hj (by omega), if_neg (nI_pos hj), ald_nI (by omega) (by decide), ob, m2 v hv, f_inputs7 h7]
      by_cases cj : j < ar (op v)
      · rw [decide_eq_true cj, if_neg (show ¬ bI true = 0 by decide), if_neg (nI_ge cj (by omega))]
        have fin : ∀ t : Option Nat, (∀ u, t = some u → u < n) → qNo (m_X6_wire_B46 σC (nI v) (nI j) (eo t)) (Option.bind (ast s 4 24 (2 * nI v + nI j) (eo t)) (fun s8 => some (1, mst s8 0 11 0))) := by
          intro t ht
          obtain ⟨g1, g2⟩ := f_wset (v := v) (i := j) (t := t) gs gw cj ht
          unfold m_X6_wire_B46 m_X6_forgetPlan
          rw [rix_nI (by omega) (by decide), ob, ast_nI (by omega) (by decide), ob, l2, nI_add, ast_nI (by omega) (by decide), ob]
          refine qNo_v ⟨n, _, op, pn, qn, ke, gv, g1, g2, pb, ⟨⟨by rw [mst_k (by decide), mst_k (by omega)]; exact c1.1, fun w hw => ?_⟩, fun w hw => by rw [mst_k (by decide), mst_k (by omega)]; exact c2 w hw, fun w hw => by rw [mst_k (by decide), mst_k (by omega), mst_k (by decide), mst_k (by omega)]; exact c3 w hw, fun w hw => by rw [mst_k (by decide), mst_k (by omega)]; exact c4 w hw, fun w hw k hk => by rw [mst_k (by omega), mst_k (by omega)]; exact c5 w hw k hk, fun w w1 w2 => by rw [mst_k (by decide), mst_k (by omega)]; exact c6 w w1 w2, fun w w1 w2 k hk => by rw [mst_k (by omega), mst_k (by omega)]; exact c7 w w1 w2 k hk⟩, ⟨⟨by rw [mst_ni (by decide), mst_k (by decide)]; exact m1.1, fun w hw => ?_⟩, fun w hw => by rw [mst_k (by decide), mst_k (by decide)]; exact m2 w hw, fun w hw => by rw [mst_k (by decide), mst_k (by decide), mst_k (by decide), mst_k (by decide)]; exact m3 w hw, fun w hw => by rw [mst_k (by decide), mst_k (by decide)]; exact m4 w hw, fun w hw k hk => by rw [mst_k (by decide), mst_k (by decide)]; exact m5 w hw k hk⟩, Or.inl ⟨mst_at, mst_at⟩⟩
          · rw [mst_k (by omega), mst_ap, mst_ap]
            have := c1.2 w hw
            by_cases z : w = v
            · subst z
              by_cases z0 : j = 0
              · subst z0; simp [this]
              · have : j = 1 := by omega
                subst this
                simp [this, c1.2 w hw]
            · simp [z, show ¬ 41 + w = 41 + v by omega, this]
          · rw [mst_k (by decide), mst_ap, mst_ap]
            have := m1.2 w hw
            by_cases z : w = v
            · subst z
              by_cases z0 : j = 0
              · subst z0; simp [this]
              · have : j = 1 := by omega
                subst this
                simp [m1.2 w hw]
            · simp [z, show ¬ 2 * w = 2 * v + j by omega, show ¬ 2 * w + 1 = 2 * v + j by omega, this]
        have g01 : s 0 1 = nI n := m1.1
        rw [g01]
        rcases w_sign y with z | rfl | ⟨u, hu, rfl⟩
        · have hz := w_m1 z
          have hne : ¬ y = -1 := fun e => by rw [e] at z; exact absurd z (by decide)
          have : m_X1_has σC y = 0 := by
            rw [f_has hn c1.1, decide_eq_false]
            · rfl
            · rintro ⟨k, hk, rfl⟩; exact nI_pos (by omega) hz
          rw [if_neg hne, this, if_pos rfl, if_pos z]
          exact qNo_v hth
        · rw [if_pos rfl, if_neg (show ¬ (-1 : Int32) < -1 by decide), if_pos (m1_lt (by omega))]
          exact fin none (fun u e => by cases e)
        · rw [if_neg (m1_ne hu), f_has hn c1.1, if_neg (show ¬ nI u < -1 from fun z => nI_pos hu (w_m1 z))]
          by_cases cu : u < n
          · rw [decide_eq_true ⟨u, cu, rfl⟩, if_neg (show ¬ bI true = 0 by decide), if_pos (nI_lt cu (by omega))]
            exact fin (some u) (fun w e => by cases e; exact cu)
          · rw [decide_eq_false (fun ⟨k, hk, e⟩ => cu (by have := (nI_eq hu (by omega)).mp e; omega)), if_pos (show bI false = 0 from rfl), if_neg (nI_nlt (by omega) hu)]
            exact qNo_v hth
      · rw [decide_eq_false cj, if_pos (show bI false = 0 from rfl), if_pos (nI_le (by omega) hj)]
        exact qNo_v hth
  · rw [decide_eq_false c, if_pos (show bI false = 0 from rfl), if_pos (show bI false = 0 from rfl)]
    exact qNo_v hth
theorem q_keep {σC σM : apM} (h : qIN σC σM) (x : Int32) (b : Bool) : qNo (m_X6_keep σC x (bI b)) (m_X7_keep σM x (bI b)) := by
  have hth := h.thrown (x := 0)
  obtain ⟨n, src, op, pn, qn, ke, gv, gs, gw, pb, bc, bm, pl⟩ := h
  have hn := gs.1
  obtain ⟨c1, c2, c3, c4, c5, c6, c7⟩ := bc
  have hM0 : qBM (mst σM 0 0 0) n src op pn qn ke gv := bm.fr (ks := [0]) (Fr.mst (by decide)) (mst_ni (by decide)) (by decide)
  obtain ⟨m1, m2, m3, m4, m5⟩ := hM0
  unfold m_X6_keep m_X7_keep
  generalize hs : mst σM 0 0 0 = s at hth m1 m2 m3 m4 m5 ⊢
  rw [f_has hn c1.1, f_isNode hn m1.1]
  by_cases c : ∃ k, k < n ∧ x = nI k
  · rw [decide_eq_true c, if_neg (show ¬ bI true = 0 by decide), if_neg (show ¬ bI true = 0 by decide)]
    obtain ⟨v, hv, rfl⟩ := c
    rw [ald_nI (by omega) (by decide), ob, ald_nI (by omega) (by decide), ob, c4 v hv, m4 v hv]
    by_cases cb : ke v = b
    · rw [if_pos (by rw [cb]), if_pos (by rw [cb])]
      exact qNo_v hth
    · have hne : ¬ bI (ke v) = bI b := fun z => cb (by cases hk : ke v <;> cases b <;> rw [hk] at z <;> first | rfl | exact absurd z (by decide))
      rw [if_neg hne, if_neg hne, bI_nar, ast_nI (by omega) (by decide), ob, ast_nI (by omega) (by decide), ob]
      unfold m_X6_forgetPlan
      refine qNo_v ⟨n, src, op, pn, qn, upN ke v b, gv, gs, gw, pb, ⟨⟨by rw [mst_k (by decide), mst_k (by decide)]; exact c1.1, fun w hw => by rw [mst_k (by omega), mst_k (by omega)]; exact c1.2 w hw⟩, fun w hw => by rw [mst_k (by decide), mst_k (by decide)]; exact c2 w hw, fun w hw => by rw [mst_k (by decide), mst_k (by decide), mst_k (by decide), mst_k (by decide)]; exact c3 w hw, fun w hw => ?_, fun w hw k hk => by rw [mst_k (by omega), mst_k (by omega)]; exact c5 w hw k hk, fun w w1 w2 => by rw [mst_k (by decide), mst_ni (by omega)]; exact c6 w w1 w2, fun w w1 w2 k hk => by rw [mst_k (by omega), mst_k (by omega)]; exact c7 w w1 w2 k hk⟩, ⟨⟨by rw [mst_ni (by decide), mst_k (by decide)]; exact m1.1, fun w hw => by rw [mst_k (by decide), mst_k (by decide)]; exact m1.2 w hw⟩, fun w hw => by rw [mst_k (by decide), mst_k (by decide)]; exact m2 w hw, fun w hw => by rw [mst_k (by decide), mst_k (by decide), mst_k (by decide), mst_k (by decide)]; exact m3 w hw, fun w hw => ?_, fun w hw k hk => by rw [mst_k (by decide), mst_k (by decide)]; exact m5 w hw k hk⟩, Or.inl ⟨mst_at, mst_at⟩⟩
      · rw [mst_k (by decide), mst_ap]
        unfold upN
        by_cases z : w = v
        · rw [if_pos ⟨rfl, z⟩, if_pos z]
        · rw [if_neg (fun q => z q.2), if_neg z]; exact c4 w hw
      · rw [mst_k (by decide), mst_ap]
        unfold upN
        by_cases z : w = v
        · rw [if_pos ⟨rfl, z⟩, if_pos z]
        · rw [if_neg (fun q => z q.2), if_neg z]; exact m4 w hw
  · rw [decide_eq_false c, if_pos (show bI false = 0 from rfl), if_pos (show bI false = 0 from rfl)]
    exact qNo_v hth
theorem q_nodes {σC σM : apM} (h : qIN σC σM) : m_X6_nodes σC = (m_X7_nodes σM).1 ∧ qIN σC (m_X7_nodes σM).2 := by
  refine ⟨?_, h.thrown (x := 0)⟩
  obtain ⟨n, src, op, pn, qn, ke, gv, gs, gw, pb, bc, bm, pl⟩ := h
  show σC 1 6 = mst σM 0 0 0 0 1
  rw [bc.1.1, mst_ni (by decide)]
  exact bm.1.1.symm
theorem q_ring {σC σM : apM} (h : qIN σC σM) (x : Int32) : qThr [("java/util/NoSuchElementException", 1)] (m_X6_ring σC x) (m_X7_ring σM x) := by
  have hth := h.thrown (x := 0)
  clear h
  unfold m_X6_ring m_X7_ring
  have h00 : mst σM 0 0 0 0 0 = 0 := mst_at
  generalize mst σM 0 0 0 = s at hth h00 ⊢
  obtain ⟨n, src, op, pn, qn, ke, gv, gs, gw, pb, bc, bm, pl⟩ := hth
  have hn := gs.1
  obtain ⟨sC, eC, fC, l, rs, r1, r2, r3, r4, r5⟩ := f_find gs bc.1
  obtain ⟨sM, eM, fM, m0, l2, rs2, q1, q2, q3, q4, q5⟩ := f_findRing7 gs bm.1
  obtain ⟨rfl, he⟩ := IsRing_uniq gs r1 q1
  have hin : qIN sC sM := ⟨n, src, op, pn, qn, ke, gv, gs, gw, pb, bc.fr hn fC (by decide), bm.fr fM (m0 1 (by decide)) (by decide), pl.fr fC fM (fun j hj => by rw [fC 0 (by decide)]) (fun j hj => m0 j (by omega)) (by decide) (by decide)⟩
  have z00 : sM 0 0 = 0 := (m0 0 (by decide)).trans h00
  rw [eC, ob, eM, ob, r4, q4]
  rcases w_sign x with z | rfl | ⟨j, hj, rfl⟩
  · have hz := w_m1 z
    have : m_X6_isWithin x (nI l) = 0 := by unfold m_X6_isWithin; rw [if_pos hz]
    rw [this, if_pos rfl, if_pos hz]
    exact qThr_x (x := 1) (sM := mst sM 0 0 1) mst_at (by simp) hin.thrown
  · have : m_X6_isWithin (-1) (nI l) = 0 := by unfold m_X6_isWithin; rw [if_pos m1_neg]
    rw [this, if_pos rfl, if_pos m1_neg]
    exact qThr_x (x := 1) (sM := mst sM 0 0 1) mst_at (by simp) hin.thrown
  · rw [f_isWithin_nI hj (by omega), if_neg (nI_pos hj)]
    by_cases cj : j < l
    · rw [decide_eq_true cj, if_neg (show ¬ bI true = 0 by decide), if_pos (nI_lt cj (by omega)), ald_nI (by omega) (by decide), ob, ald_nI (by omega) (by decide), ob, r5 j cj, q5 j cj, he j cj]
      exact qThr_v z00 hin
    · rw [decide_eq_false cj, if_pos (show bI false = 0 from rfl), if_neg (nI_nlt (by omega) hj)]
      exact qThr_x (x := 1) (sM := mst sM 0 0 1) mst_at (by simp) hin.thrown
