theorem IsZ_uniq {n : Nat} {src : Nat → Nat → Option Nat} {op pn qn Z1 Z2 : Nat → Nat} {sq : Nat → Nat} {st : Nat → Option Nat} (hQ : SQ n n sq st) (hT : TP n src sq) (h1 : IsZ n src op pn qn Z1) (h2 : IsZ n src op pn qn Z2) : ∀ v, v < n → Z1 v = Z2 v := by
  have key : ∀ i, i < n → Z1 (sq i) = Z2 (sq i) := by
    intro i
    induction i using Nat.strongRecOn with
    | _ i ih =>
      intro hi
      have hs := hQ.2.2 i hi
      rw [h1 _ hs, h2 _ hs]
      exact ZF_cg _ _ _ (fun u hu => by
        obtain ⟨j, hj, rfl⟩ := hT i hi u hu
        exact ih j hj (by omega))
  intro v hv
  obtain ⟨i, hi, -, rfl⟩ := SQ_all hQ hv
  exact key i hi
theorem AFT_cg {n : Nat} {src : Nat → Nat → Option Nat} {op pn qn Z1 Z2 : Nat → Nat} (h : GS n src) (e : ∀ v, v < n → Z1 v = Z2 v) (h1 : AFT n src op pn qn Z1) : AFT n src op pn qn Z2 := by
  intro v hv
  have := h1 v hv
  unfold FT at this ⊢
  have c : ∀ i, sv Z1 (src v i) = sv Z2 (src v i) := fun i => by
    cases z : src v i with
    | none => rfl
    | some u => exact e u (h.2 _ _ _ z)
  rw [c 0, c 1] at this
  exact this
theorem Z_ball {n : Nat} {src : Nat → Nat → Option Nat} {op pn qn Z sq : Nat → Nat} {st : Nat → Option Nat} (hw : GW n src op) (hW : Wd n src op) (hB : PB n op pn qn) (hQ : SQ n n sq st) (hT : TP n src sq) (hZ : IsZ n src op pn qn Z) (hF : AFT n src op pn qn Z) : ∀ v, v < n → 1 ≤ Z v ∧ Z v ≤ 40 := by
  have key : ∀ i, i < n → 1 ≤ Z (sq i) ∧ Z (sq i) ≤ 40 := by
    intro i
    induction i using Nat.strongRecOn with
    | _ i ih =>
      intro hi
      have hs := hQ.2.2 i hi
      exact Z_b1 hw hW hB hZ hs (hF _ hs) (fun u hu => by
        obtain ⟨j, hj, rfl⟩ := hT i hi u hu
        exact ih j hj (by omega))
  intro v hv
  obtain ⟨i, hi, -, rfl⟩ := SQ_all hQ hv
  exact key i hi
def cdPlan : List (String × Int32) := [("java/lang/IllegalArgumentException", 1), ("java/util/NoSuchElementException", 2), ("java/lang/IllegalStateException", 3), ("java/lang/ArithmeticException", 4)]
theorem q_planB {σC s : apM} (h : qIN σC s) (h00 : s 0 0 = 0) (w : Int32) : qThr cdPlan (m_X6_plan_B19 σC w) (m_X7_plan_B20 s w) := by
  have hin := h
  obtain ⟨n, src, op, pn, qn, ke, gv, gs, gw, pb, bc, bm, pl⟩ := h
  have hn := gs.1
  have nn : n < 2 ^ 31 := by omega
  have fail2 : ∀ sC : apM, qIN sC s → qThr cdPlan (m_X6_plan_B39 sC) (some ((m_X7_fail s 2).1, (m_X7_fail s 2).2)) := fun sC q => qThr_x (x := 2) (sM := mst s 0 0 2) mst_at (by unfold cdPlan; simp) q.thrown
  unfold m_X6_plan_B19 m_X7_plan_B20
  obtain ⟨r7, e7, h7⟩ := f_isWired7 gs gw bm.1 bm.2.1
  rw [e7, ob, bc.1.1]
  by_cases c0 : n = 0
  · rw [if_pos (by rw [c0]; rfl)]
    rcases h7 with ⟨_, z, _⟩ | ⟨rfl, _⟩
    · omega
    · rw [if_pos rfl]; exact fail2 _ hin
  rw [if_neg (show ¬ nI n = (0 : Int32) from fun q => c0 ((nI_eq (b := 0) (by omega) (by decide)).mp q))]
  obtain ⟨r1, e1, h1⟩ := f_isWired1 gs gw bc.1 bc.2.1
  rw [e1, ob]
  by_cases hW : Wd n src op
  case neg =>
    rcases h7 with ⟨_, _, z⟩ | ⟨rfl, _⟩
    · exact absurd z hW
    · rcases h1 with ⟨_, z⟩ | ⟨rfl, _⟩
      · exact absurd z hW
      · rw [if_pos rfl, if_pos rfl]; exact fail2 _ hin
  have h7 : r7 = 1 := by
    rcases h7 with ⟨z, _⟩ | ⟨_, z⟩
    · exact z
    · exact absurd ⟨by omega, hW⟩ z
  have h1 : r1 = 1 := by
    rcases h1 with ⟨z, _⟩ | ⟨_, z⟩
    · exact z
    · exact absurd hW z
  subst h7
  subst h1
  rw [if_neg (by decide), if_neg (by decide)]
  obtain ⟨sC, eC, fC, l, rs, r1, r2, r3, r4, r5⟩ := f_find gs bc.1
  obtain ⟨sM, eM, fM, m0, l2, rs2, q1, q2, q3, q4, q5⟩ := f_findRing7 gs bm.1
  obtain ⟨rfl, -⟩ := IsRing_uniq gs r1 q1
  have bc1 := bc.fr hn fC (by decide)
  have bm1 := bm.fr fM (m0 1 (by decide)) (by decide)
  have pl1 : qPL sC sM n src op pn qn ke := pl.fr fC fM (fun j hj => by rw [fC 0 (by decide)]) (fun j hj => m0 j (by omega)) (by decide) (by decide)
  have hin1 : qIN sC sM := ⟨n, src, op, pn, qn, ke, gv, gs, gw, pb, bc1, bm1, pl1⟩
  have z00 : sM 0 0 = 0 := (m0 0 (by decide)).trans h00
  rw [eC, ob, eM, ob, r4, q4]
  by_cases cl : l = 0
  case neg =>
    have : ¬ nI l ≤ (0 : Int32) := fun q => cl (by have := (nI_leI (b := 0) (by omega) (by decide)).mp q; omega)
    rw [if_neg this, if_neg this]
    exact qThr_x (x := 3) (sM := mst sM 0 0 3) mst_at (by unfold cdPlan; simp) hin1.thrown
  subst cl
  rw [if_pos (show nI 0 ≤ (0 : Int32) by decide), if_pos (show nI 0 ≤ (0 : Int32) by decide)]
  have hA : ∀ v, v < n → Tr src n v v = false := by
    rcases r1 with ⟨_, z⟩ | ⟨v, dd, _, _, _, _, z⟩
    · exact z
    · exact absurd z.1 (Nat.lt_irrefl _)
  obtain ⟨sq0, st0, hQ0, hI0⟩ := SQ_ex gs hA
  have hT0 := IsON_TP hI0
  obtain ⟨Z, hZ⟩ : ∃ Z, IsZ n src op pn qn Z := rec_ex hQ0 hT0 (fun v f g e => ZF_cg v f g e)
  obtain ⟨Lb, hL⟩ : ∃ Lb, IsL n src op Lb := rec_ex hQ0 hT0 (fun v f g e => LF_cg v f g e)
  have hLb : ∀ v, v < n → Lb v < 1000 := fun v hv => by
    obtain ⟨i, hi, -, rfl⟩ := SQ_all hQ0 hv
    have := Lb_b (fun i hi => hQ0.2.2 i hi) hT0 hL i hi
    omega
  obtain ⟨x, ex, fx, hx⟩ := f_measure4 (Z := Z) (Lb := Lb) gs gw hW hA bc1.1 bc1.2.1 bc1.2.2.1 pb hZ hL
  obtain ⟨y, ey, fy, hy⟩ := f_findSizes7 (Z := Z) gs gw hW hA bm1.1 bm1.2.1 bm1.2.2.1 pb hZ
  rw [ex, ob, ey, ob]
  have bc2 := bc1.fr hn fx (by decide)
  have bm2 := bm1.fr fy (by rw [fy 0 (by decide)]) (by decide)
  have y00 : y.2 0 0 = 0 := by rw [fy 0 (by decide)]; exact z00
  by_cases hF : AFT n src op pn qn Z
  case neg =>
    have hx0 : x.1 = 0 := by
      rcases hx with ⟨_, z, _⟩ | ⟨z, _⟩
      · exact absurd z hF
      · exact z
    have hy0 : y.1 = 0 := by
      rcases hy with ⟨_, z, _⟩ | ⟨z, _⟩
      · exact absurd z hF
      · exact z
    rw [hx0, hy0, if_pos rfl, if_pos rfl]
    have hin2 : qIN x.2 y.2 := by
      refine ⟨n, src, op, pn, qn, ke, gv, gs, gw, pb, bc2, bm2, ?_⟩
      rcases pl1 with ⟨a, b⟩ | ⟨a, b, Z', Lb', sq, po, la, plc', G, ar', p1, -⟩
      · exact Or.inl ⟨by rw [fx 0 (by decide)]; exact a, by rw [fy 0 (by decide)]; exact b⟩
      · obtain ⟨w1, w2, w3, w4, w5, -⟩ := p1
        exact absurd (AFT_cg gs (IsZ_uniq hQ0 hT0 w4 hZ) w5) hF
    exact qThr_x (x := 4) (sM := mst y.2 0 0 4) mst_at (by unfold cdPlan; simp) hin2.thrown
  have hZb := Z_ball gw hW pb hQ0 hT0 hZ hF
  rcases hx with ⟨hx1, -, x16, x17, x18, x19⟩ | ⟨_, z⟩
  case inr => exact absurd hF z
  rcases hy with ⟨hy1, -, y15⟩ | ⟨_, z⟩
  case inr => exact absurd hF z
  rw [hx1, hy1, if_neg (by decide), if_neg (by decide)]
  obtain ⟨t, et, ft, sq, po, la, G, t1, t2, t3, t4, t5, t6, t7, t8, t9, t10, t11, t12⟩ := f_arrange (ke := ke) (Z := Z) (Lb := Lb) w gs hA bc2.1 x16 x17 bc2.2.2.2.1 x18 hZb x19 hLb
  rw [et, ob]
  have hpo : ∀ v, v < n → po v < n := fun v hv => (t3.1 v hv).1
  have hlan : ∀ v, v < n → la v < n := fun v hv => (IsLa_b hpo hv (t4 v hv)).1
  obtain ⟨u, eu, fu, u4, plf, a, u1, u2, u3, u5, u6⟩ := f_assign (σ := t) (Z := Z) (la := la) hn t9 t3 t5 (x18.fr ft (by decide)) t6 t7 hlan hZb
  rw [eu, ob]
  obtain ⟨z, ez, z1, z2, z3, z4, z5, z6, z7, z8, z9, z10, z11, z12, z13⟩ := f_planEnd7 (σ := y.2) (ke := ke) (sq := sq) (po := po) (la := la) (pl := plf) (a := a) w gs gw hW hA bm2.1 bm2.2.1 bm2.2.2.2.1 y15 hL hLb t3 t2 hZb t4 u3 u5 u6 _ rfl
  have f3 : Fr [0] u (mst (mst (mst u 0 6 1) 0 7 0) 0 8 0) := ((Fr.mst (by decide)).tr (Fr.mst (by decide))).tr (Fr.mst (by decide))
  generalize hsC : mst (mst (mst u 0 6 1) 0 7 0) 0 8 0 = tC at f3 ⊢
  have g6 : tC 0 6 = 1 := by rw [← hsC, mst_ni (by decide), mst_ni (by decide), mst_at]
  have g7 : tC 0 7 = 0 := by rw [← hsC, mst_ni (by decide), mst_at]
  have g8 : tC 0 8 = 0 := by rw [← hsC, mst_at]
  have fall : Fr [24, 25, 4, 0] t tC := (fu.mono (by decide)).tr (f3.mono (by decide))
  have bc3 := (bc2.fr hn ft (by decide)).fr hn fall (by decide)
  have bm3 := bm2.fr z2 (z3 1 (by omega)) (by decide)
  have e43 : tC 4 3 = nI a := by rw [f3 4 (by decide)]; exact u2
  rw [e43]
  have n18 : Nu tC 18 n Z := (x18.fr ft (by decide)).fr fall (by decide)
  have n19 : Nu tC 19 n Lb := (x19.fr ft (by decide)).fr fall (by decide)
  obtain ⟨zr, zs⟩ := z
  dsimp only at z1 z2 z3 z4 z5 z6 z7 z8 z9 z10 z11 z12 z13 bm3
  subst z1
  have k16 : ∀ v, v < n → isS (tC 16 v) (ed src v) := fun v hv => by rw [fall 16 (by decide), ft 16 (by decide)]; exact x16 v hv
  have k17 : ∀ u, u < n → isS (tC 17 u) (fun v => decide (v < n) && ed src v u) := fun v hv => by rw [fall 17 (by decide), ft 17 (by decide)]; exact x17 v hv
  have k10 : tC 3 10 = nI n := by rw [fall 3 (by decide)]; exact t9
  have k11 : tC 3 11 = nI G := by rw [fall 3 (by decide)]; exact t10
  exact ⟨.inr (nI a, tC), (nI a, zs), rfl, ez, (z3 0 (by omega)).trans y00, rfl, n, src, op, pn, qn, ke, gv, gs, gw, pb, bc3, bm3, Or.inr ⟨g6, z4, Z, Lb, sq, po, la, plf, G, a, ⟨by omega, hW, hA, hZ, hF, hL, hZb, t3, t1, t4, u3, u5, u6, t12, t11⟩, ⟨k16, k17, n18, n19, t5.fr fall (by decide), t6.fr fall (by decide), t7.fr fall (by decide), t8.fr fall (by decide), u1.fr f3 (by decide), k10, k11, e43, Or.inl g8⟩, ⟨z8, z9, z10, z11, z12, z13, z7, Or.inl z6⟩, Or.inl ⟨g7, z5⟩⟩⟩
theorem q_plan {σC σM : apM} (h : qIN σC σM) (w : Int32) : qThr cdPlan (m_X6_plan σC w) (m_X7_plan σM w) := by
  have hth := h.thrown (x := 0)
  unfold m_X6_plan m_X7_plan
  by_cases c0 : w = 0
  · rw [if_pos c0, if_pos c0]; exact q_planB hth mst_at w
  · rw [if_neg c0, if_neg c0]
    by_cases c1 : w = 1
    · rw [if_pos c1, if_pos c1]; exact q_planB hth mst_at w
    · rw [if_neg c1, if_neg c1]
      exact qThr_x (x := 1) (sM := mst (mst σM 0 0 0) 0 0 1) mst_at (by unfold cdPlan; simp) hth.thrown
