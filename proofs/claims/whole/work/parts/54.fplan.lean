/-! ===== plan ===== -/
def qOrd (w : Int32) (n : Nat) (src : Nat → Nat → Option Nat) (Lb sq : Nat → Nat) : Prop := (w = 1 → IsOL n n src Lb sq) ∧ (¬ w = 1 → IsON n n src sq)
theorem qOrd_uniq {w : Int32} {n : Nat} {src : Nat → Nat → Option Nat} {Lb s1 s2 : Nat → Nat} (h1 : qOrd w n src Lb s1) (h2 : qOrd w n src Lb s2) : ∀ k, k < n → s1 k = s2 k := by
  by_cases c : w = 1
  · exact IsOL_uniq (h1.1 c) (h2.1 c)
  · exact IsON_uniq (h1.2 c) (h2.2 c)
theorem SC_nu {σ : apM} {n : Nat} {sq po : Nat → Nat} {st : Nat → Option Nat} (hS : SC σ n n sq st) (hp : ∀ v, v < n → st v = some (po v)) : Nu σ 20 n sq ∧ Nu σ 21 n po ∧ σ 3 10 = nI n := ⟨fun v hv => hS.1 v hv, fun v hv => by rw [hS.2.1 v hv, hp v hv]; rfl, hS.2.2.1⟩
theorem f_arrange {σ : apM} {n : Nat} {src : Nat → Nat → Option Nat} {ke : Nat → Bool} {Z Lb : Nat → Nat} (w : Int32) (h : GS n src) (hA : ∀ v, v < n → Tr src n v v = false) (hC : GC σ n src) (hD : ∀ v, v < n → isS (σ 16 v) (ed src v)) (hE : ∀ u, u < n → isS (σ 17 u) (fun v => decide (v < n) && ed src v u)) (hK : ∀ v, v < n → σ 12 v = bI (ke v)) (hZ : Nu σ 18 n Z) (hZb : ∀ v, v < n → 1 ≤ Z v ∧ Z v ≤ 40) (hL : Nu σ 19 n Lb) (hb : ∀ v, v < n → Lb v < 1000) : Ok (m_X4_arrange σ w) (fun σ' => Fr [20, 21, 22, 23, 3] σ σ' ∧ ∃ sq po la G, TP n src sq ∧ qOrd w n src Lb sq ∧ PO n sq po ∧ (∀ v, v < n → IsLa n src ke po v (la v)) ∧ Nu σ' 20 n sq ∧ Nu σ' 21 n po ∧ Nu σ' 22 n la ∧ Nu σ' 23 n (cst n Z po la) ∧ σ' 3 10 = nI n ∧ σ' 3 11 = nI G ∧ G ≤ 480 ∧ IsG n Z po la G) := by
  have hn := h.1
  obtain ⟨rk, hR⟩ := Rk_ex h hA
  have h16 : ∀ s, Fr [20, 21, 3] σ s → ∀ sq st, SQ n n sq st → SC s n n sq st → TP n src sq → qOrd w n src Lb sq → Ok (m_X4_arrange_B16 s) (fun σ' => Fr [20, 21, 22, 23, 3] σ σ' ∧ ∃ sq po la G, TP n src sq ∧ qOrd w n src Lb sq ∧ PO n sq po ∧ (∀ v, v < n → IsLa n src ke po v (la v)) ∧ Nu σ' 20 n sq ∧ Nu σ' 21 n po ∧ Nu σ' 22 n la ∧ Nu σ' 23 n (cst n Z po la) ∧ σ' 3 10 = nI n ∧ σ' 3 11 = nI G ∧ G ≤ 480 ∧ IsG n Z po la G) := by
    intro s fs sq st hQ hS hT hO
    obtain ⟨po, hP, hst⟩ := PO_of hQ
    obtain ⟨n20, n21, n10⟩ := SC_nu hS hst
    have hpo : ∀ v, v < n → po v < n := fun v hv => (hP.1 v hv).1
    have hCs := hC.fr hn fs (by decide) (by decide)
    unfold m_X4_arrange_B16
    refine Ok.bind (f_lasts4 (ke := ke) (po := po) h hCs (fun u hu => by rw [fs 17 (by decide)]; exact hE u hu) (fun v hv => by rw [fs 12 (by decide)]; exact hK v hv) n21 hpo) ?_
    rintro ⟨t, v2⟩ ⟨ft, la, n22, hla⟩
    dsimp only at ft n22 ⊢
    have hCt := hCs.fr hn ft (by decide) (by decide)
    have hlan : ∀ v, v < n → la v < n := fun v hv => (IsLa_b hpo hv (hla v hv)).1
    refine Ok.bind (f_addCosts (Z := Z) (po := po) (la := la) h hCt (by rw [ft 3 (by decide)]; exact n10) ((hZ.fr fs (by decide)).fr ft (by decide)) (n21.fr ft (by decide)) n22 hpo hlan hZb) ?_
    rintro u ⟨fu, u3, n23, G, g1, g2, g3⟩
    exact Ok.pure ⟨((fs.mono (by decide)).tr (ft.mono (by decide))).tr (fu.mono (by decide)), sq, po, la, G, hT, hO, hP, hla, (n20.fr ft (by decide)).fr fu (by decide), (n21.fr ft (by decide)).fr fu (by decide), n22.fr fu (by decide), n23, by rw [u3 10 (by decide), ft 3 (by decide)]; exact n10, g1, g2, g3⟩
  unfold m_X4_arrange
  by_cases c : w = 1
  · rw [if_pos c]
    refine Ok.bind (f_orderL4 h hA hC hE hL hb) (fun s ⟨a1, a2, sq, st, b1, b2, b3⟩ => ?_)
    exact h16 s a1 sq st b1 b2 (IsOL_TP h hR b3) ⟨fun _ => b3, fun q => absurd c q⟩
  · rw [if_neg c]
    refine Ok.bind (f_orderN4 h hA hC hD) (fun s ⟨a1, a2, sq, st, b1, b2, b3⟩ => ?_)
    exact h16 s a1 sq st b1 b2 (IsON_TP b3) ⟨fun q => absurd q c, fun _ => b3⟩
/-! the model's -/
theorem f_178 {σ : apM} {n a : Nat} {src : Nat → Nat → Option Nat} {ke : Nat → Bool} {Z sq po la pl : Nat → Nat} (h : GS n src) (hM : GM σ n src) (hK : ∀ v, v < n → σ 5 v = bI (ke v)) (hQ : PO n sq po) (hS : Nu σ 11 n sq) (hZ : Nu σ 9 n Z) (hP : Nu σ 12 n po) (hb : ∀ v, v < n → 1 ≤ Z v ∧ Z v ≤ 40) (hla : ∀ v, v < n → IsLa n src ke po v (la v)) (hPl : IsPl n Z po la pl) (hpb : ∀ v, v < n → pl v + Z v ≤ 480) (ha : IsMx (fun v => v < n) (fun v => pl v + Z v) 0 a) : Ok (m_X7_plan_B178 σ) (fun x => x.1 = nI a ∧ Fr [13, 14, 0] σ x.2 ∧ (∀ j, j ≠ 20 → j ≠ 11 → j ≠ 27 → j ≠ 21 → x.2 0 j = σ 0 j) ∧ x.2 0 11 = 1 ∧ x.2 0 27 = 0 ∧ x.2 0 21 = -1 ∧ x.2 0 20 = nI a ∧ Nu x.2 13 n la ∧ Nu x.2 14 n pl) := by
  have hpo : ∀ v, v < n → po v < n := fun v hv => (hQ.1 v hv).1
  have hlan : ∀ v, v < n → la v < n := fun v hv => (IsLa_b hpo hv (hla v hv)).1
  unfold m_X7_plan_B178
  refine Ok.bind (f_findLives7 (ke := ke) (po := po) h hM hK hP hpo) (fun s ⟨f1, la2, n13, h2⟩ => ?_)
  have n13 : Nu s 13 n la := fun v hv => by rw [n13 v hv, IsLa_uniq (h2 v hv) (hla v hv)]
  refine Ok.bind (f_findPlaces7 (Z := Z) (la := la) (pl := pl) h.1 (by rw [f1 0 (by decide)]; exact hM.1) hQ (hS.fr f1 (by decide)) (hZ.fr f1 (by decide)) (hP.fr f1 (by decide)) n13 hlan hb hPl hpb) (fun t ⟨f2, t0, n14, a2, e1, e2⟩ => ?_)
  have ea := IsMx_uniq e2 ha
  subst ea
  have r : ∀ j, j ≠ 11 → j ≠ 27 → j ≠ 21 → mst (mst (mst t 0 11 1) 0 27 0) 0 21 (-1) 0 j = t 0 j := fun j j1 j2 j3 => by rw [mst_ni j3, mst_ni j2, mst_ni j1]
  refine Ok.pure ⟨?_, ((f1.mono (by decide)).tr (f2.mono (by decide))).tr (((Fr.mst (by decide)).tr (Fr.mst (by decide))).tr (Fr.mst (by decide))), fun j j0 j1 j2 j3 => ?_, ?_, ?_, ?_, ?_, fun v hv => ?_, fun v hv => ?_⟩
  · show mst (mst (mst t 0 11 1) 0 27 0) 0 21 (-1) 0 20 = _
    rw [r 20 (by decide) (by decide) (by decide)]; exact e1
  · show mst (mst (mst t 0 11 1) 0 27 0) 0 21 (-1) 0 j = _
    rw [r j j1 j2 j3, t0 j j0, f1 0 (by decide)]
  · show mst (mst (mst t 0 11 1) 0 27 0) 0 21 (-1) 0 11 = 1
    rw [mst_ni (by decide), mst_ni (by decide), mst_at]
  · show mst (mst (mst t 0 11 1) 0 27 0) 0 21 (-1) 0 27 = 0
    rw [mst_ni (by decide), mst_at]
  · show mst (mst (mst t 0 11 1) 0 27 0) 0 21 (-1) 0 21 = -1
    exact mst_at
  · show mst (mst (mst t 0 11 1) 0 27 0) 0 21 (-1) 0 20 = _
    rw [r 20 (by decide) (by decide) (by decide)]; exact e1
  · show mst (mst (mst t 0 11 1) 0 27 0) 0 21 (-1) 13 v = _
    rw [mst_k (by decide), mst_k (by decide), mst_k (by decide), f2 13 (by decide)]; exact n13 v hv
  · show mst (mst (mst t 0 11 1) 0 27 0) 0 21 (-1) 14 v = _
    rw [mst_k (by decide), mst_k (by decide), mst_k (by decide)]; exact n14 v hv
theorem SM_nu {σ : apM} {n : Nat} {sq s2 po : Nat → Nat} {st : Nat → Option Nat} (hS : SM σ n n s2 st) (hQ2 : SQ n n s2 st) (hQ : PO n sq po) (he : ∀ k, k < n → sq k = s2 k) : Nu σ 11 n sq ∧ Nu σ 12 n po := by
  refine ⟨fun v hv => by rw [hS.1 v hv, he v hv], fun v hv => ?_⟩
  obtain ⟨p1, p2⟩ := hQ.1 v hv
  rw [hS.2.1 v hv, (hQ2.2.1 v (po v)).mpr ⟨p1, by rw [← he _ p1]; exact p2⟩]
  rfl
theorem f_planEnd7 {σ : apM} {n a : Nat} {src : Nat → Nat → Option Nat} {op : Nat → Nat} {ke : Nat → Bool} {Z Lb sq po la pl : Nat → Nat} (w : Int32) (h : GS n src) (hw : GW n src op) (hW : Wd n src op) (hA : ∀ v, v < n → Tr src n v v = false) (hM : GM σ n src) (hO : Nu σ 1 n op) (hK : ∀ v, v < n → σ 5 v = bI (ke v)) (hZn : Nu σ 15 n Z) (hL : IsL n src op Lb) (hLb : ∀ v, v < n → Lb v < 1000) (hQ : PO n sq po) (hOrd : qOrd w n src Lb sq) (hb : ∀ v, v < n → 1 ≤ Z v ∧ Z v ≤ 40) (hla : ∀ v, v < n → IsLa n src ke po v (la v)) (hPl : IsPl n Z po la pl) (hpb : ∀ v, v < n → pl v + Z v ≤ 480) (ha : IsMx (fun v => v < n) (fun v => pl v + Z v) 0 a) (k : apM → Option (Int32 × apM)) (hk : k = fun s33 => if (s33 0 12) = 1 then (Option.bind (lp FU (m_X7_plan_L153) (mst s33 0 19 0, 0)) (fun x38 => match x38 with | (s41, v40) => Option.bind (m_X7_orderByLabels s41) (fun s42 => m_X7_plan_B178 s42))) else (m_X7_plan_B178 s33)) : Ok (Option.bind (lp FU (m_X7_plan_L75) (mst (mst σ 0 12 w) 0 19 0, 0)) (fun x19 => match x19 with | (s22, v21) => Option.bind (m_X7_orderByNumbers s22) (fun s23 => Option.bind (lp FU (m_X7_plan_L114) (s23, 0)) (fun x30 => match x30 with | (s33, v32) => k s33)))) (fun x => x.1 = nI a ∧ Fr [0, 9, 10, 11, 12, 13, 14, 17] σ x.2 ∧ (∀ j, j = 0 ∨ j = 1 → x.2 0 j = σ 0 j) ∧ x.2 0 11 = 1 ∧ x.2 0 27 = 0 ∧ x.2 0 21 = -1 ∧ x.2 0 20 = nI a ∧ Nu x.2 9 n Z ∧ Nu x.2 10 n Lb ∧ Nu x.2 11 n sq ∧ Nu x.2 12 n po ∧ Nu x.2 13 n la ∧ Nu x.2 14 n pl) := by
  have hn := h.1
  have nn : n < 2 ^ 31 := by omega
  obtain ⟨rk, hR⟩ := Rk_ex h hA
  refine Ok.bind (P := fun x => Fr [9, 12] (mst (mst σ 0 12 w) 0 19 0) x.1 ∧ ∀ u, u < n → x.1 9 u = nI (Z u) ∧ x.1 12 u = -1) (lp_for0 (fun i (t : apM) => (t, nI i)) (fun i t => Fr [9, 12] (mst (mst σ 0 12 w) 0 19 0) t ∧ ∀ u, u < i → t 9 u = nI (Z u) ∧ t 12 u = -1) n (FU_big (by omega)) ?_ ?_ _ ⟨Fr.rf, fun u hu => by omega⟩) ?_
  · intro i t hi ⟨hf, hJ⟩
    simp only [m_X7_plan_L75]
    rw [hf 0 (by decide), mst_ni (by decide), mst_ni (by decide), hM.1, if_neg (nI_ge hi nn), ald_nI (by omega) (by decide), ob, hf 15 (by decide), mst_k (by decide), mst_k (by decide), hZn i hi, ast_nI (by omega) (by decide), ob, ast_nI (by omega) (by decide), ob]
    refine Ok.pure ⟨_, by rw [nI_1], hf.tr ((Fr.mst (by decide)).tr (Fr.mst (by decide))), fun u hu => ?_⟩
    rw [mst_k (by decide), mst_ap, mst_ap, mst_k (by decide)]
    by_cases c : u = i
    · subst c; simp
    · rw [if_neg (fun q => c q.2), if_neg (fun q => c q.2)]; exact hJ u (by omega)
  · intro t hJ
    simp only [m_X7_plan_L75]
    rw [hJ.1 0 (by decide), mst_ni (by decide), mst_ni (by decide), hM.1, if_pos (nI_le (Nat.le_refl _) nn)]
    exact Ok.pure ⟨_, rfl, hJ⟩
  rintro ⟨s, v1⟩ ⟨hf, hJ⟩
  dsimp only at hf hJ ⊢
  have s0 : ∀ j, j ≠ 12 → j ≠ 19 → s 0 j = σ 0 j := fun j j1 j2 => by rw [hf 0 (by decide), mst_ni j2, mst_ni j1]
  have s12 : s 0 12 = w := by rw [hf 0 (by decide), mst_ni (by decide), mst_at]
  have s19 : s 0 19 = 0 := by rw [hf 0 (by decide), mst_at]
  have fs : Fr [0, 9, 12] σ s := ((Fr.mst (by decide)).tr (Fr.mst (by decide))).tr (hf.mono (by decide))
  have hMs := hM.fr fs (s0 1 (by decide) (by decide)) (by decide)
  have hOs := hO.fr fs (by decide)
  refine Ok.bind (f_orderN7 h hw hW hA hMs hOs (fun v hv => (hJ v hv).2) s19) (fun t ⟨f2, t0, sq1, st1, q1, q2, q3⟩ => ?_)
  have ft : Fr [0, 9, 11, 12] σ t := (fs.mono (by decide)).tr (f2.mono (by decide))
  have hMt := hM.fr ft (by rw [t0 1 (by decide)]; exact s0 1 (by decide) (by decide)) (by decide)
  have hOt := hO.fr ft (by decide)
  refine Ok.bind (f_labels7 h hw hW hMt hOt q1 (IsON_TP q3) q2 hL) ?_
  rintro ⟨u, v2⟩ ⟨f3, n10⟩
  dsimp only at f3 n10 ⊢
  have fu : Fr [0, 9, 10, 11, 12] σ u := (ft.mono (by decide)).tr (f3.mono (by decide))
  have u0 : ∀ j, j ≠ 12 → j ≠ 19 → u 0 j = σ 0 j := fun j j1 j2 => by rw [f3 0 (by decide), t0 j j2]; exact s0 j j1 j2
  have u12 : u 0 12 = w := by rw [f3 0 (by decide), t0 12 (by decide)]; exact s12
  have n9 : Nu u 9 n Z := fun v hv => by rw [f3 9 (by decide), f2 9 (by decide)]; exact (hJ v hv).1
  rw [hk]
  dsimp only
  rw [u12]
  have fin : ∀ y, Fr [0, 9, 10, 11, 12, 17] σ y → (∀ j, j = 0 ∨ j = 1 → y 0 j = σ 0 j) → Nu y 9 n Z → Nu y 10 n Lb → Nu y 11 n sq → Nu y 12 n po → Ok (m_X7_plan_B178 y) (fun x => x.1 = nI a ∧ Fr [0, 9, 10, 11, 12, 13, 14, 17] σ x.2 ∧ (∀ j, j = 0 ∨ j = 1 → x.2 0 j = σ 0 j) ∧ x.2 0 11 = 1 ∧ x.2 0 27 = 0 ∧ x.2 0 21 = -1 ∧ x.2 0 20 = nI a ∧ Nu x.2 9 n Z ∧ Nu x.2 10 n Lb ∧ Nu x.2 11 n sq ∧ Nu x.2 12 n po ∧ Nu x.2 13 n la ∧ Nu x.2 14 n pl) := by
    intro y fy y0 y9 y10 y11 y12
    refine (f_178 h (hM.fr fy (y0 1 (by omega)) (by decide)) (fun v hv => by rw [fy 5 (by decide)]; exact hK v hv) hQ y11 y9 y12 hb hla hPl hpb ha).mono ?_
    rintro x ⟨g1, g2, g3, g4, g5, g6, g7, g8, g9⟩
    exact ⟨g1, (fy.mono (by decide)).tr (g2.mono (by decide)), fun j hj => by rw [g3 j (by omega) (by omega) (by omega) (by omega)]; exact y0 j hj, g4, g5, g6, g7, y9.fr g2 (by decide), y10.fr g2 (by decide), y11.fr g2 (by decide), y12.fr g2 (by decide), g8, g9⟩
  by_cases c : w = 1
  · rw [if_pos c]
    refine Ok.bind (P := fun x => Fr [12] (mst u 0 19 0) x.1 ∧ ∀ i, i < n → x.1 12 i = -1) (lp_for0 (fun i (t : apM) => (t, nI i)) (fun i t => Fr [12] (mst u 0 19 0) t ∧ ∀ j, j < i → t 12 j = -1) n (FU_big (by omega)) ?_ ?_ _ ⟨Fr.rf, fun u hu => by omega⟩) ?_
    · intro i t hi ⟨hf, hJ⟩
      simp only [m_X7_plan_L153]
      rw [hf 0 (by decide), mst_ni (by decide), u0 1 (by decide) (by decide), hM.1, if_neg (nI_ge hi nn), ast_nI (by omega) (by decide), ob]
      refine Ok.pure ⟨_, by rw [nI_1], hf.tr (Fr.mst (by decide)), fun j hj => ?_⟩
      rw [mst_ap]
      by_cases d : j = i
      · subst d; simp
      · rw [if_neg (fun q => d q.2)]; exact hJ j (by omega)
    · intro t hJ
      simp only [m_X7_plan_L153]
      rw [hJ.1 0 (by decide), mst_ni (by decide), u0 1 (by decide) (by decide), hM.1, if_pos (nI_le (Nat.le_refl _) nn)]
      exact Ok.pure ⟨_, rfl, hJ⟩
    rintro ⟨y, v3⟩ ⟨hfy, hJy⟩
    dsimp only at hfy hJy ⊢
    have y0 : ∀ j, j ≠ 12 → j ≠ 19 → y 0 j = σ 0 j := fun j j1 j2 => by rw [hfy 0 (by decide), mst_ni j2]; exact u0 j j1 j2
    have fy : Fr [0, 9, 10, 11, 12] σ y := (fu.tr (Fr.mst (by decide))).tr (hfy.mono (by decide))
    have y10 : y 10 = u 10 := by rw [hfy 10 (by decide), mst_k (by decide)]
    have y9 : y 9 = u 9 := by rw [hfy 9 (by decide), mst_k (by decide)]
    refine Ok.bind (f_orderL7 (Lb := Lb) h hw hW hA (hM.fr fy (y0 1 (by decide) (by decide)) (by decide)) (hO.fr fy (by decide)) (fun v hv => by rw [y10]; exact n10 v hv) hLb hJy (by rw [hfy 0 (by decide), mst_at])) (fun z ⟨f4, z0, sq2, st2, r1, r2, r3⟩ => ?_)
    obtain ⟨m1, m2⟩ := SM_nu r2 r1 hQ (IsOL_uniq (hOrd.1 c) r3)
    exact fin z ((fy.mono (by decide)).tr (f4.mono (by decide))) (fun j hj => by rw [z0 j (by omega) (by omega)]; exact y0 j (by omega) (by omega)) (fun v hv => by rw [f4 9 (by decide), y9]; exact n9 v hv) (fun v hv => by rw [f4 10 (by decide), y10]; exact n10 v hv) m1 m2
  · rw [if_neg c]
    obtain ⟨m1, m2⟩ := SM_nu q2 q1 hQ (IsON_uniq (hOrd.2 c) q3)
    exact fin u (fu.mono (by decide)) (fun j hj => u0 j (by omega) (by omega)) n9 n10 (m1.fr f3 (by decide)) (m2.fr f3 (by decide))
