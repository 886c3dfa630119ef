/-! ===== sizes and labels of all nodes ===== -/
theorem SQ_ex {n : Nat} {src : Nat → Nat → Option Nat} (h : GS n src) (hA : ∀ v, v < n → Tr src n v v = false) : ∃ sq st, SQ n n sq st ∧ IsON n n src sq := by
  have key : ∀ k, k ≤ n → ∃ sq st, SQ n k sq st ∧ IsON n k src sq := by
    intro k
    induction k with
    | zero => intro _; exact ⟨fun _ => 0, fun _ => none, SQ_0, fun i hi => by omega⟩
    | succ k ih =>
      intro hk
      obtain ⟨sq, st, hQ, hI⟩ := ih (by omega)
      obtain ⟨v, hv, hr, hl⟩ := least_rdy h hA hQ (by omega)
      exact ⟨_, _, SQ_add hQ hv hr.1, IsON_add hI hv ((rdy_iff hQ).mp hr) (fun u hu q => hl u hu ((rdy_iff hQ).mpr q))⟩
  exact key n (Nat.le_refl _)
theorem ZF_cg {src : Nat → Nat → Option Nat} {op pn qn : Nat → Nat} (v : Nat) (f g : Nat → Nat) (h : ∀ u, ed src v u = true → f u = g u) : ZF src op pn qn v f = ZF src op pn qn v g := by
  unfold ZF
  rw [sv_cg h (show 0 < 2 by omega), sv_cg h (show 1 < 2 by omega)]
theorem LF_cg {src : Nat → Nat → Option Nat} {op : Nat → Nat} (v : Nat) (f g : Nat → Nat) (h : ∀ u, ed src v u = true → f u = g u) : LF src op v f = LF src op v g := by
  unfold LF
  rw [sv_cg h (show 0 < 2 by omega), sv_cg h (show 1 < 2 by omega)]
def AFT (n : Nat) (src : Nat → Nat → Option Nat) (op pn qn Z : Nat → Nat) : Prop := ∀ v, v < n → FT src op pn qn Z v
def IsZ (n : Nat) (src : Nat → Nat → Option Nat) (op pn qn Z : Nat → Nat) : Prop := ∀ v, v < n → Z v = ZF src op pn qn v Z
def IsL (n : Nat) (src : Nat → Nat → Option Nat) (op Lb : Nat → Nat) : Prop := ∀ v, v < n → Lb v = LF src op v Lb
theorem Z_b1 {n v : Nat} {src : Nat → Nat → Option Nat} {op pn qn Z : Nat → Nat} (hw : GW n src op) (hW : Wd n src op) (hB : PB n op pn qn) (hZ : IsZ n src op pn qn Z) (hv : v < n) (hF : FT src op pn qn Z v) (hs : ∀ u, ed src v u = true → 1 ≤ Z u ∧ Z u ≤ 40) : 1 ≤ Z v ∧ Z v ≤ 40 := by
  rw [hZ v hv]
  unfold ZF
  refine szf_b hB hv hF (fun q => ?_) (fun q => ?_) (hw v hv).1
  · cases e : src v 0 with
    | none => exact absurd e (hW v hv 0 q)
    | some u => exact hs u (ed_of (by omega) e)
  · cases e : src v 1 with
    | none => exact absurd e (hW v hv 1 q)
    | some u => exact hs u (ed_of (by omega) e)
theorem Lb_b {n : Nat} {src : Nat → Nat → Option Nat} {sq : Nat → Nat} {op Lb : Nat → Nat} (hq : ∀ i, i < n → sq i < n) (hT : TP n src sq) (hL : IsL n src op Lb) : ∀ i, i < n → Lb (sq i) ≤ i + 3 := by
  intro i
  induction i using Nat.strongRecOn with
  | _ i ih =>
    intro hi
    have hs : ∀ j, j < 2 → sv Lb (src (sq i) j) ≤ i + 2 := fun j hj => by
      cases e : src (sq i) j with
      | none => exact Nat.zero_le _
      | some u =>
        obtain ⟨k, hk, rfl⟩ := hT i hi u (ed_of hj e)
        have := ih k hk (by omega)
        show Lb (sq k) ≤ i + 2
        omega
    rw [hL _ (hq i hi)]
    unfold LF labf
    have := hs 0 (by omega)
    have := hs 1 (by omega)
    split
    · omega
    · split <;> omega
theorem f_measure4 {σ : apM} {n : Nat} {src : Nat → Nat → Option Nat} {op pn qn Z Lb : Nat → Nat} (h : GS n src) (hw : GW n src op) (hW : Wd n src op) (hA : ∀ v, v < n → Tr src n v v = false) (hC : GC σ n src) (hO : Nu σ 7 n op) (hG : GP σ 8 9 n op pn qn) (hB : PB n op pn qn) (hZ : IsZ n src op pn qn Z) (hL : IsL n src op Lb) : Ok (m_X4_measure σ) (fun x => Fr [16, 17, 18, 19, 20, 21, 3] σ x.2 ∧ ((x.1 = 1 ∧ AFT n src op pn qn Z ∧ (∀ v, v < n → isS (x.2 16 v) (ed src v)) ∧ (∀ u, u < n → isS (x.2 17 u) (fun v => decide (v < n) && ed src v u)) ∧ Nu x.2 18 n Z ∧ Nu x.2 19 n Lb) ∨ (x.1 = 0 ∧ ¬ AFT n src op pn qn Z))) := by
  have hn := h.1
  have nn : n < 2 ^ 31 := by omega
  unfold m_X4_measure
  refine Ok.bind (f_findNeighbours h hC) (fun s1 ⟨f1, d1, e1⟩ => ?_)
  have hC1 := hC.fr hn f1 (by decide) (by decide)
  refine Ok.bind (f_orderN4 h hA hC1 d1) (fun s3 ⟨f3, _, sq, st, hQ, hS, hI⟩ => ?_)
  have hT := IsON_TP hI
  have hLb := Lb_b (fun i hi => hQ.2.2 i hi) hT hL
  have f13 : Fr [16, 17, 18, 19, 20, 21, 3] σ s3 := (f1.mono (by decide)).tr (f3.mono (by decide))
  refine Ok.bind (P := fun x => match x with | .inl r => r.1 = 0 ∧ Fr [18, 19] s3 r.2 ∧ ¬ AFT n src op pn qn Z | .inr y => Fr [18, 19] s3 y.1 ∧ AFT n src op pn qn Z ∧ Nu y.1 18 n Z ∧ Nu y.1 19 n Lb) (lp_forR (fun k (t : apM) => (t, nI k)) (fun k t => Fr [18, 19] s3 t ∧ ∀ i, i < k → FT src op pn qn Z (sq i) ∧ 1 ≤ Z (sq i) ∧ Z (sq i) ≤ 40 ∧ t 18 (sq i) = nI (Z (sq i)) ∧ t 19 (sq i) = nI (Lb (sq i))) n ?_ ?_ n 0 s3 FU (by omega) (FU_big (by omega)) ⟨Fr.rf, fun i hi => by omega⟩) ?_
  · intro k t hk ⟨hf, hJ⟩
    have fT : Fr [16, 17, 18, 19, 20, 21, 3] σ t := f13.tr (hf.mono (by decide))
    have hCt := hC.fr hn fT (by decide) (by decide)
    have hOt := hO.fr fT (by decide)
    have hGt : GP t 8 9 n op pn qn := fun v hv => by rw [fT 8 (by decide), fT 9 (by decide)]; exact hG v hv
    have hsk := hQ.2.2 k hk
    have hsrc : ∀ u, ed src (sq k) u = true → 1 ≤ Z u ∧ Z u ≤ 40 ∧ t 18 u = nI (Z u) ∧ t 19 u = nI (Lb u) ∧ Lb u < 1000 := fun u hu => by
      obtain ⟨i, hi, rfl⟩ := hT k hk u hu
      obtain ⟨a1, a2, a3, a4, a5⟩ := hJ i hi
      have := hLb i (by omega)
      exact ⟨a2, a3, a4, a5, by omega⟩
    simp only [m_X4_measure_L10]
    rw [hf 3 (by decide), hS.2.2.1, if_neg (nI_ge hk nn)]
    simp (disch := omega) only [e_ald]
    rw [hf 20 (by decide), hS.1 k hk]
    obtain ⟨r, er, hr⟩ := f_sizesFit h hCt hOt hGt hB hsk (hw _ hsk).1 (sz := Z) (fun i u hi e => by obtain ⟨a1, a2, a3, a4, a5⟩ := hsrc u (ed_of hi e); exact ⟨a3, a2⟩)
    rw [er, ob]
    rcases hr with ⟨rfl, hFk⟩ | ⟨rfl, hFk⟩
    · rw [if_neg (by decide), f_sizeOf4 h hCt hOt hGt hsk (hw _ hsk).1 (sz := Z) (fun i u hi e => (hsrc u (ed_of hi e)).2.2.1), ob, ← hZ _ hsk]
      simp (disch := omega) only [e_ast]
      have fm : Fr [18, 19] t (mst t 18 (sq k) (nI (Z (sq k)))) := Fr.mst (by decide)
      rw [f_labelOf4 h hw hW (hCt.fr hn fm (by decide) (by decide)) (hOt.fr fm (by decide)) hsk (lb := Lb) (fun i u hi e => by obtain ⟨a1, a2, a3, a4, a5⟩ := hsrc u (ed_of hi e); exact ⟨by rw [mst_k (by decide)]; exact a4, a5⟩), ob, ← hL _ hsk]
      refine Ok.pure (Or.inl ⟨_, by rw [nI_1], hf.tr (fm.tr (Fr.mst (by decide))), fun i hi => ?_⟩)
      have hzb := Z_b1 hw hW hB hZ hsk hFk (fun u hu => ⟨(hsrc u hu).1, (hsrc u hu).2.1⟩)
      rw [mst_k (by decide), mst_ap, mst_ap, mst_k (by decide)]
      by_cases c : i = k
      · subst c
        exact ⟨hFk, hzb.1, hzb.2, by simp, by simp⟩
      · obtain ⟨a1, a2, a3, a4, a5⟩ := hJ i (by omega)
        refine ⟨a1, a2, a3, ?_, ?_⟩
        · by_cases d : sq i = sq k
          · rw [d]; simp
          · simp only [d, and_false, if_false]; exact a4
        · by_cases d : sq i = sq k
          · rw [d]; simp
          · simp only [d, and_false, if_false]; exact a5
    · rw [if_pos rfl]
      exact Ok.pure (Or.inr ⟨_, rfl, rfl, hf, fun q => hFk (q _ hsk)⟩)
  · intro t ⟨hf, hJ⟩
    simp only [m_X4_measure_L10]
    rw [hf 3 (by decide), hS.2.2.1, if_pos (nI_le (Nat.le_refl _) nn)]
    refine Ok.pure ⟨_, rfl, hf, fun v hv => ?_, fun v hv => ?_, fun v hv => ?_⟩
    · obtain ⟨i, hi, -, rfl⟩ := SQ_all hQ hv
      exact (hJ i hi).1
    · obtain ⟨i, hi, -, rfl⟩ := SQ_all hQ hv
      exact (hJ i hi).2.2.2.1
    · obtain ⟨i, hi, -, rfl⟩ := SQ_all hQ hv
      exact (hJ i hi).2.2.2.2
  · rintro (r | y) hP
    · obtain ⟨p1, p2, p3⟩ := hP
      obtain ⟨r1, r2⟩ := r
      dsimp only at p1 p2 ⊢
      subst p1
      exact Ok.pure ⟨f13.tr (p2.mono (by decide)), Or.inr ⟨rfl, p3⟩⟩
    · obtain ⟨y1, y2⟩ := y
      obtain ⟨p1, p2, p3, p4⟩ := hP
      refine Ok.pure ⟨f13.tr (p1.mono (by decide)), Or.inl ⟨rfl, p2, fun v hv => ?_, fun v hv => ?_, p3, p4⟩⟩
      · show isS (y1 16 v) _
        rw [show y1 16 = s3 16 from p1 16 (by decide), f3 16 (by decide)]; exact d1 v hv
      · show isS (y1 17 v) _
        rw [show y1 17 = s3 17 from p1 17 (by decide), f3 17 (by decide)]; exact e1 v hv
/-! the model -/
theorem f_sizeOf7 {σ : apM} {n v : Nat} {src : Nat → Nat → Option Nat} {op pn qn sz : Nat → Nat} (h : GS n src) (hw : GW n src op) (hW : Wd n src op) (hM : GM σ n src) (hO : Nu σ 1 n op) (hG : GP σ 2 3 n op pn qn) (hB : PB n op pn qn) (hv : v < n) (hs : ∀ u, ed src v u = true → σ 15 u = nI (sz u) ∧ sz u ≤ 40) : Ok (m_X7_sizeOf σ (nI v)) (fun r => (r = nI (ZF src op pn qn v sz) ∧ FT src op pn qn sz v) ∨ (r = -1 ∧ ¬ FT src op pn qn sz v)) := by
  have hn := h.1
  have h7 := (hw v hv).1
  have bd : ∀ i, i < 2 → sv sz (src v i) ≤ 40 := fun i hi => by
    cases e : src v i with
    | none => exact Nat.zero_le _
    | some u => exact (hs u (ed_of hi e)).2
  have h31 : ∀ k0, m_X7_sizeOf_B31 σ (nI v) (nI (op v)) k0 = m_X7_sizeOf_B59 σ (nI v) (nI (op v)) k0 (nI (sv sz (src v 1))) := by
    intro k0
    unfold m_X7_sizeOf_B31
    rw [f_inputs7 h7]
    by_cases c : ar (op v) ≤ 1
    · rw [if_pos (show nI (ar (op v)) ≤ (1 : Int32) from nI_le (b := 1) c (by decide)), (hw v hv).2 1 c]
      rfl
    · have ha := ar_le (op v)
      rw [if_neg (show ¬ nI (ar (op v)) ≤ (1 : Int32) from fun q => c ((nI_leI (b := 1) (by omega) (by decide)).mp q)), l2, nI_1]
      simp (disch := omega) only [e_ald]
      rw [hM.at hv (by omega)]
      cases e : src v 1 with
      | none => exact absurd e (hW v hv 1 (by omega))
      | some u =>
        have hu := h.2 _ _ _ e
        rw [show eo (some u) = nI u from rfl]
        simp (disch := omega) only [e_ald]
        rw [(hs u (ed_of (by omega) e)).1]
        rfl
  have h59 : m_X7_sizeOf σ (nI v) = m_X7_sizeOf_B59 σ (nI v) (nI (op v)) (nI (sv sz (src v 0))) (nI (sv sz (src v 1))) := by
    unfold m_X7_sizeOf
    simp (disch := omega) only [e_ald]
    rw [hO v hv, f_inputs7 h7]
    by_cases c : ar (op v) ≤ 0
    · rw [if_pos (show nI (ar (op v)) ≤ (0 : Int32) from nI_le (b := 0) c (by decide)), h31, (hw v hv).2 0 c]
      rfl
    · have ha := ar_le (op v)
      rw [if_neg (show ¬ nI (ar (op v)) ≤ (0 : Int32) from fun q => c ((nI_leI (b := 0) (by omega) (by decide)).mp q)), l2]
      simp (disch := omega) only [e_ald]
      rw [show σ 4 (2 * v) = _ from hM.at hv (show 0 < 2 by omega)]
      cases e : src v 0 with
      | none => exact absurd e (hW v hv 0 (by omega))
      | some u =>
        have hu := h.2 _ _ _ e
        rw [show eo (some u) = nI u from rfl]
        simp (disch := omega) only [e_ald]
        rw [(hs u (ed_of (by omega) e)).1, h31]
        rfl
  rw [h59]
  have b0 := bd 0 (by omega)
  have b1 := bd 1 (by omega)
  unfold FT ZF
  generalize sv sz (src v 0) = a at b0 ⊢
  generalize sv sz (src v 1) = b at b1 ⊢
  have hG := hG v hv
  have hB := hB v hv
  have e2 : ald σ 2 12 (nI v) = some (σ 2 v) := ald_nI (by omega) (by decide)
  have e3 : ald σ 3 12 (nI v) = some (σ 3 v) := ald_nI (by omega) (by decide)
  unfold m_X7_sizeOf_B59
  rw [e2, e3]
  generalize hp : pn v = p at hG hB ⊢
  generalize hq : qn v = q at hG hB ⊢
  generalize ho : op v = o at h7 hG hB ⊢
  have hab : Ok (m_X7_sizeOf_B113 σ (nI a) (nI b)) (fun r => (r = nI a ∧ a = b) ∨ (r = -1 ∧ ¬ a = b)) := by
    unfold m_X7_sizeOf_B113
    by_cases c : a = b
    · rw [if_pos (by rw [c])]; exact Ok.pure (Or.inl ⟨rfl, c⟩)
    · rw [if_neg (fun z => c ((nI_eq (by omega) (by omega)).mp z))]; exact Ok.pure (Or.inr ⟨rfl, c⟩)
  unfold fit szf
  rcases (show o = 0 ∨ o = 1 ∨ o = 2 ∨ o = 3 ∨ o = 4 ∨ o = 5 ∨ o = 6 ∨ o = 7 by omega) with rfl | rfl | rfl | rfl | rfl | rfl | rfl | rfl
  · rw [if_pos (by decide), hG.1 (by omega)]
    exact Ok.pure (Or.inl ⟨rfl, by omega⟩)
  · rw [if_neg (by decide), if_pos (by decide)]
    exact Ok.pure (Or.inl ⟨rfl, by omega⟩)
  · rw [if_neg (by decide), if_neg (by decide), if_pos (by decide)]
    refine hab.mono (fun r hr => ?_)
    rcases hr with ⟨x, y⟩ | ⟨x, y⟩
    · exact Or.inl ⟨x, by omega⟩
    · exact Or.inr ⟨x, fun z => y (z.1 (Or.inl rfl))⟩
  · rw [if_neg (by decide), if_neg (by decide), if_neg (by decide), if_pos (by decide)]
    refine hab.mono (fun r hr => ?_)
    rcases hr with ⟨x, y⟩ | ⟨x, y⟩
    · exact Or.inl ⟨x, by omega⟩
    · exact Or.inr ⟨x, fun z => y (z.1 (Or.inr rfl))⟩
  · rw [if_neg (by decide), if_neg (by decide), if_neg (by decide), if_neg (by decide), if_pos (by decide), nI_add]
    by_cases c : a + b ≤ 40
    · rw [if_pos (show nI (a + b) ≤ (40 : Int32) from nI_le (b := 40) c (by decide))]
      exact Ok.pure (Or.inl ⟨rfl, by omega⟩)
    · rw [if_neg (show ¬ nI (a + b) ≤ (40 : Int32) from fun z => c ((nI_leI (b := 40) (by omega) (by decide)).mp z))]
      exact Ok.pure (Or.inr ⟨rfl, fun z => c (z.2.1 rfl)⟩)
  · rw [if_neg (by decide), if_neg (by decide), if_neg (by decide), if_neg (by decide), if_neg (by decide), if_pos (by decide)]
    have hb := hB.2 rfl
    rw [hG.1 (by omega), hG.2 rfl, ob, ob, nI_add]
    by_cases c : p + q ≤ a
    · rw [if_pos (nI_le c (by omega))]
      exact Ok.pure (Or.inl ⟨rfl, by omega⟩)
    · rw [if_neg (fun z => c ((nI_leI (by omega) (by omega)).mp z))]
      exact Ok.pure (Or.inr ⟨rfl, fun z => c (z.2.2.1 rfl)⟩)
  · rw [if_neg (by decide), if_neg (by decide), if_neg (by decide), if_neg (by decide), if_neg (by decide), if_neg (by decide), if_pos (by decide)]
    exact Ok.pure (Or.inl ⟨rfl, by omega⟩)
  · rw [if_neg (by decide), if_neg (by decide), if_neg (by decide), if_neg (by decide), if_neg (by decide), if_neg (by decide), if_neg (by decide)]
    by_cases c : a = 1
    · rw [if_pos (by rw [c]; rfl), hG.1 (by omega)]; exact Ok.pure (Or.inl ⟨rfl, by omega⟩)
    · rw [if_neg (show ¬ nI a = (1 : Int32) from fun z => c ((nI_eq (b := 1) (by omega) (by decide)).mp z))]; exact Ok.pure (Or.inr ⟨rfl, fun z => c (z.2.2.2 rfl)⟩)
theorem f_isReady7 {σ : apM} {n v : Nat} {src : Nat → Nat → Option Nat} {op : Nat → Nat} {b : Nat → Bool} (h : GS n src) (hw : GW n src op) (hW : Wd n src op) (hM : GM σ n src) (hO : Nu σ 1 n op) (hS : ∀ v, v < n → σ 16 v = bI (b v)) (hv : v < n) : ∃ r : Bool, m_X7_isReady σ (nI v) = some (bI r) ∧ (r = true ↔ ∀ u, ed src v u = true → b u = true) := by
  have hn := h.1
  have ha := ar_le (op v)
  unfold m_X7_isReady
  have main : Ok (lp FU (m_X7_isReady_L4 σ (nI v)) (bI true, nI 0)) (fun x => ∃ r : Bool, x.1 = bI r ∧ (r = true ↔ ∀ i u, i < ar (op v) → src v i = some u → b u = true)) := by
    refine lp_for0 (fun j (r : Bool) => (bI r, nI j)) (fun j r => r = true ↔ ∀ i u, i < j → src v i = some u → b u = true) (ar (op v)) (FU_big (by omega)) ?_ ?_ true (by simp)
    · intro j r hj hJ
      simp only [m_X7_isReady_L4, m_X7_isReady_B43, m_X7_isReady_B44]
      simp (disch := omega) only [e_ald]
      rw [hO v hv, f_inputs7 (hw v hv).1, if_neg (nI_ge hj (by omega))]
      cases r with
      | false =>
        rw [if_pos (show bI false = 0 from rfl)]
        refine Ok.pure ⟨false, by rw [← nI_1]; rfl, ?_⟩
        constructor
        · intro q; cases q
        · intro q; exact hJ.mpr (fun i u hi => q i u (by omega))
      | true =>
        rw [if_neg (show ¬ bI true = 0 by decide), l2, nI_add]
        simp (disch := omega) only [e_ald]
        rw [hM.at hv (by omega)]
        cases e : src v j with
        | none => exact absurd e (hW v hv j hj)
        | some u =>
          have hu := h.2 _ _ _ e
          rw [show eo (some u) = nI u from rfl]
          simp (disch := omega) only [e_ald]
          rw [hS u hu]
          cases z : b u with
          | false =>
            rw [if_pos (show bI false = 0 from rfl)]
            refine Ok.pure ⟨false, by rw [← nI_1]; rfl, ?_⟩
            constructor
            · intro q; cases q
            · intro q; have := q j u (Nat.lt_succ_self _) e; rw [z] at this; cases this
          | true =>
            rw [if_neg (show ¬ bI true = 0 by decide)]
            refine Ok.pure ⟨true, by rw [← nI_1]; rfl, fun _ i w hi hw => ?_, fun _ => rfl⟩
            by_cases c : i = j
            · subst c; rw [e] at hw; cases hw; exact z
            · exact hJ.mp rfl i w (by omega) hw
    · intro r hJ
      simp only [m_X7_isReady_L4]
      simp (disch := omega) only [e_ald]
      rw [hO v hv, f_inputs7 (hw v hv).1, if_pos (nI_le (Nat.le_refl _) (by omega))]
      exact Ok.pure ⟨_, rfl, r, rfl, hJ⟩
  obtain ⟨x, e, r, hx, hb⟩ := main
  refine ⟨r, ?_, ?_⟩
  · rw [show (1, 0) = (bI true, nI 0) from rfl, e, ob]
    obtain ⟨x1, x2⟩ := x
    dsimp only at hx ⊢
    rw [hx, bI_z]
    rfl
  · rw [hb]
    constructor
    · intro q u hu
      obtain ⟨i, hi, e⟩ := ed_in hu
      exact q i u (ed_ar hw hv e hi) e
    · intro q i u hi e
      exact q u (ed_of (by omega) e)
def ZI (σ t : apM) (n : Nat) (src : Nat → Nat → Option Nat) (op pn qn Z : Nat → Nat) (b : Nat → Bool) : Prop := Fr [15, 16] σ t ∧ (∀ u, u < n → t 16 u = bI (b u)) ∧ ∀ u, u < n → b u = true → t 15 u = nI (Z u) ∧ FT src op pn qn Z u ∧ 1 ≤ Z u ∧ Z u ≤ 40
theorem f_findSizes7 {σ : apM} {n : Nat} {src : Nat → Nat → Option Nat} {op pn qn Z : Nat → Nat} (h : GS n src) (hw : GW n src op) (hW : Wd n src op) (hA : ∀ v, v < n → Tr src n v v = false) (hM : GM σ n src) (hO : Nu σ 1 n op) (hG : GP σ 2 3 n op pn qn) (hB : PB n op pn qn) (hZ : IsZ n src op pn qn Z) : Ok (m_X7_findSizes σ) (fun x => Fr [15, 16] σ x.2 ∧ ((x.1 = 1 ∧ AFT n src op pn qn Z ∧ Nu x.2 15 n Z) ∨ (x.1 = 0 ∧ ¬ AFT n src op pn qn Z))) := by
  have hn := h.1
  have nn : n < 2 ^ 31 := by omega
  obtain ⟨sq, st, hQ, hI⟩ := SQ_ex h hA
  have hT := IsON_TP hI
  unfold m_X7_findSizes
  refine Ok.bind (P := fun x => ZI σ x.1 n src op pn qn Z (fun _ => false)) (lp_for0 (fun k (t : apM) => (t, nI k)) (fun k t => Fr [15, 16] σ t ∧ ∀ u, u < k → t 16 u = bI false) n (FU_big (by omega)) ?_ ?_ σ ⟨Fr.rf, fun u hu => by omega⟩) ?_
  · intro k t hk ⟨hf, hJ⟩
    have hMt := hM.fr hf (by rw [hf 0 (by decide)]) (by decide)
    simp only [m_X7_findSizes_L2]
    rw [hMt.1, if_neg (nI_ge hk nn), show vp_nar .boolean 0 = bI false from bI_nar (b := false)]
    simp (disch := omega) only [e_ast]
    refine Ok.pure ⟨_, by rw [nI_1], hf.tr (Fr.mst (by decide)), fun u hu => ?_⟩
    rw [mst_ap]
    by_cases c : u = k
    · subst c; simp
    · simp only [c, and_false, if_false]; exact hJ u (by omega)
  · intro t ⟨hf, hJ⟩
    have hMt := hM.fr hf (by rw [hf 0 (by decide)]) (by decide)
    simp only [m_X7_findSizes_L2]
    rw [hMt.1, if_pos (nI_le (Nat.le_refl _) nn)]
    exact Ok.pure ⟨_, rfl, hf, hJ, fun u _ q => by cases q⟩
  rintro ⟨s1, v1⟩ hP1
  dsimp only at hP1 ⊢
  refine Ok.bind (P := fun x => match x with | .inl r => r.1 = 0 ∧ Fr [15, 16] σ r.2 ∧ ¬ AFT n src op pn qn Z | .inr y => ∃ b, ZI σ y.1 n src op pn qn Z b ∧ ∀ i, i < n → b (sq i) = true) (lp_forR (fun k (t : apM) => (t, nI k)) (fun k t => ∃ b, ZI σ t n src op pn qn Z b ∧ ∀ i, i < k → b (sq i) = true) n ?_ ?_ n 0 s1 FU (by omega) (FU_big (by omega)) ⟨_, hP1, fun i hi => by omega⟩) ?_
  · intro k t hk ⟨b0, hI0, hb0⟩
    have hMt := hM.fr hI0.1 (by rw [hI0.1 0 (by decide)]) (by decide)
    simp only [m_X7_findSizes_L25]
    rw [hMt.1, if_neg (nI_ge hk nn)]
    refine Ok.bind (P := fun x => match x with | .inl r => r.1 = 0 ∧ Fr [15, 16] σ r.2 ∧ ¬ AFT n src op pn qn Z | .inr y => ∃ b, ZI σ y.1 n src op pn qn Z b ∧ (∀ u, u < n → b0 u = true → b u = true) ∧ ∀ v, v < n → (∀ u, ed src v u = true → b0 u = true) → b v = true) (lp_forR (fun j (t : apM) => (t, nI j)) (fun j t => ∃ b, ZI σ t n src op pn qn Z b ∧ (∀ u, u < n → b0 u = true → b u = true) ∧ ∀ v, v < j → (∀ u, ed src v u = true → b0 u = true) → b v = true) n ?_ ?_ n 0 t FU (by omega) (FU_big (by omega)) ⟨b0, hI0, fun _ _ q => q, fun v hv => by omega⟩) ?_
    · intro j u hj ⟨b, hIb, hm, hJ⟩
      have hMu := hM.fr hIb.1 (by rw [hIb.1 0 (by decide)]) (by decide)
      have hOu := hO.fr hIb.1 (by decide)
      have hGu : GP u 2 3 n op pn qn := fun v hv => by rw [hIb.1 2 (by decide), hIb.1 3 (by decide)]; exact hG v hv
      simp only [m_X7_findSizes_L35]
      rw [hMu.1, if_neg (nI_ge hj nn)]
      simp (disch := omega) only [e_ald]
      rw [hIb.2.1 j hj]
      cases hbj : b j with
      | true =>
        rw [if_neg (show ¬ bI true = 0 by decide)]
        refine Ok.pure (Or.inl ⟨u, by rw [nI_1], b, hIb, hm, fun v hv q => ?_⟩)
        by_cases c : v = j
        · subst c; exact hbj
        · exact hJ v (by omega) q
      | false =>
        rw [if_pos (show bI false = 0 from rfl)]
        obtain ⟨r, er, hr⟩ := f_isReady7 h hw hW hMu hOu hIb.2.1 hj
        rw [er, ob]
        cases r with
        | false =>
          rw [if_pos (show bI false = 0 from rfl)]
          refine Ok.pure (Or.inl ⟨u, by rw [nI_1], b, hIb, hm, fun v hv q => ?_⟩)
          by_cases c : v = j
          · subst c
            have := hr.mpr (fun w hw => hm w (ed_lt h hw) (q w hw))
            cases this
          · exact hJ v (by omega) q
        | true =>
          rw [if_neg (show ¬ bI true = 0 by decide)]
          have hrd := hr.mp rfl
          obtain ⟨z, ez, hz⟩ := f_sizeOf7 h hw hW hMu hOu hGu hB hj (sz := Z) (fun w hw => by obtain ⟨a1, a2, a3, a4⟩ := hIb.2.2 w (ed_lt h hw) (hrd w hw); exact ⟨a1, a4⟩)
          rw [ez, ob]
          simp (disch := omega) only [e_ast, e_ald]
          rw [mst_at]
          rcases hz with ⟨rfl, hF⟩ | ⟨rfl, hF⟩
          · have hzb := Z_b1 hw hW hB hZ hj hF (fun w hw => (hIb.2.2 w (ed_lt h hw) (hrd w hw)).2.2)
            rw [← hZ j hj, if_pos (nI_pos' (by omega)), show vp_nar .boolean 1 = bI true from bI_nar (b := true)]
            refine Ok.pure (Or.inl ⟨_, by rw [nI_1], upN b j true, ⟨hIb.1.tr ((Fr.mst (by decide)).tr (Fr.mst (by decide))), fun w hw => ?_, fun w hw q => ?_⟩, fun w hw q => ?_, fun v hv q => ?_⟩)
            · rw [mst_ap]
              unfold upN
              by_cases c : w = j
              · subst c; simp
              · simp only [c, and_false, if_false]; rw [mst_k (by decide)]; exact hIb.2.1 w hw
            · rw [mst_k (by decide), mst_ap]
              by_cases c : w = j
              · subst c; exact ⟨by simp, hF, hzb⟩
              · unfold upN at q
                rw [if_neg c] at q
                simp only [c, and_false, if_false]
                exact hIb.2.2 w hw q
            · unfold upN
              by_cases c : w = j
              · rw [if_pos c]
              · rw [if_neg c]; exact hm w hw q
            · unfold upN
              by_cases c : v = j
              · rw [if_pos c]
              · rw [if_neg c]; exact hJ v (by omega) q
          · rw [if_neg (by decide)]
            exact Ok.pure (Or.inr ⟨_, rfl, rfl, hIb.1.tr (Fr.mst (by decide)), fun q => hF (q j hj)⟩)
    · intro u ⟨b, hIb, hm, hJ⟩
      have hMu := hM.fr hIb.1 (by rw [hIb.1 0 (by decide)]) (by decide)
      simp only [m_X7_findSizes_L35]
      rw [hMu.1, if_pos (nI_le (Nat.le_refl _) nn)]
      exact Ok.pure ⟨_, rfl, b, hIb, hm, hJ⟩
    · rintro (r | y) hP
      · exact Ok.pure (Or.inr ⟨_, rfl, hP⟩)
      · obtain ⟨y1, y2⟩ := y
        obtain ⟨b, hIb, hm, hJ⟩ := hP
        refine Ok.pure (Or.inl ⟨y1, by rw [nI_1], b, hIb, fun i hi => ?_⟩)
        by_cases c : i = k
        · subst c
          refine hJ _ (hQ.2.2 i hk) (fun u hu => ?_)
          obtain ⟨i2, h2, rfl⟩ := hT i hk u hu
          exact hb0 i2 h2
        · exact hm _ (hQ.2.2 i (by omega)) (hb0 i (by omega))
  · intro t ⟨b0, hI0, hb0⟩
    have hMt := hM.fr hI0.1 (by rw [hI0.1 0 (by decide)]) (by decide)
    simp only [m_X7_findSizes_L25]
    rw [hMt.1, if_pos (nI_le (Nat.le_refl _) nn)]
    exact Ok.pure ⟨_, rfl, b0, hI0, hb0⟩
  · rintro (r | y) hP
    · obtain ⟨p1, p2, p3⟩ := hP
      obtain ⟨r1, r2⟩ := r
      dsimp only at p1 p2 ⊢
      subst p1
      exact Ok.pure ⟨p2, Or.inr ⟨rfl, p3⟩⟩
    · obtain ⟨y1, y2⟩ := y
      obtain ⟨b, hIb, hb⟩ := hP
      have all : ∀ v, v < n → b v = true := fun v hv => by
        obtain ⟨i, hi, -, rfl⟩ := SQ_all hQ hv
        exact hb i hi
      exact Ok.pure ⟨hIb.1, Or.inl ⟨rfl, fun v hv => (hIb.2.2 v hv (all v hv)).2.1, fun v hv => (hIb.2.2 v hv (all v hv)).1⟩⟩
theorem f_labelOf7 {σ : apM} {n v : Nat} {src : Nat → Nat → Option Nat} {op lb : Nat → Nat} (h : GS n src) (hw : GW n src op) (hW : Wd n src op) (hM : GM σ n src) (hO : Nu σ 1 n op) (hv : v < n) (hs : ∀ u, ed src v u = true → σ 10 u = nI (lb u) ∧ lb u < 1000) : m_X7_labelOf σ (nI v) = some (mst σ 10 v (nI (LF src op v lb))) := by
  have hn := h.1
  have h7 := (hw v hv).1
  have ha := ar_le (op v)
  have bd : ∀ i, i < 2 → sv lb (src v i) < 1000 := fun i hi => by
    cases e : src v i with
    | none => show 0 < 1000; omega
    | some u => exact (hs u (ed_of hi e)).2
  have h149 : ∀ x, m_X7_labelOf_B149 σ x (nI v) = some (mst σ 10 v x) := fun x => by
    unfold m_X7_labelOf_B149
    simp (disch := omega) only [e_ast]
  have h102 : ∀ a m w : Nat, a < 2000 → m < 2000 → w < 2000 → m_X7_labelOf_B102 σ (nI v) (nI (ar (op v))) (nI a) (nI m) (nI w) = some (mst σ 10 v (nI (if ar (op v) = 0 then 1 else if ar (op v) = 1 then max 2 a else max m w))) := by
    intro a m w ha1 hm hw1
    unfold m_X7_labelOf_B102
    simp only [h149]
    by_cases c0 : ar (op v) = 0
    · rw [c0, if_pos (show nI 0 = 0 from rfl), if_pos rfl]; rfl
    · rw [if_neg (show ¬ nI (ar (op v)) = (0 : Int32) from fun q => c0 ((nI_eq (b := 0) (by omega) (by decide)).mp q)), if_neg c0]
      by_cases c1 : ar (op v) = 1
      · rw [c1, if_pos (show nI 1 = 1 from rfl), if_pos rfl]
        by_cases c : 2 ≤ a
        · rw [if_pos (show (2 : Int32) ≤ nI a from nI_le (a := 2) c (by omega)), Nat.max_eq_right c]
        · rw [if_neg (show ¬ (2 : Int32) ≤ nI a from fun q => c ((nI_leI (a := 2) (by decide) (by omega)).mp q)), Nat.max_eq_left (by omega)]; rfl
      · rw [if_neg (show ¬ nI (ar (op v)) = (1 : Int32) from fun q => c1 ((nI_eq (b := 1) (by omega) (by decide)).mp q)), if_neg c1]
        by_cases c : m ≤ w
        · rw [if_pos (nI_le c (by omega)), Nat.max_eq_right c]
        · rw [if_neg (fun q => c ((nI_leI (by omega) (by omega)).mp q)), Nat.max_eq_left (by omega)]
  have h56 : ∀ a b : Nat, a < 1000 → b < 1000 → m_X7_labelOf_B56 σ (nI v) (nI (ar (op v))) (nI a) (nI b) = some (mst σ 10 v (nI (labf (op v) a b))) := by
    intro a b ha1 hb1
    have h84 : ∀ m w : Nat, m < 1000 → w < 1000 → m_X7_labelOf_B84 σ (nI v) (nI (ar (op v))) (nI a) (nI m) (nI w) = some (mst σ 10 v (nI (if ar (op v) = 0 then 1 else if ar (op v) = 1 then max 2 a else max m (max (w + 1) 3)))) := by
      intro m w hm hw1
      unfold m_X7_labelOf_B84
      rw [nI_1]
      by_cases c : w + 1 ≤ 3
      · rw [if_pos (show nI (w + 1) ≤ (3 : Int32) from nI_le (b := 3) c (by decide)), show (3 : Int32) = nI 3 from rfl, h102 a m 3 (by omega) (by omega) (by omega), Nat.max_eq_right (a := w + 1) c]
      · rw [if_neg (show ¬ nI (w + 1) ≤ (3 : Int32) from fun q => c ((nI_leI (b := 3) (by omega) (by decide)).mp q)), h102 a m _ (by omega) (by omega) (by omega), Nat.max_eq_left (a := w + 1) (by omega)]
    unfold m_X7_labelOf_B56 m_X7_labelOf_B70 labf
    by_cases c : b ≤ a
    · rw [if_pos (nI_le c (by omega)), if_pos (nI_le c (by omega)), h84 a b ha1 hb1, show max a (max (b + 1) 3) = max 3 (max (max a b) (min a b + 1)) by omega]
    · rw [if_neg (fun q => c ((nI_leI (by omega) (by omega)).mp q)), if_neg (fun q => c ((nI_leI (by omega) (by omega)).mp q)), h84 b a hb1 ha1, show max b (max (a + 1) 3) = max 3 (max (max a b) (min a b + 1)) by omega]
  have h31 : ∀ a : Nat, a < 1000 → m_X7_labelOf_B31 σ (nI v) (nI (ar (op v))) (nI a) = some (mst σ 10 v (nI (labf (op v) a (sv lb (src v 1))))) := by
    intro a ha1
    unfold m_X7_labelOf_B31
    by_cases c : ar (op v) ≤ 1
    · rw [if_pos (show nI (ar (op v)) ≤ (1 : Int32) from nI_le (b := 1) c (by decide)), (hw v hv).2 1 c]
      exact h56 a 0 ha1 (by omega)
    · rw [if_neg (show ¬ nI (ar (op v)) ≤ (1 : Int32) from fun q => c ((nI_leI (b := 1) (by omega) (by decide)).mp q)), l2, nI_1]
      simp (disch := omega) only [e_ald]
      rw [hM.at hv (by omega)]
      have hb := bd 1 (by omega)
      cases e : src v 1 with
      | none => exact absurd e (hW v hv 1 (by omega))
      | some u =>
        have hu := h.2 _ _ _ e
        rw [show eo (some u) = nI u from rfl]
        simp (disch := omega) only [e_ald]
        rw [(hs u (ed_of (by omega) e)).1]
        rw [e] at hb
        exact h56 a _ ha1 hb
  unfold m_X7_labelOf LF
  simp (disch := omega) only [e_ald]
  rw [hO v hv, f_inputs7 h7]
  by_cases c : ar (op v) ≤ 0
  · rw [if_pos (show nI (ar (op v)) ≤ (0 : Int32) from nI_le (b := 0) c (by decide)), (hw v hv).2 0 c]
    exact h31 0 (by omega)
  · rw [if_neg (show ¬ nI (ar (op v)) ≤ (0 : Int32) from fun q => c ((nI_leI (b := 0) (by omega) (by decide)).mp q)), l2]
    simp (disch := omega) only [e_ald]
    rw [show σ 4 (2 * v) = _ from hM.at hv (show 0 < 2 by omega)]
    have hb := bd 0 (by omega)
    cases e : src v 0 with
    | none => exact absurd e (hW v hv 0 (by omega))
    | some u =>
      have hu := h.2 _ _ _ e
      rw [show eo (some u) = nI u from rfl]
      simp (disch := omega) only [e_ald]
      rw [(hs u (ed_of (by omega) e)).1]
      rw [e] at hb
      exact h31 _ hb
theorem f_labels7 {σ : apM} {n : Nat} {src : Nat → Nat → Option Nat} {op Lb : Nat → Nat} {sq : Nat → Nat} {st : Nat → Option Nat} (h : GS n src) (hw : GW n src op) (hW : Wd n src op) (hM : GM σ n src) (hO : Nu σ 1 n op) (hQ : SQ n n sq st) (hT : TP n src sq) (hS : SM σ n n sq st) (hL : IsL n src op Lb) : Ok (lp FU (m_X7_plan_L114) (σ, 0)) (fun x => Fr [10] σ x.1 ∧ Nu x.1 10 n Lb) := by
  have hn := h.1
  have nn : n < 2 ^ 31 := by omega
  have hLb := Lb_b (fun i hi => hQ.2.2 i hi) hT hL
  refine lp_for0 (fun k (t : apM) => (t, nI k)) (fun k t => Fr [10] σ t ∧ ∀ i, i < k → t 10 (sq i) = nI (Lb (sq i))) n (FU_big (by omega)) ?_ ?_ σ ⟨Fr.rf, fun i hi => by omega⟩
  · intro k t hk ⟨hf, hJ⟩
    have hMt := hM.fr hf (by rw [hf 0 (by decide)]) (by decide)
    have hOt := hO.fr hf (by decide)
    have hsk := hQ.2.2 k hk
    simp only [m_X7_plan_L114]
    rw [hMt.1, if_neg (nI_ge hk nn)]
    simp (disch := omega) only [e_ald]
    rw [hf 11 (by decide), hS.1 k hk, f_labelOf7 h hw hW hMt hOt hsk (lb := Lb) (fun u hu => by
      obtain ⟨i, hi, rfl⟩ := hT k hk u hu
      have := hLb i (by omega)
      exact ⟨hJ i hi, by omega⟩), ob, ← hL _ hsk]
    refine Ok.pure ⟨_, by rw [nI_1], hf.tr (Fr.mst (by decide)), fun i hi => ?_⟩
    rw [mst_ap]
    by_cases d : sq i = sq k
    · rw [d]; simp
    · simp only [d, and_false, if_false]
      by_cases c : i = k
      · exact absurd (by rw [c]) d
      · exact hJ i (by omega)
  · intro t ⟨hf, hJ⟩
    have hMt := hM.fr hf (by rw [hf 0 (by decide)]) (by decide)
    simp only [m_X7_plan_L114]
    rw [hMt.1, if_pos (nI_le (Nat.le_refl _) nn)]
    refine Ok.pure ⟨_, rfl, hf, fun v hv => ?_⟩
    obtain ⟨i, hi, -, rfl⟩ := SQ_all hQ hv
    exact hJ i hi
