/-! ===== the run of the model ===== -/
theorem f_work7 {σ : apM} {n v : Nat} {src : Nat → Nat → Option Nat} {op pn qn Z : Nat → Nat} {gv V : Nat → Nat → Int32} (h : GS n src) (hw : GW n src op) (hW : Wd n src op) (hM : GM σ n src) (hO : Nu σ 1 n op) (hG : GP σ 2 3 n op pn qn) (hB : PB n op pn qn) (hgv : ∀ v, v < n → ∀ i, i < 16 → σ 6 (16 * v + i) = gv v i) (hZ : IsZ n src op pn qn Z) (hF : AFT n src op pn qn Z) (hZm : Nu σ 9 n Z) (hb : ∀ v, v < n → 1 ≤ Z v ∧ Z v ≤ 40) (hv : v < n) (hne : ed src v v = false) (hs : ∀ u, ed src v u = true → ∀ i, i < Z u → σ 20 (40 * u + i) = V u i) : Ok (m_X7_work σ (nI v)) (fun σ' => Fr [20] σ σ' ∧ ∀ c, c < 480 → σ' 20 c = if 40 * v ≤ c ∧ c < 40 * v + Z v then WV src op pn Z gv v V (c - 40 * v) else σ 20 c) := by
  have hn := h.1
  have h7 := (hw v hv).1
  have ha := ar_le (op v)
  obtain ⟨z0, z1, z23, z4, z5, z7⟩ := Z_of hW hZ hF hv
  have hzv := hb v hv
  have hBv := hB v hv
  have hGv := hG v hv
  have s0 : 0 < ar (op v) → src v 0 = some (sg src v 0) ∧ sg src v 0 < n ∧ ed src v (sg src v 0) = true := fun q => ⟨sg_some hW hv q, h.2 _ _ _ (sg_some hW hv q), ed_of (by omega) (sg_some hW hv q)⟩
  have s1 : 1 < ar (op v) → src v 1 = some (sg src v 1) ∧ sg src v 1 < n ∧ ed src v (sg src v 1) = true := fun q => ⟨sg_some hW hv q, h.2 _ _ _ (sg_some hW hv q), ed_of (by omega) (sg_some hW hv q)⟩
  -- the numbers it goes by
  have h87 : Ok (m_X7_work_B87 σ (nI v) (nI (op v)) (nI (40 * v)) (nI (40 * sg src v 0)) (nI (40 * sg src v 1)) (nI (if 0 < ar (op v) then Z (sg src v 0) else 0))) (fun σ' => Fr [20] σ σ' ∧ ∀ c, c < 480 → σ' 20 c = if 40 * v ≤ c ∧ c < 40 * v + Z v then WV src op pn Z gv v V (c - 40 * v) else σ 20 c) := by
    have hzn : (if 0 < ar (op v) then Z (sg src v 0) else 0) ≤ 40 := by
      split
      · next q => exact (hb _ (s0 q).2.1).2
      · omega
    have htot : Ok (lp FU (m_X7_work_L95 σ (nI v) (nI (op v)) (nI (40 * v)) (nI (40 * sg src v 0)) (nI (40 * sg src v 1)) (nI (if 0 < ar (op v) then Z (sg src v 0) else 0))) (0, 0)) (fun x => 0 < ar (op v) → x.1 = tot (V (sg src v 0)) (Z (sg src v 0))) := by
      by_cases q : 0 < ar (op v)
      · obtain ⟨a1, a2, a3⟩ := s0 q
        rw [if_pos q]
        rw [if_pos q] at hzn
        refine lp_for0 (fun j (y : Int32) => (y, nI j)) (fun j y => y = tot (V (sg src v 0)) j) (Z (sg src v 0)) (FU_big (by omega)) ?_ ?_ 0 rfl
        · intro j y hj hy
          simp only [m_X7_work_L95]
          rw [if_neg (nI_ge hj (by omega)), nI_add]
          simp (disch := omega) only [e_ald]
          rw [hs _ a3 j hj]
          exact Ok.pure ⟨_, by rw [nI_1], by rw [hy]; rfl⟩
        · intro y hy
          simp only [m_X7_work_L95]
          rw [if_pos (nI_le (Nat.le_refl _) (by omega))]
          exact Ok.pure ⟨_, rfl, fun _ => hy⟩
      · rw [if_neg q]
        refine lp_for0 (fun j (y : Int32) => (y, nI j)) (fun _ _ => True) 0 (FU_big (by omega)) (fun k _ hk => by omega) ?_ 0 trivial
        intro y _
        simp only [m_X7_work_L95]
        rw [if_pos (nI_le (Nat.le_refl _) (by omega))]
        exact Ok.pure ⟨_, rfl, fun q2 => absurd q2 q⟩
    unfold m_X7_work_B87
    refine Ok.bind htot ?_
    rintro ⟨tt, x2⟩ htt
    dsimp only at htt ⊢
    refine Ok.bind (P := fun x => Fr [20] σ x.1 ∧ ∀ c, c < 480 → x.1 20 c = if 40 * v ≤ c ∧ c < 40 * v + Z v then WV src op pn Z gv v V (c - 40 * v) else σ 20 c) (lp_for0 (fun j (t : apM) => (t, nI j)) (fun j u => Fr [20] σ u ∧ ∀ c, c < 480 → u 20 c = if 40 * v ≤ c ∧ c < 40 * v + j then WV src op pn Z gv v V (c - 40 * v) else σ 20 c) (Z v) (FU_big (by omega)) ?_ ?_ σ ⟨Fr.rf, fun c hc => by rw [if_neg (by omega)]⟩) ?_
    · intro j u hj ⟨hfu, hcu⟩
      have e9 : ald u 9 12 (nI v) = some (nI (Z v)) := by rw [ald_nI (by omega) (by decide), hfu 9 (by decide), hZm v hv]
      have e2 : ald u 2 12 (nI v) = some (σ 2 v) := by rw [ald_nI (by omega) (by decide), hfu 2 (by decide)]
      have val : ∀ w i, w < n → ed src v w = true → i < Z w → ald u 20 480 (nI (40 * w + i)) = some (V w i) := fun w i hw he hi => by
        have hzw := hb w hw
        have hwv : w ≠ v := fun q => by rw [q, hne] at he; cases he
        rw [ald_nI (by omega) (by decide), hcu _ (by omega), if_neg (by omega), hs w he i hi]
      have st : ∀ x : Int32, x = WV src op pn Z gv v V j → Ok (Option.bind (ast u 20 480 (nI (40 * v + j)) x) (fun s => some (.inl (s, nI j + 1))) : Option ((apM × Int32) ⊕ (apM × Int32))) (fun r => ∃ t', r = .inl (t', nI (j + 1)) ∧ Fr [20] σ t' ∧ ∀ c, c < 480 → t' 20 c = if 40 * v ≤ c ∧ c < 40 * v + (j + 1) then WV src op pn Z gv v V (c - 40 * v) else σ 20 c) := by
        intro x hx
        rw [ast_nI (by omega) (by decide), ob]
        refine Ok.pure ⟨_, by rw [nI_1], hfu.tr (Fr.mst (by decide)), fun c hc => ?_⟩
        rw [mst_ap]
        by_cases d : c = 40 * v + j
        · rw [if_pos ⟨rfl, d⟩, if_pos (by omega), show c - 40 * v = j by omega, hx]
        · rw [if_neg (fun q => d q.2), hcu c hc]
          by_cases e : 40 * v ≤ c ∧ c < 40 * v + j
          · rw [if_pos e, if_pos (by omega)]
          · rw [if_neg e, if_neg (by omega)]
      simp only [m_X7_work_L126, m_X7_work_B334]
      rw [e9, ob, if_neg (nI_ge hj (by omega))]
      simp only [nI_add, l16]
      unfold WV at st
      rcases (show op v = 0 ∨ op v = 1 ∨ op v = 2 ∨ op v = 3 ∨ op v = 4 ∨ op v = 5 ∨ op v = 6 ∨ op v = 7 by omega) with c | c | c | c | c | c | c | c
      · rw [c, if_pos (by decide)]
        have := hBv.1 (Or.inl c)
        have := z0 c
        rw [ald_nI (by omega) (by decide), ob, hfu 6 (by decide), hgv v hv j (by omega)]
        exact st _ (by rw [c, if_pos rfl])
      · obtain ⟨a1, a2, a3⟩ := s0 (by rw [c]; decide)
        rw [c, if_neg (by decide), if_pos (by decide), val _ j a2 a3 (by have := z1 c; omega), ob]
        exact st _ (by rw [c, if_neg (by decide), if_pos rfl])
      · obtain ⟨a1, a2, a3⟩ := s0 (by rw [c]; decide)
        obtain ⟨b1, b2, b3⟩ := s1 (by rw [c]; decide)
        have := z23 (Or.inl c)
        rw [c, if_neg (by decide), if_neg (by decide), if_pos (by decide), val _ j a2 a3 (by omega), val _ j b2 b3 (by omega), ob, ob]
        exact st _ (by rw [c, if_neg (by decide), if_neg (by decide), if_pos rfl])
      · obtain ⟨a1, a2, a3⟩ := s0 (by rw [c]; decide)
        obtain ⟨b1, b2, b3⟩ := s1 (by rw [c]; decide)
        have := z23 (Or.inr c)
        rw [c, if_neg (by decide), if_neg (by decide), if_neg (by decide), if_pos (by decide), val _ j a2 a3 (by omega), val _ j b2 b3 (by omega), ob, ob]
        exact st _ (by rw [c, if_neg (by decide), if_neg (by decide), if_neg (by decide), if_pos rfl])
      · obtain ⟨a1, a2, a3⟩ := s0 (by rw [c]; decide)
        obtain ⟨b1, b2, b3⟩ := s1 (by rw [c]; decide)
        have := z4 c
        have := hb _ a2
        have := hb _ b2
        rw [if_pos (show 0 < ar (op v) by rw [c]; decide), c, if_neg (by decide), if_neg (by decide), if_neg (by decide), if_neg (by decide), if_pos (by decide)]
        by_cases d : j < Z (sg src v 0)
        · rw [if_neg (nI_ge d (by omega)), val _ j a2 a3 d, ob]
          exact st _ (by rw [c, if_neg (by decide), if_neg (by decide), if_neg (by decide), if_neg (by decide), if_pos rfl, if_pos d])
        · rw [if_pos (nI_le (by omega) (by omega)), pk_sub (by omega), show 40 * sg src v 1 + j - Z (sg src v 0) = 40 * sg src v 1 + (j - Z (sg src v 0)) by omega, val _ _ b2 b3 (by omega), ob]
          exact st _ (by rw [c, if_neg (by decide), if_neg (by decide), if_neg (by decide), if_neg (by decide), if_pos rfl, if_neg d])
      · obtain ⟨a1, a2, a3⟩ := s0 (by rw [c]; decide)
        have := z5 c
        rw [c, if_neg (by decide), if_neg (by decide), if_neg (by decide), if_neg (by decide), if_neg (by decide), if_pos (by decide), e2, ob, hGv.1 (by omega), nI_add, nI_add, Nat.add_assoc, val _ _ a2 a3 (by omega), ob]
        exact st _ (by rw [c, if_neg (by decide), if_neg (by decide), if_neg (by decide), if_neg (by decide), if_neg (by decide), if_pos rfl])
      · rw [c, if_neg (by decide), if_neg (by decide), if_neg (by decide), if_neg (by decide), if_neg (by decide), if_neg (by decide), if_pos (by decide)]
        exact st _ (by rw [c, if_neg (by decide), if_neg (by decide), if_neg (by decide), if_neg (by decide), if_neg (by decide), if_neg (by decide), if_pos rfl]; exact htt (by rw [c]; decide))
      · obtain ⟨a1, a2, a3⟩ := s0 (by rw [c]; decide)
        have := z7 c
        rw [c, if_neg (by decide), if_neg (by decide), if_neg (by decide), if_neg (by decide), if_neg (by decide), if_neg (by decide), if_neg (by decide), show ald u 20 480 (nI (40 * sg src v 0)) = some (V (sg src v 0) 0) from val _ 0 a2 a3 (by omega), ob]
        exact st _ (by rw [c, if_neg (by decide), if_neg (by decide), if_neg (by decide), if_neg (by decide), if_neg (by decide), if_neg (by decide), if_neg (by decide)])
    · intro u hJ
      have e9 : ald u 9 12 (nI v) = some (nI (Z v)) := by rw [ald_nI (by omega) (by decide), hJ.1 9 (by decide), hZm v hv]
      simp only [m_X7_work_L126]
      rw [e9, ob, if_pos (nI_le (Nat.le_refl _) (by omega))]
      exact Ok.pure ⟨_, rfl, hJ⟩
    · rintro ⟨s1, v1⟩ hP
      exact Ok.pure hP
  have h61 : m_X7_work_B61 σ (nI v) (nI (op v)) (nI (40 * v)) (nI (40 * sg src v 0)) (nI (40 * sg src v 1)) = m_X7_work_B87 σ (nI v) (nI (op v)) (nI (40 * v)) (nI (40 * sg src v 0)) (nI (40 * sg src v 1)) (nI (if 0 < ar (op v) then Z (sg src v 0) else 0)) := by
    unfold m_X7_work_B61
    rw [f_inputs7 h7, l2]
    by_cases c : ar (op v) ≤ 0
    · rw [if_pos (show nI (ar (op v)) ≤ (0 : Int32) from nI_le (b := 0) c (by decide)), if_neg (by omega)]
      rfl
    · obtain ⟨a1, a2, a3⟩ := s0 (by omega)
      rw [if_neg (show ¬ nI (ar (op v)) ≤ (0 : Int32) from fun q => c ((nI_leI (b := 0) (by omega) (by decide)).mp q)), if_pos (by omega)]
      simp (disch := omega) only [e_ald]
      rw [show σ 4 (2 * v) = _ from hM.at hv (show 0 < 2 by omega), a1, show eo (some (sg src v 0)) = nI (sg src v 0) from rfl]
      simp (disch := omega) only [e_ald]
      rw [hZm _ a2]
  have h34 : m_X7_work_B34 σ (nI v) (nI (op v)) (nI (40 * v)) (nI (40 * sg src v 0)) = m_X7_work_B61 σ (nI v) (nI (op v)) (nI (40 * v)) (nI (40 * sg src v 0)) (nI (40 * sg src v 1)) := by
    unfold m_X7_work_B34
    rw [f_inputs7 h7, l2, nI_1]
    by_cases c : ar (op v) ≤ 1
    · rw [if_pos (show nI (ar (op v)) ≤ (1 : Int32) from nI_le (b := 1) c (by decide))]
      have : sg src v 1 = 0 := by unfold sg; rw [(hw v hv).2 1 c]; rfl
      rw [this]
      rfl
    · obtain ⟨b1, b2, b3⟩ := s1 (by omega)
      rw [if_neg (show ¬ nI (ar (op v)) ≤ (1 : Int32) from fun q => c ((nI_leI (b := 1) (by omega) (by decide)).mp q))]
      simp (disch := omega) only [e_ald]
      rw [hM.at hv (show 1 < 2 by omega), b1, show eo (some (sg src v 1)) = nI (sg src v 1) from rfl, l40]
  have hall : m_X7_work σ (nI v) = m_X7_work_B34 σ (nI v) (nI (op v)) (nI (40 * v)) (nI (40 * sg src v 0)) := by
    unfold m_X7_work
    rw [ald_nI (by omega) (by decide), ob, hO v hv, f_inputs7 h7, l2, l40]
    by_cases c : ar (op v) ≤ 0
    · rw [if_pos (show nI (ar (op v)) ≤ (0 : Int32) from nI_le (b := 0) c (by decide))]
      have : sg src v 0 = 0 := by unfold sg; rw [(hw v hv).2 0 c]; rfl
      rw [this]
      rfl
    · obtain ⟨a1, a2, a3⟩ := s0 (by omega)
      rw [if_neg (show ¬ nI (ar (op v)) ≤ (0 : Int32) from fun q => c ((nI_leI (b := 0) (by omega) (by decide)).mp q))]
      simp (disch := omega) only [e_ald]
      rw [show σ 4 (2 * v) = _ from hM.at hv (show 0 < 2 by omega), a1, show eo (some (sg src v 0)) = nI (sg src v 0) from rfl, l40]
  rw [hall, h34, h61]
  exact h87
theorem f_run7 {σ : apM} {n : Nat} {src : Nat → Nat → Option Nat} {op pn qn Z pl po sq : Nat → Nat} {gv V : Nat → Nat → Int32} (h : GS n src) (hw : GW n src op) (hW : Wd n src op) (hM : GM σ n src) (hO : Nu σ 1 n op) (hG : GP σ 2 3 n op pn qn) (hB : PB n op pn qn) (hgv : ∀ v, v < n → ∀ i, i < 16 → σ 6 (16 * v + i) = gv v i) (hZ : IsZ n src op pn qn Z) (hF : AFT n src op pn qn Z) (hZm : Nu σ 9 n Z) (hb : ∀ v, v < n → 1 ≤ Z v ∧ Z v ≤ 40) (hP : Nu σ 14 n pl) (hpb : ∀ v, v < n → pl v + Z v ≤ 480) (h11 : σ 0 11 = 1) (hS : Nu σ 11 n sq) (hQ : PO n sq po) (hT : TP n src sq) (hV : IsV n src op pn Z gv V) : Ok (m_X7_run σ) (fun x => x.1 = nI (smn sq Z n) ∧ Fr [0, 19, 20] σ x.2 ∧ (∀ j, j ≠ 0 → j ≠ 27 → x.2 0 j = σ 0 j) ∧ x.2 0 0 = 0 ∧ x.2 0 27 = 1 ∧ (∀ c, c < 480 → x.2 19 c = wr sq Z pl V n c) ∧ ∀ v, v < n → ∀ i, i < Z v → x.2 20 (40 * v + i) = V v i) := by
  have hn := h.1
  have nn : n < 2 ^ 31 := by omega
  unfold m_X7_run
  rw [h11, if_neg (by decide)]
  unfold m_X7_run_B13
  have f11 : mst σ 0 0 0 0 11 = 1 := by rw [mst_ni (by decide)]; exact h11
  rw [f11, if_neg (by decide)]
  refine Ok.bind (P := fun x => Fr [0, 19] σ x.1 ∧ (∀ j, j ≠ 0 → x.1 0 j = σ 0 j) ∧ x.1 0 0 = 0 ∧ ∀ c, c < 480 → x.1 19 c = 0) (lp_for0 (fun k (t : apM) => (t, nI k)) (fun k t => Fr [0, 19] σ t ∧ (∀ j, j ≠ 0 → t 0 j = σ 0 j) ∧ t 0 0 = 0 ∧ ∀ c, c < k → t 19 c = 0) 480 (FU_big (by omega)) ?_ ?_ _ ⟨Fr.mst (by decide), fun j hj => mst_ni hj, mst_at, fun c hc => by omega⟩) ?_
  · intro k t hk ⟨hf, h0, h00, hJ⟩
    simp only [m_X7_run_L27]
    rw [if_neg (show ¬ (480 : Int32) ≤ nI k from nI_ge (b := 480) hk (by decide))]
    simp (disch := omega) only [e_ast]
    refine Ok.pure ⟨_, by rw [nI_1], hf.tr (Fr.mst (by decide)), fun j hj => by rw [mst_k (by decide)]; exact h0 j hj, by rw [mst_k (by decide)]; exact h00, fun c hc => ?_⟩
    rw [mst_ap]
    by_cases d : c = k
    · rw [if_pos ⟨rfl, d⟩]
    · rw [if_neg (fun q => d q.2)]; exact hJ c (by omega)
  · intro t hJ
    simp only [m_X7_run_L27]
    rw [if_pos (show (480 : Int32) ≤ nI 480 by decide)]
    exact Ok.pure ⟨_, rfl, hJ⟩
  rintro ⟨s1, v1⟩ ⟨hf1, h01, h001, hc1⟩
  dsimp only at hf1 h01 h001 hc1 ⊢
  refine Ok.bind (P := fun x => x.2.1 = nI (smn sq Z n) ∧ Fr [19, 20] s1 x.1 ∧ (∀ c, c < 480 → x.1 19 c = wr sq Z pl V n c) ∧ ∀ v, v < n → ∀ i, i < Z v → x.1 20 (40 * v + i) = V v i) (lp_for0 (fun k (t : apM × Nat) => (t.1, nI t.2, nI k)) (fun k t => t.2 = smn sq Z k ∧ Fr [19, 20] s1 t.1 ∧ (∀ c, c < 480 → t.1 19 c = wr sq Z pl V k c) ∧ ∀ e, e < k → ∀ i, i < Z (sq e) → t.1 20 (40 * sq e + i) = V (sq e) i) n (FU_big (by omega)) ?_ ?_ (s1, 0) ⟨rfl, Fr.rf, fun c hc => hc1 c hc, fun e he => by omega⟩) ?_
  · rintro k ⟨t, y⟩ hk ⟨hy, hf, hc19, hc20⟩
    dsimp only at hy hf hc19 hc20
    obtain ⟨hsk, hpk⟩ := hQ.2 k hk
    have hzk := hb _ hsk
    have hpk2 := hpb _ hsk
    have fT : ∀ j, j ∉ [0, 19, 20] → t j = σ j := fun j hj => by rw [hf j (by simp at hj ⊢; exact hj.2), hf1 j (by simp at hj ⊢; exact ⟨hj.1, hj.2.1⟩)]
    have t0 : t 0 = s1 0 := hf 0 (by decide)
    have hMt : GM t n src := ⟨by rw [t0, h01 1 (by decide)]; exact hM.1, fun v hv => by rw [fT 4 (by decide)]; exact hM.2 v hv⟩
    simp only [m_X7_run_L51]
    rw [t0, h01 1 (by decide), hM.1, if_neg (nI_ge hk nn), ald_nI (by omega) (by decide), ob, fT 11 (by decide), hS k hk]
    obtain ⟨u, eu, hfu, hcu⟩ := f_work7 (σ := t) (V := V) (gv := gv) h hw hW hMt (fun v hv => by rw [fT 1 (by decide)]; exact hO v hv) (fun v hv => by rw [fT 2 (by decide), fT 3 (by decide)]; exact hG v hv) hB (fun v hv i hi => by rw [fT 6 (by decide)]; exact hgv v hv i hi) hZ hF (fun v hv => by rw [fT 9 (by decide)]; exact hZm v hv) hb hsk (by
      cases z : ed src (sq k) (sq k) with
      | false => rfl
      | true =>
        obtain ⟨i, hi, e⟩ := hT k hk _ z
        have := (hQ.2 i (by omega)).2
        rw [e, hpk] at this
        omega) (fun w hw i hi => by
        obtain ⟨i2, hi2, e2⟩ := hT k hk w hw
        rw [← e2] at hi ⊢
        exact hc20 i2 hi2 i hi)
    rw [eu, ob]
    rw [← hV _ hsk] at hcu
    have u9 : u 9 = σ 9 := by rw [hfu 9 (by decide), fT 9 (by decide)]
    have u14 : u 14 = σ 14 := by rw [hfu 14 (by decide), fT 14 (by decide)]
    refine Ok.bind (P := fun x => Fr [19] u x.1 ∧ ∀ c, c < 480 → x.1 19 c = wr sq Z pl V (k + 1) c) (lp_for0 (fun j (t : apM) => (t, nI j)) (fun j w => Fr [19] u w ∧ ∀ c, c < 480 → w 19 c = if pl (sq k) ≤ c ∧ c < pl (sq k) + j then V (sq k) (c - pl (sq k)) else wr sq Z pl V k c) (Z (sq k)) (FU_big (by omega)) ?_ ?_ u ⟨Fr.rf, fun c hc => by rw [if_neg (by omega), hfu 19 (by decide)]; exact hc19 c hc⟩) ?_
    · intro j w hj ⟨hfw, hcw⟩
      simp only [m_X7_run_L74]
      rw [ald_nI (by omega) (by decide), ob, hfw 9 (by decide), u9, hZm _ hsk, if_neg (nI_ge hj (by omega)), ald_nI (by omega) (by decide), ob, hfw 14 (by decide), u14, hP _ hsk, l40, nI_add, nI_add, ald_nI (by omega) (by decide), ob, ast_nI (by omega) (by decide), ob]
      refine Ok.pure ⟨_, by rw [nI_1], hfw.tr (Fr.mst (by decide)), fun c hc => ?_⟩
      rw [mst_ap, hfw 20 (by decide), hcu _ (by omega), if_pos (show 40 * sq k ≤ 40 * sq k + j ∧ 40 * sq k + j < 40 * sq k + Z (sq k) by omega), show 40 * sq k + j - 40 * sq k = j by omega]
      by_cases d : c = pl (sq k) + j
      · rw [if_pos ⟨rfl, d⟩, if_pos (by omega), show c - pl (sq k) = j by omega]
      · rw [if_neg (fun q => d q.2), hcw c hc]
        by_cases e : pl (sq k) ≤ c ∧ c < pl (sq k) + j
        · rw [if_pos e, if_pos (by omega)]
        · rw [if_neg e, if_neg (by omega)]
    · intro w ⟨hfw, hcw⟩
      simp only [m_X7_run_L74]
      rw [ald_nI (by omega) (by decide), ob, hfw 9 (by decide), u9, hZm _ hsk, if_pos (nI_le (Nat.le_refl _) (by omega))]
      exact Ok.pure ⟨_, rfl, hfw, hcw⟩
    · rintro ⟨w, v2⟩ ⟨hfw, hcw⟩
      dsimp only at hfw hcw ⊢
      rw [ald_nI (by omega) (by decide), ob, hfw 9 (by decide), u9, hZm _ hsk, nI_add]
      refine Ok.pure ⟨(w, y + Z (sq k)), by rw [nI_1], by show y + Z (sq k) = smn sq Z k + Z (sq k); rw [hy], (hf.tr (hfu.mono (by decide))).tr (hfw.mono (by decide)), hcw, fun e he i hi => ?_⟩
      have hse := (hQ.2 e (by omega)).1
      have hze := hb _ hse
      show w 20 _ = _
      rw [hfw 20 (by decide), hcu _ (by omega)]
      by_cases d : e = k
      · subst d
        rw [if_pos (by omega), show 40 * sq e + i - 40 * sq e = i by omega]
      · have hnek : sq e ≠ sq k := fun q => by
          have a := (hQ.2 e (by omega)).2
          rw [q, hpk] at a
          omega
        rw [if_neg (by omega)]
        exact hc20 e (by omega) i hi
  · rintro ⟨t, y⟩ ⟨hy, hf, hc19, hc20⟩
    dsimp only at hy hf hc19 hc20
    simp only [m_X7_run_L51]
    rw [hf 0 (by decide), h01 1 (by decide), hM.1, if_pos (nI_le (Nat.le_refl _) nn)]
    refine Ok.pure ⟨_, rfl, by rw [hy], hf, hc19, fun v hv i hi => ?_⟩
    obtain ⟨p1, p2⟩ := hQ.1 v hv
    have := hc20 (po v) p1 i
    rw [p2] at this
    exact this hi
  · rintro ⟨t, y, z⟩ ⟨hy, hf, hc19, hc20⟩
    dsimp only at hy hf hc19 hc20 ⊢
    refine Ok.pure ⟨hy, ((hf1.mono (by decide)).tr (hf.mono (by decide))).tr (Fr.mst (by decide)), fun j j1 j2 => ?_, ?_, (by show mst t 0 27 1 0 27 = 1; exact mst_at), fun c hc => ?_, fun v hv i hi => ?_⟩
    · show mst t 0 27 1 0 j = _
      rw [mst_ni j2, hf 0 (by decide)]; exact h01 j j1
    · show mst t 0 27 1 0 0 = _
      rw [mst_ni (by decide), hf 0 (by decide)]; exact h001
    · show mst t 0 27 1 19 c = _
      rw [mst_k (by decide)]; exact hc19 c hc
    · show mst t 0 27 1 20 _ = _
      rw [mst_k (by decide)]; exact hc20 v hv i hi
