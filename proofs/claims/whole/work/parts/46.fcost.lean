/-! ===== costs and the peak ===== -/
def sm (P : Nat → Bool) (f : Nat → Nat) : Nat → Nat
  | 0 => 0
  | k + 1 => sm P f k + if P k = true then f k else 0
theorem sm_b {P : Nat → Bool} {f : Nat → Nat} {n : Nat} (h : ∀ v, v < n → f v ≤ 40) : ∀ k, k ≤ n → sm P f k ≤ 40 * k := by
  intro k
  induction k with
  | zero => intro _; exact Nat.le_refl _
  | succ k ih =>
    intro hk
    have := ih (by omega)
    have := h k (by omega)
    unfold sm
    split <;> omega
theorem sm_t {P : Nat → Bool} {f : Nat → Nat} {k : Nat} (h : P k = true) : sm P f (k + 1) = sm P f k + f k := by
  show sm P f k + (if P k = true then f k else 0) = _
  rw [if_pos h]
theorem sm_f {P : Nat → Bool} {f : Nat → Nat} {k : Nat} (h : P k = false) : sm P f (k + 1) = sm P f k := by
  show sm P f k + (if P k = true then f k else 0) = _
  rw [if_neg (by rw [h]; decide)]
  rfl
def cst (n : Nat) (Z po la : Nat → Nat) (k : Nat) : Nat := sm (fun v => decide (po v ≤ k ∧ k ≤ la v)) Z n
def IsG (n : Nat) (Z po la : Nat → Nat) (G : Nat) : Prop := IsMx (fun k => k < n) (cst n Z po la) 0 G
theorem f_addCosts {σ : apM} {n : Nat} {src : Nat → Nat → Option Nat} {Z po la : Nat → Nat} (h : GS n src) (hC : GC σ n src) (hl : σ 3 10 = nI n) (hZ : Nu σ 18 n Z) (hP : Nu σ 21 n po) (hA : Nu σ 22 n la) (hp : ∀ v, v < n → po v < n) (ha : ∀ v, v < n → la v < n) (hb : ∀ v, v < n → 1 ≤ Z v ∧ Z v ≤ 40) : Ok (m_X4_addCosts σ) (fun σ' => Fr [23, 3] σ σ' ∧ (∀ j, j ≠ 11 → σ' 3 j = σ 3 j) ∧ Nu σ' 23 n (cst n Z po la) ∧ ∃ G, σ' 3 11 = nI G ∧ G ≤ 480 ∧ IsG n Z po la G) := by
  have hn := h.1
  have nn : n < 2 ^ 31 := by omega
  unfold m_X4_addCosts
  refine Ok.bind (P := fun x => Fr [23, 3] σ x.1 ∧ (∀ j, j ≠ 11 → x.1 3 j = σ 3 j) ∧ Nu x.1 23 n (cst n Z po la) ∧ ∃ G, x.1 3 11 = nI G ∧ G ≤ 480 ∧ IsG n Z po la G) (lp_for0 (fun k (t : apM) => (t, nI k)) (fun k t => Fr [23, 3] σ t ∧ (∀ j, j ≠ 11 → t 3 j = σ 3 j) ∧ (∀ i, i < n → t 23 i = if i < k then nI (cst n Z po la i) else 0) ∧ ∃ G, t 3 11 = nI G ∧ G ≤ 480 ∧ IsMx (fun i => i < k) (cst n Z po la) 0 G) n (FU_big (by omega)) ?_ ?_ _ ⟨(Fr.mst (by decide)).tr (Fr.mfl (by decide)), fun j hj => by rw [mfl_k (by decide), mst_ni hj], fun i hi => by rw [mfl_at, if_pos (by omega), if_neg (Nat.not_lt_zero _)], 0, by rw [mfl_k (by decide), mst_at]; rfl, by omega, IsMx_0 (fun w hw => by omega)⟩) ?_
  · intro k t hk ⟨hf, h3, h23, G, hG, hG4, hm⟩
    have hCt := hC.fr hn hf (by decide) (by decide)
    simp only [m_X4_addCosts_L15]
    rw [h3 10 (by decide), hl, if_neg (nI_ge hk nn)]
    have hcb : cst n Z po la k ≤ 480 := by have := sm_b (P := fun v => decide (po v ≤ k ∧ k ≤ la v)) (fun v hv => (hb v hv).2) n (Nat.le_refl _); unfold cst; omega
    refine Ok.bind (P := fun x => Fr [23] t x.1 ∧ (∀ i, i < n → x.1 23 i = if i < k + 1 then nI (cst n Z po la i) else 0)) (lp_for0 (fun j (t : apM) => (t, nI j)) (fun j u => Fr [23] t u ∧ u 23 k = nI (sm (fun v => decide (po v ≤ k ∧ k ≤ la v)) Z j) ∧ ∀ i, i < n → i ≠ k → u 23 i = t 23 i) n (FU_big (by omega)) ?_ ?_ t ⟨Fr.rf, by rw [h23 k hk, if_neg (Nat.lt_irrefl _)]; rfl, fun _ _ _ => rfl⟩) ?_
    · intro j u hj ⟨hfu, g1, g2⟩
      have hCu := hCt.fr hn hfu (by decide) (by decide)
      have hsb := sm_b (P := fun v => decide (po v ≤ k ∧ k ≤ la v)) (fun v hv => (hb v hv).2) j (by omega)
      have hzj := hb j hj
      have := hp j hj
      have := ha j hj
      have r18 : u 18 j = nI (Z j) := by rw [hfu 18 (by decide), hf 18 (by decide)]; exact hZ j hj
      have r21 : u 21 j = nI (po j) := by rw [hfu 21 (by decide), hf 21 (by decide)]; exact hP j hj
      have r22 : u 22 j = nI (la j) := by rw [hfu 22 (by decide), hf 22 (by decide)]; exact hA j hj
      simp only [m_X4_addCosts_L25]
      rw [hCu.1, if_neg (nI_ge hj nn)]
      simp (disch := omega) only [e_ald, e_ast]
      rw [r21, r22, g1, r18]
      by_cases c : po j ≤ k
      · rw [if_neg (nI_nlt c (by omega))]
        by_cases d : k ≤ la j
        · rw [if_neg (nI_nlt d (by omega)), nI_add]
          refine Ok.pure ⟨_, by rw [nI_1], hfu.tr (Fr.mst (by decide)), ?_, fun i hi hik => ?_⟩
          · rw [mst_at, sm_t (decide_eq_true ⟨c, d⟩)]
          · rw [mst_ni hik]; exact g2 i hi hik
        · rw [if_pos (nI_lt (by omega) (by omega))]
          exact Ok.pure ⟨u, by rw [nI_1], hfu, by rw [sm_f (decide_eq_false (fun q => d q.2))]; exact g1, g2⟩
      · rw [if_pos (nI_lt (by omega) (by omega))]
        exact Ok.pure ⟨u, by rw [nI_1], hfu, by rw [sm_f (decide_eq_false (fun q => c q.1))]; exact g1, g2⟩
    · intro u ⟨hfu, g1, g2⟩
      have hCu := hCt.fr hn hfu (by decide) (by decide)
      simp only [m_X4_addCosts_L25]
      rw [hCu.1, if_pos (nI_le (Nat.le_refl _) nn)]
      refine Ok.pure ⟨_, rfl, hfu, fun i hi => ?_⟩
      by_cases c : i = k
      · subst c; rw [if_pos (by omega)]; exact g1
      · show u 23 i = _
        rw [g2 i hi c, h23 i hi]
        by_cases d : i < k
        · rw [if_pos d, if_pos (by omega)]
        · rw [if_neg d, if_neg (by omega)]
    · rintro ⟨u, v2⟩ ⟨hfu, g1⟩
      dsimp only at hfu g1 ⊢
      simp (disch := omega) only [e_ald]
      have e11 : u 3 11 = nI G := by rw [hfu 3 (by decide)]; exact hG
      have e23 : u 23 k = nI (cst n Z po la k) := by rw [g1 k hk, if_pos (Nat.lt_succ_self _)]
      have key : (if u 3 11 < u 23 k then u 23 k else u 3 11) = nI (max G (cst n Z po la k)) := by rw [e11, e23, imax (by omega) (by omega)]
      rw [key]
      refine Ok.pure ⟨_, by rw [nI_1], hf.tr ((hfu.mono (by decide)).tr (Fr.mst (by decide))), fun j hj => ?_, fun i hi => ?_, _, mst_at, by omega, IsMx_add hm (fun w => by omega)⟩
      · rw [mst_ni hj, hfu 3 (by decide)]; exact h3 j hj
      · rw [mst_k (by decide)]; exact g1 i hi
  · intro t ⟨hf, h3, h23, hG⟩
    simp only [m_X4_addCosts_L15]
    rw [h3 10 (by decide), hl, if_pos (nI_le (Nat.le_refl _) nn)]
    refine Ok.pure ⟨_, rfl, hf, h3, fun i hi => ?_, hG⟩
    have := h23 i hi
    rw [if_pos hi] at this
    exact this
  · rintro ⟨s1, v1⟩ hP
    exact Ok.pure hP
theorem f_costOf7 {σ : apM} {n k : Nat} {Z po la : Nat → Nat} (hn : n ≤ 12) (h1 : σ 0 1 = nI n) (hZ : Nu σ 9 n Z) (hP : Nu σ 12 n po) (hA : Nu σ 13 n la) (hp : ∀ v, v < n → po v < n) (ha : ∀ v, v < n → la v < n) (hb : ∀ v, v < n → 1 ≤ Z v ∧ Z v ≤ 40) (hk : k < n) : m_X7_costOf σ (nI k) = some (nI (cst n Z po la k)) := by
  have nn : n < 2 ^ 31 := by omega
  unfold m_X7_costOf
  refine Ok.eq (Ok.bind (P := fun x => x.1 = nI (cst n Z po la k)) (lp_for0 (fun j (y : Nat) => (nI y, nI j)) (fun j y => y = sm (fun v => decide (po v ≤ k ∧ k ≤ la v)) Z j) n (FU_big (by omega)) ?_ ?_ 0 rfl) ?_)
  · intro j y hj hy
    have hsb := sm_b (P := fun v => decide (po v ≤ k ∧ k ≤ la v)) (fun v hv => (hb v hv).2) j (by omega)
    have hzj := hb j hj
    have := hp j hj
    have := ha j hj
    simp only [m_X7_costOf_L4, m_X7_costOf_B43, m_X7_costOf_B44]
    rw [h1, if_neg (nI_ge hj nn)]
    simp (disch := omega) only [e_ald]
    rw [hP j hj, hA j hj, hZ j hj, nI_add]
    by_cases c : po j ≤ k
    · rw [if_neg (nI_nlt c (by omega))]
      by_cases d : k ≤ la j
      · rw [if_neg (nI_nlt d (by omega))]
        exact Ok.pure ⟨_, by rw [nI_1], by rw [sm_t (decide_eq_true ⟨c, d⟩), hy]⟩
      · rw [if_pos (nI_lt (by omega) (by omega))]
        exact Ok.pure ⟨y, by rw [nI_1], by rw [sm_f (decide_eq_false (fun q => d q.2))]; exact hy⟩
    · rw [if_pos (nI_lt (by omega) (by omega))]
      exact Ok.pure ⟨y, by rw [nI_1], by rw [sm_f (decide_eq_false (fun q => c q.1))]; exact hy⟩
  · intro y hy
    simp only [m_X7_costOf_L4]
    rw [h1, if_pos (nI_le (Nat.le_refl _) nn)]
    exact Ok.pure ⟨_, rfl, by rw [hy]; rfl⟩
  · rintro ⟨x1, x2⟩ hx
    exact Ok.pure hx
theorem f_peak7 {σ : apM} {n G : Nat} {Z po la : Nat → Nat} (hn : n ≤ 12) (h1 : σ 0 1 = nI n) (h11 : σ 0 11 = 1) (hZ : Nu σ 9 n Z) (hP : Nu σ 12 n po) (hA : Nu σ 13 n la) (hp : ∀ v, v < n → po v < n) (ha : ∀ v, v < n → la v < n) (hb : ∀ v, v < n → 1 ≤ Z v ∧ Z v ≤ 40) (hG : IsG n Z po la G) : m_X7_peak σ = some (nI G, mst σ 0 0 0) := by
  have nn : n < 2 ^ 31 := by omega
  unfold m_X7_peak
  rw [h11, if_neg (by decide)]
  unfold m_X7_peak_B13
  have f1 : mst σ 0 0 0 0 1 = nI n := by rw [mst_ni (by decide)]; exact h1
  have f11 : mst σ 0 0 0 0 11 = 1 := by rw [mst_ni (by decide)]; exact h11
  have fr : Fr [0] σ (mst σ 0 0 0) := Fr.mst (by decide)
  refine Ok.eq (Ok.bind (P := fun x => x.1 = nI G) (lp_for0 (fun j (y : Nat) => (nI y, nI j)) (fun j y => y ≤ 480 ∧ IsMx (fun i => i < j) (cst n Z po la) 0 y) n (FU_big (by omega)) ?_ ?_ 0 ⟨by omega, IsMx_0 (fun w hw => by omega)⟩) ?_)
  · intro j y hj ⟨hy, hm⟩
    have hcb : cst n Z po la j ≤ 480 := by have := sm_b (P := fun v => decide (po v ≤ j ∧ j ≤ la v)) (fun v hv => (hb v hv).2) n (Nat.le_refl _); unfold cst; omega
    simp only [m_X7_peak_L20, m_X7_peak_B53]
    rw [f1, if_neg (nI_ge hj nn), f11, if_neg (by decide), f_costOf7 hn f1 (hZ.fr fr (by decide)) (hP.fr fr (by decide)) (hA.fr fr (by decide)) hp ha hb hj, ob, ob]
    have hm2 := IsMx_add (k := j) (T := fun i => i < j + 1) hm (fun w => by omega)
    by_cases c : cst n Z po la j ≤ y
    · rw [if_pos (nI_le c (by omega))]
      rw [Nat.max_eq_left c] at hm2
      exact Ok.pure ⟨y, by rw [nI_1], hy, hm2⟩
    · rw [if_neg (fun q => c ((nI_leI (by omega) (by omega)).mp q))]
      rw [Nat.max_eq_right (by omega)] at hm2
      exact Ok.pure ⟨_, by rw [nI_1], hcb, hm2⟩
  · intro y ⟨hy, hm⟩
    simp only [m_X7_peak_L20]
    rw [f1, if_pos (nI_le (Nat.le_refl _) nn)]
    exact Ok.pure ⟨_, rfl, by rw [IsMx_uniq hm hG]⟩
  · rintro ⟨x1, x2⟩ hx
    dsimp only at hx ⊢
    rw [hx]
    exact Ok.pure rfl
