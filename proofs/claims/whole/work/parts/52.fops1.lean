/-! ===== make, give, wire, keep, nodes, ring ===== -/
def qG16 (p : Int32) : Prop := ∃ k, 1 ≤ k ∧ k ≤ 16 ∧ p = nI k
def qG39 (p : Int32) : Prop := ∃ k, 0 ≤ k ∧ k ≤ 39 ∧ p = nI k
def qG7 (p : Int32) : Prop := ∃ k, 0 ≤ k ∧ k ≤ 7 ∧ p = nI k
def qGd (o p q : Int32) : Prop := qG7 o ∧ ((o = 0 ∨ o = 7) → qG16 p) ∧ (o = 5 → qG39 p ∧ qG16 q)
theorem w16 {p : Int32} : (p < 1 ∨ 16 < p) ↔ ¬ qG16 p := w_rng (lo := 1) (hi := 16) (by decide) (by decide)
theorem w39 {p : Int32} : (p < 0 ∨ 39 < p) ↔ ¬ qG39 p := w_rng (lo := 0) (hi := 39) (by decide) (by decide)
theorem w7 {p : Int32} : (p < 0 ∨ 7 < p) ↔ ¬ qG7 p := w_rng (lo := 0) (hi := 7) (by decide) (by decide)
theorem wi {x : Int32} {m : Nat} (h : m < 2 ^ 31) (hm : 0 < m) : (m_X6_isWithin x (nI m) = 0 ∧ ¬ ∃ k, 0 ≤ k ∧ k ≤ m - 1 ∧ x = nI k) ∨ (m_X6_isWithin x (nI m) = 1 ∧ ∃ k, 0 ≤ k ∧ k ≤ m - 1 ∧ x = nI k) := by
  rw [f_isWithin h]
  by_cases c : ∃ k, k < m ∧ x = nI k
  · rw [decide_eq_true c]
    obtain ⟨k, h1, h2⟩ := c
    exact Or.inr ⟨rfl, k, by omega, by omega, h2⟩
  · rw [decide_eq_false c]
    exact Or.inl ⟨rfl, fun ⟨k, _, h1, h2⟩ => c ⟨k, by omega, h2⟩⟩
theorem f_can (o p q : Int32) : (m_X6_canBeMade o p q = 1 ∧ qGd o p q) ∨ (m_X6_canBeMade o p q = 0 ∧ ¬ qGd o p q) := by
  have h36 : (m_X6_canBeMade_B36 p = 1 ∧ qG16 p) ∨ (m_X6_canBeMade_B36 p = 0 ∧ ¬ qG16 p) := by
    unfold m_X6_canBeMade_B36
    by_cases a : p < 1
    · rw [if_pos a]; exact Or.inr ⟨rfl, w16.mp (Or.inl a)⟩
    · rw [if_neg a]
      by_cases b : 16 < p
      · rw [if_pos b]; exact Or.inr ⟨rfl, w16.mp (Or.inr b)⟩
      · rw [if_neg b]
        refine Or.inl ⟨rfl, Classical.byContradiction fun z => ?_⟩
        rcases w16.mpr z with y | y
        · exact a y
        · exact b y
  unfold m_X6_canBeMade qGd
  by_cases c0 : o = 0
  · rw [if_pos c0]
    subst c0
    rcases h36 with ⟨a, b⟩ | ⟨a, b⟩
    · exact Or.inl ⟨a, ⟨0, by omega, by omega, rfl⟩, fun _ => b, fun z => absurd z (by decide)⟩
    · exact Or.inr ⟨a, fun z => b (z.2.1 (Or.inl rfl))⟩
  · rw [if_neg c0]
    by_cases c5 : o = 5
    · rw [if_pos c5]
      subst c5
      rcases wi (x := p) (m := 40) (by decide) (by decide) with ⟨a, b⟩ | ⟨a, b⟩
      · rw [show m_X6_isWithin p 40 = 0 from a, if_pos rfl]
        exact Or.inr ⟨rfl, fun z => b (z.2.2 rfl).1⟩
      · rw [show m_X6_isWithin p 40 = 1 from a, if_neg (by decide)]
        by_cases d : q < 1
        · rw [if_pos d]; exact Or.inr ⟨rfl, fun z => w16.mp (Or.inl d) (z.2.2 rfl).2⟩
        · rw [if_neg d]
          by_cases e : 16 < q
          · rw [if_pos e]; exact Or.inr ⟨rfl, fun z => w16.mp (Or.inr e) (z.2.2 rfl).2⟩
          · rw [if_neg e]
            refine Or.inl ⟨rfl, ⟨5, by omega, by omega, rfl⟩, fun z => absurd z (by decide), fun _ => ⟨b, Classical.byContradiction fun z => ?_⟩⟩
            rcases w16.mpr z with y | y
            · exact d y
            · exact e y
    · rw [if_neg c5]
      by_cases c7 : o = 7
      · rw [if_pos c7]
        subst c7
        rcases h36 with ⟨a, b⟩ | ⟨a, b⟩
        · exact Or.inl ⟨a, ⟨7, by omega, by omega, rfl⟩, fun _ => b, fun z => absurd z (by decide)⟩
        · exact Or.inr ⟨a, fun z => b (z.2.1 (Or.inr rfl))⟩
      · rw [if_neg c7]
        rcases wi (x := o) (m := 8) (by decide) (by decide) with ⟨a, b⟩ | ⟨a, b⟩
        · exact Or.inr ⟨a, fun z => b z.1⟩
        · exact Or.inl ⟨a, b, fun z => (by rcases z with z | z; exact absurd z c0; exact absurd z c7), fun z => absurd z c5⟩
theorem f_within7 {x lo hi : Int32} : m_X7_within x lo hi = 0 ↔ (x < lo ∨ hi < x) := by
  unfold m_X7_within
  by_cases a : x < lo
  · rw [if_pos a]; exact ⟨fun _ => Or.inl a, fun _ => rfl⟩
  · rw [if_neg a]
    by_cases b : hi < x
    · rw [if_pos b]; exact ⟨fun _ => Or.inr b, fun _ => rfl⟩
    · rw [if_neg b]
      exact ⟨fun z => absurd z (by decide), fun z => by rcases z with z | z; exact absurd z a; exact absurd z b⟩
theorem f_can7 (σ : apM) (o p q : Int32) : (qGd o p q → m_X7_make σ o p q = m_X7_make_B60 (mst σ 0 0 0) o p q) ∧ (¬ qGd o p q → m_X7_make σ o p q = m_X7_make_B64 (mst σ 0 0 0) o p q) := by
  have w1 : m_X7_within o 0 7 = 0 ↔ ¬ qG7 o := f_within7.trans w7
  have w2 : m_X7_within p 1 16 = 0 ↔ ¬ qG16 p := f_within7.trans w16
  have w3 : m_X7_within p 0 39 = 0 ↔ ¬ qG39 p := f_within7.trans w39
  have w4 : m_X7_within q 1 16 = 0 ↔ ¬ qG16 q := f_within7.trans w16
  have h35 : ∀ s, ((o = 5 → qG39 p ∧ qG16 q) → m_X7_make_B35 s o p q = m_X7_make_B60 s o p q) ∧ (¬ (o = 5 → qG39 p ∧ qG16 q) → m_X7_make_B35 s o p q = m_X7_make_B64 s o p q) := by
    intro s
    unfold m_X7_make_B35
    by_cases c : o = 5
    · rw [if_pos c]
      by_cases a : qG39 p
      · rw [if_neg (fun z => w3.mp z a)]
        by_cases b : qG16 q
        · rw [if_neg (fun z => w4.mp z b)]
          exact ⟨fun _ => rfl, fun z => absurd (fun _ => ⟨a, b⟩) z⟩
        · rw [if_pos (w4.mpr b)]
          exact ⟨fun z => absurd (z c).2 b, fun _ => rfl⟩
      · rw [if_pos (w3.mpr a)]
        exact ⟨fun z => absurd (z c).1 a, fun _ => rfl⟩
    · rw [if_neg c]
      exact ⟨fun _ => rfl, fun z => absurd (fun y => absurd y c) z⟩
  unfold m_X7_make qGd
  by_cases a : qG7 o
  · rw [if_neg (fun z => w1.mp z a)]
    have h25 : (o = 0 ∨ o = 7) → (qG7 o ∧ ((o = 0 ∨ o = 7) → qG16 p) ∧ (o = 5 → qG39 p ∧ qG16 q) → m_X7_make_B25 (mst σ 0 0 0) o p q = m_X7_make_B60 (mst σ 0 0 0) o p q) ∧ (¬ (qG7 o ∧ ((o = 0 ∨ o = 7) → qG16 p) ∧ (o = 5 → qG39 p ∧ qG16 q)) → m_X7_make_B25 (mst σ 0 0 0) o p q = m_X7_make_B64 (mst σ 0 0 0) o p q) := by
      intro c
      unfold m_X7_make_B25
      by_cases b : qG16 p
      · rw [if_neg (fun z => w2.mp z b)]
        exact ⟨fun z => (h35 _).1 z.2.2, fun z => (h35 _).2 (fun y => z ⟨a, fun _ => b, y⟩)⟩
      · rw [if_pos (w2.mpr b)]
        exact ⟨fun z => absurd (z.2.1 c) b, fun _ => rfl⟩
    by_cases c0 : o = 0
    · rw [if_pos c0]; exact h25 (Or.inl c0)
    · rw [if_neg c0]
      by_cases c7 : o = 7
      · rw [if_pos c7]; exact h25 (Or.inr c7)
      · rw [if_neg c7]
        have hn : (o = 0 ∨ o = 7) → qG16 p := fun z => by rcases z with z | z; exact absurd z c0; exact absurd z c7
        exact ⟨fun z => (h35 _).1 z.2.2, fun z => (h35 _).2 (fun y => z ⟨a, hn, y⟩)⟩
  · rw [if_pos (w1.mpr a)]
    exact ⟨fun z => absurd z.1 a, fun _ => rfl⟩
theorem qIN.thrown {σC σM : apM} {x : Int32} (h : qIN σC σM) : qIN σC (mst σM 0 0 x) := by
  obtain ⟨n, src, op, pn, qn, ke, gv, h1, h2, h3, h4, h5, h6⟩ := h
  have f : Fr [0] σM (mst σM 0 0 x) := Fr.mst (by decide)
  exact ⟨n, src, op, pn, qn, ke, gv, h1, h2, h3, h4, h5.fr f (mst_ni (by decide)) (by decide), h6.fr (Fr.rf (ks := [])) f (fun _ _ => rfl) (fun j hj => mst_ni (by omega)) (by decide) (by decide)⟩
theorem mfl_ap {σ : apM} {k : Nat} {v : Int32} (n k' i : Nat) : mfl σ k v n k' i = if k' = k ∧ i < n then v else σ k' i := by
  by_cases c : k' = k
  · subst c; rw [mfl_at]; simp
  · rw [mfl_k c]; simp [c]
theorem qThr_v {cd : List (String × Int32)} {r : Int32} {sC sM : apM} (h0 : sM 0 0 = 0) (h : qIN sC sM) : qThr cd (some (.inr (r, sC))) (some (r, sM)) := ⟨_, _, rfl, rfl, h0, rfl, h⟩
theorem qThr_x {cd : List (String × Int32)} {c : String} {x r : Int32} {sC sM : apM} (hm : sM 0 0 = x) (hc : (c, x) ∈ cd) (h : qIN sC sM) : qThr cd (some (.inl (c, sC))) (some (r, sM)) := ⟨_, _, rfl, rfl, (by rw [← hm] at hc; exact hc), h⟩
theorem qNo_v {r : Int32} {sC sM : apM} (h : qIN sC sM) : qNo (some (r, sC)) (some (r, sM)) := ⟨_, _, rfl, rfl, rfl, h⟩
theorem q_make {σC σM : apM} (h : qIN σC σM) (o p q : Int32) : qThr [("java/lang/IllegalArgumentException", 1), ("java/lang/UnsupportedOperationException", 2)] (m_X6_make σC o p q) (m_X7_make σM o p q) := by
  have hth := fun x => (h.thrown (x := 0)).thrown (x := x)
  obtain ⟨n, src, op, pn, qn, ke, gv, gs, gw, pb, bc, bm, pl⟩ := h
  have hn := gs.1
  obtain ⟨c1, c2, c3, c4, c5, c6, c7⟩ := bc
  obtain ⟨m1, m2, m3, m4, m5⟩ := bm
  have g01 : mst σM 0 0 0 0 1 = nI n := by rw [mst_ni (by decide)]; exact m1.1
  unfold m_X6_make
  rcases f_can o p q with ⟨a, hg⟩ | ⟨a, hg⟩
  · rw [a, if_neg (by decide), (f_can7 σM o p q).1 hg]
    unfold m_X7_make_B60 m_X7_make_B65
    rw [c1.1, g01, if_neg (show ¬ (1 : Int32) = 0 by decide)]
    by_cases cn : n = 12
    · subst cn
      rw [if_pos (show nI 12 = 12 from rfl), if_pos (show nI 12 = 12 from rfl)]
      unfold m_X7_make_B81 m_X7_make_B92
      rw [if_neg (by decide)]
      exact qThr_x (x := 2) (sM := mst (mst σM 0 0 0) 0 0 2) mst_at (by simp) (hth 2)
    · have hn2 : n < 12 := by omega
      have nn : n < 2 ^ 31 := by omega
      have cne : ¬ nI n = (12 : Int32) := fun z => cn ((nI_eq (b := 12) (by omega) (by decide)).mp z)
      rw [if_neg cne, if_neg cne]
      obtain ⟨ho, hp16, hq5⟩ := hg
      obtain ⟨k, -, hk7, rfl⟩ := ho
      -- the class
      have hC : m_X1_add (m_X6_forgetPlan σC) (nI k) p q = some (nI n, mst (mfl (mst (mst (mst (mst σC 0 6 0) 7 n (nI k)) 8 n p) 9 n q) (41 + n) (-1) 2) 1 6 (nI (n + 1))) := by
        unfold m_X1_add m_X6_forgetPlan
        have e : mst σC 0 6 0 1 6 = nI n := by rw [mst_k (by decide)]; exact c1.1
        rw [e, ast_nI hn2 (by decide), ob, ast_nI hn2 (by decide), ob, ast_nI hn2 (by decide), ob, rix_nI hn2 (by decide), ob]
        rw [show mfl (mst (mst (mst (mst σC 0 6 0) 7 n (nI k)) 8 n p) 9 n q) (41 + n) (-1) 2 1 6 = nI n by rw [mfl_k (by omega), mst_k (by decide), mst_k (by decide), mst_k (by decide)]; exact e, nI_1]
      rw [hC, ob]
      -- the model
      have hM : Ok (lp FU m_X7_make_L165 (mst (mst (mst (mst (mst (mst (mst σM 0 0 0) 1 n (nI k)) 2 n p) 3 n q) 4 (2 * n) (-1)) 4 (2 * n + 1) (-1)) 5 n 0, 0)) (fun x => Fr [6] (mst (mst (mst (mst (mst (mst (mst σM 0 0 0) 1 n (nI k)) 2 n p) 3 n q) 4 (2 * n) (-1)) 4 (2 * n + 1) (-1)) 5 n 0) x.1 ∧ (∀ i, i < 16 → x.1 6 (16 * n + i) = 0) ∧ ∀ c, c < 16 * n → x.1 6 c = σM 6 c) := by
        have s01 : (mst (mst (mst (mst (mst (mst (mst σM 0 0 0) 1 n (nI k)) 2 n p) 3 n q) 4 (2 * n) (-1)) 4 (2 * n + 1) (-1)) 5 n 0) 0 1 = nI n := by
          rw [mst_k (by decide), mst_k (by decide), mst_k (by decide), mst_k (by decide), mst_k (by decide), mst_k (by decide)]; exact g01
        refine lp_for0 (fun i (t : apM) => (t, nI i)) (fun i t => Fr [6] (mst (mst (mst (mst (mst (mst (mst σM 0 0 0) 1 n (nI k)) 2 n p) 3 n q) 4 (2 * n) (-1)) 4 (2 * n + 1) (-1)) 5 n 0) t ∧ (∀ j, j < i → t 6 (16 * n + j) = 0) ∧ ∀ c, c < 16 * n → t 6 c = σM 6 c) 16 (FU_big (by omega)) ?_ ?_ _ ⟨Fr.rf, fun j hj => by omega, fun c hc => by rw [mst_k (by decide), mst_k (by decide), mst_k (by decide), mst_k (by decide), mst_k (by decide), mst_k (by decide), mst_k (by decide)]⟩
        · intro i t hi ⟨hf, g1, g2⟩
          simp only [m_X7_make_L165]
          rw [if_neg (show ¬ (16 : Int32) ≤ nI i from nI_ge (b := 16) hi (by decide)), hf 0 (by decide), s01, l16, nI_add, ast_nI (by omega) (by decide), ob]
          refine Ok.pure ⟨_, by rw [nI_1], hf.tr (Fr.mst (by decide)), fun j hj => ?_, fun c hc => ?_⟩
          · by_cases z : j = i
            · subst z; exact mst_at
            · rw [mst_ni (by omega)]; exact g1 j (by omega)
          · rw [mst_ni (by omega)]; exact g2 c hc
        · intro t hJ
          simp only [m_X7_make_L165]
          rw [if_pos (show (16 : Int32) ≤ nI 16 by decide)]
          exact Ok.pure ⟨_, rfl, hJ⟩
      obtain ⟨⟨t, v5⟩, et, hft, gt1, gt2⟩ := hM
      dsimp only at hft gt1 gt2
      have e01 : ∀ s : apM, s 0 1 = nI n → s 0 1 = nI n := fun _ z => z
      have a1 : (mst (mst σM 0 0 0) 1 n (nI k)) 0 1 = nI n := by rw [mst_k (by decide)]; exact g01
      have a2 : (mst (mst (mst σM 0 0 0) 1 n (nI k)) 2 n p) 0 1 = nI n := by rw [mst_k (by decide)]; exact a1
      have a3 : (mst (mst (mst (mst σM 0 0 0) 1 n (nI k)) 2 n p) 3 n q) 0 1 = nI n := by rw [mst_k (by decide)]; exact a2
      have a4 : (mst (mst (mst (mst (mst σM 0 0 0) 1 n (nI k)) 2 n p) 3 n q) 4 (2 * n) (-1)) 0 1 = nI n := by rw [mst_k (by decide)]; exact a3
      have a5 : (mst (mst (mst (mst (mst (mst σM 0 0 0) 1 n (nI k)) 2 n p) 3 n q) 4 (2 * n) (-1)) 4 (2 * n + 1) (-1)) 0 1 = nI n := by rw [mst_k (by decide)]; exact a4
      rw [ast_nI hn2 (by decide), ob, a1, ast_nI hn2 (by decide), ob, a2, ast_nI hn2 (by decide), ob, a3, l2, ast_nI (by omega) (by decide), ob, a4, l2, nI_1, ast_nI (by omega) (by decide), ob, a5, ast_nI hn2 (by decide), ob, show vp_nar .boolean 0 = (0 : Int32) from rfl, et, ob]
      dsimp only
      have t0 : t 0 = mst σM 0 0 0 0 := by
        rw [hft 0 (by decide), mst_k (by decide), mst_k (by decide), mst_k (by decide), mst_k (by decide), mst_k (by decide), mst_k (by decide)]
      have t01 : t 0 1 = nI n := by rw [t0]; exact g01
      have u01 : mst (mst t 0 1 (t 0 1 + 1)) 0 11 0 0 1 = nI (n + 1) := by rw [mst_ni (by decide), mst_at, t01, nI_1]
      rw [u01, show (nI (n + 1) - 1 : Int32) = nI n from pk_sub (a := n + 1) (b := 1) (by omega)]
      -- what is read behind it
      generalize hsC : mst (mfl (mst (mst (mst (mst σC 0 6 0) 7 n (nI k)) 8 n p) 9 n q) (41 + n) (-1) 2) 1 6 (nI (n + 1)) = sC
      generalize hsM : mst (mst t 0 1 (t 0 1 + 1)) 0 11 0 = sM at u01
      have x1 : sC 1 6 = nI (n + 1) := by rw [← hsC]; exact mst_at
      have x06 : sC 0 6 = 0 := by rw [← hsC]; simp [mst_ap, mfl_ap, show ¬ 0 = 41 + n by omega]
      have x7 : ∀ v, sC 7 v = if v = n then nI k else σC 7 v := fun v => by rw [← hsC]; simp [mst_ap, mfl_ap, show ¬ 7 = 41 + n by omega]
      have x8 : ∀ v, sC 8 v = if v = n then p else σC 8 v := fun v => by rw [← hsC]; simp [mst_ap, mfl_ap, show ¬ 8 = 41 + n by omega]
      have x9 : ∀ v, sC 9 v = if v = n then q else σC 9 v := fun v => by rw [← hsC]; simp [mst_ap, mfl_ap, show ¬ 9 = 41 + n by omega]
      have x12 : ∀ v, sC 12 v = σC 12 v := fun v => by rw [← hsC]; simp [mst_ap, mfl_ap, show ¬ 12 = 41 + n by omega]
      have x29 : ∀ v, v < 12 → ∀ i, sC (29 + v) i = σC (29 + v) i := fun v hv i => by rw [← hsC]; simp [mst_ap, mfl_ap, show ¬ 29 + v = 41 + n by omega, show ¬ 29 + v = 1 by omega, show ¬ 29 + v = 7 by omega, show ¬ 29 + v = 8 by omega, show ¬ 29 + v = 9 by omega, show ¬ 29 + v = 0 by omega]
      have x41 : ∀ v i, i < 2 → sC (41 + v) i = if v = n then -1 else σC (41 + v) i := fun v i hi => by
        rw [← hsC]
        by_cases z : v = n
        · subst z; simp [mst_ap, mfl_ap, show ¬ 41 + v = 1 by omega, hi]
        · simp [mst_ap, mfl_ap, z, show ¬ 41 + v = 41 + n by omega, show ¬ 41 + v = 1 by omega, show ¬ 41 + v = 7 by omega, show ¬ 41 + v = 8 by omega, show ¬ 41 + v = 9 by omega, show ¬ 41 + v = 0 by omega]
      have y00 : sM 0 0 = 0 := by rw [← hsM, mst_ni (by decide), mst_ni (by decide), t0, mst_at]
      have y11 : sM 0 11 = 0 := by rw [← hsM]; exact mst_at
      have ysm : ∀ j, j ≠ 0 → sM j = t j := fun j hj => by rw [← hsM, mst_k hj, mst_k hj]
      have y1 : ∀ v, sM 1 v = if v = n then nI k else σM 1 v := fun v => by rw [ysm 1 (by decide), hft 1 (by decide)]; simp [mst_ap]
      have y2 : ∀ v, sM 2 v = if v = n then p else σM 2 v := fun v => by rw [ysm 2 (by decide), hft 2 (by decide)]; simp [mst_ap]
      have y3 : ∀ v, sM 3 v = if v = n then q else σM 3 v := fun v => by rw [ysm 3 (by decide), hft 3 (by decide)]; simp [mst_ap]
      have y5 : ∀ v, sM 5 v = if v = n then 0 else σM 5 v := fun v => by rw [ysm 5 (by decide), hft 5 (by decide)]; simp [mst_ap]
      have y4 : ∀ v i, i < 2 → sM 4 (2 * v + i) = if v = n then -1 else σM 4 (2 * v + i) := fun v i hi => by
        rw [ysm 4 (by decide), hft 4 (by decide)]
        by_cases z : v = n
        · subst z
          rcases (show i = 0 ∨ i = 1 by omega) with rfl | rfl
          · simp [mst_ap]
          · simp [mst_ap]
        · simp [mst_ap, z, show ¬ 2 * v + i = 2 * n + 1 by omega, show ¬ 2 * v + i = 2 * n by omega]
      have y6 : ∀ c, sM 6 c = t 6 c := fun c => by rw [ysm 6 (by decide)]
      have p16 : (k = 0 ∨ k = 7) → ∃ j, 1 ≤ j ∧ j ≤ 16 ∧ p = nI j := fun y => hp16 (by rcases y with y | y; exact Or.inl (by rw [y]; rfl); exact Or.inr (by rw [y]; rfl))
      have p5 : k = 5 → (∃ j, 0 ≤ j ∧ j ≤ 39 ∧ p = nI j) ∧ ∃ j, 1 ≤ j ∧ j ≤ 16 ∧ q = nI j := fun y => hq5 (by rw [y]; rfl)
      have pv : (k = 0 ∨ k = 5 ∨ k = 7) → p = nI p.toInt.toNat := fun y => by
        rcases y with y | y | y
        · obtain ⟨j, j1, j2, rfl⟩ := p16 (Or.inl y); rw [nI_toInt (by omega)]; rfl
        · obtain ⟨⟨j, j1, j2, rfl⟩, _⟩ := p5 y; rw [nI_toInt (by omega)]; rfl
        · obtain ⟨j, j1, j2, rfl⟩ := p16 (Or.inr y); rw [nI_toInt (by omega)]; rfl
      have qv : k = 5 → q = nI q.toInt.toNat := fun y => by
        obtain ⟨_, ⟨j, j1, j2, rfl⟩⟩ := p5 y; rw [nI_toInt (by omega)]; rfl
      refine qThr_v y00 ⟨n + 1, fun v i => if v = n then none else src v i, upN op n k, upN pn n p.toInt.toNat, upN qn n q.toInt.toNat, upN ke n false, upN gv n (fun _ => 0), ⟨by omega, fun v i u e => ?_⟩, fun v hv => ?_, fun v hv => ?_, ⟨⟨x1, fun v hv => ?_⟩, fun v hv => ?_, fun v hv => ?_, fun v hv => ?_, fun v hv i hi => ?_, fun v h1 h2 => ?_, fun v h1 h2 i hi => ?_⟩, ⟨⟨u01, fun v hv => ?_⟩, fun v hv => ?_, fun v hv => ?_, fun v hv => ?_, fun v hv i hi => ?_⟩, Or.inl ⟨x06, y11⟩⟩
      · by_cases z : v = n
        · simp only [z, if_true] at e; cases e
        · simp only [z, if_false] at e; have := gs.2 _ _ _ e; omega
      · unfold upN
        by_cases z : v = n
        · rw [if_pos z]; exact ⟨hk7, fun i _ => if_pos z⟩
        · rw [if_neg z]
          refine ⟨(gw v (by omega)).1, fun i hi => ?_⟩
          show (if v = n then none else src v i) = none
          rw [if_neg z]; exact (gw v (by omega)).2 i hi
      · unfold upN
        by_cases z : v = n
        · simp only [z, if_true]
          refine ⟨fun y => ?_, fun y => ?_⟩
          · obtain ⟨j, j1, j2, rfl⟩ := p16 y
            rw [nI_toInt (by omega)]
            omega
          · obtain ⟨⟨j, j1, j2, rfl⟩, ⟨j3, j4, j5, rfl⟩⟩ := p5 y
            rw [nI_toInt (by omega), nI_toInt (by omega)]
            omega
        · simp only [z, if_false]; exact pb v (by omega)
      · show sC (41 + v) 0 = eo (if v = n then none else src v 0) ∧ sC (41 + v) 1 = eo (if v = n then none else src v 1)
        rw [x41 v 0 (by omega), x41 v 1 (by omega)]
        by_cases z : v = n
        · simp only [z, if_true]; exact ⟨rfl, rfl⟩
        · simp only [z, if_false]; exact c1.2 v (by omega)
      · rw [x7]
        unfold upN
        by_cases z : v = n
        · simp only [z, if_true]
        · simp only [z, if_false]; exact c2 v (by omega)
      · rw [x8, x9]
        unfold upN
        by_cases z : v = n
        · simp only [z, if_true]; exact ⟨pv, qv⟩
        · simp only [z, if_false]; exact c3 v (by omega)
      · rw [x12]
        unfold upN
        by_cases z : v = n
        · simp only [z, if_true]; exact c6 n (Nat.le_refl _) hn2
        · simp only [z, if_false]; exact c4 v (by omega)
      · rw [x29 v (by omega)]
        unfold upN
        by_cases z : v = n
        · simp only [z, if_true]; exact c7 n (Nat.le_refl _) hn2 i hi
        · simp only [z, if_false]; exact c5 v (by omega) i hi
      · rw [x12]; exact c6 v (by omega) h2
      · rw [x29 v h2]; exact c7 v (by omega) h2 i hi
      · show sM 4 (2 * v) = eo (if v = n then none else src v 0) ∧ sM 4 (2 * v + 1) = eo (if v = n then none else src v 1)
        rw [show sM 4 (2 * v) = _ from y4 v 0 (by omega), y4 v 1 (by omega)]
        by_cases z : v = n
        · simp only [z, if_true]; exact ⟨rfl, rfl⟩
        · simp only [z, if_false]; exact m1.2 v (by omega)
      · rw [y1]
        unfold upN
        by_cases z : v = n
        · simp only [z, if_true]
        · simp only [z, if_false]; exact m2 v (by omega)
      · rw [y2, y3]
        unfold upN
        by_cases z : v = n
        · simp only [z, if_true]; exact ⟨pv, qv⟩
        · simp only [z, if_false]; exact m3 v (by omega)
      · rw [y5]
        unfold upN
        by_cases z : v = n
        · simp only [z, if_true]; rfl
        · simp only [z, if_false]; exact m4 v (by omega)
      · rw [y6]
        unfold upN
        by_cases z : v = n
        · simp only [z, if_true]; exact gt1 i hi
        · simp only [z, if_false]; rw [gt2 _ (by omega)]; exact m5 v (by omega) i hi
  · rw [a, if_pos rfl, (f_can7 σM o p q).2 hg]
    unfold m_X7_make_B64 m_X7_make_B65 m_X7_make_B81 m_X7_make_B92
    rw [if_pos rfl, if_pos rfl]
    exact qThr_x (x := 1) (sM := mst (mst σM 0 0 0) 0 0 1) mst_at (by simp) (hth 1)
