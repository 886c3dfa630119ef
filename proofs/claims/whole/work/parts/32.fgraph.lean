/-! ===== the graph in the cells of the class and of the model; reach ===== -/
theorem ob {α β : Type} (a : α) (f : α → Option β) : Option.bind (some a) f = f a := rfl
theorem e_ald {β : Type} {σ : apM} {k n i : Nat} {f : Int32 → Option β} (h : i < n) (hn : n < 2 ^ 31) : Option.bind (ald σ k n (nI i)) f = f (σ k i) := by rw [ald_nI h hn]; rfl
theorem e_ald0 {β : Type} {σ : apM} {k n : Nat} {f : Int32 → Option β} (h : 0 < n) (hn : n < 2 ^ 31) : Option.bind (ald σ k n 0) f = f (σ k 0) := e_ald (i := 0) h hn
theorem e_ald1 {β : Type} {σ : apM} {k n : Nat} {f : Int32 → Option β} (h : 1 < n) (hn : n < 2 ^ 31) : Option.bind (ald σ k n 1) f = f (σ k 1) := e_ald (i := 1) h hn
theorem e_ast {β : Type} {σ : apM} {k n i : Nat} {v : Int32} {f : apM → Option β} (h : i < n) (hn : n < 2 ^ 31) : Option.bind (ast σ k n (nI i) v) f = f (mst σ k i v) := by rw [ast_nI h hn]; rfl
theorem e_rix {β : Type} {n i : Nat} {f : Nat → Option β} (h : i < n) (hn : n < 2 ^ 31) : Option.bind (rix n (nI i)) f = f i := by rw [rix_nI h hn]; rfl
/-- n nodes, at most twelve; the sources are nodes -/
def GS (n : Nat) (src : Nat → Nat → Option Nat) : Prop := n ≤ 12 ∧ ∀ v i u, src v i = some u → u < n
def GC (σ : apM) (n : Nat) (src : Nat → Nat → Option Nat) : Prop := σ 1 6 = nI n ∧ ∀ v, v < n → σ (41 + v) 0 = eo (src v 0) ∧ σ (41 + v) 1 = eo (src v 1)
def GM (σ : apM) (n : Nat) (src : Nat → Nat → Option Nat) : Prop := σ 0 1 = nI n ∧ ∀ v, v < n → σ 4 (2 * v) = eo (src v 0) ∧ σ 4 (2 * v + 1) = eo (src v 1)
theorem GC.fr {ks : List Nat} {σ σ' : apM} {n : Nat} {src : Nat → Nat → Option Nat} (h : GC σ n src) (hn : n ≤ 12) (hf : Fr ks σ σ') (h1 : 1 ∉ ks) (h2 : ∀ v, v < 12 → 41 + v ∉ ks) : GC σ' n src := by
  refine ⟨by rw [hf 1 h1]; exact h.1, fun v hv => ?_⟩
  rw [hf _ (h2 v (by omega))]
  exact h.2 v hv
def ed (src : Nat → Nat → Option Nat) (v u : Nat) : Bool := decide (src v 0 = some u) || decide (src v 1 = some u)
theorem ed_lt {n : Nat} {src : Nat → Nat → Option Nat} (h : GS n src) {v u : Nat} (e : ed src v u = true) : u < n := by
  unfold ed at e
  simp only [Bool.or_eq_true, decide_eq_true_eq] at e
  rcases e with e | e
  · exact h.2 _ _ _ e
  · exact h.2 _ _ _ e
theorem f_dependencies {σ : apM} {n v : Nat} {src : Nat → Nat → Option Nat} (h : GS n src) (hC : GC σ n src) (hv : v < n) : Ok (m_X1_dependencies σ (nI v)) (fun x => isS x (ed src v)) := by
  have hn := h.1
  unfold m_X1_dependencies
  simp (disch := omega) only [e_rix, e_ald0, e_ald1]
  rw [(hC.2 v hv).1, (hC.2 v hv).2]
  refine Ok.pure (isS_cg (isS_or (f_setOf_eo fun u e => by have := h.2 _ _ _ e; omega) (f_setOf_eo fun u e => by have := h.2 _ _ _ e; omega)) (fun i _ => rfl))
/-- what can be come to, through nodes below k alone -/
def Tr (src : Nat → Nat → Option Nat) : Nat → Nat → Nat → Bool
  | 0, v, u => ed src v u
  | k + 1, v, u => Tr src k v u || (Tr src k v k && Tr src k k u)
theorem f_findReach {σ : apM} {n : Nat} {src : Nat → Nat → Option Nat} (h : GS n src) (hC : GC σ n src) : Ok (m_X5_findReach σ) (fun σ' => Fr [13] σ σ' ∧ ∀ v, v < n → isS (σ' 13 v) (Tr src n v)) := by
  have hn := h.1
  have nn : n < 2 ^ 31 := by omega
  unfold m_X5_findReach
  refine Ok.bind (P := fun x => Fr [13] σ x.1 ∧ ∀ v, v < n → isS (x.1 13 v) (ed src v)) (lp_for0 (fun k (t : apM) => (t, nI k)) (fun k t => Fr [13] σ t ∧ ∀ v, v < k → isS (t 13 v) (ed src v)) n (FU_big (by omega)) ?_ ?_ σ ⟨Fr.rf, fun v hv => by omega⟩) ?_
  · intro k t hk ⟨hf, hJ⟩
    have hCt := hC.fr hn hf (by decide) (by decide)
    simp only [m_X5_findReach_L2]
    rw [hCt.1, if_neg (nI_ge hk nn)]
    refine Ok.bind (f_dependencies h hCt hk) (fun x hx => ?_)
    simp (disch := omega) only [e_ast]
    refine Ok.pure ⟨mst t 13 k x, by rw [nI_1], hf.tr (Fr.mst (by decide)), fun v hv => ?_⟩
    rw [mst_ap]
    by_cases e : v = k
    · subst e; simpa using hx
    · simpa [e] using hJ v (by omega)
  · intro t ⟨hf, hJ⟩
    have hCt := hC.fr hn hf (by decide) (by decide)
    simp only [m_X5_findReach_L2]
    rw [hCt.1, if_pos (nI_le (Nat.le_refl _) nn)]
    exact Ok.pure ⟨_, rfl, hf, hJ⟩
  · rintro ⟨s1, v1⟩ ⟨hf1, hS1⟩
    dsimp only at hf1 hS1 ⊢
    refine Ok.bind (P := fun x => Fr [13] σ x.1 ∧ ∀ v, v < n → isS (x.1 13 v) (Tr src n v)) (lp_for0 (fun k (t : apM) => (t, nI k)) (fun k t => Fr [13] σ t ∧ ∀ v, v < n → isS (t 13 v) (Tr src k v)) n (FU_big (by omega)) ?_ ?_ s1 ⟨hf1, hS1⟩) ?_
    · intro k t hk ⟨hf, hJ⟩
      have hCt := hC.fr hn hf (by decide) (by decide)
      simp only [m_X5_findReach_L35]
      rw [hCt.1, if_neg (nI_ge hk nn)]
      refine Ok.bind (P := fun x => Fr [13] σ x.1 ∧ ∀ v, v < n → isS (x.1 13 v) (Tr src (k + 1) v)) (lp_for0 (fun j (t : apM) => (t, nI j)) (fun j t => Fr [13] σ t ∧ ∀ v, v < n → isS (t 13 v) (if v < j then Tr src (k + 1) v else Tr src k v)) n (FU_big (by omega)) ?_ ?_ t ⟨hf, fun v hv => by simpa using hJ v hv⟩) ?_
      · intro j u hj ⟨hfu, hJu⟩
        have hCu := hC.fr hn hfu (by decide) (by decide)
        simp only [m_X5_findReach_L48]
        rw [hCu.1, if_neg (nI_ge hj nn)]
        simp (disch := omega) only [e_ald]
        have hj0 := hJu j hj
        rw [if_neg (Nat.lt_irrefl j)] at hj0
        rw [f_contains hj0 (show k < 32 by omega)]
        have hkk : isS (u 13 k) (Tr src k k) := by
          have h9 := hJu k hk
          split at h9
          · refine isS_cg h9 (fun i _ => ?_)
            show (Tr src k k i || (Tr src k k k && Tr src k k i)) = Tr src k k i
            cases Tr src k k i <;> simp
          · exact h9
        by_cases hc : Tr src k j k = false
        · rw [hc, if_pos (by rfl)]
          refine Ok.pure ⟨u, by rw [nI_1], hfu, fun v hv => ?_⟩
          have h9 := hJu v hv
          by_cases e : v = j
          · subst e
            rw [if_pos (Nat.lt_succ_self _)]
            rw [if_neg (Nat.lt_irrefl _)] at h9
            refine isS_cg h9 (fun i _ => ?_)
            show _ = (Tr src k v i || (Tr src k v k && Tr src k k i))
            rw [hc]; simp
          · by_cases e2 : v < j
            · rw [if_pos e2] at h9
              rw [if_pos (by omega)]; exact h9
            · rw [if_neg e2] at h9
              rw [if_neg (by omega)]; exact h9
        · have hc : Tr src k j k = true := by simpa using hc
          rw [hc, if_neg (by decide)]
          simp (disch := omega) only [e_ald, e_ast]
          refine Ok.pure ⟨_, by rw [nI_1], hfu.tr (Fr.mst (by decide)), fun v hv => ?_⟩
          rw [mst_ap]
          by_cases e : v = j
          · subst e
            rw [if_pos (by simp), if_pos (Nat.lt_succ_self _)]
            refine isS_cg (isS_or hj0 hkk) (fun i _ => ?_)
            show _ = (Tr src k v i || (Tr src k v k && Tr src k k i))
            rw [hc]; simp
          · rw [if_neg (by simp [e])]
            have h9 := hJu v hv
            by_cases e2 : v < j
            · rw [if_pos e2] at h9
              rw [if_pos (by omega)]; exact h9
            · rw [if_neg e2] at h9
              rw [if_neg (by omega)]; exact h9
      · intro u ⟨hfu, hJu⟩
        have hCu := hC.fr hn hfu (by decide) (by decide)
        simp only [m_X5_findReach_L48]
        rw [hCu.1, if_pos (nI_le (Nat.le_refl _) nn)]
        refine Ok.pure ⟨_, rfl, hfu, fun v hv => ?_⟩
        have h9 := hJu v hv
        rw [if_pos hv] at h9
        exact h9
      · rintro ⟨s2, v2⟩ ⟨hf2, hS2⟩
        dsimp only at hf2 hS2 ⊢
        exact Ok.pure ⟨s2, by rw [nI_1], hf2, hS2⟩
    · intro t ⟨hf, hJ⟩
      have hCt := hC.fr hn hf (by decide) (by decide)
      simp only [m_X5_findReach_L35]
      rw [hCt.1, if_pos (nI_le (Nat.le_refl _) nn)]
      exact Ok.pure ⟨_, rfl, hf, hJ⟩
    · rintro ⟨s2, v2⟩ ⟨hf2, hS2⟩
      exact Ok.pure ⟨hf2, hS2⟩
