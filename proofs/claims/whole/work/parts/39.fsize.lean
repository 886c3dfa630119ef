/-! ===== neighbours, sizes and labels ===== -/
theorem f_findNeighbours {σ : apM} {n : Nat} {src : Nat → Nat → Option Nat} (h : GS n src) (hC : GC σ n src) : Ok (m_X4_findNeighbours σ) (fun σ' => Fr [16, 17] σ σ' ∧ (∀ v, v < n → isS (σ' 16 v) (ed src v)) ∧ ∀ u, u < n → isS (σ' 17 u) (fun v => decide (v < n) && ed src v u)) := by
  have hn := h.1
  have nn : n < 2 ^ 31 := by omega
  unfold m_X4_findNeighbours
  refine Ok.bind (P := fun x => Fr [16, 17] σ x.1 ∧ (∀ v, v < n → isS (x.1 16 v) (ed src v)) ∧ ∀ u, u < n → isS (x.1 17 u) (fun v => decide (v < n) && ed src v u)) (lp_for0 (fun k (t : apM) => (t, nI k)) (fun k t => Fr [16, 17] σ t ∧ (∀ v, v < k → isS (t 16 v) (ed src v)) ∧ ∀ u, u < n → isS (t 17 u) (fun v => decide (v < k) && ed src v u)) n (FU_big (by omega)) ?_ ?_ _ ⟨Fr.mfl (by decide), fun v hv => by omega, fun u hu => ?_⟩) ?_
  · intro k t hk ⟨hf, h1, h2⟩
    have hCt := hC.fr hn hf (by decide) (by decide)
    simp only [m_X4_findNeighbours_L10]
    rw [hCt.1, if_neg (nI_ge hk nn)]
    refine Ok.bind (f_dependencies h hCt hk) (fun x hx => ?_)
    simp (disch := omega) only [e_ast]
    have hf1 : Fr [16, 17] σ (mst t 16 k x) := hf.tr (Fr.mst (by decide))
    have h11 : ∀ v, v < k + 1 → isS (mst t 16 k x 16 v) (ed src v) := fun v hv => by
      rw [mst_ap]
      by_cases e : v = k
      · subst e; simpa using hx
      · simp only [e, and_false, if_false]; exact h1 v (by omega)
    refine Ok.bind (P := fun x => Fr [16, 17] σ x.1 ∧ (∀ v, v < k + 1 → isS (x.1 16 v) (ed src v)) ∧ ∀ u, u < n → isS (x.1 17 u) (fun v => decide (v < k + 1) && ed src v u)) (lp_for0 (fun j (t : apM) => (t, nI j)) (fun j t => Fr [16, 17] σ t ∧ (∀ v, v < k + 1 → isS (t 16 v) (ed src v)) ∧ ∀ u, u < n → isS (t 17 u) (fun v => decide (v < if u < j then k + 1 else k) && ed src v u)) n (FU_big (by omega)) ?_ ?_ _ ⟨hf1, h11, fun u hu => by rw [mst_k (by decide)]; simpa using h2 u hu⟩) ?_
    · intro j t hj ⟨hf, h1, h2⟩
      have hCt := hC.fr hn hf (by decide) (by decide)
      simp only [m_X4_findNeighbours_L37]
      rw [hCt.1, if_neg (nI_ge hj nn)]
      simp (disch := omega) only [e_ald]
      rw [f_contains (h1 k (Nat.lt_succ_self _)) (show j < 32 by omega)]
      have h2j := h2 j hj
      rw [if_neg (Nat.lt_irrefl _)] at h2j
      by_cases c : ed src k j = false
      · rw [c, if_pos (show bI false = 0 from rfl)]
        refine Ok.pure ⟨t, by rw [nI_1], hf, h1, fun u hu => ?_⟩
        by_cases e : u = j
        · subst e
          rw [if_pos (Nat.lt_succ_self _)]
          refine isS_cg h2j (fun i _ => ?_)
          by_cases d : i = k
          · subst d; simp [c]
          · simp [show (i < k + 1) = (i < k) from propext ⟨fun _ => by omega, fun _ => by omega⟩]
        · have := h2 u hu
          by_cases d : u < j
          · rw [if_pos d] at this; rw [if_pos (by omega)]; exact this
          · rw [if_neg d] at this; rw [if_neg (by omega)]; exact this
      · have c : ed src k j = true := by simpa using c
        rw [c, if_neg (show ¬ bI true = 0 by decide)]
        simp (disch := omega) only [e_ast]
        refine Ok.pure ⟨_, by rw [nI_1], hf.tr (Fr.mst (by decide)), fun v hv => by rw [mst_k (by decide)]; exact h1 v hv, fun u hu => ?_⟩
        rw [mst_ap]
        by_cases e : u = j
        · subst e
          rw [if_pos (by simp), if_pos (Nat.lt_succ_self _)]
          refine isS_cg (isS_or h2j (f_setOf (v := k) (by omega))) (fun i _ => ?_)
          by_cases d : i = k
          · subst d; simp [c]
          · simp [d, show (i < k + 1) = (i < k) from propext ⟨fun _ => by omega, fun _ => by omega⟩]
        · simp only [e, and_false, if_false]
          have := h2 u hu
          by_cases d : u < j
          · rw [if_pos d] at this; rw [if_pos (by omega)]; exact this
          · rw [if_neg d] at this; rw [if_neg (by omega)]; exact this
    · intro t ⟨hf, h1, h2⟩
      have hCt := hC.fr hn hf (by decide) (by decide)
      simp only [m_X4_findNeighbours_L37]
      rw [hCt.1, if_pos (nI_le (Nat.le_refl _) nn)]
      exact Ok.pure ⟨_, rfl, hf, h1, fun u hu => by have := h2 u hu; rw [if_pos hu] at this; exact this⟩
    · rintro ⟨s1, v1⟩ ⟨a, b, c⟩
      exact Ok.pure ⟨s1, by rw [nI_1], a, b, c⟩
  · intro t ⟨hf, hJ⟩
    have hCt := hC.fr hn hf (by decide) (by decide)
    simp only [m_X4_findNeighbours_L10]
    rw [hCt.1, if_pos (nI_le (Nat.le_refl _) nn)]
    exact Ok.pure ⟨_, rfl, hf, hJ⟩
  · rw [mfl_at, if_pos (by omega)]
    exact isS_cg isS_0 (fun i _ => by simp)
  · rintro ⟨s1, v1⟩ hP
    exact Ok.pure hP
/-! sizes -/
/-- the numbers p and q of the nodes for which they are for something -/
def GP (σ : apM) (cp cq n : Nat) (op pn qn : Nat → Nat) : Prop := ∀ v, v < n → ((op v = 0 ∨ op v = 5 ∨ op v = 7) → σ cp v = nI (pn v)) ∧ (op v = 5 → σ cq v = nI (qn v))
def PB (n : Nat) (op pn qn : Nat → Nat) : Prop := ∀ v, v < n → ((op v = 0 ∨ op v = 7) → 1 ≤ pn v ∧ pn v ≤ 16) ∧ (op v = 5 → pn v ≤ 39 ∧ 1 ≤ qn v ∧ qn v ≤ 16)
def sv (sz : Nat → Nat) : Option Nat → Nat
  | none => 0
  | some u => sz u
def fit (o p q a b : Nat) : Prop := (o = 2 ∨ o = 3 → a = b) ∧ (o = 4 → a + b ≤ 40) ∧ (o = 5 → p + q ≤ a) ∧ (o = 7 → a = 1)
def szf (o p q a b : Nat) : Nat := if o = 0 then p else if o = 7 then p else if o = 4 then a + b else if o = 5 then q else if o = 6 then 1 else a
def FT (src : Nat → Nat → Option Nat) (op pn qn sz : Nat → Nat) (v : Nat) : Prop := fit (op v) (pn v) (qn v) (sv sz (src v 0)) (sv sz (src v 1))
def ZF (src : Nat → Nat → Option Nat) (op pn qn : Nat → Nat) (v : Nat) (sz : Nat → Nat) : Nat := szf (op v) (pn v) (qn v) (sv sz (src v 0)) (sv sz (src v 1))
def labf (o a b : Nat) : Nat := if ar o = 0 then 1 else if ar o = 1 then max 2 a else max 3 (max (max a b) (min a b + 1))
def LF (src : Nat → Nat → Option Nat) (op : Nat → Nat) (v : Nat) (lb : Nat → Nat) : Nat := labf (op v) (sv lb (src v 0)) (sv lb (src v 1))
theorem sv_cg {src : Nat → Nat → Option Nat} {v i : Nat} {f g : Nat → Nat} (h : ∀ u, ed src v u = true → f u = g u) (hi : i < 2) : sv f (src v i) = sv g (src v i) := by
  cases e : src v i with
  | none => rfl
  | some u => exact h u (ed_of hi e)
/-- what is said of a node by its dependencies has one answer -/
theorem rec_ex {n : Nat} {src : Nat → Nat → Option Nat} {sq : Nat → Nat} {st : Nat → Option Nat} {F : Nat → (Nat → Nat) → Nat} (hQ : SQ n n sq st) (hT : TP n src sq) (hF : ∀ v f g, (∀ u, ed src v u = true → f u = g u) → F v f = F v g) : ∃ Z : Nat → Nat, ∀ v, v < n → Z v = F v Z := by
  have key : ∀ k, k ≤ n → ∃ Z : Nat → Nat, ∀ i, i < k → Z (sq i) = F (sq i) Z := by
    intro k
    induction k with
    | zero => intro _; exact ⟨fun _ => 0, fun i hi => by omega⟩
    | succ k ih =>
      intro hk
      obtain ⟨Z, hZ⟩ := ih (by omega)
      have hne : ∀ i, i < k → sq i ≠ sq k := fun i hi e => by
        have h1 := (hQ.2.1 (sq k) i).mpr ⟨by omega, e⟩
        have h2 := (hQ.2.1 (sq k) k).mpr ⟨by omega, rfl⟩
        rw [h1] at h2
        cases h2
        omega
      refine ⟨upN Z (sq k) (F (sq k) Z), fun i hi => ?_⟩
      have cg : ∀ j, j ≤ k → F (sq j) (upN Z (sq k) (F (sq k) Z)) = F (sq j) Z := fun j hj => hF _ _ _ (fun u hu => by
        obtain ⟨i2, hi2, e⟩ := hT j (by omega) u hu
        unfold upN
        rw [if_neg (by rw [← e]; exact hne i2 (by omega))])
      rw [cg i (by omega)]
      by_cases e : i = k
      · subst e; unfold upN; rw [if_pos rfl]
      · unfold upN; rw [if_neg (hne i (by omega))]; exact hZ i (by omega)
  obtain ⟨Z, hZ⟩ := key n (Nat.le_refl _)
  refine ⟨Z, fun v hv => ?_⟩
  obtain ⟨i, hi, -, e⟩ := SQ_all hQ hv
  rw [← e]
  exact hZ i hi
theorem szf_b {n v a b : Nat} {op pn qn : Nat → Nat} (hB : PB n op pn qn) (hv : v < n) (hf : fit (op v) (pn v) (qn v) a b) (ha : 0 < ar (op v) → 1 ≤ a ∧ a ≤ 40) (hb : 1 < ar (op v) → 1 ≤ b ∧ b ≤ 40) (h7 : op v ≤ 7) : 1 ≤ szf (op v) (pn v) (qn v) a b ∧ szf (op v) (pn v) (qn v) a b ≤ 40 := by
  obtain ⟨f1, f2, f3, f4⟩ := hf
  obtain ⟨b1, b2⟩ := hB v hv
  unfold szf
  by_cases c0 : op v = 0
  · rw [if_pos c0]; have := b1 (Or.inl c0); omega
  · rw [if_neg c0]
    by_cases c7 : op v = 7
    · rw [if_pos c7]; have := b1 (Or.inr c7); omega
    · rw [if_neg c7]
      have hp : 0 < ar (op v) := by unfold ar; split <;> (try split) <;> (try split) <;> (try split) <;> omega
      have ha := ha hp
      by_cases c4 : op v = 4
      · rw [if_pos c4]; have := f2 c4; have := hb (by rw [c4]; decide); omega
      · rw [if_neg c4]
        by_cases c5 : op v = 5
        · rw [if_pos c5]; have := b2 c5; omega
        · rw [if_neg c5]
          by_cases c6 : op v = 6
          · rw [if_pos c6]; omega
          · rw [if_neg c6]; omega
theorem f_sizeOfSource {σ : apM} {n v i : Nat} {src : Nat → Nat → Option Nat} {sz : Nat → Nat} (h : GS n src) (hC : GC σ n src) (hv : v < n) (hi : i < 2) (hs : ∀ u, src v i = some u → σ 18 u = nI (sz u)) : m_X4_sizeOfSource σ (nI v) (nI i) = some (nI (sv sz (src v i))) := by
  have hn := h.1
  unfold m_X4_sizeOfSource
  simp (disch := omega) only [e_rix, e_ald]
  rw [hC.at hv hi]
  cases e : src v i with
  | none => rfl
  | some u =>
    have hu := h.2 _ _ _ e
    rw [if_neg (show ¬ eo (some u) = -1 from m1_ne (by omega)), show eo (some u) = nI u from rfl]
    simp (disch := omega) only [e_ald]
    rw [hs u e]
    rfl
theorem lit_ne {o k : Nat} (ho : o ≤ 7) (hk : k ≤ 7) (h : ¬ o = k) : ¬ nI o = nI k := fun q => h ((nI_eq (by omega) (by omega)).mp q)
theorem f_sizesFit {σ : apM} {n v : Nat} {src : Nat → Nat → Option Nat} {op pn qn sz : Nat → Nat} (h : GS n src) (hC : GC σ n src) (hO : Nu σ 7 n op) (hG : GP σ 8 9 n op pn qn) (hB : PB n op pn qn) (hv : v < n) (h7 : op v ≤ 7) (hs : ∀ i u, i < 2 → src v i = some u → σ 18 u = nI (sz u) ∧ sz u ≤ 40) : Ok (m_X4_sizesFit σ (nI v)) (fun r => (r = 1 ∧ FT src op pn qn sz v) ∨ (r = 0 ∧ ¬ FT src op pn qn sz v)) := by
  have hn := h.1
  have b0 : sv sz (src v 0) ≤ 40 := by
    cases e : src v 0 with
    | none => exact Nat.zero_le _
    | some u => exact (hs 0 u (by omega) e).2
  have b1 : sv sz (src v 1) ≤ 40 := by
    cases e : src v 1 with
    | none => exact Nat.zero_le _
    | some u => exact (hs 1 u (by omega) e).2
  unfold m_X4_sizesFit
  rw [show (0 : Int32) = nI 0 from rfl, show (1 : Int32) = nI 1 from rfl, f_sizeOfSource h hC hv (by omega) (fun u e => (hs 0 u (by omega) e).1), ob, f_sizeOfSource h hC hv (by omega) (fun u e => (hs 1 u (by omega) e).1), ob]
  unfold FT
  generalize sv sz (src v 0) = a at b0 ⊢
  generalize sv sz (src v 1) = b at b1 ⊢
  simp (disch := omega) only [e_ald]
  rw [hO v hv]
  have hG := hG v hv
  have hB := hB v hv
  generalize hp : pn v = p at hG hB ⊢
  generalize hq : qn v = q at hG hB ⊢
  generalize ho : op v = o at h7 hG hB ⊢
  have hab : Ok (m_X4_sizesFit_B60 σ (nI a) (nI b)) (fun r => (r = 1 ∧ a = b) ∨ (r = 0 ∧ ¬ a = b)) := by
    unfold m_X4_sizesFit_B60
    by_cases c : a = b
    · rw [if_pos (by rw [c])]; exact Ok.pure (Or.inl ⟨rfl, c⟩)
    · rw [if_neg (fun z => c ((nI_eq (by omega) (by omega)).mp z))]; exact Ok.pure (Or.inr ⟨rfl, c⟩)
  unfold fit
  rcases (show o = 0 ∨ o = 1 ∨ o = 2 ∨ o = 3 ∨ o = 4 ∨ o = 5 ∨ o = 6 ∨ o = 7 by omega) with rfl | rfl | rfl | rfl | rfl | rfl | rfl | rfl
  · rw [if_neg (by decide), if_neg (by decide), if_neg (by decide), if_neg (by decide), if_neg (by decide), if_neg (by decide)]
    exact Ok.pure (Or.inl ⟨rfl, by omega⟩)
  · rw [if_neg (by decide), if_neg (by decide), if_neg (by decide), if_neg (by decide), if_neg (by decide), if_neg (by decide)]
    exact Ok.pure (Or.inl ⟨rfl, by omega⟩)
  · rw [if_pos (by decide)]
    refine hab.mono (fun r hr => ?_)
    rcases hr with ⟨x, y⟩ | ⟨x, y⟩
    · exact Or.inl ⟨x, by omega⟩
    · exact Or.inr ⟨x, fun z => y (z.1 (Or.inl rfl))⟩
  · rw [if_neg (by decide), if_pos (by decide)]
    refine hab.mono (fun r hr => ?_)
    rcases hr with ⟨x, y⟩ | ⟨x, y⟩
    · exact Or.inl ⟨x, by omega⟩
    · exact Or.inr ⟨x, fun z => y (z.1 (Or.inr rfl))⟩
  · rw [if_neg (by decide), if_neg (by decide), if_pos (by decide), nI_add]
    by_cases c : a + b ≤ 40
    · rw [if_neg (show ¬ (40 : Int32) < nI (a + b) from nI_nlt (b := a + b) (a := 40) c (by decide))]
      exact Ok.pure (Or.inl ⟨rfl, by omega⟩)
    · rw [if_pos (show (40 : Int32) < nI (a + b) from nI_lt (a := 40) (by omega) (by omega))]
      exact Ok.pure (Or.inr ⟨rfl, fun z => c (z.2.1 rfl)⟩)
  · rw [if_neg (by decide), if_neg (by decide), if_neg (by decide), if_pos (by decide)]
    have hb := hB.2 rfl
    rw [hG.1 (by omega), hG.2 rfl, nI_add]
    by_cases c : p + q ≤ a
    · rw [if_neg (nI_nlt c (by omega))]
      exact Ok.pure (Or.inl ⟨rfl, by omega⟩)
    · rw [if_pos (nI_lt (by omega) (by omega))]
      exact Ok.pure (Or.inr ⟨rfl, fun z => c (z.2.2.1 rfl)⟩)
  · rw [if_neg (by decide), if_neg (by decide), if_neg (by decide), if_neg (by decide), if_neg (by decide), if_pos (by decide)]
    exact Ok.pure (Or.inl ⟨rfl, by omega⟩)
  · rw [if_neg (by decide), if_neg (by decide), if_neg (by decide), if_neg (by decide), if_pos (by decide)]
    by_cases c : a = 1
    · rw [if_pos (by rw [c])]; exact Ok.pure (Or.inl ⟨rfl, by omega⟩)
    · rw [if_neg (fun z => c ((nI_eq (b := 1) (by omega) (by decide)).mp z))]; exact Ok.pure (Or.inr ⟨rfl, fun z => c (z.2.2.2 rfl)⟩)
theorem f_sizeOf4 {σ : apM} {n v : Nat} {src : Nat → Nat → Option Nat} {op pn qn sz : Nat → Nat} (h : GS n src) (hC : GC σ n src) (hO : Nu σ 7 n op) (hG : GP σ 8 9 n op pn qn) (hv : v < n) (h7 : op v ≤ 7) (hs : ∀ i u, i < 2 → src v i = some u → σ 18 u = nI (sz u)) : m_X4_sizeOf σ (nI v) = some (nI (ZF src op pn qn v sz)) := by
  have hn := h.1
  unfold m_X4_sizeOf ZF
  have e0 := f_sizeOfSource h hC hv (show 0 < 2 by omega) (fun u e => hs 0 u (by omega) e)
  have e1 := f_sizeOfSource h hC hv (show 1 < 2 by omega) (fun u e => hs 1 u (by omega) e)
  rw [show m_X4_sizeOfSource σ (nI v) 0 = _ from e0, ob, show m_X4_sizeOfSource σ (nI v) 1 = _ from e1]
  generalize sv sz (src v 0) = a
  generalize sv sz (src v 1) = b
  simp (disch := omega) only [e_ald]
  rw [hO v hv]
  have hG := hG v hv
  have hp : (op v = 0 ∨ op v = 7) → m_X4_sizeOf_B64 σ (nI v) = some (nI (pn v)) := fun q => by
    unfold m_X4_sizeOf_B64
    simp (disch := omega) only [e_ald]
    rw [hG.1 (by omega)]
  generalize hpp : pn v = p at hG hp ⊢
  generalize hq : qn v = q at hG ⊢
  generalize ho : op v = o at h7 hG hp ⊢
  unfold szf
  rcases (show o = 0 ∨ o = 1 ∨ o = 2 ∨ o = 3 ∨ o = 4 ∨ o = 5 ∨ o = 6 ∨ o = 7 by omega) with rfl | rfl | rfl | rfl | rfl | rfl | rfl | rfl
  · rw [if_pos (by decide)]; exact hp (Or.inl rfl)
  · rw [if_neg (by decide), if_neg (by decide), if_neg (by decide), if_neg (by decide), if_neg (by decide), if_pos (by decide)]; rfl
  · rw [if_neg (by decide), if_neg (by decide), if_neg (by decide), if_neg (by decide), if_neg (by decide), if_neg (by decide), if_pos (by decide)]; rfl
  · rw [if_neg (by decide), if_neg (by decide), if_neg (by decide), if_neg (by decide), if_neg (by decide), if_neg (by decide), if_neg (by decide), if_pos (by decide)]; rfl
  · rw [if_neg (by decide), if_pos (by decide), ob, nI_add]; rfl
  · rw [if_neg (by decide), if_neg (by decide), if_pos (by decide), hG.2 rfl]; rfl
  · rw [if_neg (by decide), if_neg (by decide), if_neg (by decide), if_pos (by decide)]; rfl
  · rw [if_neg (by decide), if_neg (by decide), if_neg (by decide), if_neg (by decide), if_pos (by decide)]; exact hp (Or.inr rfl)
theorem f_labelOf4 {σ : apM} {n v : Nat} {src : Nat → Nat → Option Nat} {op lb : Nat → Nat} (h : GS n src) (hw : GW n src op) (hW : Wd n src op) (hC : GC σ n src) (hO : Nu σ 7 n op) (hv : v < n) (hs : ∀ i u, i < 2 → src v i = some u → σ 19 u = nI (lb u) ∧ lb u < 1000) : m_X4_labelOf σ (nI v) = some (nI (LF src op v lb)) := by
  have hn := h.1
  have ha := ar_le (op v)
  unfold m_X4_labelOf LF labf
  rw [f_inputs1 hn hO hv (hw v hv).1, ob]
  by_cases c0 : ar (op v) = 0
  · rw [c0, if_pos (by decide), if_pos rfl]; rfl
  · rw [if_neg (nI_ne0 (by omega) (by omega)), if_neg c0]
    simp (disch := omega) only [e_rix, e_ald0]
    rw [(hC.2 v hv).1]
    cases e0 : src v 0 with
    | none => exact absurd e0 (hW v hv 0 (by omega))
    | some x =>
      have hx := h.2 _ _ _ e0
      obtain ⟨x1, x2⟩ := hs 0 x (by omega) e0
      rw [show eo (some x) = nI x from rfl]
      simp (disch := omega) only [e_ald]
      rw [x1]
      by_cases c1 : ar (op v) = 1
      · rw [c1, if_pos (by decide), if_pos rfl, show (2 : Int32) = nI 2 from rfl, imax (by decide) (by omega)]; rfl
      · rw [if_neg (show ¬ nI (ar (op v)) = (1 : Int32) from fun q => c1 ((nI_eq (b := 1) (by omega) (by decide)).mp q)), if_neg c1]
        simp (disch := omega) only [e_ald1]
        rw [(hC.2 v hv).2]
        cases e1 : src v 1 with
        | none => exact absurd e1 (hW v hv 1 (by omega))
        | some y =>
          have hy := h.2 _ _ _ e1
          obtain ⟨y1, y2⟩ := hs 1 y (by omega) e1
          rw [show eo (some y) = nI y from rfl]
          simp (disch := omega) only [e_ald]
          rw [y1]
          rw [imax (a := lb x) (b := lb y) (by omega) (by omega), show (if nI (lb y) < nI (lb x) then nI (lb y) else nI (lb x)) = nI (min (lb x) (lb y)) by rw [imin (by omega) (by omega), Nat.min_comm], nI_1, imax (a := max (lb x) (lb y)) (by omega) (by omega), show (3 : Int32) = nI 3 from rfl, imax (by decide) (by omega)]
          rfl
