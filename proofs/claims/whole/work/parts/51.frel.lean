/-! ===== what the two memories have in common ===== -/
def qBC (σ : apM) (n : Nat) (src : Nat → Nat → Option Nat) (op pn qn : Nat → Nat) (ke : Nat → Bool) (gv : Nat → Nat → Int32) : Prop :=
  GC σ n src ∧ Nu σ 7 n op ∧ GP σ 8 9 n op pn qn ∧ (∀ v, v < n → σ 12 v = bI (ke v)) ∧ (∀ v, v < n → ∀ i, i < 16 → σ (29 + v) i = gv v i) ∧ (∀ v, n ≤ v → v < 12 → σ 12 v = 0) ∧ ∀ v, n ≤ v → v < 12 → ∀ i, i < 16 → σ (29 + v) i = 0
def qBM (σ : apM) (n : Nat) (src : Nat → Nat → Option Nat) (op pn qn : Nat → Nat) (ke : Nat → Bool) (gv : Nat → Nat → Int32) : Prop :=
  GM σ n src ∧ Nu σ 1 n op ∧ GP σ 2 3 n op pn qn ∧ (∀ v, v < n → σ 5 v = bI (ke v)) ∧ ∀ v, v < n → ∀ i, i < 16 → σ 6 (16 * v + i) = gv v i
theorem qBC.fr {ks : List Nat} {σ σ' : apM} {n : Nat} {src : Nat → Nat → Option Nat} {op pn qn : Nat → Nat} {ke : Nat → Bool} {gv : Nat → Nat → Int32} (h : qBC σ n src op pn qn ke gv) (hn : n ≤ 12) (hf : Fr ks σ σ') (hk : ∀ k ∈ ks, k ≠ 1 ∧ k ≠ 7 ∧ k ≠ 8 ∧ k ≠ 9 ∧ k ≠ 12 ∧ k < 29) : qBC σ' n src op pn qn ke gv := by
  obtain ⟨h1, h2, h3, h4, h5, h6, h7⟩ := h
  have nk : ∀ k, (k = 1 ∨ k = 7 ∨ k = 8 ∨ k = 9 ∨ k = 12 ∨ 29 ≤ k) → σ' k = σ k := fun k q => hf k (fun z => by have := hk k z; omega)
  refine ⟨⟨by rw [nk 1 (by omega)]; exact h1.1, fun v hv => by rw [nk (41 + v) (by omega)]; exact h1.2 v hv⟩, fun v hv => by rw [nk 7 (by omega)]; exact h2 v hv, fun v hv => by rw [nk 8 (by omega), nk 9 (by omega)]; exact h3 v hv, fun v hv => by rw [nk 12 (by omega)]; exact h4 v hv, fun v hv i hi => by rw [nk (29 + v) (by omega)]; exact h5 v hv i hi, fun v a b => by rw [nk 12 (by omega)]; exact h6 v a b, fun v a b i hi => by rw [nk (29 + v) (by omega)]; exact h7 v a b i hi⟩
theorem qBM.fr {ks : List Nat} {σ σ' : apM} {n : Nat} {src : Nat → Nat → Option Nat} {op pn qn : Nat → Nat} {ke : Nat → Bool} {gv : Nat → Nat → Int32} (h : qBM σ n src op pn qn ke gv) (hf : Fr ks σ σ') (h0 : σ' 0 1 = σ 0 1) (hk : ∀ k ∈ ks, k = 0 ∨ 7 ≤ k) : qBM σ' n src op pn qn ke gv := by
  obtain ⟨h1, h2, h3, h4, h5⟩ := h
  have nk : ∀ k, 1 ≤ k → k < 7 → σ' k = σ k := fun k q1 q2 => hf k (fun z => by have := hk k z; omega)
  refine ⟨⟨by rw [h0]; exact h1.1, fun v hv => by rw [nk 4 (by omega) (by omega)]; exact h1.2 v hv⟩, fun v hv => by rw [nk 1 (by omega) (by omega)]; exact h2 v hv, fun v hv => by rw [nk 2 (by omega) (by omega), nk 3 (by omega) (by omega)]; exact h3 v hv, fun v hv => by rw [nk 5 (by omega) (by omega)]; exact h4 v hv, fun v hv i hi => by rw [nk 6 (by omega) (by omega)]; exact h5 v hv i hi⟩
/-- what a plan is -/
def qPF (n : Nat) (src : Nat → Nat → Option Nat) (op pn qn : Nat → Nat) (ke : Nat → Bool) (Z Lb sq po la pl : Nat → Nat) (G a : Nat) : Prop :=
  0 < n ∧ Wd n src op ∧ (∀ v, v < n → Tr src n v v = false) ∧ IsZ n src op pn qn Z ∧ AFT n src op pn qn Z ∧ IsL n src op Lb ∧ (∀ v, v < n → 1 ≤ Z v ∧ Z v ≤ 40) ∧ PO n sq po ∧ TP n src sq ∧ (∀ v, v < n → IsLa n src ke po v (la v)) ∧ IsPl n Z po la pl ∧ (∀ v, v < n → pl v + Z v ≤ 480) ∧ IsMx (fun v => v < n) (fun v => pl v + Z v) 0 a ∧ IsG n Z po la G ∧ G ≤ 480
def qLP (n : Nat) (src : Nat → Nat → Option Nat) (ke : Nat → Bool) (Z : Nat → Nat) : Nat := lsK n src ke Z 1000 (2 ^ n - 1) (2 ^ n - 1)
/-- .. in the class -/
def qPC (σ : apM) (n : Nat) (src : Nat → Nat → Option Nat) (ke : Nat → Bool) (Z Lb sq po la pl : Nat → Nat) (G a : Nat) : Prop :=
  (∀ v, v < n → isS (σ 16 v) (ed src v)) ∧ (∀ u, u < n → isS (σ 17 u) (fun v => decide (v < n) && ed src v u)) ∧ Nu σ 18 n Z ∧ Nu σ 19 n Lb ∧ Nu σ 20 n sq ∧ Nu σ 21 n po ∧ Nu σ 22 n la ∧ Nu σ 23 n (cst n Z po la) ∧ Nu σ 25 n pl ∧ σ 3 10 = nI n ∧ σ 3 11 = nI G ∧ σ 4 3 = nI a ∧ (σ 0 8 = 0 ∨ σ 0 8 = nI (qLP n src ke Z))
/-- .. in the model -/
def qPM (σ : apM) (n : Nat) (src : Nat → Nat → Option Nat) (ke : Nat → Bool) (Z Lb sq po la pl : Nat → Nat) (a : Nat) : Prop :=
  Nu σ 9 n Z ∧ Nu σ 10 n Lb ∧ Nu σ 11 n sq ∧ Nu σ 12 n po ∧ Nu σ 13 n la ∧ Nu σ 14 n pl ∧ σ 0 20 = nI a ∧ (σ 0 21 = -1 ∨ σ 0 21 = nI (qLP n src ke Z))
def qRN (σC σM : apM) (n : Nat) (ke : Nat → Bool) (Z pl : Nat → Nat) : Prop :=
  (σC 0 7 = 0 ∧ σM 0 27 = 0) ∨ (σC 0 7 = 1 ∧ σM 0 27 = 1 ∧ (∀ c, c < 480 → σC 26 c = σM 19 c) ∧ ∀ v, v < n → ke v = true → ∀ i, i < Z v → σC 26 (pl v + i) = σM 20 (40 * v + i))
def qPL (σC σM : apM) (n : Nat) (src : Nat → Nat → Option Nat) (op pn qn : Nat → Nat) (ke : Nat → Bool) : Prop :=
  (σC 0 6 = 0 ∧ σM 0 11 = 0) ∨ (σC 0 6 = 1 ∧ σM 0 11 = 1 ∧ ∃ Z Lb sq po la pl G a, qPF n src op pn qn ke Z Lb sq po la pl G a ∧ qPC σC n src ke Z Lb sq po la pl G a ∧ qPM σM n src ke Z Lb sq po la pl a ∧ qRN σC σM n ke Z pl)
def qIN (σC σM : apM) : Prop := ∃ n src op pn qn ke gv, GS n src ∧ GW n src op ∧ PB n op pn qn ∧ qBC σC n src op pn qn ke gv ∧ qBM σM n src op pn qn ke gv ∧ qPL σC σM n src op pn qn ke
theorem qPC.fr {ks : List Nat} {σ σ' : apM} {n : Nat} {src : Nat → Nat → Option Nat} {ke : Nat → Bool} {Z Lb sq po la pl : Nat → Nat} {G a : Nat} (h : qPC σ n src ke Z Lb sq po la pl G a) (hf : Fr ks σ σ') (h8 : σ' 0 8 = σ 0 8 ∨ σ' 0 8 = nI (qLP n src ke Z)) (hk : ∀ k ∈ ks, k ≠ 3 ∧ k ≠ 4 ∧ (k < 16 ∨ 25 < k)) : qPC σ' n src ke Z Lb sq po la pl G a := by
  obtain ⟨h1, h2, h3, h4, h5, h6, h7, h9, h10, h11, h12, h13, h14⟩ := h
  have nk : ∀ k, (k = 3 ∨ k = 4 ∨ (16 ≤ k ∧ k ≤ 25)) → σ' k = σ k := fun k q => hf k (fun z => by have := hk k z; omega)
  have nu : ∀ k f, (16 ≤ k ∧ k ≤ 25) → Nu σ k n f → Nu σ' k n f := fun k f q z v hv => by rw [nk k (by omega)]; exact z v hv
  refine ⟨fun v hv => by rw [nk 16 (by omega)]; exact h1 v hv, fun v hv => by rw [nk 17 (by omega)]; exact h2 v hv, nu _ _ (by omega) h3, nu _ _ (by omega) h4, nu _ _ (by omega) h5, nu _ _ (by omega) h6, nu _ _ (by omega) h7, nu _ _ (by omega) h9, nu _ _ (by omega) h10, by rw [nk 3 (by omega)]; exact h11, by rw [nk 3 (by omega)]; exact h12, by rw [nk 4 (by omega)]; exact h13, ?_⟩
  rcases h8 with h8 | h8
  · rw [h8]; exact h14
  · exact Or.inr h8
theorem qPM.fr {ks : List Nat} {σ σ' : apM} {n : Nat} {src : Nat → Nat → Option Nat} {ke : Nat → Bool} {Z Lb sq po la pl : Nat → Nat} {a : Nat} (h : qPM σ n src ke Z Lb sq po la pl a) (hf : Fr ks σ σ') (h20 : σ' 0 20 = σ 0 20) (h21 : σ' 0 21 = σ 0 21 ∨ σ' 0 21 = nI (qLP n src ke Z)) (hk : ∀ k ∈ ks, k < 9 ∨ 14 < k) : qPM σ' n src ke Z Lb sq po la pl a := by
  obtain ⟨h1, h2, h3, h4, h5, h6, h7, h8⟩ := h
  have nu : ∀ k f, (9 ≤ k ∧ k ≤ 14) → Nu σ k n f → Nu σ' k n f := fun k f q z v hv => by rw [hf k (fun z => by have := hk k z; omega)]; exact z v hv
  refine ⟨nu _ _ (by omega) h1, nu _ _ (by omega) h2, nu _ _ (by omega) h3, nu _ _ (by omega) h4, nu _ _ (by omega) h5, nu _ _ (by omega) h6, by rw [h20]; exact h7, ?_⟩
  rcases h21 with q | q
  · rw [q]; exact h8
  · exact Or.inr q
theorem qRN.fr {k1 k2 : List Nat} {σC σM σC' σM' : apM} {n : Nat} {ke : Nat → Bool} {Z pl : Nat → Nat} (h : qRN σC σM n ke Z pl) (f1 : Fr k1 σC σC') (f2 : Fr k2 σM σM') (h7 : σC' 0 7 = σC 0 7) (h27 : σM' 0 27 = σM 0 27) (hk1 : 26 ∉ k1) (hk2 : 19 ∉ k2) (hk3 : 20 ∉ k2) : qRN σC' σM' n ke Z pl := by
  rcases h with ⟨a, b⟩ | ⟨a, b, c, d⟩
  · exact Or.inl ⟨h7.trans a, h27.trans b⟩
  · exact Or.inr ⟨h7.trans a, h27.trans b, fun i hi => by rw [f1 26 hk1, f2 19 hk2]; exact c i hi, fun v hv hke i hi => by rw [f1 26 hk1, f2 20 hk3]; exact d v hv hke i hi⟩
/-- nothing of a plan is touched -/
theorem qPL.fr {k1 k2 : List Nat} {σC σM σC' σM' : apM} {n : Nat} {src : Nat → Nat → Option Nat} {op pn qn : Nat → Nat} {ke : Nat → Bool} (h : qPL σC σM n src op pn qn ke) (f1 : Fr k1 σC σC') (f2 : Fr k2 σM σM') (c0 : ∀ j, j = 6 ∨ j = 7 ∨ j = 8 → σC' 0 j = σC 0 j) (m0 : ∀ j, j = 11 ∨ j = 20 ∨ j = 21 ∨ j = 27 → σM' 0 j = σM 0 j) (hk1 : ∀ k ∈ k1, k ≠ 3 ∧ k ≠ 4 ∧ (k < 16 ∨ 26 < k)) (hk2 : ∀ k ∈ k2, k < 9 ∨ (14 < k ∧ k < 19)) : qPL σC' σM' n src op pn qn ke := by
  rcases h with ⟨a, b⟩ | ⟨a, b, Z, Lb, sq, po, la, pl, G, ar, p1, p2, p3, p4⟩
  · exact Or.inl ⟨by rw [c0 6 (by omega)]; exact a, by rw [m0 11 (by omega)]; exact b⟩
  · refine Or.inr ⟨by rw [c0 6 (by omega)]; exact a, by rw [m0 11 (by omega)]; exact b, Z, Lb, sq, po, la, pl, G, ar, p1, p2.fr f1 (Or.inl (c0 8 (by omega))) (fun k hk => by have := hk1 k hk; omega), p3.fr f2 (m0 20 (by omega)) (Or.inl (m0 21 (by omega))) (fun k hk => by have := hk2 k hk; omega), p4.fr f1 f2 (c0 7 (by omega)) (m0 27 (by omega)) (fun z => ?_) (fun z => ?_) (fun z => ?_)⟩
    · have := hk1 _ z; omega
    · have := hk2 _ z; omega
    · have := hk2 _ z; omega
/-- the class's answer or exception, and what the model says of it -/
def qAns (cd : List (String × Int32)) (rC : (String × apM) ⊕ (Int32 × apM)) (rM : Int32 × apM) : Prop := match rC with
  | .inl x => (x.1, rM.2 0 0) ∈ cd ∧ qIN x.2 rM.2
  | .inr x => rM.2 0 0 = 0 ∧ x.1 = rM.1 ∧ qIN x.2 rM.2
def qThr (cd : List (String × Int32)) (c : Option ((String × apM) ⊕ (Int32 × apM))) (m : Option (Int32 × apM)) : Prop := ∃ rC rM, c = some rC ∧ m = some rM ∧ qAns cd rC rM
def qNo (c m : Option (Int32 × apM)) : Prop := ∃ rC rM, c = some rC ∧ m = some rM ∧ rC.1 = rM.1 ∧ qIN rC.2 rM.2
/-! ints that are not known to be numbers of a range -/
theorem w_sign (x : Int32) : x < -1 ∨ x = -1 ∨ ∃ k, k < 2 ^ 31 ∧ x = nI k := by
  by_cases h : x < 0
  · by_cases e : x = -1
    · exact Or.inr (Or.inl e)
    · left
      rw [Int32.lt_iff_toInt_lt] at h ⊢
      have h1 : x.toInt ≠ (-1 : Int32).toInt := fun q => e (Int32.toInt_inj.mp q)
      have h2 : (-1 : Int32).toInt = -1 := by decide
      have h3 : (0 : Int32).toInt = 0 := by decide
      omega
  · obtain ⟨j, hj, e⟩ := nI_of h
    exact Or.inr (Or.inr ⟨j, hj, e⟩)
theorem w_m1 : ∀ {x : Int32}, x < -1 → x < 0 := fun {x} h => by
  rw [Int32.lt_iff_toInt_lt] at h ⊢
  have h2 : (-1 : Int32).toInt = -1 := by decide
  have h3 : (0 : Int32).toInt = 0 := by decide
  omega
theorem f_has {σ : apM} {n : Nat} {x : Int32} (hn : n ≤ 12) (h : σ 1 6 = nI n) : m_X1_has σ x = bI (decide (∃ k, k < n ∧ x = nI k)) := by
  unfold m_X1_has
  rw [h, f_isWithin (by omega)]
theorem f_isNode {σ : apM} {n : Nat} {x : Int32} (hn : n ≤ 12) (h : σ 0 1 = nI n) : m_X7_isNode σ x = bI (decide (∃ k, k < n ∧ x = nI k)) := by
  unfold m_X7_isNode
  rw [h]
  by_cases h0 : x < 0
  · rw [if_pos h0, decide_eq_false]
    · rfl
    · rintro ⟨k, hk, rfl⟩
      exact nI_pos (by omega) h0
  · rw [if_neg h0]
    obtain ⟨j, hj, rfl⟩ := nI_of h0
    by_cases h1 : n ≤ j
    · rw [if_pos (nI_le h1 hj), decide_eq_false]
      · rfl
      · rintro ⟨k, hk, e⟩
        have := (nI_eq hj (by omega)).mp e
        omega
    · rw [if_neg (fun q => h1 ((nI_leI (by omega) hj).mp q)), decide_eq_true ⟨j, by omega, rfl⟩]
      rfl
/-- a range test by two comparisons -/
theorem w_rng {x : Int32} {lo hi : Nat} (hh : hi < 2 ^ 31) (hl : lo ≤ hi) : (x < nI lo ∨ nI hi < x) ↔ ¬ ∃ k, lo ≤ k ∧ k ≤ hi ∧ x = nI k := by
  constructor
  · rintro h ⟨k, h1, h2, rfl⟩
    rcases h with h | h
    · exact nI_nlt h1 (by omega) h
    · exact nI_nlt h2 (by omega) h
  · intro h
    by_cases h0 : x < 0
    · left
      rw [Int32.lt_iff_toInt_lt] at h0 ⊢
      rw [nI_toInt (by omega)]
      have h3 : (0 : Int32).toInt = 0 := by decide
      omega
    · obtain ⟨j, hj, rfl⟩ := nI_of h0
      by_cases c : j < lo
      · exact Or.inl (nI_lt c (by omega))
      · by_cases d : hi < j
        · exact Or.inr (nI_lt d hj)
        · exact absurd ⟨j, by omega, by omega, rfl⟩ h
