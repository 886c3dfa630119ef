/-! ===== walks, and distances by relaxing again and again ===== -/
/-- a walk of L steps -/
def Wk (src : Nat → Nat → Option Nat) : Nat → Nat → Nat → Prop
  | 0, v, w => v = w
  | L + 1, v, w => ∃ x, ed src v x = true ∧ Wk src L x w
theorem Wk_tr {src : Nat → Nat → Option Nat} : ∀ {a b v x w : Nat}, Wk src a v x → Wk src b x w → Wk src (a + b) v w := by
  intro a
  induction a with
  | zero => intro b v x w h1 h2; cases h1; rw [Nat.zero_add]; exact h2
  | succ a ih =>
    intro b v x w ⟨y, e, h1⟩ h2
    rw [show a + 1 + b = (a + b) + 1 by omega]
    exact ⟨y, e, ih h1 h2⟩
theorem Tr_sound {src : Nat → Nat → Option Nat} : ∀ {k v u : Nat}, Tr src k v u = true → ∃ L, Wk src (L + 1) v u := by
  intro k
  induction k with
  | zero => intro v u h; exact ⟨0, u, h, rfl⟩
  | succ k ih =>
    intro v u h
    have h : (Tr src k v u || (Tr src k v k && Tr src k k u)) = true := h
    simp only [Bool.or_eq_true, Bool.and_eq_true] at h
    rcases h with h | ⟨h1, h2⟩
    · exact ih h
    · obtain ⟨a, ha⟩ := ih h1
      obtain ⟨b, hb⟩ := ih h2
      exact ⟨a + b + 1, by rw [show a + b + 1 + 1 = (a + 1) + (b + 1) by omega]; exact Wk_tr ha hb⟩
theorem Tr_mono {src : Nat → Nat → Option Nat} {k k' v u : Nat} (h : Tr src k v u = true) (hk : k ≤ k') : Tr src k' v u = true := by
  induction hk with
  | refl => exact h
  | step _ ih => show (Tr src _ v u || _) = true; rw [ih]; rfl
theorem Tr_tr {src : Nat → Nat → Option Nat} : ∀ {k m v u : Nat}, m < k → Tr src k v m = true → Tr src k m u = true → Tr src k v u = true := by
  intro k
  induction k with
  | zero => intro m v u h; omega
  | succ k ih =>
    intro m v u hm h1 h2
    have h1 : (Tr src k v m || (Tr src k v k && Tr src k k m)) = true := h1
    have h2 : (Tr src k m u || (Tr src k m k && Tr src k k u)) = true := h2
    show (Tr src k v u || (Tr src k v k && Tr src k k u)) = true
    simp only [Bool.or_eq_true, Bool.and_eq_true] at h1 h2 ⊢
    by_cases e : m = k
    · subst e
      right
      refine ⟨?_, ?_⟩
      · rcases h1 with h1 | h1
        · exact h1
        · exact h1.1
      · rcases h2 with h2 | h2
        · exact h2
        · exact h2.2
    · have hm : m < k := by omega
      rcases h1 with h1 | ⟨h1, h1'⟩ <;> rcases h2 with h2 | ⟨h2, h2'⟩
      · exact Or.inl (ih hm h1 h2)
      · exact Or.inr ⟨ih hm h1 h2, h2'⟩
      · exact Or.inr ⟨h1, ih hm h1' h2⟩
      · exact Or.inr ⟨h1, h2'⟩
theorem Tr_all {n : Nat} {src : Nat → Nat → Option Nat} (h : GS n src) : ∀ {L v u : Nat}, Wk src (L + 1) v u → Tr src n v u = true := by
  intro L
  induction L with
  | zero =>
    intro v u ⟨x, e, hx⟩
    cases hx
    exact Tr_mono (k := 0) e (Nat.zero_le _)
  | succ L ih =>
    intro v u ⟨x, e, hx⟩
    exact Tr_tr (ed_lt h e) (Tr_mono (k := 0) e (Nat.zero_le _)) (ih hx)
theorem Tr_iff {n : Nat} {src : Nat → Nat → Option Nat} (h : GS n src) {v u : Nat} : Tr src n v u = true ↔ ∃ L, Wk src (L + 1) v u := ⟨Tr_sound, fun ⟨_, hL⟩ => Tr_all h hL⟩
theorem pigeon : ∀ (n : Nat) (f : Nat → Nat), (∀ i, i ≤ n → f i < n) → ∃ i j, i < j ∧ j ≤ n ∧ f i = f j := by
  intro n
  induction n with
  | zero => intro f h; exact absurd (h 0 (Nat.le_refl _)) (by omega)
  | succ n ih =>
    intro f h
    by_cases hc : ∃ i, i ≤ n ∧ f i = f (n + 1)
    · obtain ⟨i, hi, e⟩ := hc
      exact ⟨i, n + 1, by omega, Nat.le_refl _, e⟩
    · have hne : ∀ i, i ≤ n → f i ≠ f (n + 1) := fun i hi e => hc ⟨i, hi, e⟩
      have hcl := h (n + 1) (Nat.le_refl _)
      obtain ⟨i, j, hij, hj, e⟩ := ih (fun i => if f i = n then f (n + 1) else f i) (fun i hi => by
        have h1 := h i (by omega)
        have h2 := hne i hi
        split <;> omega)
      refine ⟨i, j, hij, by omega, ?_⟩
      have h2 := hne i (by omega)
      have h3 := hne j hj
      split at e <;> split at e <;> omega
theorem Wk_fun {src : Nat → Nat → Option Nat} : ∀ {L v w : Nat}, Wk src L v w → ∃ f : Nat → Nat, f 0 = v ∧ f L = w ∧ ∀ i, i < L → ed src (f i) (f (i + 1)) = true := by
  intro L
  induction L with
  | zero => intro v w h; cases h; exact ⟨fun _ => v, rfl, rfl, fun i hi => by omega⟩
  | succ L ih =>
    intro v w ⟨x, e, hx⟩
    obtain ⟨f, h0, h1, h2⟩ := ih hx
    refine ⟨fun i => match i with | 0 => v | i + 1 => f i, rfl, h1, fun i hi => ?_⟩
    cases i with
    | zero => show ed src v (f 0) = true; rw [h0]; exact e
    | succ i => exact h2 i (by omega)
theorem Wk_seg {src : Nat → Nat → Option Nat} {f : Nat → Nat} {b : Nat} : ∀ {d a : Nat}, a + d = b → (∀ i, a ≤ i → i < b → ed src (f i) (f (i + 1)) = true) → Wk src d (f a) (f b) := by
  intro d
  induction d with
  | zero => intro a h _; rw [show a = b by omega]; rfl
  | succ d ih =>
    intro a h he
    exact ⟨f (a + 1), he a (Nat.le_refl _) (by omega), ih (by omega) (fun i h1 h2 => he i (by omega) h2)⟩
theorem Wk_short {n : Nat} {src : Nat → Nat → Option Nat} (h : GS n src) {v w : Nat} (hv : v < n) : ∀ (m L : Nat), L ≤ m → Wk src L v w → ∃ L', L' < n ∧ L' ≤ L ∧ Wk src L' v w := by
  intro m
  induction m with
  | zero => intro L hL hw; exact ⟨L, by omega, Nat.le_refl _, hw⟩
  | succ m ih =>
    intro L hL hw
    by_cases hn : L < n
    · exact ⟨L, hn, Nat.le_refl _, hw⟩
    · obtain ⟨f, h0, h1, h2⟩ := Wk_fun hw
      have hlt : ∀ i, i ≤ n → f i < n := by
        intro i hi
        cases i with
        | zero => rw [h0]; exact hv
        | succ i => exact ed_lt h (h2 i (by omega))
      obtain ⟨i, j, hij, hj, e⟩ := pigeon n f hlt
      have w1 : Wk src i (f 0) (f i) := Wk_seg (a := 0) (by omega) (fun z _ hz => h2 z (by omega))
      have w2 : Wk src (L - j) (f j) (f L) := Wk_seg (by omega) (fun z _ hz => h2 z hz)
      rw [← e] at w2
      have w3 := Wk_tr w1 w2
      rw [h0, h1] at w3
      obtain ⟨L', a1, a2, a3⟩ := ih (i + (L - j)) (by omega) w3
      exact ⟨L', a1, by omega, a3⟩
/-! relaxing, with F for 'not come to' -/
def fv (F : Nat) (dd : Nat → Nat) : Option Nat → Nat
  | none => F
  | some u => dd u
def nrm (F : Nat) (src : Nat → Nat → Option Nat) (dd : Nat → Nat) (v : Nat) : Nat := min (fv F dd (src v 0)) (fv F dd (src v 1))
def rlx (F : Nat) (src : Nat → Nat → Option Nat) (dd : Nat → Nat) (v : Nat) : Nat → Nat := fun x => if x = v then min (dd v) (nrm F src dd v + 1) else dd x
def BI (F n : Nat) (src : Nat → Nat → Option Nat) (to : Nat) (dd : Nat → Nat) : Prop := ∀ v, v < n → dd v ≤ F ∧ (dd v < F → Wk src (dd v) v to)
def BP (n : Nat) (src : Nat → Nat → Option Nat) (to r : Nat) (dd : Nat → Nat) : Prop := ∀ v, v < n → ∀ L, L ≤ r → Wk src L v to → dd v ≤ L
theorem nrm_some {F n : Nat} {src : Nat → Nat → Option Nat} {dd : Nat → Nat} {v : Nat} (h : GS n src) (hF : nrm F src dd v < F) : ∃ u, u < n ∧ ed src v u = true ∧ dd u = nrm F src dd v := by
  unfold nrm at hF ⊢
  rcases Nat.le_total (fv F dd (src v 0)) (fv F dd (src v 1)) with hl | hl
  · rw [Nat.min_eq_left hl] at hF ⊢
    cases hs : src v 0 with
    | none => rw [hs] at hF; exact absurd hF (Nat.lt_irrefl _)
    | some u => exact ⟨u, h.2 _ _ _ hs, by simp [ed, hs], rfl⟩
  · rw [Nat.min_eq_right hl] at hF ⊢
    cases hs : src v 1 with
    | none => rw [hs] at hF; exact absurd hF (Nat.lt_irrefl _)
    | some u => exact ⟨u, h.2 _ _ _ hs, by simp [ed, hs], rfl⟩
theorem nrm_le {F : Nat} {src : Nat → Nat → Option Nat} {dd : Nat → Nat} {v u : Nat} (h : ed src v u = true) : nrm F src dd v ≤ dd u := by
  unfold ed at h
  simp only [Bool.or_eq_true, decide_eq_true_eq] at h
  unfold nrm
  rcases h with h | h
  · rw [h]; exact Nat.min_le_left _ _
  · rw [h]; exact Nat.min_le_right _ _
theorem rlx_BI {F n : Nat} {src : Nat → Nat → Option Nat} {to : Nat} {dd : Nat → Nat} {v : Nat} (h : GS n src) (hb : BI F n src to dd) : BI F n src to (rlx F src dd v) := by
  intro x hx
  unfold rlx
  by_cases e : x = v
  · subst e
    rw [if_pos rfl]
    obtain ⟨h1, h2⟩ := hb x hx
    refine ⟨Nat.le_trans (Nat.min_le_left _ _) h1, fun hlt => ?_⟩
    rcases Nat.le_total (dd x) (nrm F src dd x + 1) with hl | hl
    · rw [Nat.min_eq_left hl] at hlt ⊢; exact h2 hlt
    · rw [Nat.min_eq_right hl] at hlt ⊢
      obtain ⟨u, hu, he, hd⟩ := nrm_some (F := F) (dd := dd) (v := x) h (by omega)
      exact ⟨u, he, by rw [← hd]; exact (hb u hu).2 (by omega)⟩
  · rw [if_neg e]; exact hb x hx
theorem rlx_le {F : Nat} {src : Nat → Nat → Option Nat} {dd : Nat → Nat} {v x : Nat} : rlx F src dd v x ≤ dd x := by
  unfold rlx
  split
  · next e => subst e; exact Nat.min_le_left _ _
  · exact Nat.le_refl _
theorem rlx_BP {F n : Nat} {src : Nat → Nat → Option Nat} {to r : Nat} {dd : Nat → Nat} {v : Nat} (hb : BP n src to r dd) : BP n src to r (rlx F src dd v) := fun x hx L hL hw => Nat.le_trans rlx_le (hb x hx L hL hw)
theorem rlx_at {F n : Nat} {src : Nat → Nat → Option Nat} {to r : Nat} {dd : Nat → Nat} {v : Nat} (h : GS n src) (hv : v < n) (hb : BP n src to r dd) : ∀ L, L ≤ r + 1 → Wk src L v to → rlx F src dd v v ≤ L := by
  intro L hL hw
  unfold rlx
  rw [if_pos rfl]
  cases L with
  | zero => exact Nat.le_trans (Nat.min_le_left _ _) (hb v hv 0 (Nat.zero_le _) hw)
  | succ L =>
    obtain ⟨x, he, hx⟩ := hw
    have h1 := hb x (ed_lt h he) L (by omega) hx
    have h2 := nrm_le (F := F) (dd := dd) he
    exact Nat.le_trans (Nat.min_le_right _ _) (by omega)
/-- the distances to a node: F where there is no walk -/
def IsD (F n : Nat) (src : Nat → Nat → Option Nat) (to : Nat) (dd : Nat → Nat) : Prop := ∀ v, v < n → (dd v = F ∧ ∀ L, ¬ Wk src L v to) ∨ (dd v < n ∧ Wk src (dd v) v to ∧ ∀ L, Wk src L v to → dd v ≤ L)
theorem IsD_of {F n : Nat} {src : Nat → Nat → Option Nat} {to : Nat} {dd : Nat → Nat} (h : GS n src) (hF : n ≤ F) (h1 : BI F n src to dd) (h2 : BP n src to n dd) : IsD F n src to dd := by
  intro v hv
  by_cases hc : ∃ L, Wk src L v to
  · obtain ⟨L, hL⟩ := hc
    obtain ⟨L', a1, -, a3⟩ := Wk_short h hv L L (Nat.le_refl _) hL
    have hd := h2 v hv L' (by omega) a3
    refine Or.inr ⟨by omega, (h1 v hv).2 (by omega), fun M hM => ?_⟩
    obtain ⟨M', b1, b2, b3⟩ := Wk_short h hv M M (Nat.le_refl _) hM
    have := h2 v hv M' (by omega) b3
    omega
  · refine Or.inl ⟨?_, fun L hL => hc ⟨L, hL⟩⟩
    rcases Nat.lt_or_ge (dd v) F with hl | hl
    · exact absurd ⟨_, (h1 v hv).2 hl⟩ hc
    · exact Nat.le_antisymm (h1 v hv).1 hl
/-- the dependency that is nearest; of equal ones the first -/
def nrs (dd : Nat → Nat) : Option Nat → Option Nat → Option Nat
  | none, b => b
  | some x, none => some x
  | some x, some y => if dd x ≤ dd y then some x else some y
theorem nrs_fv {F : Nat} {dd : Nat → Nat} {a b : Option Nat} (ha : ∀ u, a = some u → dd u ≤ F) (hb : ∀ u, b = some u → dd u ≤ F) : fv F dd (nrs dd a b) = min (fv F dd a) (fv F dd b) := by
  cases a with
  | none =>
    cases b with
    | none => simp [nrs, fv]
    | some y => have := hb y rfl; simp only [nrs, fv]; omega
  | some x =>
    cases b with
    | none => have := ha x rfl; simp only [nrs, fv]; omega
    | some y =>
      simp only [nrs]
      split
      · simp only [fv]; omega
      · simp only [fv]; omega
