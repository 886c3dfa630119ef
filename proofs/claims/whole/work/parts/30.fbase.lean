/-! ===== the ground of the pure part: ints, rows, loops ===== -/
theorem FU_big {n : Nat} (h : n < 5000) : n < FU := h
theorem nI_lit (n : Nat) : (OfNat.ofNat n : Int32) = nI n := by
  apply Int32.toBitVec_inj.mp
  rfl
theorem ald_nI {σ : apM} {k n i : Nat} (h : i < n) (hn : n < 2 ^ 31) : ald σ k n (nI i) = some (σ k i) := by
  unfold ald
  rw [nI_clamp (by omega), if_pos ⟨nI_pos' (by omega), h⟩]
theorem ast_nI {σ : apM} {k n i : Nat} {v : Int32} (h : i < n) (hn : n < 2 ^ 31) : ast σ k n (nI i) v = some (mst σ k i v) := by
  unfold ast
  rw [nI_clamp (by omega), if_pos ⟨nI_pos' (by omega), h⟩]
theorem rix_nI {n i : Nat} (h : i < n) (hn : n < 2 ^ 31) : rix n (nI i) = some i := by
  unfold rix
  rw [nI_clamp (by omega), if_pos ⟨nI_pos' (by omega), h⟩]
theorem mst_at {σ : apM} {k i : Nat} {v : Int32} : mst σ k i v k i = v := by
  rw [mst_e]; simp [upd]
theorem mst_ni {σ : apM} {k i k' i' : Nat} {v : Int32} (h : ¬ i' = i) : mst σ k i v k' i' = σ k' i' := by
  unfold mst
  split
  · next e => subst e; simp [upd, h]
  · rfl
theorem mst_ap (σ : apM) (k i : Nat) (v : Int32) (k' i' : Nat) : mst σ k i v k' i' = if k' = k ∧ i' = i then v else σ k' i' := by
  unfold mst
  by_cases h : k' = k
  · subst h
    by_cases h2 : i' = i
    · subst h2; simp [upd]
    · simp [upd, h2]
  · simp [h]
theorem mfl_k {σ : apM} {k k' : Nat} {v : Int32} (h : ¬ k' = k) : ∀ n, mfl σ k v n k' = σ k' := by
  intro n
  induction n with
  | zero => rfl
  | succ n ih => unfold mfl; rw [mst_k h, ih]
theorem mfl_at {σ : apM} {k : Nat} {v : Int32} : ∀ (n i : Nat), mfl σ k v n k i = if i < n then v else σ k i := by
  intro n
  induction n with
  | zero => intro i; simp [mfl]
  | succ n ih =>
    intro i
    unfold mfl
    rw [mst_ap, ih]
    by_cases h : i = n
    · subst h; simp
    · by_cases h2 : i < n
      · simp [h, h2, Nat.lt_succ_of_lt h2]
      · simp [h, h2, show ¬ i < n + 1 by omega]
/-- only these cells may have changed -/
def Fr (ks : List Nat) (σ σ' : apM) : Prop := ∀ k, k ∉ ks → σ' k = σ k
theorem Fr.rf {ks : List Nat} {σ : apM} : Fr ks σ σ := fun _ _ => rfl
theorem Fr.tr {ks : List Nat} {a b c : apM} (h1 : Fr ks a b) (h2 : Fr ks b c) : Fr ks a c := fun k h => (h2 k h).trans (h1 k h)
theorem Fr.mono {k1 k2 : List Nat} {a b : apM} (h : Fr k1 a b) (hs : ∀ k ∈ k1, k ∈ k2) : Fr k2 a b := fun k hk => h k (fun q => hk (hs k q))
theorem Fr.mst {ks : List Nat} {σ : apM} {k i : Nat} {v : Int32} (h : k ∈ ks) : Fr ks σ (mst σ k i v) := fun k' hk => mst_k (fun e => hk (e ▸ h))
theorem Fr.mfl {ks : List Nat} {σ : apM} {k n : Nat} {v : Int32} (h : k ∈ ks) : Fr ks σ (mfl σ k v n) := fun k' hk => mfl_k (k := k) (fun e => hk (by rw [e]; exact h)) n
/-- a computation that gives an answer, and what holds of it -/
def Ok {α : Type} (x : Option α) (P : α → Prop) : Prop := ∃ a, x = some a ∧ P a
theorem Ok.pure {α : Type} {a : α} {P : α → Prop} (h : P a) : Ok (some a) P := ⟨a, rfl, h⟩
theorem Ok.bind {α β : Type} {x : Option α} {f : α → Option β} {P : α → Prop} {Q : β → Prop} (h : Ok x P) (k : ∀ a, P a → Ok (f a) Q) : Ok (Option.bind x f) Q := by
  obtain ⟨a, e, ha⟩ := h
  rw [e]
  exact k a ha
theorem Ok.mono {α : Type} {x : Option α} {P Q : α → Prop} (h : Ok x P) (k : ∀ a, P a → Q a) : Ok x Q := by
  obtain ⟨a, e, ha⟩ := h
  exact ⟨a, e, k a ha⟩
theorem Ok.eq {α : Type} {x : Option α} {a : α} (h : Ok x (fun b => b = a)) : x = some a := by
  obtain ⟨b, e, rfl⟩ := h
  exact e
theorem Ok.of {α : Type} {x : Option α} {a : α} {P : α → Prop} (e : x = some a) (h : P a) : Ok x P := ⟨a, e, h⟩
theorem Ok.get {α : Type} {x : Option α} {a : α} {P : α → Prop} (h : Ok x P) (e : x = some a) : P a := by
  obtain ⟨b, eb, hb⟩ := h
  rw [e] at eb
  cases eb
  exact hb
/-- a loop with a measure -/
theorem lp_ok {S E : Type} {b : S → Option (S ⊕ E)} (I : S → Prop) (μ : S → Nat) {P : E → Prop} (hs : ∀ s, I s → Ok (b s) (fun r => match r with | .inl s' => I s' ∧ μ s' < μ s | .inr e => P e)) : ∀ (n : Nat) (s : S), μ s < n → I s → Ok (lp n b s) P := by
  intro n
  induction n with
  | zero => intro s h; omega
  | succ n ih =>
    intro s hm hi
    obtain ⟨r, e, hr⟩ := hs s hi
    unfold lp
    rw [e]
    cases r with
    | inl s' => exact ih s' (by have := hr.2; omega) hr.1
    | inr e' => exact Ok.pure hr
/-- a loop that counts from a to n, over a state T beside the counter -/
theorem lp_for {S E T : Type} {b : S → Option (S ⊕ E)} (st : Nat → T → S) (J : Nat → T → Prop) {P : E → Prop} (n : Nat)
    (hstep : ∀ k t, k < n → J k t → Ok (b (st k t)) (fun r => ∃ t', r = .inl (st (k + 1) t') ∧ J (k + 1) t'))
    (hend : ∀ t, J n t → Ok (b (st n t)) (fun r => ∃ e, r = .inr e ∧ P e)) : ∀ (d k : Nat) (t : T) (f : Nat), k + d = n → d < f → J k t → Ok (lp f b (st k t)) P := by
  intro d
  induction d with
  | zero =>
    intro k t f hk hf hJ
    have hk : k = n := by omega
    subst hk
    obtain ⟨r, e, e', rfl, hp⟩ := hend t hJ
    obtain ⟨f, rfl⟩ : ∃ z, f = z + 1 := ⟨f - 1, by omega⟩
    unfold lp
    rw [e]
    exact Ok.pure hp
  | succ d ih =>
    intro k t f hk hf hJ
    obtain ⟨r, e, t', rfl, hJ'⟩ := hstep k t (by omega) hJ
    obtain ⟨f, rfl⟩ : ∃ z, f = z + 1 := ⟨f - 1, by omega⟩
    unfold lp
    rw [e]
    exact ih (k + 1) t' f (by omega) (by omega) hJ'
/-- .. from 0 -/
theorem lp_for0 {S E T : Type} {b : S → Option (S ⊕ E)} (st : Nat → T → S) (J : Nat → T → Prop) {P : E → Prop} (n : Nat) (hn : n < FU)
    (hstep : ∀ k t, k < n → J k t → Ok (b (st k t)) (fun r => ∃ t', r = .inl (st (k + 1) t') ∧ J (k + 1) t'))
    (hend : ∀ t, J n t → Ok (b (st n t)) (fun r => ∃ e, r = .inr e ∧ P e)) (t : T) (h0 : J 0 t) : Ok (lp FU b (st 0 t)) P :=
  lp_for st J n hstep hend n 0 t FU (by omega) hn h0
/-- a loop that may also end inside -/
theorem lp_forR {S E T : Type} {b : S → Option (S ⊕ E)} (st : Nat → T → S) (J : Nat → T → Prop) {P : E → Prop} (n : Nat)
    (hstep : ∀ k t, k < n → J k t → Ok (b (st k t)) (fun r => (∃ t', r = .inl (st (k + 1) t') ∧ J (k + 1) t') ∨ ∃ e, r = .inr e ∧ P e))
    (hend : ∀ t, J n t → Ok (b (st n t)) (fun r => ∃ e, r = .inr e ∧ P e)) : ∀ (d k : Nat) (t : T) (f : Nat), k + d = n → d < f → J k t → Ok (lp f b (st k t)) P := by
  intro d
  induction d with
  | zero =>
    intro k t f hk hf hJ
    have hk : k = n := by omega
    subst hk
    obtain ⟨r, e, e', rfl, hp⟩ := hend t hJ
    obtain ⟨f, rfl⟩ : ∃ z, f = z + 1 := ⟨f - 1, by omega⟩
    unfold lp
    rw [e]
    exact Ok.pure hp
  | succ d ih =>
    intro k t f hk hf hJ
    obtain ⟨r, e, h⟩ := hstep k t (by omega) hJ
    obtain ⟨f, rfl⟩ : ∃ z, f = z + 1 := ⟨f - 1, by omega⟩
    unfold lp
    rw [e]
    rcases h with ⟨t', rfl, hJ'⟩ | ⟨e', rfl, hp⟩
    · exact ih (k + 1) t' f (by omega) (by omega) hJ'
    · exact Ok.pure hp
/-! small facts of ints -/
theorem nI_le_iff {a b : Nat} (ha : a < 2 ^ 31) (hb : b < 2 ^ 31) : nI a ≤ nI b ↔ a ≤ b := nI_leI ha hb
theorem nI_lt_iff {a b : Nat} (ha : a < 2 ^ 31) (hb : b < 2 ^ 31) : nI a < nI b ↔ a < b := nI_ltI ha hb
theorem nI_eq_iff {a b : Nat} (ha : a < 2 ^ 31) (hb : b < 2 ^ 31) : nI a = nI b ↔ a = b := nI_eq ha hb
theorem m1_ne {a : Nat} (ha : a < 2 ^ 31) : ¬ nI a = -1 := by
  intro h
  have := congrArg Int32.toInt h
  rw [nI_toInt ha] at this
  simp at this
theorem m1_lt {a : Nat} (ha : a < 2 ^ 31) : (-1 : Int32) < nI a := by
  rw [Int32.lt_iff_toInt_lt, nI_toInt ha]
  simp
  omega
theorem m1_ne' {a : Nat} (ha : a < 2 ^ 31) : ¬ (-1 : Int32) = nI a := fun h => m1_ne ha h.symm
theorem m1_neg : (-1 : Int32) < 0 := by decide
/-- none is -1 -/
def eo : Option Nat → Int32
  | none => -1
  | some k => nI k
theorem eo_m1 {x : Option Nat} (hx : ∀ k, x = some k → k < 2 ^ 31) : eo x = -1 ↔ x = none := by
  cases x with
  | none => simp [eo]
  | some k => simp [eo, m1_ne (hx k rfl)]
theorem eo_neg {x : Option Nat} (hx : ∀ k, x = some k → k < 2 ^ 31) : eo x < 0 ↔ x = none := by
  cases x with
  | none => simp [eo]
  | some k => simp [eo, nI_pos (hx k rfl)]
def bI (b : Bool) : Int32 := if b then 1 else 0
theorem bI_0 {b : Bool} : bI b = 0 ↔ b = false := by cases b <;> decide
theorem bI_1 {b : Bool} : bI b = 1 ↔ b = true := by cases b <;> decide
theorem bI_nar {b : Bool} : vp_nar .boolean (bI b) = bI b := by cases b <;> rfl
theorem bI_z {b : Bool} : bz (bI b) = some (bI b) := by cases b <;> rfl
