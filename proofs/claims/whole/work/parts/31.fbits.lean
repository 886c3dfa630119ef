/-! ===== sets of nodes as bits (the family of bt begins as the kit gives it for pasting) ===== -/
def bt (x : Int32) (i : Nat) : Bool := x.toBitVec.getLsbD i
theorem b_ext {x y : Int32} (h : ∀ i, i < 32 → bt x i = bt y i) : x = y := Int32.toBitVec_inj.mp (BitVec.eq_of_getLsbD_eq (fun i hi => h i hi))
theorem b_or (x y : Int32) (i : Nat) : bt (x ||| y) i = (bt x i || bt y i) := by unfold bt; rw [Int32.toBitVec_or, BitVec.getLsbD_or]
theorem b_and (x y : Int32) (i : Nat) : bt (x &&& y) i = (bt x i && bt y i) := by unfold bt; rw [Int32.toBitVec_and, BitVec.getLsbD_and]
theorem b_xor (x y : Int32) (i : Nat) : bt (x ^^^ y) i = (bt x i ^^ bt y i) := by unfold bt; rw [Int32.toBitVec_xor, BitVec.getLsbD_xor]
theorem b_big {x : Int32} {i : Nat} (h : 32 ≤ i) : bt x i = false := BitVec.getLsbD_of_ge _ _ h
theorem b_m1 : ∀ i, i < 32 → bt (-1) i = true := by decide +kernel
theorem b_0 (i : Nat) : bt 0 i = false := BitVec.getLsbD_zero
theorem s_l : ∀ n, n < 32 → ((nI n &&& 31).toBitVec.smod 32).toNat = n := by decide +kernel
theorem s_u : ∀ n, n < 32 → (((nI n).toUInt32 &&& Int32.toUInt32 31).toBitVec % 32).toNat = n := by decide +kernel
theorem b_shl (n : Nat) (hn : n < 32) (x : Int32) {i : Nat} (hi : i < 32) : bt (x <<< (nI n &&& 31)) i = (decide (n ≤ i) && bt x (i - n)) := by
  unfold bt
  rw [Int32.toBitVec_shiftLeft]
  show (x.toBitVec <<< ((nI n &&& 31).toBitVec.smod 32).toNat).getLsbD i = _
  rw [s_l n hn, BitVec.getLsbD_shiftLeft]
  rcases Nat.lt_or_ge i n with h | h
  · simp [h, Nat.not_le.mpr h]
  · simp [hi, h, Nat.not_lt.mpr h]
theorem b_sshr (n : Nat) (hn : n < 32) (x : Int32) {i : Nat} (hi : i < 32) : bt (x >>> (nI n &&& 31)) i = if n + i < 32 then bt x (n + i) else bt x 31 := by
  unfold bt
  rw [Int32.toBitVec_shiftRight]
  show (x.toBitVec.sshiftRight ((nI n &&& 31).toBitVec.smod 32).toNat).getLsbD i = _
  rw [s_l n hn, BitVec.getLsbD_sshiftRight, BitVec.msb_eq_getLsbD_last]
  simp [hi]
theorem b_1 (i : Nat) (h : i < 32) : bt 1 i = decide (i = 0) := (by decide +kernel : ∀ i, i < 32 → bt 1 i = decide (i = 0)) i h
theorem bt_nI (n i : Nat) (h : i < 32) : bt (nI n) i = n.testBit i := by
  unfold bt
  show (BitVec.ofNat 32 n).getLsbD i = _
  rw [BitVec.getLsbD_ofNat]
  simp [h]
/-- the bits of x are the set S -/
def isS (x : Int32) (S : Nat → Bool) : Prop := ∀ i, i < 32 → bt x i = S i
theorem isS_0 : isS 0 (fun _ => false) := fun i _ => b_0 i
theorem isS_or {x y : Int32} {S T : Nat → Bool} (h1 : isS x S) (h2 : isS y T) : isS (x ||| y) (fun i => S i || T i) := fun i hi => by rw [b_or, h1 i hi, h2 i hi]
theorem isS_cg {x : Int32} {S T : Nat → Bool} (h : isS x S) (e : ∀ i, i < 32 → S i = T i) : isS x T := fun i hi => (h i hi).trans (e i hi)
theorem f_setOf {v : Nat} (hv : v < 32) : isS (m_X6_setOf (nI v)) (fun i => decide (i = v)) := by
  intro i hi
  unfold m_X6_setOf
  rw [if_neg (m1_ne (by omega)), b_shl v hv 1 hi]
  by_cases h : v ≤ i
  · rw [b_1 _ (by omega)]
    simp only [h, decide_true, Bool.true_and]
    by_cases e : i = v
    · subst e; simp
    · simp [e, show ¬ i - v = 0 by omega]
  · simp [h, show ¬ i = v by omega]
theorem f_setOf_m1 : m_X6_setOf (-1) = 0 := by decide
theorem f_setOf_eo {x : Option Nat} (h : ∀ u, x = some u → u < 32) : isS (m_X6_setOf (eo x)) (fun i => decide (x = some i)) := by
  cases x with
  | none => exact isS_cg (x := m_X6_setOf (-1)) (by rw [f_setOf_m1]; exact isS_0) (fun i _ => by simp)
  | some u => exact isS_cg (f_setOf (h u rfl)) (fun i _ => by simp [eq_comm])
theorem f_contains {x : Int32} {S : Nat → Bool} (h : isS x S) {v : Nat} (hv : v < 32) : m_X6_contains x (nI v) = bI (S v) := by
  have key : ((x >>> (nI v &&& 31)) &&& 1) = 0 ↔ S v = false := by
    constructor
    · intro e
      have h2 := congrArg (fun z => bt z 0) e
      simp only [b_and, b_0] at h2
      rw [b_sshr v hv x (by omega), b_1 0 (by omega), Nat.add_zero, if_pos hv, h v hv] at h2
      simpa using h2
    · intro e
      apply b_ext
      intro i hi
      rw [b_and, b_0, b_sshr v hv x hi, b_1 i hi]
      by_cases h0 : i = 0
      · subst h0
        rw [Nat.add_zero, if_pos hv, h v hv, e]
        rfl
      · simp [h0]
  unfold m_X6_contains
  by_cases e : S v = false
  · rw [if_pos (key.mpr e), e]; rfl
  · rw [if_neg (fun q => e (key.mp q))]
    have : S v = true := by simpa using e
    rw [this]; rfl
theorem f_isPartOf {x y : Int32} {S T : Nat → Bool} (h1 : isS x S) (h2 : isS y T) : m_X6_isPartOf x y = 0 ↔ ¬ ∀ i, i < 32 → S i = true → T i = true := by
  have key : (x &&& (y ^^^ (-1))) = 0 ↔ ∀ i, i < 32 → S i = true → T i = true := by
    constructor
    · intro e i hi hs
      have h3 := congrArg (fun z => bt z i) e
      simp only [b_and, b_0, b_xor, b_m1 i hi] at h3
      rw [h1 i hi, h2 i hi, hs] at h3
      simpa using h3
    · intro e
      apply b_ext
      intro i hi
      rw [b_and, b_0, b_xor, b_m1 i hi, h1 i hi, h2 i hi]
      cases hs : S i with
      | false => rfl
      | true => rw [e i hi hs]; rfl
  unfold m_X6_isPartOf
  by_cases e : ∀ i, i < 32 → S i = true → T i = true
  · rw [if_pos (key.mpr e)]; exact ⟨fun q => absurd q (by decide), fun q => absurd e q⟩
  · rw [if_neg (fun q => e (key.mp q))]; exact ⟨fun _ => e, fun _ => rfl⟩
theorem f_isWithin {i : Int32} {n : Nat} (hn : n < 2 ^ 31) : m_X6_isWithin i (nI n) = bI (decide (∃ k, k < n ∧ i = nI k)) := by
  unfold m_X6_isWithin
  by_cases h0 : i < 0
  · rw [if_pos h0, decide_eq_false]
    · rfl
    · rintro ⟨k, hk, rfl⟩
      exact nI_pos (by omega) h0
  · rw [if_neg h0]
    obtain ⟨j, hj, rfl⟩ := nI_of h0
    by_cases h1 : n ≤ j
    · rw [if_pos (nI_le h1 hj), decide_eq_false]
      · rfl
      · rintro ⟨k, hk, e⟩
        have := (nI_eq hj (by omega)).mp e
        omega
    · rw [if_neg (fun q => h1 ((nI_leI hn hj).mp q)), decide_eq_true ⟨j, by omega, rfl⟩]
      rfl
theorem f_isWithin_nI {i n : Nat} (hi : i < 2 ^ 31) (hn : n < 2 ^ 31) : m_X6_isWithin (nI i) (nI n) = bI (decide (i < n)) := by
  rw [f_isWithin hn]
  congr 1
  by_cases h : i < n
  · rw [decide_eq_true h, decide_eq_true ⟨i, h, rfl⟩]
  · rw [decide_eq_false h, decide_eq_false]
    rintro ⟨k, hk, e⟩
    have := (nI_eq hi (by omega)).mp e
    omega
