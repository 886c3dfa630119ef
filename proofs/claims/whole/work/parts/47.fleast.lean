/-! ===== the least peak ===== -/
def nxt (d v : Nat) : Nat := d ||| 2 ^ v
def sbt (d : Nat) (S : Nat → Bool) : Bool := (List.range 32).all (fun u => !(S u) || d.testBit u)
theorem sbt_iff {d : Nat} {S : Nat → Bool} : sbt d S = true ↔ ∀ u, u < 32 → S u = true → d.testBit u = true := by
  unfold sbt
  rw [List.all_eq_true]
  constructor
  · intro h u hu e
    have := h u (List.mem_range.mpr hu)
    rw [e] at this
    simpa using this
  · intro h u hu
    cases z : S u with
    | false => rfl
    | true => rw [h u (List.mem_range.mp hu) z]; rfl
def cnd (src : Nat → Nat → Option Nat) (d v : Nat) : Bool := !(d.testBit v) && sbt d (ed src v)
def held (n : Nat) (src : Nat → Nat → Option Nat) (ke : Nat → Bool) (Z : Nat → Nat) (d : Nat) : Nat := sm (fun v => d.testBit v && (ke v || !(sbt d (fun w => decide (w < n) && ed src w v)))) Z n
def upK (n : Nat) (src : Nat → Nat → Option Nat) (ke : Nat → Bool) (Z : Nat → Nat) (d : Nat) (B : Nat → Nat) : Nat → Nat → Nat
  | 0 => B
  | v + 1 => if cnd src d v = true then upN (upK n src ke Z d B v) (nxt d v) (min (upK n src ke Z d B v (nxt d v)) (max (upK n src ke Z d B v d) (held n src ke Z d + Z v))) else upK n src ke Z d B v
def lsK (n : Nat) (src : Nat → Nat → Option Nat) (ke : Nat → Bool) (Z : Nat → Nat) (F : Nat) : Nat → Nat → Nat
  | 0 => fun s => if s = 0 then 0 else F
  | d + 1 => if lsK n src ke Z F d d < F then upK n src ke Z d (lsK n src ke Z F d) n else lsK n src ke Z F d
section
variable {n : Nat} {src : Nat → Nat → Option Nat} {ke : Nat → Bool} {Z : Nat → Nat}
theorem up_t {d v : Nat} {B : Nat → Nat} (h : cnd src d v = true) : upK n src ke Z d B (v + 1) = upN (upK n src ke Z d B v) (nxt d v) (min (upK n src ke Z d B v (nxt d v)) (max (upK n src ke Z d B v d) (held n src ke Z d + Z v))) := by
  show (if cnd src d v = true then _ else _) = _
  rw [if_pos h]
theorem up_f {d v : Nat} {B : Nat → Nat} (h : cnd src d v = false) : upK n src ke Z d B (v + 1) = upK n src ke Z d B v := by
  show (if cnd src d v = true then _ else _) = _
  rw [if_neg (by rw [h]; decide)]
theorem up_le {d : Nat} {B : Nat → Nat} : ∀ k s, upK n src ke Z d B k s ≤ B s := by
  intro k
  induction k with
  | zero => intro s; exact Nat.le_refl _
  | succ k ih =>
    intro s
    cases c : cnd src d k with
    | true =>
      rw [up_t c]
      unfold upN
      split
      · next e => subst e; have := ih (nxt d k); omega
      · exact ih s
    | false => rw [up_f c]; exact ih s
theorem up_hit {d v : Nat} {B : Nat → Nat} (h : cnd src d v = true) : ∀ k, v < k → upK n src ke Z d B k (nxt d v) ≤ max (B d) (held n src ke Z d + Z v) := by
  intro k
  induction k with
  | zero => intro q; omega
  | succ k ih =>
    intro q
    by_cases e : v = k
    · subst e
      rw [up_t h]
      unfold upN
      rw [if_pos rfl]
      have := up_le (n := n) (src := src) (ke := ke) (Z := Z) (d := d) (B := B) v d
      omega
    · have h2 := ih (by omega)
      cases c : cnd src d k with
      | true =>
        rw [up_t c]
        unfold upN
        split
        · next e2 => rw [← e2]; omega
        · exact h2
      | false => rw [up_f c]; exact h2
theorem up_rel {d G : Nat} {B R : Nat → Nat} (h : ∀ s, B s = min G (R s)) : ∀ k s, upK n src ke Z d B k s = min G (upK n src ke Z d R k s) := by
  intro k
  induction k with
  | zero => exact h
  | succ k ih =>
    intro s
    cases c : cnd src d k with
    | true =>
      rw [up_t c, up_t c]
      unfold upN
      split
      · have := ih (nxt d k); have := ih d; omega
      · exact ih s
    | false => rw [up_f c, up_f c]; exact ih s
theorem up_no {d G : Nat} {B : Nat → Nat} (h : ∀ s, B s ≤ G) (hd : G ≤ B d) : ∀ k s, upK n src ke Z d B k s = B s := by
  intro k
  induction k with
  | zero => intro s; rfl
  | succ k ih =>
    intro s
    cases c : cnd src d k with
    | true =>
      rw [up_t c]
      unfold upN
      split
      · next e => subst e; rw [ih, ih]; have := h (nxt d k); omega
      · exact ih s
    | false => rw [up_f c]; exact ih s
theorem ls_t {F d : Nat} (h : lsK n src ke Z F d d < F) : lsK n src ke Z F (d + 1) = upK n src ke Z d (lsK n src ke Z F d) n := by
  show (if lsK n src ke Z F d d < F then _ else _) = _
  rw [if_pos h]
theorem ls_f {F d : Nat} (h : ¬ lsK n src ke Z F d d < F) : lsK n src ke Z F (d + 1) = lsK n src ke Z F d := by
  show (if lsK n src ke Z F d d < F then _ else _) = _
  rw [if_neg h]
theorem ls_b {F : Nat} : ∀ d s, lsK n src ke Z F d s ≤ F := by
  intro d
  induction d with
  | zero => intro s; show (if s = 0 then 0 else F) ≤ F; split <;> omega
  | succ d ih =>
    intro s
    by_cases c : lsK n src ke Z F d d < F
    · rw [ls_t c]; exact Nat.le_trans (up_le n s) (ih s)
    · rw [ls_f c]; exact ih s
theorem ls_rel {G : Nat} (hG : G ≤ 480) : ∀ d s, lsK n src ke Z G d s = min G (lsK n src ke Z 1000 d s) := by
  intro d
  induction d with
  | zero => intro s; show (if s = 0 then 0 else G) = min G (if s = 0 then 0 else 1000); split <;> omega
  | succ d ih =>
    intro s
    have hd := ih d
    by_cases c : lsK n src ke Z G d d < G
    · rw [ls_t c, ls_t (by omega)]
      exact up_rel ih n s
    · rw [ls_f c]
      by_cases e : lsK n src ke Z 1000 d d < 1000
      · rw [ls_t e, ← up_rel ih n s]
        exact (up_no (G := G) (fun s => ls_b d s) (by omega) n s).symm
      · rw [ls_f e]; exact ih s
/-- the sets that come by the plan's own order -/
def Sk (sq : Nat → Nat) : Nat → Nat
  | 0 => 0
  | k + 1 => nxt (Sk sq k) (sq k)
theorem nxt_bit {d v i : Nat} : (nxt d v).testBit i = (d.testBit i || decide (v = i)) := by
  unfold nxt
  rw [Nat.testBit_or, Nat.testBit_two_pow]
theorem Sk_bit {sq : Nat → Nat} : ∀ k i, (Sk sq k).testBit i = true ↔ ∃ j, j < k ∧ sq j = i := by
  intro k
  induction k with
  | zero => intro i; show (0 : Nat).testBit i = true ↔ _; rw [Nat.zero_testBit]; exact ⟨fun q => (by cases q), fun ⟨j, hj, _⟩ => by omega⟩
  | succ k ih =>
    intro i
    show (nxt (Sk sq k) (sq k)).testBit i = true ↔ _
    rw [nxt_bit, Bool.or_eq_true, decide_eq_true_iff, ih i]
    constructor
    · rintro (⟨j, hj, e⟩ | e)
      · exact ⟨j, by omega, e⟩
      · exact ⟨k, by omega, e⟩
    · rintro ⟨j, hj, e⟩
      by_cases c : j = k
      · subst c; exact Or.inr e
      · exact Or.inl ⟨j, by omega, e⟩
theorem nxt_gt {d v : Nat} (h : d.testBit v = false) : d < nxt d v := by
  have h1 : d ≤ nxt d v := Nat.left_le_or
  rcases Nat.lt_or_ge d (nxt d v) with q | q
  · exact q
  · have e : nxt d v = d := by omega
    have := nxt_bit (d := d) (v := v) (i := v)
    rw [e, h] at this
    simp at this
theorem nxt_lt {d v : Nat} (h : d < 2 ^ n) (hv : v < n) : nxt d v < 2 ^ n := Nat.or_lt_two_pow h (Nat.pow_lt_pow_right (by omega) hv)
theorem Sk_lt {sq : Nat → Nat} (h : ∀ i, i < n → sq i < n) : ∀ k, k ≤ n → Sk sq k < 2 ^ n := by
  intro k
  induction k with
  | zero => intro _; exact Nat.two_pow_pos n
  | succ k ih => intro hk; exact nxt_lt (ih (by omega)) (h k (by omega))
theorem Sk_all {sq po : Nat → Nat} (h : PO n sq po) : Sk sq n = 2 ^ n - 1 := by
  apply Nat.eq_of_testBit_eq
  intro i
  rw [Nat.testBit_two_pow_sub_one]
  by_cases c : i < n
  · rw [decide_eq_true c]
    exact (Sk_bit n i).mpr ⟨po i, h.1 i c⟩
  · rw [decide_eq_false c]
    cases z : (Sk sq n).testBit i with
    | false => rfl
    | true =>
      obtain ⟨j, hj, e⟩ := (Sk_bit n i).mp z
      have := (h.2 j hj).1
      omega
theorem sm_add {P Q : Nat → Bool} {f : Nat → Nat} {e : Nat} (h1 : P e = false) (h2 : Q e = true) : ∀ k, (∀ v, v < k → P v = true → Q v = true) → (e < k → sm P f k + f e ≤ sm Q f k) ∧ sm P f k ≤ sm Q f k := by
  intro k
  induction k with
  | zero => intro _; exact ⟨fun q => by omega, Nat.le_refl _⟩
  | succ k ih =>
    intro h
    obtain ⟨i1, i2⟩ := ih (fun v hv => h v (by omega))
    by_cases c : e = k
    · subst c
      rw [sm_f h1, sm_t h2]
      exact ⟨fun _ => by omega, by omega⟩
    · cases z : P k with
      | true =>
        rw [sm_t z, sm_t (h k (by omega) z)]
        exact ⟨fun q => by have := i1 (by omega); omega, by omega⟩
      | false =>
        rw [sm_f z]
        have : sm Q f k ≤ sm Q f (k + 1) := by
          cases z2 : Q k with
          | true => rw [sm_t z2]; omega
          | false => rw [sm_f z2]; exact Nat.le_refl _
        exact ⟨fun q => by have := i1 (by omega); omega, by omega⟩
/-- what is held behind the first k nodes, and the next one, is no more than the step's cost -/
theorem held_le {sq po la : Nat → Nat} {j : Nat} (h : GS n src) (hQ : PO n sq po) (hL : ∀ v, v < n → IsLa n src ke po v (la v)) (hj : j < n) : held n src ke Z (Sk sq j) + Z (sq j) ≤ cst n Z po la j := by
  obtain ⟨hsj, hpj⟩ := hQ.2 j hj
  unfold held cst
  refine (sm_add (e := sq j) ?_ ?_ n (fun v hv q => ?_)).1 hsj
  · cases z : (Sk sq j).testBit (sq j) with
    | false => rfl
    | true =>
      obtain ⟨i, hi, e⟩ := (Sk_bit j _).mp z
      have := (hQ.2 i (by omega)).2
      rw [e, hpj] at this
      omega
  · have := (IsLa_b (fun v hv => (hQ.1 v hv).1) hsj (hL _ hsj)).2.1
    exact decide_eq_true (by omega)
  · rw [Bool.and_eq_true, Bool.or_eq_true] at q
    obtain ⟨q1, q2⟩ := q
    obtain ⟨i, hi, e⟩ := (Sk_bit j v).mp q1
    have hpv : po v = i := by rw [← e]; exact (hQ.2 i (by omega)).2
    have hlb := IsLa_b (fun v hv => (hQ.1 v hv).1) hv (hL v hv)
    apply decide_eq_true
    refine ⟨by omega, ?_⟩
    rcases q2 with q2 | q2
    · rw [(hL v hv).1 q2]; omega
    · have q2 : sbt (Sk sq j) (fun w => decide (w < n) && ed src w v) = false := by simpa using q2
      apply Classical.byContradiction
      intro hc
      rw [← Bool.not_eq_true] at q2
      apply q2
      apply sbt_iff.mpr
      intro w _ hw
      rw [Bool.and_eq_true, decide_eq_true_iff] at hw
      have := hlb.2.2 w hw.1 hw.2
      exact (Sk_bit j w).mpr ⟨po w, by omega, (hQ.1 w hw.1).2⟩
theorem ls_own {sq po la : Nat → Nat} {G : Nat} (h : GS n src) (hQ : PO n sq po) (hT : TP n src sq) (hL : ∀ v, v < n → IsLa n src ke po v (la v)) (hG : IsG n Z po la G) (hG4 : G ≤ 480) : lsK n src ke Z 1000 (2 ^ n - 1) (2 ^ n - 1) ≤ G := by
  have hn := h.1
  have hsb : ∀ j, j < n → (Sk sq j).testBit (sq j) = false := fun j hj => by
    cases z : (Sk sq j).testBit (sq j) with
    | false => rfl
    | true =>
      obtain ⟨i, hi, e⟩ := (Sk_bit j _).mp z
      have a := (hQ.2 i (by omega)).2
      rw [e, (hQ.2 j hj).2] at a
      omega
  have hlt : ∀ j, j < n → Sk sq j < Sk sq (j + 1) := fun j hj => nxt_gt (hsb j hj)
  have key : ∀ d k, k ≤ n → (k = 0 ∨ ∃ j, k = j + 1 ∧ Sk sq j < d) → lsK n src ke Z 1000 d (Sk sq k) ≤ G := by
    intro d
    induction d with
    | zero =>
      intro k hk q
      rcases q with rfl | ⟨j, _, hj⟩
      · exact Nat.zero_le _
      · omega
    | succ d ih =>
      intro k hk q
      have hmono : lsK n src ke Z 1000 (d + 1) (Sk sq k) ≤ lsK n src ke Z 1000 d (Sk sq k) := by
        by_cases c : lsK n src ke Z 1000 d d < 1000
        · rw [ls_t c]; exact up_le n _
        · rw [ls_f c]; exact Nat.le_refl _
      by_cases e : k = 0 ∨ ∃ j, k = j + 1 ∧ Sk sq j < d
      · exact Nat.le_trans hmono (ih k hk e)
      · rcases q with q | ⟨j, rfl, hj⟩
        · exact absurd (Or.inl q) e
        · have hd : Sk sq j = d := by
            rcases Nat.lt_or_ge (Sk sq j) d with z | z
            · exact absurd (Or.inr ⟨j, rfl, z⟩) e
            · omega
          have h1 : lsK n src ke Z 1000 d d ≤ G := by
            have := ih j (by omega) (by
              cases j with
              | zero => exact Or.inl rfl
              | succ i => exact Or.inr ⟨i, rfl, by have := hlt i (by omega); omega⟩)
            rw [hd] at this
            exact this
          rw [ls_t (by omega)]
          have hc : cnd src d (sq j) = true := by
            unfold cnd
            rw [← hd, hsb j (by omega)]
            rw [Bool.not_false, Bool.true_and]
            exact sbt_iff.mpr (fun u _ hu => (Sk_bit j u).mpr (hT j (by omega) u hu))
          have h2 := up_hit (n := n) (ke := ke) (Z := Z) (B := lsK n src ke Z 1000 d) hc n (hQ.2 j (by omega)).1
          have h3 := held_le (Z := Z) h hQ hL (show j < n by omega)
          have h4 := hG.2.1 j (by omega)
          rw [hd] at h3
          show upK n src ke Z d (lsK n src ke Z 1000 d) n (nxt (Sk sq j) (sq j)) ≤ G
          rw [hd]
          omega
  have := key (2 ^ n - 1) n (Nat.le_refl _) (by
    cases n with
    | zero => exact Or.inl rfl
    | succ i =>
      refine Or.inr ⟨i, rfl, ?_⟩
      rw [← Sk_all hQ]
      exact hlt i (by omega))
  rw [Sk_all hQ] at this
  exact this
end
