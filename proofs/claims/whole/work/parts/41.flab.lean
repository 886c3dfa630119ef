/-! ===== the order by labels ===== -/
def mo (ms : Nat → Bool) : Option Nat → Option Nat
  | none => none
  | some x => if ms x = true then some x else none
def oe : Option Nat → Option Nat → Option Nat
  | some a, _ => some a
  | none, y => y
def swp (src : Nat → Nat → Option Nat) (Lb : Nat → Nat) (v : Nat) : Bool := match src v 0, src v 1 with
  | some x, some y => decide (Lb x < Lb y)
  | _, _ => false
/-- the source that is visited next -/
def nx (src : Nat → Nat → Option Nat) (Lb : Nat → Nat) (ms : Nat → Bool) (v : Nat) : Option Nat :=
  if swp src Lb v = true then oe (mo ms (src v 1)) (mo ms (src v 0)) else oe (mo ms (src v 0)) (mo ms (src v 1))
theorem mo_t {ms : Nat → Bool} {u : Nat} (h : ms u = true) : mo ms (some u) = some u := by
  show (if ms u = true then some u else none) = _
  rw [if_pos h]
theorem mo_f {ms : Nat → Bool} {u : Nat} (h : ms u = false) : mo ms (some u) = none := by
  show (if ms u = true then some u else none) = _
  rw [if_neg (by rw [h]; decide)]
theorem mo_some {ms : Nat → Bool} {x : Option Nat} {u : Nat} (h : mo ms x = some u) : x = some u ∧ ms u = true := by
  cases x with
  | none => cases h
  | some y =>
    cases z : ms y with
    | true => rw [mo_t z] at h; cases h; exact ⟨rfl, z⟩
    | false => rw [mo_f z] at h; cases h
theorem mo_none {ms : Nat → Bool} {x : Option Nat} (h : mo ms x = none) {u : Nat} (e : x = some u) : ms u = false := by
  subst e
  cases z : ms u with
  | true => rw [mo_t z] at h; cases h
  | false => rfl
theorem oe_some {x y : Option Nat} {u : Nat} (h : oe x y = some u) : x = some u ∨ (x = none ∧ y = some u) := by
  cases x with
  | none => exact Or.inr ⟨rfl, h⟩
  | some a => exact Or.inl h
theorem oe_none {x y : Option Nat} (h : oe x y = none) : x = none ∧ y = none := by
  cases x with
  | none => exact ⟨rfl, h⟩
  | some a => cases h
theorem ed_or {src : Nat → Nat → Option Nat} {v u : Nat} (e : ed src v u = true) : src v 0 = some u ∨ src v 1 = some u := by
  obtain ⟨i, hi, e⟩ := ed_in e
  rcases (show i = 0 ∨ i = 1 by omega) with rfl | rfl
  · exact Or.inl e
  · exact Or.inr e
theorem nx_some {src : Nat → Nat → Option Nat} {Lb : Nat → Nat} {ms : Nat → Bool} {v u : Nat} (h : nx src Lb ms v = some u) : ed src v u = true ∧ ms u = true := by
  unfold nx at h
  split at h
  · rcases oe_some h with q | ⟨_, q⟩
    · exact ⟨ed_of (by omega) (mo_some q).1, (mo_some q).2⟩
    · exact ⟨ed_of (by omega) (mo_some q).1, (mo_some q).2⟩
  · rcases oe_some h with q | ⟨_, q⟩
    · exact ⟨ed_of (by omega) (mo_some q).1, (mo_some q).2⟩
    · exact ⟨ed_of (by omega) (mo_some q).1, (mo_some q).2⟩
theorem nx_none {src : Nat → Nat → Option Nat} {Lb : Nat → Nat} {ms : Nat → Bool} {v : Nat} (h : nx src Lb ms v = none) {u : Nat} (e : ed src v u = true) : ms u = false := by
  unfold nx at h
  split at h
  · obtain ⟨a, b⟩ := oe_none h
    rcases ed_or e with q | q
    · exact mo_none b q
    · exact mo_none a q
  · obtain ⟨a, b⟩ := oe_none h
    rcases ed_or e with q | q
    · exact mo_none a q
    · exact mo_none b q
theorem oe_st {m1 m2 : Nat → Bool} (hm : ∀ u, m2 u = true → m1 u = true) {x y : Option Nat} {u : Nat} (h : oe (mo m1 x) (mo m1 y) = some u) (hu : m2 u = true) : oe (mo m2 x) (mo m2 y) = some u := by
  rcases oe_some h with q | ⟨q1, q⟩
  · obtain ⟨rfl, -⟩ := mo_some q
    rw [mo_t hu]
    rfl
  · obtain ⟨rfl, -⟩ := mo_some q
    have : mo m2 x = none := by
      cases x with
      | none => rfl
      | some z =>
        have z1 := mo_none q1 (u := z) rfl
        refine mo_f ?_
        cases w : m2 z with
        | false => rfl
        | true => have := hm _ w; rw [z1] at this; cases this
    rw [this, mo_t hu]
    rfl
theorem nx_st {src : Nat → Nat → Option Nat} {Lb : Nat → Nat} {m1 m2 : Nat → Bool} (hm : ∀ u, m2 u = true → m1 u = true) {v u : Nat} (h : nx src Lb m1 v = some u) (hu : m2 u = true) : nx src Lb m2 v = some u := by
  unfold nx at h ⊢
  split at h
  · next e => rw [if_pos e]; exact oe_st hm h hu
  · next e => rw [if_neg e]; exact oe_st hm h hu
/-- going down -/
def dw (src : Nat → Nat → Option Nat) (Lb : Nat → Nat) (ms : Nat → Bool) : Nat → Nat → Nat
  | 0, v => v
  | k + 1, v => match nx src Lb ms v with
    | none => v
    | some u => dw src Lb ms k u
theorem dw_none {src : Nat → Nat → Option Nat} {Lb : Nat → Nat} {ms : Nat → Bool} {v : Nat} (h : nx src Lb ms v = none) : ∀ k, dw src Lb ms k v = v := by
  intro k
  cases k with
  | zero => rfl
  | succ k => unfold dw; rw [h]
theorem dw_some {src : Nat → Nat → Option Nat} {Lb : Nat → Nat} {ms : Nat → Bool} {v u k : Nat} (h : nx src Lb ms v = some u) : dw src Lb ms (k + 1) v = dw src Lb ms k u := by
  show (match nx src Lb ms v with | none => v | some u => dw src Lb ms k u) = _
  rw [h]
/-- a rank of the nodes -/
def Rk (n : Nat) (src : Nat → Nat → Option Nat) (rk : Nat → Nat) : Prop := ∀ v, v < n → rk v < n ∧ ∀ u, ed src v u = true → rk u < rk v
theorem Rk_ex {n : Nat} {src : Nat → Nat → Option Nat} (h : GS n src) (hA : ∀ v, v < n → Tr src n v v = false) : ∃ rk, Rk n src rk := by
  obtain ⟨sq, st, hQ, hI⟩ := SQ_ex h hA
  have hT := IsON_TP hI
  refine ⟨fun v => (st v).getD 0, fun v hv => ?_⟩
  obtain ⟨i, hi, e, rfl⟩ := SQ_all hQ hv
  refine ⟨by dsimp only; rw [e]; exact hi, fun u hu => ?_⟩
  obtain ⟨j, hj, rfl⟩ := hT i hi u hu
  have := (hQ.2.1 (sq j) j).mpr ⟨by omega, rfl⟩
  dsimp only
  rw [e, this]
  exact hj
theorem dw_end {n : Nat} {src : Nat → Nat → Option Nat} {Lb rk : Nat → Nat} {ms : Nat → Bool} (h : GS n src) (hR : Rk n src rk) : ∀ k v, v < n → rk v ≤ k → ms v = true → dw src Lb ms k v < n ∧ ms (dw src Lb ms k v) = true ∧ nx src Lb ms (dw src Lb ms k v) = none ∧ (dw src Lb ms k v = v ∨ ∃ w, w < n ∧ ed src w (dw src Lb ms k v) = true) := by
  intro k
  induction k with
  | zero =>
    intro v hv hk hm
    have : nx src Lb ms v = none := by
      cases e : nx src Lb ms v with
      | none => rfl
      | some u => have := (hR v hv).2 u (nx_some e).1; omega
    exact ⟨hv, hm, this, Or.inl rfl⟩
  | succ k ih =>
    intro v hv hk hm
    cases e : nx src Lb ms v with
    | none => rw [dw_none e]; exact ⟨hv, hm, e, Or.inl rfl⟩
    | some u =>
      rw [dw_some e]
      obtain ⟨eu, mu⟩ := nx_some e
      have := (hR v hv).2 u eu
      obtain ⟨a, b, c, d⟩ := ih u (ed_lt h eu) (by omega) mu
      refine ⟨a, b, c, Or.inr ?_⟩
      rcases d with d | d
      · rw [d]; exact ⟨v, hv, eu⟩
      · exact d
/-- a chain from the root down -/
theorem dw_chain {n : Nat} {src : Nat → Nat → Option Nat} {Lb : Nat → Nat} {ms : Nat → Bool} {c : Nat → Nat} : ∀ L k, (∀ i, i < L → nx src Lb ms (c i) = some (c (i + 1))) → nx src Lb ms (c L) = none → L ≤ k → dw src Lb ms k (c 0) = c L := by
  intro L
  induction L generalizing c with
  | zero => intro k _ h _; exact dw_none h k
  | succ L ih =>
    intro k hc h hk
    obtain ⟨k, rfl⟩ : ∃ z, k = z + 1 := ⟨k - 1, by omega⟩
    rw [dw_some (hc 0 (by omega))]
    exact ih (c := fun i => c (i + 1)) k (fun i hi => hc (i + 1) (by omega)) h (by omega)
def msK (sq : Nat → Nat) (k v : Nat) : Bool := decide (∀ i, i < k → sq i ≠ v)
theorem msK_st {n k : Nat} {sq : Nat → Nat} {st : Nat → Option Nat} (h : SQ n k sq st) : msK sq k = fun v => (st v).isNone := by
  funext v
  unfold msK
  cases e : st v with
  | none => exact decide_eq_true (SQ_none h |>.mp e)
  | some i => exact decide_eq_false (fun q => by have := (SQ_none h).mpr q; rw [e] at this; cases this)
theorem msK_cg {sq s2 : Nat → Nat} {k : Nat} (h : ∀ i, i < k → sq i = s2 i) : msK sq k = msK s2 k := by
  funext v
  unfold msK
  congr 1
  exact propext ⟨fun q i hi => by rw [← h i hi]; exact q i hi, fun q i hi => by rw [h i hi]; exact q i hi⟩
def nod (n : Nat) (src : Nat → Nat → Option Nat) (u : Nat) : Prop := ∀ v, v < n → ed src v u = false
def IsOL1 (n : Nat) (src : Nat → Nat → Option Nat) (Lb : Nat → Nat) (ms : Nat → Bool) (x : Nat) : Prop := ∃ r, r < n ∧ nod n src r ∧ ms r = true ∧ (∀ u, u < r → nod n src u → ms u = false) ∧ x = dw src Lb ms n r
def IsOL (n k : Nat) (src : Nat → Nat → Option Nat) (Lb : Nat → Nat) (sq : Nat → Nat) : Prop := ∀ i, i < k → IsOL1 n src Lb (msK sq i) (sq i)
theorem IsOL1_uniq {n : Nat} {src : Nat → Nat → Option Nat} {Lb : Nat → Nat} {ms : Nat → Bool} {x y : Nat} (h1 : IsOL1 n src Lb ms x) (h2 : IsOL1 n src Lb ms y) : x = y := by
  obtain ⟨r, r1, r2, r3, r4, rfl⟩ := h1
  obtain ⟨s, s1, s2, s3, s4, rfl⟩ := h2
  rcases Nat.lt_trichotomy r s with q | q | q
  · have := s4 r q r2; rw [r3] at this; cases this
  · rw [q]
  · have := r4 s q s2; rw [s3] at this; cases this
theorem IsOL_uniq {n : Nat} {src : Nat → Nat → Option Nat} {Lb : Nat → Nat} {sq s2 : Nat → Nat} (h1 : IsOL n n src Lb sq) (h2 : IsOL n n src Lb s2) : ∀ k, k < n → sq k = s2 k := by
  intro k
  induction k using Nat.strongRecOn with
  | _ k ih =>
    intro hk
    have e := msK_cg (sq := sq) (s2 := s2) (k := k) (fun i hi => ih i hi (by omega))
    have a := h1 k hk
    rw [e] at a
    exact IsOL1_uniq a (h2 k hk)
theorem IsOL_add {n k v : Nat} {src : Nat → Nat → Option Nat} {Lb : Nat → Nat} {sq : Nat → Nat} (h : IsOL n k src Lb sq) (h1 : IsOL1 n src Lb (msK sq k) v) : IsOL n (k + 1) src Lb (upN sq k v) := by
  intro i hi
  have e : msK (upN sq k v) i = msK sq i := msK_cg (fun j hj => by unfold upN; rw [if_neg (by omega)])
  rw [e]
  by_cases c : i = k
  · subst c; unfold upN; rw [if_pos rfl]; exact h1
  · unfold upN; rw [if_neg c]; exact h i (by omega)
theorem IsOL_TP {n : Nat} {src : Nat → Nat → Option Nat} {Lb rk : Nat → Nat} {sq : Nat → Nat} {k : Nat} (h : GS n src) (hR : Rk n src rk) (hI : IsOL n k src Lb sq) : ∀ i, i < k → ∀ u, ed src (sq i) u = true → ∃ j, j < i ∧ sq j = u := by
  intro i hi u hu
  obtain ⟨r, r1, r2, r3, r4, e⟩ := hI i hi
  have h1 := (dw_end (Lb := Lb) h hR n r r1 (Nat.le_of_lt (hR r r1).1) r3).2.2.1
  rw [← e] at h1
  have := nx_none h1 hu
  unfold msK at this
  have := of_decide_eq_false this
  apply Classical.byContradiction
  intro q
  exact this (fun j hj z => q ⟨j, hj, z⟩)
/-- at the end all are in -/
theorem IsOL_all {n k : Nat} {src : Nat → Nat → Option Nat} {Lb rk : Nat → Nat} {sq : Nat → Nat} {st : Nat → Option Nat} (h : GS n src) (hA : ∀ v, v < n → Tr src n v v = false) (hR : Rk n src rk) (hQ : SQ n k sq st) (hI : IsOL n k src Lb sq) (hr : ∀ u, u < n → nod n src u → st u ≠ none) : k = n := by
  have key : ∀ d v, v < n → d + rk v = n → st v ≠ none := by
    intro d
    induction d using Nat.strongRecOn with
    | _ d ih =>
      intro v hv hd
      by_cases c : nod n src v
      · exact hr v hv c
      · obtain ⟨w, hw, e⟩ : ∃ w, w < n ∧ ed src w v = true := by
          apply Classical.byContradiction
          intro q
          exact c (fun w hw => by
            cases e : ed src w v with
            | false => rfl
            | true => exact absurd ⟨w, hw, e⟩ q)
        have h1 := (hR w hw).2 v e
        have h2 := (hR w hw).1
        have := ih (n - rk w) (by omega) w hw (by omega)
        obtain ⟨i, hi, rfl⟩ := (SQ_iff hQ).mp this
        obtain ⟨j, hj, rfl⟩ := IsOL_TP h hR hI i hi v e
        exact (SQ_iff hQ).mpr ⟨j, by omega, rfl⟩
  have := hQ.1
  apply Classical.byContradiction
  intro q
  obtain ⟨v, hv, a, -⟩ := least_rdy h hA hQ (by omega)
  exact key (n - rk v) v hv (by have := (hR v hv).1; omega) a.1
/-! the class -/
theorem f_stv {σ : apM} {n k v : Nat} {src : Nat → Nat → Option Nat} {Lb : Nat → Nat} {sq : Nat → Nat} {st : Nat → Option Nat} (h : GS n src) (hC : GC σ n src) (hQ : SQ n k sq st) (hS : ∀ v, v < n → σ 21 v = eo (st v)) (hL : Nu σ 19 n Lb) (hb : ∀ v, v < n → Lb v < 1000) (hv : v < n) : m_X4_sourceToVisit σ (nI v) = some (eo (nx src Lb (msK sq k) v)) := by
  have hn := h.1
  have hm : ∀ x : Nat, x < n → m_X4_isMissing σ (nI x) = some (bI (msK sq k x)) := fun x hx => by rw [f_isMissing hn hQ hS hx, msK_st hQ]
  have h98 : ∀ x : Option Nat, (∀ u, x = some u → u < n) → m_X4_sourceToVisit_B98 σ (eo x) = some (eo (mo (msK sq k) x)) := by
    intro x hx
    unfold m_X4_sourceToVisit_B98
    cases x with
    | none => rw [if_pos (show eo none = -1 from rfl)]; rfl
    | some u =>
      have hu := hx u rfl
      rw [if_neg (show ¬ eo (some u) = -1 from m1_ne (by omega)), show eo (some u) = nI u from rfl, hm u hu, ob]
      cases z : msK sq k u with
      | false => rw [if_pos (show bI false = 0 from rfl), mo_f z]; rfl
      | true => rw [if_neg (show ¬ bI true = 0 by decide), mo_t z]; rfl
  have h78 : ∀ x y : Option Nat, (∀ u, x = some u → u < n) → (∀ u, y = some u → u < n) → m_X4_sourceToVisit_B78 σ (eo x) (eo y) = some (eo (oe (mo (msK sq k) x) (mo (msK sq k) y))) := by
    intro x y hx hy
    unfold m_X4_sourceToVisit_B78
    cases x with
    | none => rw [if_pos (show eo none = -1 from rfl), h98 y hy]; rfl
    | some u =>
      have hu := hx u rfl
      rw [if_neg (show ¬ eo (some u) = -1 from m1_ne (by omega)), show eo (some u) = nI u from rfl, hm u hu, ob]
      cases z : msK sq k u with
      | false => rw [if_pos (show bI false = 0 from rfl), h98 y hy, mo_f z]; rfl
      | true => rw [if_neg (show ¬ bI true = 0 by decide), mo_t z]; rfl
  have s0 : ∀ u, src v 0 = some u → u < n := fun u e => h.2 _ _ _ e
  have s1 : ∀ u, src v 1 = some u → u < n := fun u e => h.2 _ _ _ e
  unfold m_X4_sourceToVisit
  simp (disch := omega) only [e_rix, e_ald0, e_ald1]
  rw [(hC.2 v hv).1, (hC.2 v hv).2]
  unfold nx swp m_X4_sourceToVisit_B53 m_X4_sourceToVisit_B54 m_X4_sourceToVisit_B66
  cases e0 : src v 0 with
  | none =>
    rw [if_pos (show eo none = -1 from rfl), if_pos rfl, if_pos rfl]
    exact h78 none (src v 1) (fun u e => by cases e) s1
  | some x =>
    have hx := s0 x e0
    rw [if_neg (show ¬ eo (some x) = -1 from m1_ne (by omega))]
    cases e1 : src v 1 with
    | none =>
      rw [if_pos (show eo none = -1 from rfl), if_pos rfl, if_pos rfl]
      exact h78 (some x) none (fun u e => s0 u (e0.trans e)) (fun u e => by cases e)
    | some y =>
      have hy := s1 y e1
      rw [if_neg (show ¬ eo (some y) = -1 from m1_ne (by omega)), show eo (some x) = nI x from rfl, show eo (some y) = nI y from rfl]
      simp (disch := omega) only [e_ald]
      rw [hL x hx, hL y hy]
      have bx := hb x hx
      have bY := hb y hy
      by_cases c : Lb y ≤ Lb x
      · rw [if_pos (nI_le c (by omega)), if_pos trivial, if_pos trivial]
        simp only [show ¬ Lb x < Lb y by omega, decide_false, Bool.false_eq_true, if_false]
        exact h78 (some x) (some y) (fun u e => s0 u (e0.trans e)) (fun u e => s1 u (e1.trans e))
      · rw [if_neg (fun q => c ((nI_leI (by omega) (by omega)).mp q)), if_neg (by decide), if_neg (by decide)]
        simp only [show Lb x < Lb y by omega, decide_true, if_true]
        exact h78 (some y) (some x) (fun u e => s1 u (e1.trans e)) (fun u e => s0 u (e0.trans e))
theorem f_firstDue {σ : apM} {n k v : Nat} {src : Nat → Nat → Option Nat} {Lb : Nat → Nat} {sq : Nat → Nat} {st : Nat → Option Nat} (h : GS n src) (hC : GC σ n src) (hQ : SQ n k sq st) (hS : ∀ v, v < n → σ 21 v = eo (st v)) (hL : Nu σ 19 n Lb) (hb : ∀ v, v < n → Lb v < 1000) (hv : v < n) : m_X4_firstDue σ (nI v) = some (nI (dw src Lb (msK sq k) n v)) := by
  have hn := h.1
  have nn : n < 2 ^ 31 := by omega
  unfold m_X4_firstDue
  refine Ok.eq (Ok.bind (P := fun x => match x with | .inl r => r = nI (dw src Lb (msK sq k) n v) | .inr y => y.1 = nI (dw src Lb (msK sq k) n v)) (lp_forR (fun j (t : Nat) => (nI t, nI j)) (fun j t => t < n ∧ dw src Lb (msK sq k) n v = dw src Lb (msK sq k) (n - j) t) n ?_ ?_ n 0 v FU (by omega) (FU_big (by omega)) ⟨hv, rfl⟩) ?_)
  · intro j t hj ⟨ht, hJ⟩
    simp only [m_X4_firstDue_L4]
    rw [hC.1, if_neg (nI_ge hj nn), f_stv h hC hQ hS hL hb ht, ob]
    cases e : nx src Lb (msK sq k) t with
    | none =>
      rw [if_pos (show eo none = -1 from rfl)]
      exact Ok.pure (Or.inr ⟨_, rfl, by rw [hJ, dw_none e]⟩)
    | some u =>
      have hu := ed_lt h (nx_some e).1
      rw [if_neg (show ¬ eo (some u) = -1 from m1_ne (by omega))]
      refine Ok.pure (Or.inl ⟨u, by rw [nI_1]; rfl, hu, ?_⟩)
      rw [hJ, show n - j = n - (j + 1) + 1 by omega, dw_some e]
  · intro t ⟨ht, hJ⟩
    simp only [m_X4_firstDue_L4]
    rw [hC.1, if_pos (nI_le (Nat.le_refl _) nn)]
    refine Ok.pure ⟨_, rfl, ?_⟩
    show nI t = _
    rw [hJ, Nat.sub_self]
    rfl
  · rintro (r | ⟨y1, y2⟩) hP
    · exact Ok.pure hP
    · exact Ok.pure hP
theorem isS_z {x : Int32} {S : Nat → Bool} (h : isS x S) : x = 0 ↔ ∀ i, i < 32 → S i = false := by
  constructor
  · intro e i hi
    rw [← h i hi, e, b_0]
  · intro e
    exact b_ext (fun i hi => by rw [h i hi, e i hi, b_0])
theorem f_visit4 {σ : apM} {n k v : Nat} {src : Nat → Nat → Option Nat} {Lb rk : Nat → Nat} {sq : Nat → Nat} {st : Nat → Option Nat} (h : GS n src) (hR : Rk n src rk) (hC : GC σ n src) (hL : Nu σ 19 n Lb) (hb : ∀ v, v < n → Lb v < 1000) (hv : v < n) (hd : nod n src v) (hQ : SQ n k sq st) (hS : SC σ n k sq st) (hI : IsOL n k src Lb sq) (hJ : ∀ u, u < v → nod n src u → st u ≠ none) : Ok (m_X4_visit σ (nI v)) (fun σ' => Fr [20, 21, 3] σ σ' ∧ σ' 3 11 = σ 3 11 ∧ ∃ k sq st, SQ n k sq st ∧ SC σ' n k sq st ∧ IsOL n k src Lb sq ∧ ∀ u, u < v + 1 → nod n src u → st u ≠ none) := by
  have hn := h.1
  have nn : n < 2 ^ 31 := by omega
  unfold m_X4_visit
  refine Ok.bind (P := fun x => Fr [20, 21, 3] σ x.1 ∧ x.1 3 11 = σ 3 11 ∧ ∃ k sq st, SQ n k sq st ∧ SC x.1 n k sq st ∧ IsOL n k src Lb sq ∧ (∀ u, u < v → nod n src u → st u ≠ none) ∧ st v ≠ none) (lp_forR (fun j (t : apM) => (t, nI j)) (fun j t => Fr [20, 21, 3] σ t ∧ t 3 11 = σ 3 11 ∧ ∃ k sq st, j ≤ k ∧ SQ n k sq st ∧ SC t n k sq st ∧ IsOL n k src Lb sq ∧ (∀ u, u < v → nod n src u → st u ≠ none)) n ?_ ?_ n 0 σ FU (by omega) (FU_big (by omega)) ⟨Fr.rf, rfl, k, sq, st, Nat.zero_le _, hQ, hS, hI, hJ⟩) ?_
  · intro j t hj ⟨hf, h11, k, sq, st, hjk, hQ, hS, hI, hJ⟩
    have hCt := hC.fr hn hf (by decide) (by decide)
    have hLt := hL.fr hf (by decide)
    simp only [m_X4_visit_L2]
    rw [hCt.1, if_neg (nI_ge hj nn), f_isMissing hn hQ hS.2.1 hv, ob]
    cases e : st v with
    | some i =>
      rw [if_pos (show bI (some i).isNone = 0 from rfl)]
      exact Ok.pure (Or.inr ⟨_, rfl, hf, h11, k, sq, st, hQ, hS, hI, hJ, by rw [e]; exact fun z => by cases z⟩)
    | none =>
      rw [if_neg (show ¬ bI (none : Option Nat).isNone = 0 by decide), f_firstDue h hCt hQ hS.2.1 hLt hb hv, ob]
      have hmv : msK sq k v = true := by rw [msK_st hQ]; dsimp only; rw [e]; rfl
      obtain ⟨d1, d2, d3, d4⟩ := dw_end (Lb := Lb) h hR n v hv (Nat.le_of_lt (hR v hv).1) hmv
      have d5 : st (dw src Lb (msK sq k) n v) = none := by
        have := d2
        rw [show msK sq k (dw src Lb (msK sq k) n v) = (st (dw src Lb (msK sq k) n v)).isNone from congrFun (msK_st hQ) _] at this
        simpa using this
      refine Ok.bind (f_append hn hQ hS d1 d5) (fun s2 ⟨a, b, c⟩ => ?_)
      refine Ok.pure (Or.inl ⟨s2, by rw [nI_1], hf.tr a, b.trans h11, _, _, _, by omega, SQ_add hQ d1 d5, c, IsOL_add hI ⟨v, hv, hd, hmv, fun u hu q => ?_, rfl⟩, fun u hu q => ?_⟩)
      · rw [msK_st hQ]
        have := hJ u hu q
        cases z : st u with
        | none => exact absurd z this
        | some _ => dsimp only; rw [z]; rfl
      · unfold upN
        split
        · exact fun z => by cases z
        · exact hJ u hu q
  · intro t ⟨hf, h11, k, sq, st, hjk, hQ, hS, hI, hJ⟩
    have hCt := hC.fr hn hf (by decide) (by decide)
    simp only [m_X4_visit_L2]
    rw [hCt.1, if_pos (nI_le (Nat.le_refl _) nn)]
    have := hQ.1
    have hk : k = n := by omega
    refine Ok.pure ⟨_, rfl, hf, h11, k, sq, st, hQ, hS, hI, hJ, ?_⟩
    subst hk
    obtain ⟨i, hi, e, -⟩ := SQ_all hQ hv
    rw [e]
    exact fun z => by cases z
  · rintro ⟨y1, y2⟩ ⟨a, b, k, sq, st, hQ, hS, hI, hJ, hv2⟩
    refine Ok.pure ⟨a, b, k, sq, st, hQ, hS, hI, fun u hu q => ?_⟩
    by_cases c : u = v
    · rw [c]; exact hv2
    · exact hJ u (by omega) q
theorem f_orderL4 {σ : apM} {n : Nat} {src : Nat → Nat → Option Nat} {Lb : Nat → Nat} (h : GS n src) (hA : ∀ v, v < n → Tr src n v v = false) (hC : GC σ n src) (hE : ∀ u, u < n → isS (σ 17 u) (fun v => decide (v < n) && ed src v u)) (hL : Nu σ 19 n Lb) (hb : ∀ v, v < n → Lb v < 1000) : Ok (m_X4_orderByLabels σ) (fun σ' => Fr [20, 21, 3] σ σ' ∧ σ' 3 11 = σ 3 11 ∧ ∃ sq st, SQ n n sq st ∧ SC σ' n n sq st ∧ IsOL n n src Lb sq) := by
  have hn := h.1
  have nn : n < 2 ^ 31 := by omega
  obtain ⟨rk, hR⟩ := Rk_ex h hA
  unfold m_X4_orderByLabels m_X4_beginOrder
  rw [ob]
  refine Ok.bind (P := fun x => Fr [20, 21, 3] σ x.1 ∧ x.1 3 11 = σ 3 11 ∧ ∃ k sq st, SQ n k sq st ∧ SC x.1 n k sq st ∧ IsOL n k src Lb sq ∧ ∀ u, u < n → nod n src u → st u ≠ none) (lp_for0 (fun j (t : apM) => (t, nI j)) (fun j t => Fr [20, 21, 3] σ t ∧ t 3 11 = σ 3 11 ∧ ∃ k sq st, SQ n k sq st ∧ SC t n k sq st ∧ IsOL n k src Lb sq ∧ ∀ u, u < j → nod n src u → st u ≠ none) n (FU_big (by omega)) ?_ ?_ _ ⟨?_, ?_, 0, fun _ => 0, fun _ => none, SQ_0, ⟨fun i hi => by omega, fun v hv => ?_, ?_, ?_⟩, fun i hi => by omega, fun u hu => by omega⟩) ?_
  · intro j t hj ⟨hf, h11, k, sq, st, hQ, hS, hI, hJ⟩
    have hCt := hC.fr hn hf (by decide) (by decide)
    have hLt := hL.fr hf (by decide)
    simp only [m_X4_orderByLabels_L6]
    rw [hCt.1, if_neg (nI_ge hj nn)]
    simp (disch := omega) only [e_ald]
    have hz := isS_z (hE j hj)
    rw [hf 17 (by decide)]
    have hz2 : σ 17 j = 0 ↔ nod n src j := by
      rw [hz]
      constructor
      · intro q v hv
        have := q v (by omega)
        rw [decide_eq_true hv] at this
        simpa using this
      · intro q i _
        by_cases c : i < n
        · rw [q i c]; simp
        · simp [c]
    by_cases c : nod n src j
    · rw [if_pos (hz2.mpr c)]
      refine Ok.bind (f_visit4 h hR hCt hLt hb hj c hQ hS hI hJ) (fun s2 ⟨a, b, k, sq, st, q1, q2, q3, q4⟩ => ?_)
      exact Ok.pure ⟨s2, by rw [nI_1], hf.tr a, b.trans h11, k, sq, st, q1, q2, q3, q4⟩
    · rw [if_neg (fun q => c (hz2.mp q))]
      refine Ok.pure ⟨t, by rw [nI_1], hf, h11, k, sq, st, hQ, hS, hI, fun u hu q => ?_⟩
      by_cases d : u = j
      · subst d; exact absurd q c
      · exact hJ u (by omega) q
  · intro t ⟨hf, hJ⟩
    have hCt := hC.fr hn hf (by decide) (by decide)
    simp only [m_X4_orderByLabels_L6]
    rw [hCt.1, if_pos (nI_le (Nat.le_refl _) nn)]
    exact Ok.pure ⟨_, rfl, hf, hJ⟩
  · exact ((Fr.mfl (by decide)).tr (Fr.mst (by decide))).tr (Fr.mst (by decide))
  · rw [mst_ni (by decide), mst_ni (by decide), mfl_k (by decide)]
  · rw [mst_k (by decide), mst_k (by decide), mfl_at, if_pos (by omega)]
    rfl
  · exact mst_at
  · rw [mst_ni (by decide), mst_at]
    exact isS_0
  · rintro ⟨s1, v1⟩ ⟨a, b, k, sq, st, q1, q2, q3, q4⟩
    have := IsOL_all h hA hR q1 q3 q4
    subst this
    exact Ok.pure ⟨a, b, sq, st, q1, q2, q3⟩
