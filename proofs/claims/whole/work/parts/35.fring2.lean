/-! ===== the ring's nodes ===== -/
/-- a ring of l nodes from v on, by the distances dd -/
def RS (src : Nat → Nat → Option Nat) (dd : Nat → Nat) (v l : Nat) (rs : Nat → Nat) : Prop :=
  0 < l ∧ rs 0 = v ∧ (∀ i, i + 1 < l → nrs dd (src (rs i) 0) (src (rs i) 1) = some (rs (i + 1)) ∧ rs (i + 1) ≠ v) ∧ nrs dd (src (rs (l - 1)) 0) (src (rs (l - 1)) 1) = some v
def IsRing (n : Nat) (src : Nat → Nat → Option Nat) (l : Nat) (rs : Nat → Nat) : Prop :=
  (l = 0 ∧ ∀ v, v < n → Tr src n v v = false) ∨ ∃ v dd, v < n ∧ Tr src n v v = true ∧ (∀ u, u < v → Tr src n u u = false) ∧ IsD 1000 n src v dd ∧ RS src dd v l rs
theorem nrs_ed {src : Nat → Nat → Option Nat} {dd : Nat → Nat} {v x : Nat} (h : nrs dd (src v 0) (src v 1) = some x) : ed src v x = true := by
  unfold ed
  cases h0 : src v 0 with
  | none => rw [h0] at h; simp only [nrs] at h; simp [h]
  | some a =>
    cases h1 : src v 1 with
    | none => rw [h0, h1] at h; simp only [nrs] at h; cases h; simp
    | some b =>
      rw [h0, h1] at h
      simp only [nrs] at h
      split at h
      · cases h; simp
      · cases h; simp
theorem nrs_min {n : Nat} {src : Nat → Nat → Option Nat} {dd : Nat → Nat} {v x : Nat} (h : GS n src) (hd : ∀ u, u < n → dd u ≤ 1000) (hx : ed src v x = true) : ∃ y, nrs dd (src v 0) (src v 1) = some y ∧ dd y ≤ dd x := by
  have hl := nrm_le (F := 1000) (dd := dd) hx
  have hf := nrs_fv (F := 1000) (dd := dd) (a := src v 0) (b := src v 1) (fun u e => hd u (h.2 _ _ _ e)) (fun u e => hd u (h.2 _ _ _ e))
  cases hy : nrs dd (src v 0) (src v 1) with
  | some y =>
    rw [hy] at hf
    exact ⟨y, rfl, by unfold nrm at hl; rw [← hf] at hl; exact hl⟩
  | none =>
    exfalso
    unfold ed at hx
    cases h0 : src v 0 with
    | none =>
      rw [h0] at hy hx
      simp only [nrs] at hy
      rw [hy] at hx
      simp at hx
    | some a =>
      cases h1 : src v 1 with
      | none => rw [h0, h1] at hy; simp [nrs] at hy
      | some b => rw [h0, h1] at hy; simp only [nrs] at hy; split at hy <;> cases hy
theorem IsD_le {F n : Nat} {src : Nat → Nat → Option Nat} {to : Nat} {dd : Nat → Nat} (h : IsD F n src to dd) (hn : n ≤ F) : ∀ u, u < n → dd u ≤ F := fun u hu => by
  rcases h u hu with ⟨e, -⟩ | ⟨e, -⟩ <;> omega
theorem IsD_fin {n : Nat} {src : Nat → Nat → Option Nat} {to u L : Nat} {dd : Nat → Nat} (h : IsD 1000 n src to dd) (hu : u < n) (hw : Wk src L u to) : dd u < n ∧ Wk src (dd u) u to ∧ dd u ≤ L := by
  rcases h u hu with ⟨-, e⟩ | ⟨e1, e2, e3⟩
  · exact absurd hw (e L)
  · exact ⟨e1, e2, e3 L hw⟩
def rsq (src : Nat → Nat → Option Nat) (dd : Nat → Nat) (v : Nat) : Nat → Nat
  | 0 => v
  | i + 1 => (nrs dd (src (rsq src dd v i) 0) (src (rsq src dd v i) 1)).getD 0
theorem ring_ex {n : Nat} {src : Nat → Nat → Option Nat} {dd : Nat → Nat} {v : Nat} (h : GS n src) (hn : n ≤ 1000) (hv : v < n) (hT : Tr src n v v = true) (hd : IsD 1000 n src v dd) : ∃ l, l ≤ n ∧ RS src dd v l (rsq src dd v) ∧ ∀ i, i < l → rsq src dd v i < n := by
  have hle := IsD_le hd (by omega)
  have h1 : nrs dd (src v 0) (src v 1) = some (rsq src dd v 1) ∧ rsq src dd v 1 < n ∧ dd (rsq src dd v 1) + 1 ≤ n ∧ ∃ L, Wk src L (rsq src dd v 1) v := by
    obtain ⟨L, x, hx, hw⟩ := Tr_sound hT
    obtain ⟨y, hy, hyx⟩ := nrs_min h hle hx
    have hxn := ed_lt h hx
    have hyn := ed_lt h (nrs_ed hy)
    have := (IsD_fin hd hxn hw).1
    have e : rsq src dd v 1 = y := by
      show (nrs dd (src v 0) (src v 1)).getD 0 = y
      rw [hy]; rfl
    rw [e]
    refine ⟨hy, hyn, by omega, ?_⟩
    rcases hd y hyn with ⟨q, -⟩ | ⟨-, q, -⟩
    · omega
    · exact ⟨_, q⟩
  have key : ∀ i, 1 ≤ i → (∀ j, 1 ≤ j → j < i → rsq src dd v j ≠ v) → nrs dd (src (rsq src dd v (i - 1)) 0) (src (rsq src dd v (i - 1)) 1) = some (rsq src dd v i) ∧ rsq src dd v i < n ∧ dd (rsq src dd v i) + i ≤ n ∧ ∃ L, Wk src L (rsq src dd v i) v := by
    intro i
    induction i with
    | zero => intro hi; omega
    | succ i ih =>
      intro _ hj
      by_cases hi : i = 0
      · subst hi; exact h1
      · obtain ⟨-, b, c, L, hL⟩ := ih (by omega) (fun j a b => hj j a (by omega))
        have hne := hj i (by omega) (Nat.lt_succ_self _)
        obtain ⟨d1, d2, -⟩ := IsD_fin hd b hL
        have hpos : 0 < dd (rsq src dd v i) := by
          rcases Nat.eq_zero_or_pos (dd (rsq src dd v i)) with q | q
          · rw [q] at d2; exact absurd d2 hne
          · exact q
        obtain ⟨m, hm⟩ : ∃ m, dd (rsq src dd v i) = m + 1 := ⟨dd (rsq src dd v i) - 1, by omega⟩
        rw [hm] at d2
        obtain ⟨x, hx, hw⟩ := d2
        obtain ⟨y, hy, hyx⟩ := nrs_min h hle hx
        have hxn := ed_lt h hx
        have hyn := ed_lt h (nrs_ed hy)
        have hxd := (IsD_fin hd hxn hw).2.2
        have e : rsq src dd v (i + 1) = y := by
          show (nrs dd (src (rsq src dd v i) 0) (src (rsq src dd v i) 1)).getD 0 = y
          rw [hy]; rfl
        rw [e, Nat.add_sub_cancel]
        refine ⟨hy, hyn, by omega, ?_⟩
        rcases hd y hyn with ⟨q, -⟩ | ⟨-, q, -⟩
        · omega
        · exact ⟨_, q⟩
  have hex : ∃ i, 1 ≤ i ∧ rsq src dd v i = v := by
    refine Classical.byContradiction fun hc => ?_
    have hall : ∀ j, 1 ≤ j → rsq src dd v j ≠ v := fun j hj e => hc ⟨j, hj, e⟩
    obtain ⟨-, b, c, L, hL⟩ := key n (by omega) (fun j a _ => hall j a)
    have := (IsD_fin hd b hL).2.1
    rw [show dd (rsq src dd v n) = 0 by omega] at this
    exact hall n (by omega) this
  obtain ⟨l, ⟨hl1, hl2⟩, hmin⟩ := pk_least (fun i => 1 ≤ i ∧ rsq src dd v i = v) hex
  have hne : ∀ j, 1 ≤ j → j < l → rsq src dd v j ≠ v := fun j a b e => hmin j b ⟨a, e⟩
  obtain ⟨a, b, c, -⟩ := key l hl1 (fun j p q => hne j p q)
  refine ⟨l, by omega, ⟨by omega, rfl, fun i hi => ⟨?_, hne (i + 1) (by omega) hi⟩, ?_⟩, fun i hi => ?_⟩
  · have := (key (i + 1) (by omega) (fun j p q => hne j p (by omega))).1
    rwa [Nat.add_sub_cancel] at this
  · rw [hl2] at a; exact a
  · cases i with
    | zero => exact hv
    | succ i => exact (key (i + 1) (by omega) (fun j p q => hne j p (by omega))).2.1
theorem RS_reach {n : Nat} {src : Nat → Nat → Option Nat} {dd : Nat → Nat} {v l : Nat} {rs : Nat → Nat} (h : RS src dd v l rs) : ∀ d i, i + d + 1 = l → ∃ L, Wk src (L + 1) (rs i) v := by
  intro d
  induction d with
  | zero => intro i hi; exact ⟨0, v, nrs_ed (by have := h.2.2.2; rw [show l - 1 = i by omega] at this; exact this), rfl⟩
  | succ d ih =>
    intro i hi
    obtain ⟨L, hL⟩ := ih (i + 1) (by omega)
    exact ⟨L + 1, rs (i + 1), nrs_ed (h.2.2.1 i (by omega)).1, hL⟩
theorem RS_uniq {src : Nat → Nat → Option Nat} {dd d2 : Nat → Nat} {v l l2 : Nat} {rs r2 : Nat → Nat} (hdd : ∀ u, nrs dd (src u 0) (src u 1) = nrs d2 (src u 0) (src u 1)) (h : RS src dd v l rs) (h2 : RS src d2 v l2 r2) : l = l2 ∧ ∀ i, i < l → rs i = r2 i := by
  have eqv : ∀ i, i < l → i < l2 → rs i = r2 i := by
    intro i
    induction i with
    | zero => intro _ _; rw [h.2.1, h2.2.1]
    | succ i ih =>
      intro a b
      have e := ih (by omega) (by omega)
      have e1 := (h.2.2.1 i a).1
      have e2 := (h2.2.2.1 i b).1
      rw [e, hdd, e2] at e1
      exact (Option.some.inj e1).symm
  have hp := h.1
  have hp2 := h2.1
  have hl : l = l2 := by
    rcases Nat.lt_trichotomy l l2 with q | q | q
    · exfalso
      have e1 := h.2.2.2
      have e2 := h2.2.2.1 (l - 1) (by omega)
      rw [eqv (l - 1) (by omega) (by omega), hdd, e2.1, show l - 1 + 1 = l by omega] at e1
      rw [show l - 1 + 1 = l by omega] at e2
      exact e2.2 (Option.some.inj e1)
    · exact q
    · exfalso
      have e1 := h2.2.2.2
      have e2 := h.2.2.1 (l2 - 1) (by omega)
      rw [← eqv (l2 - 1) (by omega) (by omega), ← hdd, e2.1, show l2 - 1 + 1 = l2 by omega] at e1
      rw [show l2 - 1 + 1 = l2 by omega] at e2
      exact e2.2 (Option.some.inj e1)
  exact ⟨hl, fun i hi => eqv i hi (by omega)⟩
theorem IsD_uniq {F n : Nat} {src : Nat → Nat → Option Nat} {to : Nat} {dd d2 : Nat → Nat} (h1 : IsD F n src to dd) (h2 : IsD F n src to d2) : ∀ u, u < n → dd u = d2 u := by
  intro u hu
  rcases h1 u hu with ⟨a, b⟩ | ⟨a, b, c⟩ <;> rcases h2 u hu with ⟨p, q⟩ | ⟨p, q, r⟩
  · omega
  · exact absurd q (b _)
  · exact absurd b (q _)
  · exact Nat.le_antisymm (c _ q) (r _ b)
theorem nrs_cg {n : Nat} {src : Nat → Nat → Option Nat} {dd d2 : Nat → Nat} (h : GS n src) (hd : ∀ u w, u < n → w < n → (dd u ≤ dd w ↔ d2 u ≤ d2 w)) (u : Nat) : nrs dd (src u 0) (src u 1) = nrs d2 (src u 0) (src u 1) := by
  cases h0 : src u 0 with
  | none => rfl
  | some a =>
    cases h1 : src u 1 with
    | none => rfl
    | some b =>
      have := hd a b (h.2 _ _ _ h0) (h.2 _ _ _ h1)
      simp only [nrs]
      by_cases hc : dd a ≤ dd b
      · rw [if_pos hc, if_pos (this.mp hc)]
      · rw [if_neg hc, if_neg (fun q => hc (this.mpr q))]
theorem IsRing_uniq {n : Nat} {src : Nat → Nat → Option Nat} {l l2 : Nat} {rs r2 : Nat → Nat} (h : GS n src) (h1 : IsRing n src l rs) (h2 : IsRing n src l2 r2) : l = l2 ∧ ∀ i, i < l → rs i = r2 i := by
  rcases h1 with ⟨rfl, a⟩ | ⟨v, dd, hv, hT, hmin, hD, hR⟩ <;> rcases h2 with ⟨rfl, b⟩ | ⟨v2, d2, hv2, hT2, hmin2, hD2, hR2⟩
  · exact ⟨rfl, fun i hi => by omega⟩
  · rw [a v2 hv2] at hT2; cases hT2
  · rw [b v hv] at hT; cases hT
  · have hvv : v = v2 := by
      rcases Nat.lt_trichotomy v v2 with q | q | q
      · rw [hmin2 v q] at hT; cases hT
      · exact q
      · rw [hmin v2 q] at hT2; cases hT2
    subst hvv
    have e := IsD_uniq hD hD2
    exact RS_uniq (nrs_cg h (fun u w hu hw => by rw [e u hu, e w hw])) hR hR2
/-- with 12 for 'not come to' the same -/
theorem IsD_cv {n : Nat} {src : Nat → Nat → Option Nat} {to : Nat} {dc : Nat → Nat} (h : GS n src) (hD : IsD 12 n src to dc) : ∃ dd, IsD 1000 n src to dd ∧ ∀ u, nrs dc (src u 0) (src u 1) = nrs dd (src u 0) (src u 1) := by
  have hn := h.1
  refine ⟨fun u => if dc u = 12 then 1000 else dc u, fun u hu => ?_, nrs_cg h (fun u w hu hw => ?_)⟩
  · dsimp only
    rcases hD u hu with ⟨a, b⟩ | ⟨a, b, c⟩
    · exact Or.inl ⟨by rw [if_pos a], b⟩
    · rw [if_neg (by omega)]
      exact Or.inr ⟨a, b, c⟩
  · have hu1 := IsD_le hD hn u hu
    have hw1 := IsD_le hD hn w hw
    split <;> split <;> omega
/-! the class's ring -/
theorem f_follow {σ : apM} {n v l : Nat} {src : Nat → Nat → Option Nat} {dc : Nat → Nat} {rs : Nat → Nat} (h : GS n src) (hC : GC σ n src) (h0 : σ 2 4 = 0) (hN : Nu σ 14 n dc) (hb : ∀ u, u < n → dc u < 2 ^ 31) (hl : l ≤ n) (hR : RS src dc v l rs) (hlt : ∀ i, i < l → rs i < n) : Ok (m_X5_follow σ (nI v)) (fun σ' => Fr [15, 2] σ σ' ∧ σ' 2 4 = nI l ∧ ∀ i, i < l → σ' 15 i = nI (rs i)) := by
  have hn := h.1
  have hvn : v < n := by have := hlt 0 hR.1; rw [hR.2.1] at this; exact this
  unfold m_X5_follow
  have hr0 : nI v = nI (rs 0) := by rw [hR.2.1]
  refine Ok.bind (P := fun x => Fr [15, 2] σ x.1 ∧ x.1 2 4 = nI l ∧ ∀ i, i < l → x.1 15 i = nI (rs i)) (lp_forR (fun i (t : apM) => (t, nI (rs i))) (fun i t => i < l ∧ Fr [15, 2] σ t ∧ t 2 4 = nI i ∧ ∀ j, j < i → t 15 j = nI (rs j)) l ?_ ?_ l 0 σ FU (by omega) (FU_big (by omega)) ⟨hR.1, Fr.rf, h0, fun j hj => by omega⟩ |> fun z => by rw [hR.2.1] at z; exact z) ?_
  · intro i t hi ⟨hil, hf, hlen, hmem⟩
    have hri := hlt i hi
    simp only [m_X5_follow_L2]
    rw [hlen]
    simp (disch := omega) only [e_ast]
    generalize hu : mst (mst t 15 i (nI (rs i))) 2 4 ((mst t 15 i (nI (rs i))) 2 4 + 1) = u
    have hfu : Fr [15, 2] σ u := by rw [← hu]; exact (hf.tr (Fr.mst (by decide))).tr (Fr.mst (by decide))
    have hu24 : u 2 4 = nI (i + 1) := by
      rw [← hu, mst_at, mst_k (by decide), hlen, nI_1]
    have humem : ∀ j, j < i + 1 → u 15 j = nI (rs j) := by
      intro j hj
      rw [← hu, mst_k (by decide), mst_ap]
      by_cases e : j = i
      · subst e; simp
      · simp only [e, and_false, if_false]; exact hmem j (by omega)
    have hCu := hC.fr hn hfu (by decide) (by decide)
    have hNu := hN.fr hfu (by decide)
    rw [f_near5 h hCu hNu hb hri, ob]
    by_cases hlast : i + 1 < l
    · obtain ⟨e1, e2⟩ := hR.2.2.1 i hlast
      have hnx := hlt (i + 1) hlast
      rw [e1, if_neg (show ¬ eo (some (rs (i + 1))) = nI v from fun q => e2 ((nI_eq (by omega) (by omega)).mp q)), if_neg (show ¬ eo (some (rs (i + 1))) = -1 from m1_ne (by omega)), hu24, hCu.1, if_pos (nI_lt (by omega) (by omega))]
      exact Ok.pure (Or.inl ⟨u, rfl, hlast, hfu, hu24, humem⟩)
    · have hil2 : i = l - 1 := by omega
      have e1 := hR.2.2.2
      rw [← hil2] at e1
      rw [e1, if_pos (show eo (some v) = nI v from rfl)]
      exact Ok.pure (Or.inr ⟨_, rfl, hfu, by show u 2 4 = _; rw [hu24, show i + 1 = l by omega], fun j hj => humem j (by omega)⟩)
  · intro t ⟨hil, _⟩
    exact absurd hil (Nat.lt_irrefl _)
  · rintro ⟨s1, v1⟩ hP
    exact Ok.pure hP
theorem f_find {σ : apM} {n : Nat} {src : Nat → Nat → Option Nat} (h : GS n src) (hC : GC σ n src) : Ok (m_X5_find σ) (fun σ' => Fr [2, 13, 14, 15] σ σ' ∧ ∃ l rs, IsRing n src l rs ∧ l ≤ n ∧ (∀ i, i < l → rs i < n) ∧ σ' 2 4 = nI l ∧ ∀ i, i < l → σ' 15 i = nI (rs i)) := by
  have hn := h.1
  have nn : n < 2 ^ 31 := by omega
  have hf0 : Fr [2] σ (mst σ 2 4 0) := Fr.mst (by decide)
  unfold m_X5_find
  refine Ok.bind (f_findReach h (hC.fr hn hf0 (by decide) (by decide))) (fun s1 ⟨hf1, hS⟩ => ?_)
  have hf01 : Fr [2, 13, 14, 15] σ s1 := (hf0.mono (by decide)).tr (hf1.mono (by decide))
  have hC1 := hC.fr hn hf01 (by decide) (by decide)
  have h24 : s1 2 4 = 0 := by rw [hf1 2 (by decide), mst_at]
  refine Ok.bind (P := fun x => match x with
    | .inl s2 => Fr [2, 13, 14, 15] σ s2 ∧ ∃ l rs, IsRing n src l rs ∧ l ≤ n ∧ (∀ i, i < l → rs i < n) ∧ s2 2 4 = nI l ∧ ∀ i, i < l → s2 15 i = nI (rs i)
    | .inr _ => ∀ v, v < n → Tr src n v v = false) (lp_forR (fun k (_ : Unit) => nI k) (fun k _ => ∀ v, v < k → Tr src n v v = false) n ?_ ?_ n 0 () FU (by omega) (FU_big (by omega)) (fun v hv => by omega)) ?_
  · intro k _ hk hJ
    simp only [m_X5_find_L11]
    rw [hC1.1, if_neg (nI_ge hk nn)]
    simp (disch := omega) only [e_ald]
    rw [f_contains (hS k hk) (show k < 32 by omega)]
    by_cases hc : Tr src n k k = false
    · rw [hc, if_pos (by rfl)]
      exact Ok.pure (Or.inl ⟨(), by rw [nI_1], fun v hv => by
        by_cases e : v = k
        · subst e; exact hc
        · exact hJ v (by omega)⟩)
    · have hc : Tr src n k k = true := by simpa using hc
      rw [hc, if_neg (by decide)]
      refine Ok.bind (f_countSteps h hC1 hk) (fun s2 ⟨hf2, dc, hN, hD⟩ => ?_)
      obtain ⟨dd, hD2, hcv⟩ := IsD_cv h hD
      obtain ⟨l, hl, hR, hlt⟩ := ring_ex h (by omega) hk hc hD2
      have hRc : RS src dc k l (rsq src dd k) := ⟨hR.1, hR.2.1, fun i hi => by rw [hcv]; exact hR.2.2.1 i hi, by rw [hcv]; exact hR.2.2.2⟩
      have hC2 := hC1.fr hn hf2 (by decide) (by decide)
      refine Ok.bind (f_follow h hC2 (by rw [hf2 2 (by decide)]; exact h24) hN (fun u hu => by have := IsD_le hD hn u hu; omega) hl hRc hlt) (fun s3 ⟨hf3, e1, e2⟩ => ?_)
      exact Ok.pure (Or.inr ⟨_, rfl, (hf01.tr (hf2.mono (by decide))).tr (hf3.mono (by decide)), l, _, Or.inr ⟨k, dd, hk, hc, hJ, hD2, hR⟩, hl, hlt, e1, e2⟩)
  · intro _ hJ
    simp only [m_X5_find_L11]
    rw [hC1.1, if_pos (nI_le (Nat.le_refl _) nn)]
    exact Ok.pure ⟨_, rfl, hJ⟩
  · rintro (r | r) hP
    · exact Ok.pure hP
    · exact Ok.pure ⟨hf01, 0, fun _ => 0, Or.inl ⟨rfl, hP⟩, by omega, fun i hi => by omega, h24, fun i hi => by omega⟩
