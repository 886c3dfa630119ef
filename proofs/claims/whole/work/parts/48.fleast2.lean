/-! ===== the least peak in the memories ===== -/
theorem i_all : ∀ n, n < 13 → ((1 : Int32) <<< (nI n &&& 31)) - 1 = nI (2 ^ n - 1) := by decide +kernel
theorem i_pow : ∀ v, v < 13 → (1 : Int32) <<< (nI v &&& 31) = nI (2 ^ v) := by decide +kernel
theorem i_or (a b : Nat) : nI a ||| nI b = nI (a ||| b) := b_ext (fun i hi => by rw [b_or, bt_nI _ _ hi, bt_nI _ _ hi, bt_nI _ _ hi, Nat.testBit_or])
theorem i_set {v : Nat} (h : v < 13) : m_X6_setOf (nI v) = nI (2 ^ v) := by
  unfold m_X6_setOf
  rw [if_neg (m1_ne (by omega)), i_pow v h]
theorem i_nxt4 {d v : Nat} (h : v < 13) : nI d ||| m_X6_setOf (nI v) = nI (nxt d v) := by rw [i_set h, i_or]; rfl
theorem i_nxt7 {d v : Nat} (h : v < 13) : nI d ||| ((1 : Int32) <<< (nI v &&& 31)) = nI (nxt d v) := by rw [i_pow v h, i_or]; rfl
theorem isS_nI (d : Nat) : isS (nI d) (fun i => d.testBit i) := fun i hi => bt_nI d i hi
theorem f_bit {x : Int32} {S : Nat → Bool} (h : isS x S) {v : Nat} (hv : v < 32) : (x >>> (nI v &&& 31)) &&& 1 = bI (S v) := by
  apply b_ext
  intro i hi
  rw [b_and, b_sshr v hv x hi, b_1 i hi]
  by_cases h0 : i = 0
  · subst h0
    rw [Nat.add_zero, if_pos hv, h v hv]
    cases S v with
    | true => show _ = bt 1 0; rw [b_1 0 (by omega)]; rfl
    | false => show _ = bt 0 0; rw [b_0]; rfl
  · rw [decide_eq_false h0, Bool.and_false]
    cases S v with
    | true => show _ = bt 1 i; rw [b_1 i hi, decide_eq_false h0]
    | false => show _ = bt 0 i; rw [b_0]
theorem f_part4 {x : Int32} {S : Nat → Bool} {d : Nat} (h : isS x S) : m_X6_isPartOf x (nI d) = 0 ↔ sbt d S = false := by
  rw [f_isPartOf h (isS_nI d), ← sbt_iff, Bool.not_eq_true]
theorem f_part7 {x : Int32} {S : Nat → Bool} {d : Nat} (h : isS x S) : (x &&& (nI d ^^^ (-1))) = 0 ↔ sbt d S = true := by
  have := f_part4 (d := d) h
  unfold m_X6_isPartOf at this
  by_cases c : (x &&& (nI d ^^^ (-1))) = 0
  · rw [if_pos c] at this
    refine ⟨fun _ => ?_, fun _ => c⟩
    cases z : sbt d S with
    | true => rfl
    | false => exact absurd (this.mpr z) (by decide)
  · rw [if_neg c] at this
    refine ⟨fun q => absurd q c, fun q => ?_⟩
    have := this.mp rfl
    rw [q] at this
    cases this
/-! the class -/
section
variable {n : Nat} {src : Nat → Nat → Option Nat} {ke : Nat → Bool} {Z : Nat → Nat}
theorem held_b (hn : n ≤ 12) (hb : ∀ v, v < n → Z v ≤ 40) (d : Nat) : held n src ke Z d ≤ 480 := by
  have := sm_b (P := fun v => d.testBit v && (ke v || !(sbt d (fun w => decide (w < n) && ed src w v)))) hb n (Nat.le_refl _)
  unfold held
  omega
theorem f_held4 {σ : apM} {d : Nat} (hn : n ≤ 12) (hl : σ 3 10 = nI n) (hE : ∀ u, u < n → isS (σ 17 u) (fun v => decide (v < n) && ed src v u)) (hK : ∀ v, v < n → σ 12 v = bI (ke v)) (hZ : Nu σ 18 n Z) (hb : ∀ v, v < n → Z v ≤ 40) : m_X2_heldAfter σ (nI d) = some (nI (held n src ke Z d)) := by
  have nn : n < 2 ^ 31 := by omega
  unfold m_X2_heldAfter
  refine Ok.eq (Ok.bind (P := fun x => x.1 = nI (held n src ke Z d)) (lp_for0 (fun j (y : Nat) => (nI y, nI j)) (fun j y => y = sm (fun v => d.testBit v && (ke v || !(sbt d (fun w => decide (w < n) && ed src w v)))) Z j) n (FU_big (by omega)) ?_ ?_ 0 rfl) ?_)
  · intro j y hj hy
    simp only [m_X2_heldAfter_L4, m_X2_heldAfter_B46]
    rw [hl, if_neg (nI_ge hj nn)]
    simp (disch := omega) only [e_ald]
    have h51 : ∀ b : Bool, Ok (m_X2_heldAfter_B51 σ (nI d) (nI y) (nI j) (bI b)) (fun r => ∃ t' : Nat, r = .inl (nI t', nI (j + 1)) ∧ t' = y + if (d.testBit j && b) = true then Z j else 0) := by
      intro b
      unfold m_X2_heldAfter_B51
      rw [f_contains (isS_nI d) (show j < 32 by omega)]
      cases z : d.testBit j with
      | false =>
        rw [if_pos (show bI false = 0 from rfl)]
        exact Ok.pure ⟨y, by rw [nI_1], rfl⟩
      | true =>
        rw [if_neg (show ¬ bI true = 0 by decide)]
        cases b with
        | false =>
          rw [if_pos (show bI false = 0 from rfl)]
          exact Ok.pure ⟨y, by rw [nI_1], rfl⟩
        | true =>
          rw [if_neg (show ¬ bI true = 0 by decide)]
          simp (disch := omega) only [e_ald]
          rw [hZ j hj, nI_add]
          exact Ok.pure ⟨y + Z j, by rw [nI_1], rfl⟩
    have fin : ∀ b : Bool, b = (ke j || !(sbt d (fun w => decide (w < n) && ed src w j))) → Ok (m_X2_heldAfter_B51 σ (nI d) (nI y) (nI j) (bI b)) (fun r => ∃ t' : Nat, r = .inl (nI t', nI (j + 1)) ∧ t' = sm (fun v => d.testBit v && (ke v || !(sbt d (fun w => decide (w < n) && ed src w v)))) Z (j + 1)) := by
      intro b hb2
      refine (h51 b).mono ?_
      rintro r ⟨t', e1, e2⟩
      refine ⟨t', e1, ?_⟩
      rw [e2, hb2, hy]
      rfl
    rw [hK j hj]
    cases z : ke j with
    | true =>
      rw [if_neg (show ¬ bI true = 0 by decide)]
      exact fin true (by rw [z]; rfl)
    | false =>
      rw [if_pos (show bI false = 0 from rfl)]
      have hp := f_part4 (d := d) (hE j hj)
      cases z2 : sbt d (fun w => decide (w < n) && ed src w j) with
      | false =>
        rw [if_pos (hp.mpr z2)]
        exact fin true (by rw [z, z2]; rfl)
      | true =>
        rw [if_neg (fun q => by have := hp.mp q; rw [z2] at this; cases this)]
        exact fin false (by rw [z, z2]; rfl)
  · intro y hy
    simp only [m_X2_heldAfter_L4]
    rw [hl, if_pos (nI_le (Nat.le_refl _) nn)]
    exact Ok.pure ⟨_, rfl, by rw [hy]; rfl⟩
  · rintro ⟨x1, x2⟩ hx
    exact Ok.pure hx
theorem pow12 (hn : n ≤ 12) : 2 ^ n ≤ 4096 := Nat.pow_le_pow_right (n := 2) (by omega) hn
theorem f_goOn {σ : apM} {d : Nat} {B : Nat → Nat} (h : GS n src) (hl : σ 3 10 = nI n) (hD : ∀ v, v < n → isS (σ 16 v) (ed src v)) (hE : ∀ u, u < n → isS (σ 17 u) (fun v => decide (v < n) && ed src v u)) (hK : ∀ v, v < n → σ 12 v = bI (ke v)) (hZ : Nu σ 18 n Z) (hb : ∀ v, v < n → Z v ≤ 40) (hd : d < 2 ^ n) (hB : Nu σ 27 4096 B) (hBb : ∀ s, B s ≤ 1000) : Ok (m_X2_goOn σ (nI d)) (fun σ' => Fr [27] σ σ' ∧ Nu σ' 27 4096 (upK n src ke Z d B n)) := by
  have hn := h.1
  have nn : n < 2 ^ 31 := by omega
  have h12 := pow12 hn
  have hhb := held_b (src := src) (ke := ke) hn hb d
  unfold m_X2_goOn
  rw [f_held4 hn hl hE hK hZ hb, ob]
  refine Ok.bind (P := fun x => Fr [27] σ x.1 ∧ Nu x.1 27 4096 (upK n src ke Z d B n)) (lp_for0 (fun v (t : apM) => (t, nI v)) (fun v t => Fr [27] σ t ∧ Nu t 27 4096 (upK n src ke Z d B v)) n (FU_big (by omega)) ?_ ?_ σ ⟨Fr.rf, hB⟩) ?_
  · intro v t hv ⟨hf, hN⟩
    have hzv := hb v hv
    have hnx := nxt_lt hd hv
    simp only [m_X2_goOn_L8]
    rw [hf 3 (by decide), hl, if_neg (nI_ge hv nn), f_contains (isS_nI d) (show v < 32 by omega), i_nxt4 (show v < 13 by omega)]
    cases z : d.testBit v with
    | true =>
      rw [if_neg (show ¬ bI true = 0 by decide)]
      exact Ok.pure ⟨t, by rw [nI_1], hf, by rw [up_f (by unfold cnd; rw [z]; rfl)]; exact hN⟩
    | false =>
      rw [if_pos (show bI false = 0 from rfl)]
      simp (disch := omega) only [e_ald, e_ast]
      have hp := f_part4 (d := d) (hD v hv)
      rw [hf 16 (by decide)]
      cases z2 : sbt d (ed src v) with
      | false =>
        rw [if_pos (hp.mpr z2)]
        exact Ok.pure ⟨t, by rw [nI_1], hf, by rw [up_f (by unfold cnd; rw [z, z2]; rfl)]; exact hN⟩
      | true =>
        rw [if_neg (fun q => by have := hp.mp q; rw [z2] at this; cases this)]
        have b1 := Nat.le_trans (up_le (n := n) (src := src) (ke := ke) (Z := Z) (d := d) (B := B) v d) (hBb d)
        have b2 := Nat.le_trans (up_le (n := n) (src := src) (ke := ke) (Z := Z) (d := d) (B := B) v (nxt d v)) (hBb (nxt d v))
        have e1 : t 27 d = nI (upK n src ke Z d B v d) := hN d (by omega)
        have e2 : t 27 (nxt d v) = nI (upK n src ke Z d B v (nxt d v)) := hN _ (by omega)
        have e3 : t 18 v = nI (Z v) := by rw [hf 18 (by decide)]; exact hZ v hv
        have key : (if (if t 27 d < nI (held n src ke Z d) + t 18 v then nI (held n src ke Z d) + t 18 v else t 27 d) < t 27 (nxt d v) then (if t 27 d < nI (held n src ke Z d) + t 18 v then nI (held n src ke Z d) + t 18 v else t 27 d) else t 27 (nxt d v)) = nI (min (upK n src ke Z d B v (nxt d v)) (max (upK n src ke Z d B v d) (held n src ke Z d + Z v))) := by
          rw [e1, e2, e3, nI_add, imax (by omega) (by omega), imin (by omega) (by omega), Nat.min_comm]
        rw [key]
        refine Ok.pure ⟨_, by rw [nI_1], hf.tr (Fr.mst (by decide)), ?_⟩
        rw [up_t (by unfold cnd; rw [z, z2]; rfl)]
        intro s hs
        rw [mst_ap]
        unfold upN
        by_cases c : s = nxt d v
        · rw [if_pos c, if_pos ⟨rfl, c⟩]
        · rw [if_neg c, if_neg (fun q => c q.2)]; exact hN s hs
  · intro t hJ
    simp only [m_X2_goOn_L8]
    rw [hJ.1 3 (by decide), hl, if_pos (nI_le (Nat.le_refl _) nn)]
    exact Ok.pure ⟨_, rfl, hJ⟩
  · rintro ⟨s1, v1⟩ hP
    exact Ok.pure hP
theorem f_find2 {σ : apM} {G : Nat} (h : GS n src) (hl : σ 3 10 = nI n) (hG : σ 3 11 = nI G) (hG4 : G ≤ 480) (hD : ∀ v, v < n → isS (σ 16 v) (ed src v)) (hE : ∀ u, u < n → isS (σ 17 u) (fun v => decide (v < n) && ed src v u)) (hK : ∀ v, v < n → σ 12 v = bI (ke v)) (hZ : Nu σ 18 n Z) (hb : ∀ v, v < n → Z v ≤ 40) : Ok (m_X2_find σ) (fun x => x.1 = nI (lsK n src ke Z G (2 ^ n - 1) (2 ^ n - 1)) ∧ Fr [27] σ x.2) := by
  have hn := h.1
  have h12 := pow12 hn
  have hp := Nat.two_pow_pos n
  unfold m_X2_find
  rw [show ast (mfl σ 27 (σ 3 11) 4096) 27 4096 0 0 = some (mst (mfl σ 27 (σ 3 11) 4096) 27 0 0) from ast_nI (i := 0) (by decide) (by decide), ob, hl, i_all n (by omega)]
  refine Ok.bind (P := fun x => Fr [27] σ x.1 ∧ Nu x.1 27 4096 (lsK n src ke Z G (2 ^ n - 1))) (lp_for0 (fun d (t : apM) => (t, nI d)) (fun d t => Fr [27] σ t ∧ Nu t 27 4096 (lsK n src ke Z G d)) (2 ^ n - 1) (FU_big (by omega)) ?_ ?_ _ ⟨(Fr.mfl (by decide)).tr (Fr.mst (by decide)), fun s hs => ?_⟩) ?_
  · intro d t hd ⟨hf, hN⟩
    have hbd := ls_b (n := n) (src := src) (ke := ke) (Z := Z) (F := G) d
    have hbdd := hbd d
    simp only [m_X2_find_L35]
    rw [if_neg (nI_ge hd (by omega))]
    simp (disch := omega) only [e_ald]
    have e1 : t 27 d = nI (lsK n src ke Z G d d) := hN d (by omega)
    rw [hf 3 (by decide), hG, e1]
    by_cases c : lsK n src ke Z G d d < G
    · rw [if_neg (nI_ge c (by omega))]
      refine Ok.bind (f_goOn (σ := t) (ke := ke) (B := lsK n src ke Z G d) h (by rw [hf 3 (by decide)]; exact hl) (fun v hv => by rw [hf 16 (by decide)]; exact hD v hv) (fun v hv => by rw [hf 17 (by decide)]; exact hE v hv) (fun v hv => by rw [hf 12 (by decide)]; exact hK v hv) (hZ.fr hf (by decide)) hb (show d < 2 ^ n by omega) hN (fun s => by have := hbd s; omega)) (fun s2 ⟨a, b⟩ => ?_)
      exact Ok.pure ⟨s2, by rw [nI_1], hf.tr a, by rw [ls_t c]; exact b⟩
    · rw [if_pos (nI_le (by omega) (by omega))]
      exact Ok.pure ⟨t, by rw [nI_1], hf, by rw [ls_f c]; exact hN⟩
  · intro t hJ
    simp only [m_X2_find_L35]
    rw [if_pos (nI_le (Nat.le_refl _) (by omega))]
    exact Ok.pure ⟨_, rfl, hJ⟩
  · show mst (mfl σ 27 (σ 3 11) 4096) 27 0 0 27 s = nI (if s = 0 then 0 else G)
    rw [mst_ap, mfl_at, if_pos hs]
    by_cases c : s = 0
    · rw [if_pos ⟨rfl, c⟩, if_pos c]; rfl
    · rw [if_neg (fun q => c q.2), if_neg c, hG]
  · rintro ⟨s1, v1⟩ ⟨hf, hN⟩
    dsimp only
    simp (disch := omega) only [e_ald]
    exact Ok.pure ⟨hN _ (by omega), hf⟩
/-! the model -/
theorem f_needed7 {σ : apM} {v : Nat} {op : Nat → Nat} (h : GS n src) (hw : GW n src op) (hW : Wd n src op) (hM : GM σ n src) (hO : Nu σ 1 n op) (hv : v < n) : Ok (m_X7_needed σ (nI v)) (fun r => isS r (ed src v)) := by
  have hn := h.1
  have ha := ar_le (op v)
  unfold m_X7_needed
  refine Ok.bind (P := fun x => isS x.1 (ed src v)) (lp_for0 (fun j (y : Int32) => (y, nI j)) (fun j y => isS y (fun u => (List.range j).any (fun i => decide (src v i = some u)))) (ar (op v)) (FU_big (by omega)) ?_ ?_ 0 (isS_cg isS_0 (fun i _ => rfl))) ?_
  · intro j y hj hJ
    simp only [m_X7_needed_L4]
    simp (disch := omega) only [e_ald]
    rw [hO v hv, f_inputs7 (hw v hv).1, if_neg (nI_ge hj (by omega)), l2, nI_add]
    simp (disch := omega) only [e_ald]
    rw [hM.at hv (by omega)]
    cases e : src v j with
    | none => exact absurd e (hW v hv j hj)
    | some u =>
      have hu := h.2 _ _ _ e
      rw [show eo (some u) = nI u from rfl]
      refine Ok.pure ⟨_, by rw [nI_1], ?_⟩
      have hs : isS ((1 : Int32) <<< (nI u &&& 31)) (fun i => decide (i = u)) := by
        have := f_setOf (v := u) (by omega)
        unfold m_X6_setOf at this
        rw [if_neg (m1_ne (by omega))] at this
        exact this
      refine isS_cg (isS_or hJ hs) (fun i _ => ?_)
      rw [List.range_succ, List.any_append, List.any_cons, List.any_nil, Bool.or_false, e]
      congr 1
      by_cases c : i = u
      · subst c; simp
      · rw [decide_eq_false c, decide_eq_false (fun q => by cases q; exact c rfl)]
  · intro y hJ
    simp only [m_X7_needed_L4]
    simp (disch := omega) only [e_ald]
    rw [hO v hv, f_inputs7 (hw v hv).1, if_pos (nI_le (Nat.le_refl _) (by omega))]
    refine Ok.pure ⟨_, rfl, isS_cg hJ (fun u _ => ?_)⟩
    cases z : ed src v u with
    | true =>
      obtain ⟨i, hi, e⟩ := ed_in z
      exact List.any_eq_true.mpr ⟨i, List.mem_range.mpr (ed_ar hw hv e hi), decide_eq_true e⟩
    | false =>
      cases z2 : (List.range (ar (op v))).any (fun i => decide (src v i = some u)) with
      | false => rfl
      | true =>
        obtain ⟨i, hi, e⟩ := List.any_eq_true.mp z2
        have := ed_of (by have := List.mem_range.mp hi; omega) (of_decide_eq_true e)
        rw [z] at this; cases this
  · rintro ⟨x1, x2⟩ hx
    exact Ok.pure hx
theorem f_users7 {σ : apM} {v : Nat} (h : GS n src) (hM : GM σ n src) (hv : v < n) : Ok (m_X7_users σ (nI v)) (fun r => isS r (fun w => decide (w < n) && ed src w v)) := by
  have hn := h.1
  unfold m_X7_users
  refine Ok.bind (P := fun x => isS x.1 (fun w => decide (w < n) && ed src w v)) (lp_for0 (fun j (y : Int32) => (y, nI j)) (fun j y => isS y (fun w => (List.range j).any (fun i => decide (i / 2 = w ∧ src (i / 2) (i % 2) = some v)))) (2 * n) (FU_big (by omega)) ?_ ?_ 0 (isS_cg isS_0 (fun i _ => rfl))) ?_
  · intro j y hj hJ
    simp only [m_X7_users_L4, m_X7_users_B35]
    rw [hM.1, l2, if_neg (nI_ge hj (by omega)), i_half j (by omega)]
    simp (disch := omega) only [e_ald]
    have hjj : 2 * (j / 2) + j % 2 = j := by omega
    have hat := hM.at (show j / 2 < n by omega) (show j % 2 < 2 by omega)
    rw [hjj] at hat
    rw [hat]
    by_cases c : src (j / 2) (j % 2) = some v
    · rw [c, if_pos (show eo (some v) = nI v from rfl)]
      refine Ok.pure ⟨_, by rw [nI_1], ?_⟩
      have hs : isS ((1 : Int32) <<< (nI (j / 2) &&& 31)) (fun i => decide (i = j / 2)) := by
        have := f_setOf (v := j / 2) (by omega)
        unfold m_X6_setOf at this
        rw [if_neg (m1_ne (by omega))] at this
        exact this
      refine isS_cg (isS_or hJ hs) (fun i _ => ?_)
      rw [List.range_succ, List.any_append, List.any_cons, List.any_nil, Bool.or_false]
      congr 1
      by_cases d : i = j / 2
      · rw [decide_eq_true d, decide_eq_true ⟨d.symm, c⟩]
      · rw [decide_eq_false d, decide_eq_false (fun q => d q.1.symm)]
    · have : ¬ eo (src (j / 2) (j % 2)) = nI v := by
        cases e : src (j / 2) (j % 2) with
        | none => exact m1_ne' (by omega)
        | some w =>
          have hw := h.2 _ _ _ e
          intro q
          have := (nI_eq (by omega) (by omega)).mp q
          subst this
          exact c e
      rw [if_neg this]
      refine Ok.pure ⟨_, by rw [nI_1], isS_cg hJ (fun i _ => ?_)⟩
      rw [List.range_succ, List.any_append, List.any_cons, List.any_nil, Bool.or_false, decide_eq_false (fun q => c q.2), Bool.or_false]
  · intro y hJ
    simp only [m_X7_users_L4]
    rw [hM.1, l2, if_pos (nI_le (Nat.le_refl _) (by omega))]
    refine Ok.pure ⟨_, rfl, isS_cg hJ (fun w _ => ?_)⟩
    cases z : ed src w v with
    | true =>
      by_cases c : w < n
      · rw [decide_eq_true c]
        obtain ⟨i, hi, e⟩ := ed_in z
        exact List.any_eq_true.mpr ⟨2 * w + i, List.mem_range.mpr (by omega), decide_eq_true ⟨by omega, by rw [show (2 * w + i) / 2 = w by omega, show (2 * w + i) % 2 = i by omega]; exact e⟩⟩
      · rw [decide_eq_false c]
        cases z2 : (List.range (2 * n)).any (fun i => decide (i / 2 = w ∧ src (i / 2) (i % 2) = some v)) with
        | false => rfl
        | true =>
          obtain ⟨i, hi, e⟩ := List.any_eq_true.mp z2
          have := List.mem_range.mp hi
          have := (of_decide_eq_true e).1
          omega
    | false =>
      rw [Bool.and_false]
      cases z2 : (List.range (2 * n)).any (fun i => decide (i / 2 = w ∧ src (i / 2) (i % 2) = some v)) with
      | false => rfl
      | true =>
        obtain ⟨i, hi, e⟩ := List.any_eq_true.mp z2
        obtain ⟨e1, e2⟩ := of_decide_eq_true e
        subst e1
        have := ed_of (show i % 2 < 2 by omega) e2
        rw [z] at this; cases this
  · rintro ⟨x1, x2⟩ hx
    exact Ok.pure hx
theorem f_stays7 {σ : apM} {d : Nat} (h : GS n src) (hM : GM σ n src) (hK : ∀ v, v < n → σ 5 v = bI (ke v)) (hZ : Nu σ 9 n Z) : m_X7_stays σ (nI d) = some (nI (held n src ke Z d)) := by
  have hn := h.1
  have nn : n < 2 ^ 31 := by omega
  unfold m_X7_stays
  refine Ok.eq (Ok.bind (P := fun x => x.1 = nI (held n src ke Z d)) (lp_for0 (fun j (y : Nat) => (nI y, nI j)) (fun j y => y = sm (fun v => d.testBit v && (ke v || !(sbt d (fun w => decide (w < n) && ed src w v)))) Z j) n (FU_big (by omega)) ?_ ?_ 0 rfl) ?_)
  · intro j y hj hy
    simp only [m_X7_stays_L4, m_X7_stays_B46, m_X7_stays_B42]
    rw [hM.1, if_neg (nI_ge hj nn), f_bit (isS_nI d) (show j < 32 by omega)]
    simp (disch := omega) only [e_ald]
    have fin : ∀ b : Bool, b = (d.testBit j && (ke j || !(sbt d (fun w => decide (w < n) && ed src w j)))) → Ok (m_X7_stays_B47 σ (nI d) (nI y) (nI j) (bI b)) (fun r => ∃ t' : Nat, r = .inl (nI t', nI (j + 1)) ∧ t' = sm (fun v => d.testBit v && (ke v || !(sbt d (fun w => decide (w < n) && ed src w v)))) Z (j + 1)) := by
      intro b hb2
      unfold m_X7_stays_B47 m_X7_stays_B66
      cases b with
      | false =>
        rw [if_pos (show bI false = 0 from rfl)]
        exact Ok.pure ⟨y, by rw [nI_1], by rw [sm_f hb2.symm]; exact hy⟩
      | true =>
        rw [if_neg (show ¬ bI true = 0 by decide)]
        simp (disch := omega) only [e_ald]
        rw [hZ j hj, nI_add]
        exact Ok.pure ⟨_, by rw [nI_1], by rw [sm_t hb2.symm, hy]⟩
    cases z : d.testBit j with
    | false =>
      rw [if_neg (show ¬ bI false = 1 by decide)]
      exact fin false (by rw [z]; rfl)
    | true =>
      rw [if_pos (show bI true = 1 from rfl), hK j hj]
      cases z1 : ke j with
      | true =>
        rw [if_neg (show ¬ bI true = 0 by decide)]
        exact fin true (by rw [z, z1]; rfl)
      | false =>
        rw [if_pos (show bI false = 0 from rfl)]
        obtain ⟨r, er, hr⟩ := f_users7 h hM hj
        rw [er, ob]
        have hp := f_part7 (d := d) hr
        cases z2 : sbt d (fun w => decide (w < n) && ed src w j) with
        | true =>
          rw [if_pos (hp.mpr z2)]
          exact fin false (by rw [z, z1, z2]; rfl)
        | false =>
          rw [if_neg (fun q => by have := hp.mp q; rw [z2] at this; cases this)]
          exact fin true (by rw [z, z1, z2]; rfl)
  · intro y hy
    simp only [m_X7_stays_L4]
    rw [hM.1, if_pos (nI_le (Nat.le_refl _) nn)]
    exact Ok.pure ⟨_, rfl, by rw [hy]; rfl⟩
  · rintro ⟨x1, x2⟩ hx
    exact Ok.pure hx
theorem f_findLeast7 {σ : apM} {op : Nat → Nat} (h : GS n src) (hw : GW n src op) (hW : Wd n src op) (hM : GM σ n src) (hO : Nu σ 1 n op) (hK : ∀ v, v < n → σ 5 v = bI (ke v)) (hZ : Nu σ 9 n Z) (hb : ∀ v, v < n → Z v ≤ 40) : Ok (m_X7_findLeast σ) (fun σ' => Fr [18, 0] σ σ' ∧ (∀ j, j ≠ 21 → σ' 0 j = σ 0 j) ∧ σ' 0 21 = nI (lsK n src ke Z 1000 (2 ^ n - 1) (2 ^ n - 1))) := by
  have hn := h.1
  have nn : n < 2 ^ 31 := by omega
  have h12 := pow12 hn
  have hp := Nat.two_pow_pos n
  unfold m_X7_findLeast
  rw [hM.1, i_all n (by omega)]
  refine Ok.bind (P := fun x => Fr [18] σ x.1 ∧ ∀ s, s < 2 ^ n → x.1 18 s = nI (lsK n src ke Z 1000 0 s)) (lp_for0 (fun k (t : apM) => (t, nI k)) (fun k t => Fr [18] σ t ∧ ∀ s, s < k → t 18 s = nI (lsK n src ke Z 1000 0 s)) (2 ^ n) (FU_big (by omega)) ?_ ?_ σ ⟨Fr.rf, fun s hs => by omega⟩) ?_
  · intro k t hk ⟨hf, hJ⟩
    simp only [m_X7_findLeast_L11, m_X7_findLeast_B32]
    rw [if_neg (nI_nlt (show k ≤ 2 ^ n - 1 by omega) (by omega))]
    simp (disch := omega) only [e_ast]
    have fin : ∀ x : Nat, x = lsK n src ke Z 1000 0 k → Ok (some (.inl (mst t 18 k (nI x), nI k + 1)) : Option ((apM × Int32) ⊕ (apM × Int32))) (fun r => ∃ t', r = .inl (t', nI (k + 1)) ∧ Fr [18] σ t' ∧ ∀ s, s < k + 1 → t' 18 s = nI (lsK n src ke Z 1000 0 s)) := by
      intro x hx
      refine Ok.pure ⟨_, by rw [nI_1], hf.tr (Fr.mst (by decide)), fun s hs => ?_⟩
      rw [mst_ap]
      by_cases c : s = k
      · rw [if_pos ⟨rfl, c⟩, c, hx]
      · rw [if_neg (fun q => c q.2)]; exact hJ s (by omega)
    by_cases c : k = 0
    · rw [if_pos (by rw [c]; rfl)]
      exact fin 0 (by rw [c]; rfl)
    · rw [if_neg (show ¬ nI k = (0 : Int32) from fun q => c ((nI_eq (b := 0) (by omega) (by decide)).mp q))]
      refine fin 1000 ?_
      show 1000 = if k = 0 then 0 else 1000
      rw [if_neg c]
  · intro t hJ
    simp only [m_X7_findLeast_L11]
    rw [if_pos (nI_lt (show 2 ^ n - 1 < 2 ^ n by omega) (by omega))]
    exact Ok.pure ⟨_, rfl, hJ⟩
  rintro ⟨s1, v1⟩ ⟨hf1, hN1⟩
  dsimp only at hf1 hN1 ⊢
  refine Ok.bind (P := fun x => Fr [18] σ x.1 ∧ ∀ s, s < 2 ^ n → x.1 18 s = nI (lsK n src ke Z 1000 (2 ^ n - 1) s)) (lp_for0 (fun d (t : apM) => (t, nI d)) (fun d t => Fr [18] σ t ∧ ∀ s, s < 2 ^ n → t 18 s = nI (lsK n src ke Z 1000 d s)) (2 ^ n - 1) (FU_big (by omega)) ?_ ?_ s1 ⟨hf1, hN1⟩) ?_
  · intro d t hd ⟨hf, hN⟩
    have hMt := hM.fr hf (by rw [hf 0 (by decide)]) (by decide)
    have hOt := hO.fr hf (by decide)
    have hZt := hZ.fr hf (by decide)
    have hbd := ls_b (n := n) (src := src) (ke := ke) (Z := Z) (F := 1000) d
    have hhb := held_b (src := src) (ke := ke) hn hb d
    have hdn : d < 2 ^ n := by omega
    simp only [m_X7_findLeast_L41]
    rw [if_neg (nI_ge hd (by omega))]
    simp (disch := omega) only [e_ald]
    rw [hN d hdn]
    by_cases c : lsK n src ke Z 1000 d d < 1000
    · rw [if_neg (show ¬ (1000 : Int32) ≤ nI _ from nI_ge (b := 1000) c (by decide)), f_stays7 (ke := ke) h hMt (fun v hv => by rw [hf 5 (by decide)]; exact hK v hv) hZt, ob]
      unfold m_X7_findLeast_B67
      refine Ok.bind (P := fun x => Fr [18] σ x.1 ∧ ∀ s, s < 2 ^ n → x.1 18 s = nI (upK n src ke Z d (lsK n src ke Z 1000 d) n s)) (lp_for0 (fun v (t : apM) => (t, nI v)) (fun v t => Fr [18] σ t ∧ ∀ s, s < 2 ^ n → t 18 s = nI (upK n src ke Z d (lsK n src ke Z 1000 d) v s)) n (FU_big (by omega)) ?_ ?_ t ⟨hf, hN⟩) ?_
      · intro v u hv ⟨hfu, hNu⟩
        have hMu := hM.fr hfu (by rw [hfu 0 (by decide)]) (by decide)
        have hOu := hO.fr hfu (by decide)
        have hzv := hb v hv
        have hnx := nxt_lt hdn hv
        have b1 := up_le (n := n) (src := src) (ke := ke) (Z := Z) (d := d) (B := lsK n src ke Z 1000 d) v d
        have b2 := Nat.le_trans (up_le (n := n) (src := src) (ke := ke) (Z := Z) (d := d) (B := lsK n src ke Z 1000 d) v (nxt d v)) (hbd (nxt d v))
        simp only [m_X7_findLeast_L71]
        rw [hMu.1, if_neg (nI_ge hv nn), f_bit (isS_nI d) (show v < 32 by omega)]
        simp (disch := omega) only [e_ald]
        rw [hNu d hdn, if_neg (show ¬ (1000 : Int32) ≤ nI _ from nI_ge (b := 1000) (by omega) (by decide))]
        cases z : d.testBit v with
        | true =>
          rw [if_neg (show ¬ bI true = 0 by decide)]
          exact Ok.pure ⟨u, by rw [nI_1], hfu, by rw [up_f (by unfold cnd; rw [z]; rfl)]; exact hNu⟩
        | false =>
          rw [if_pos (show bI false = 0 from rfl)]
          obtain ⟨r, er, hr⟩ := f_needed7 h hw hW hMu hOu hv
          rw [er, ob]
          have hp := f_part7 (d := d) hr
          cases z2 : sbt d (ed src v) with
          | false =>
            rw [if_neg (fun q => by have := hp.mp q; rw [z2] at this; cases this)]
            exact Ok.pure ⟨u, by rw [nI_1], hfu, by rw [up_f (by unfold cnd; rw [z, z2]; rfl)]; exact hNu⟩
          | true =>
            rw [if_pos (hp.mpr z2)]
            rw [hfu 9 (by decide), hZ v hv, nI_add]
            have h187 : ∀ x : Nat, x = min (upK n src ke Z d (lsK n src ke Z 1000 d) v (nxt d v)) (max (upK n src ke Z d (lsK n src ke Z 1000 d) v d) (held n src ke Z d + Z v)) → Ok (m_X7_findLeast_B187 u (nI (2 ^ n - 1)) (nI d) (nI (held n src ke Z d)) (nI v) (nI x) (nI (nxt d v))) (fun r => ∃ t', r = .inl (t', nI (v + 1)) ∧ Fr [18] σ t' ∧ ∀ s, s < 2 ^ n → t' 18 s = nI (upK n src ke Z d (lsK n src ke Z 1000 d) (v + 1) s)) := by
              intro x hx
              unfold m_X7_findLeast_B187
              simp (disch := omega) only [e_ast]
              refine Ok.pure ⟨_, by rw [nI_1], hfu.tr (Fr.mst (by decide)), fun s hs => ?_⟩
              rw [up_t (by unfold cnd; rw [z, z2]; rfl), mst_ap]
              unfold upN
              by_cases c : s = nxt d v
              · rw [if_pos c, if_pos ⟨rfl, c⟩, hx]
              · rw [if_neg c, if_neg (fun q => c q.2)]; exact hNu s hs
            have h147 : ∀ x : Nat, x = max (upK n src ke Z d (lsK n src ke Z 1000 d) v d) (held n src ke Z d + Z v) → Ok (m_X7_findLeast_B147 u (nI (2 ^ n - 1)) (nI d) (nI (held n src ke Z d)) (nI v) (nI x)) (fun r => ∃ t', r = .inl (t', nI (v + 1)) ∧ Fr [18] σ t' ∧ ∀ s, s < 2 ^ n → t' 18 s = nI (upK n src ke Z d (lsK n src ke Z 1000 d) (v + 1) s)) := by
              intro x hx
              unfold m_X7_findLeast_B147
              rw [i_nxt7 (show v < 13 by omega)]
              simp (disch := omega) only [e_ald]
              rw [hNu _ hnx]
              by_cases e : upK n src ke Z d (lsK n src ke Z 1000 d) v (nxt d v) ≤ x
              · rw [if_pos (nI_le e (by omega))]
                exact h187 _ (by omega)
              · rw [if_neg (fun q => e ((nI_leI (by omega) (by omega)).mp q))]
                exact h187 _ (by omega)
            by_cases e : held n src ke Z d + Z v ≤ upK n src ke Z d (lsK n src ke Z 1000 d) v d
            · rw [if_pos (nI_le e (by omega))]
              exact h147 _ (by omega)
            · rw [if_neg (fun q => e ((nI_leI (by omega) (by omega)).mp q))]
              exact h147 _ (by omega)
      · intro u ⟨hfu, hNu⟩
        have hMu := hM.fr hfu (by rw [hfu 0 (by decide)]) (by decide)
        simp only [m_X7_findLeast_L71]
        rw [hMu.1, if_pos (nI_le (Nat.le_refl _) nn)]
        exact Ok.pure ⟨_, rfl, hfu, hNu⟩
      · rintro ⟨x1, x2⟩ ⟨a, b⟩
        exact Ok.pure ⟨x1, by rw [nI_1], a, fun s hs => by rw [ls_t c]; exact b s hs⟩
    · have e1000 := hbd d
      rw [if_pos (show (1000 : Int32) ≤ nI _ from nI_le (a := 1000) (by omega) (by omega))]
      unfold m_X7_findLeast_B67
      by_cases z : n = 0
      · subst z; omega
      · have : lp FU (m_X7_findLeast_L71 (nI (2 ^ n - 1)) (nI d) 0) (t, 0) = some (t, 0) := by
          refine Ok.eq (lp_for0 (fun k (_ : Unit) => (t, nI k)) (fun _ _ => True) 0 (FU_big (by omega)) (fun k _ hk => by omega) ?_ () trivial)
          intro _ _
          simp only [m_X7_findLeast_L71]
          rw [hMt.1, if_neg (nI_ge (show 0 < n by omega) nn)]
          simp (disch := omega) only [e_ald]
          rw [hN d hdn, if_pos (show (1000 : Int32) ≤ nI _ from nI_le (a := 1000) (by omega) (by omega))]
          exact Ok.pure ⟨_, rfl, rfl⟩
        rw [this, ob]
        exact Ok.pure ⟨t, by rw [nI_1], hf, fun s hs => by rw [ls_f c]; exact hN s hs⟩
  · intro t hJ
    simp only [m_X7_findLeast_L41]
    rw [if_pos (nI_le (Nat.le_refl _) (by omega))]
    exact Ok.pure ⟨_, rfl, hJ⟩
  · rintro ⟨x1, x2⟩ ⟨hf, hN⟩
    dsimp only
    simp (disch := omega) only [e_ald]
    refine Ok.pure ⟨(hf.mono (by decide)).tr (Fr.mst (by decide)), fun j hj => ?_, ?_⟩
    · rw [mst_ni hj]
      show x1 0 j = σ 0 j
      rw [show x1 0 = σ 0 from hf 0 (by decide)]
    · rw [mst_at]; exact hN _ (by omega)
end
