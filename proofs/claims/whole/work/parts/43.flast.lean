/-! ===== the last step at which a node is live ===== -/
/-- where each node stands in the order -/
def PO (n : Nat) (sq po : Nat → Nat) : Prop := (∀ v, v < n → po v < n ∧ sq (po v) = v) ∧ ∀ i, i < n → sq i < n ∧ po (sq i) = i
theorem PO_of {n : Nat} {sq : Nat → Nat} {st : Nat → Option Nat} (hQ : SQ n n sq st) : ∃ po, PO n sq po ∧ ∀ v, v < n → st v = some (po v) := by
  have key : ∀ v, v < n → st v = some ((st v).getD 0) := fun v hv => by
    obtain ⟨i, hi, e, -⟩ := SQ_all hQ hv
    rw [e]; rfl
  refine ⟨fun v => (st v).getD 0, ⟨fun v hv => ?_, fun i hi => ⟨hQ.2.2 i hi, ?_⟩⟩, key⟩
  · obtain ⟨i, hi, e, e2⟩ := SQ_all hQ hv
    dsimp only
    rw [e]
    exact ⟨hi, e2⟩
  · dsimp only
    rw [(hQ.2.1 (sq i) i).mpr ⟨hi, rfl⟩]
    rfl
def IsMx (S : Nat → Prop) (f : Nat → Nat) (a x : Nat) : Prop := a ≤ x ∧ (∀ w, S w → f w ≤ x) ∧ (x = a ∨ ∃ w, S w ∧ x = f w)
theorem IsMx_uniq {S : Nat → Prop} {f : Nat → Nat} {a x y : Nat} (h1 : IsMx S f a x) (h2 : IsMx S f a y) : x = y := by
  obtain ⟨a1, b1, c1⟩ := h1
  obtain ⟨a2, b2, c2⟩ := h2
  have l1 : x ≤ y := by
    rcases c1 with rfl | ⟨w, hw, rfl⟩
    · exact a2
    · exact b2 w hw
  have l2 : y ≤ x := by
    rcases c2 with rfl | ⟨w, hw, rfl⟩
    · exact a1
    · exact b1 w hw
  omega
theorem IsMx_0 {S : Nat → Prop} {f : Nat → Nat} {a : Nat} (h : ∀ w, ¬ S w) : IsMx S f a a := ⟨Nat.le_refl _, fun w hw => absurd hw (h w), Or.inl rfl⟩
theorem IsMx_cg {S T : Nat → Prop} {f : Nat → Nat} {a x : Nat} (h : IsMx S f a x) (e : ∀ w, T w ↔ S w) : IsMx T f a x := by
  obtain ⟨a1, b1, c1⟩ := h
  refine ⟨a1, fun w hw => b1 w ((e w).mp hw), ?_⟩
  rcases c1 with rfl | ⟨w, hw, rfl⟩
  · exact Or.inl rfl
  · exact Or.inr ⟨w, (e w).mpr hw, rfl⟩
theorem IsMx_add {S T : Nat → Prop} {f : Nat → Nat} {a x k : Nat} (h : IsMx S f a x) (e : ∀ w, T w ↔ (S w ∨ w = k)) : IsMx T f a (max x (f k)) := by
  obtain ⟨a1, b1, c1⟩ := h
  refine ⟨by omega, fun w hw => ?_, ?_⟩
  · rcases (e w).mp hw with q | rfl
    · have := b1 w q; omega
    · omega
  · rcases Nat.le_total x (f k) with q | q
    · exact Or.inr ⟨k, (e k).mpr (Or.inr rfl), by omega⟩
    · rw [Nat.max_eq_left q]
      rcases c1 with rfl | ⟨w, hw, rfl⟩
      · exact Or.inl rfl
      · exact Or.inr ⟨w, (e w).mpr (Or.inl hw), rfl⟩
def IsLa (n : Nat) (src : Nat → Nat → Option Nat) (ke : Nat → Bool) (po : Nat → Nat) (v x : Nat) : Prop := (ke v = true → x = n - 1) ∧ (ke v = false → IsMx (fun w => w < n ∧ ed src w v = true) po (po v) x)
theorem IsLa_uniq {n : Nat} {src : Nat → Nat → Option Nat} {ke : Nat → Bool} {po : Nat → Nat} {v x y : Nat} (h1 : IsLa n src ke po v x) (h2 : IsLa n src ke po v y) : x = y := by
  cases e : ke v with
  | true => rw [h1.1 e, h2.1 e]
  | false => exact IsMx_uniq (h1.2 e) (h2.2 e)
theorem IsLa_b {n : Nat} {src : Nat → Nat → Option Nat} {ke : Nat → Bool} {po : Nat → Nat} {v x : Nat} (hp : ∀ v, v < n → po v < n) (hv : v < n) (h : IsLa n src ke po v x) : x < n ∧ po v ≤ x ∧ ∀ w, w < n → ed src w v = true → po w ≤ x := by
  have := hp v hv
  cases e : ke v with
  | true =>
    rw [h.1 e]
    exact ⟨by omega, by omega, fun w hw _ => by have := hp w hw; omega⟩
  | false =>
    obtain ⟨a, b, c⟩ := h.2 e
    refine ⟨?_, a, fun w hw q => b w ⟨hw, q⟩⟩
    rcases c with rfl | ⟨w, hw, rfl⟩
    · exact this
    · exact hp w hw.1
theorem f_lastStepOf {σ : apM} {n v : Nat} {src : Nat → Nat → Option Nat} {ke : Nat → Bool} {po : Nat → Nat} (h : GS n src) (hC : GC σ n src) (hE : ∀ u, u < n → isS (σ 17 u) (fun v => decide (v < n) && ed src v u)) (hK : ∀ v, v < n → σ 12 v = bI (ke v)) (hP : Nu σ 21 n po) (hp : ∀ v, v < n → po v < n) (hv : v < n) : Ok (m_X4_lastStepOf σ (nI v)) (fun r => ∃ x, r = nI x ∧ IsLa n src ke po v x) := by
  have hn := h.1
  have nn : n < 2 ^ 31 := by omega
  unfold m_X4_lastStepOf
  simp (disch := omega) only [e_ald]
  rw [hK v hv]
  cases e : ke v with
  | true =>
    rw [if_neg (show ¬ bI true = 0 by decide), hC.1, show (nI n - 1 : Int32) = nI (n - 1) from pk_sub (a := n) (b := 1) (by omega)]
    exact Ok.pure ⟨n - 1, rfl, fun _ => rfl, fun q => by rw [e] at q; cases q⟩
  | false =>
    rw [if_pos (show bI false = 0 from rfl), hP v hv]
    refine Ok.bind (P := fun x => ∃ y, x.1 = nI y ∧ IsMx (fun w => w < n ∧ ed src w v = true) po (po v) y) (lp_for0 (fun j (y : Nat) => (nI y, nI j)) (fun j y => y < n ∧ IsMx (fun w => w < j ∧ ed src w v = true) po (po v) y) n (FU_big (by omega)) ?_ ?_ (po v) ⟨hp v hv, IsMx_0 (fun w hw => by omega)⟩) ?_
    · intro j y hj ⟨hy, hJ⟩
      simp only [m_X4_lastStepOf_L31]
      rw [hC.1, if_neg (nI_ge hj nn)]
      simp (disch := omega) only [e_ald]
      rw [f_contains (hE v hv) (show j < 32 by omega), decide_eq_true hj, Bool.true_and]
      cases z : ed src j v with
      | false =>
        rw [if_pos (show bI false = 0 from rfl)]
        refine Ok.pure ⟨y, by rw [nI_1], hy, IsMx_cg hJ (fun w => ?_)⟩
        constructor
        · rintro ⟨w1, w2⟩
          refine ⟨?_, w2⟩
          by_cases d : w = j
          · subst d; rw [z] at w2; cases w2
          · omega
        · rintro ⟨w1, w2⟩; exact ⟨by omega, w2⟩
      | true =>
        rw [if_neg (show ¬ bI true = 0 by decide), hP j hj]
        have := hp j hj
        rw [imax (by omega) (by omega)]
        refine Ok.pure ⟨_, by rw [nI_1], by omega, IsMx_add hJ (fun w => ?_)⟩
        constructor
        · rintro ⟨w1, w2⟩
          by_cases d : w = j
          · exact Or.inr d
          · exact Or.inl ⟨by omega, w2⟩
        · rintro (⟨w1, w2⟩ | rfl)
          · exact ⟨by omega, w2⟩
          · exact ⟨by omega, z⟩
    · intro y ⟨hy, hJ⟩
      simp only [m_X4_lastStepOf_L31]
      rw [hC.1, if_pos (nI_le (Nat.le_refl _) nn)]
      exact Ok.pure ⟨_, rfl, y, rfl, hJ⟩
    · rintro ⟨y1, y2⟩ ⟨y, hy, hm⟩
      exact Ok.pure ⟨y, hy, fun q => (by rw [e] at q; cases q), fun _ => hm⟩
theorem f_lasts4 {σ : apM} {n : Nat} {src : Nat → Nat → Option Nat} {ke : Nat → Bool} {po : Nat → Nat} (h : GS n src) (hC : GC σ n src) (hE : ∀ u, u < n → isS (σ 17 u) (fun v => decide (v < n) && ed src v u)) (hK : ∀ v, v < n → σ 12 v = bI (ke v)) (hP : Nu σ 21 n po) (hp : ∀ v, v < n → po v < n) : Ok (lp FU m_X4_arrange_L18 (σ, 0)) (fun x => Fr [22] σ x.1 ∧ ∃ la, Nu x.1 22 n la ∧ ∀ v, v < n → IsLa n src ke po v (la v)) := by
  have hn := h.1
  have nn : n < 2 ^ 31 := by omega
  refine lp_for0 (fun k (t : apM) => (t, nI k)) (fun k t => Fr [22] σ t ∧ ∃ la, Nu t 22 k la ∧ ∀ v, v < k → IsLa n src ke po v (la v)) n (FU_big (by omega)) ?_ ?_ σ ⟨Fr.rf, fun _ => 0, fun v hv => by omega, fun v hv => by omega⟩
  · intro k t hk ⟨hf, la, hN, hJ⟩
    have hCt := hC.fr hn hf (by decide) (by decide)
    simp only [m_X4_arrange_L18]
    rw [hCt.1, if_neg (nI_ge hk nn)]
    obtain ⟨r, er, x, rfl, hx⟩ := f_lastStepOf (ke := ke) (po := po) h hCt (fun u hu => by rw [hf 17 (by decide)]; exact hE u hu) (fun v hv => by rw [hf 12 (by decide)]; exact hK v hv) (hP.fr hf (by decide)) hp hk
    rw [er, ob]
    simp (disch := omega) only [e_ast]
    refine Ok.pure ⟨_, by rw [nI_1], hf.tr (Fr.mst (by decide)), upN la k x, fun v hv => ?_, fun v hv => ?_⟩
    · rw [mst_ap]
      unfold upN
      by_cases c : v = k
      · subst c; simp
      · simp only [c, and_false, if_false]; exact hN v (by omega)
    · unfold upN
      by_cases c : v = k
      · subst c; rw [if_pos rfl]; exact hx
      · rw [if_neg c]; exact hJ v (by omega)
  · intro t ⟨hf, hJ⟩
    have hCt := hC.fr hn hf (by decide) (by decide)
    simp only [m_X4_arrange_L18]
    rw [hCt.1, if_pos (nI_le (Nat.le_refl _) nn)]
    exact Ok.pure ⟨_, rfl, hf, hJ⟩
theorem i_half : ∀ k, k < 24 → nI k / 2 = nI (k / 2) := by decide +kernel
theorem f_findLives7 {σ : apM} {n : Nat} {src : Nat → Nat → Option Nat} {ke : Nat → Bool} {po : Nat → Nat} (h : GS n src) (hM : GM σ n src) (hK : ∀ v, v < n → σ 5 v = bI (ke v)) (hP : Nu σ 12 n po) (hp : ∀ v, v < n → po v < n) : Ok (m_X7_findLives σ) (fun σ' => Fr [13] σ σ' ∧ ∃ la, Nu σ' 13 n la ∧ ∀ v, v < n → IsLa n src ke po v (la v)) := by
  have hn := h.1
  have nn : n < 2 ^ 31 := by omega
  unfold m_X7_findLives
  refine Ok.bind (P := fun x => Fr [13] σ x.1 ∧ ∃ la, Nu x.1 13 n la ∧ ∀ v, v < n → IsLa n src ke po v (la v)) (lp_for0 (fun k (t : apM) => (t, nI k)) (fun k t => Fr [13] σ t ∧ ∃ la, Nu t 13 k la ∧ ∀ v, v < k → IsLa n src ke po v (la v)) n (FU_big (by omega)) ?_ ?_ σ ⟨Fr.rf, fun _ => 0, fun v hv => by omega, fun v hv => by omega⟩) ?_
  · intro k t hk ⟨hf, la, hN, hJ⟩
    have hMt := hM.fr hf (by rw [hf 0 (by decide)]) (by decide)
    have hpk := hp k hk
    simp only [m_X7_findLives_L2]
    rw [hMt.1, if_neg (nI_ge hk nn)]
    have h39 : ∀ a : Nat, a < n → Ok (m_X7_findLives_B39 t (nI k) (nI a) (nI k)) (fun r => ∃ t' x, r = .inl (t', nI (k + 1)) ∧ Fr [13] σ t' ∧ Nu t' 13 (k + 1) (upN la k x) ∧ IsMx (fun w => w < n ∧ ed src w k = true) po a x) := by
      intro a ha
      unfold m_X7_findLives_B39
      simp (disch := omega) only [e_ast]
      refine Ok.bind (P := fun y => ∃ x, Fr [13] σ y.1 ∧ Nu y.1 13 (k + 1) (upN la k x) ∧ IsMx (fun w => w < n ∧ ed src w k = true) po a x) (lp_for0 (fun j (t : apM) => (t, nI j)) (fun j t => ∃ x, x < n ∧ Fr [13] σ t ∧ Nu t 13 (k + 1) (upN la k x) ∧ IsMx (fun w => ∃ i, i < j ∧ i / 2 = w ∧ src (i / 2) (i % 2) = some k) po a x) (2 * n) (FU_big (by omega)) ?_ ?_ _ ⟨a, ha, hf.tr (Fr.mst (by decide)), ?_, IsMx_0 (fun w ⟨i, hi, _⟩ => by omega)⟩) ?_
      · intro j u hj ⟨x, hx, hfu, hNu, hm⟩
        have hMu := hM.fr hfu (by rw [hfu 0 (by decide)]) (by decide)
        simp only [m_X7_findLives_L42]
        rw [hMu.1, l2, if_neg (nI_ge hj (by omega)), i_half j (by omega)]
        simp (disch := omega) only [e_ald, e_ast]
        have hjj : 2 * (j / 2) + j % 2 = j := by omega
        have hat := hMu.at (show j / 2 < n by omega) (show j % 2 < 2 by omega)
        rw [hjj] at hat
        have hpj := hp (j / 2) (by omega)
        have hxk : u 13 k = nI x := by
          have := hNu k (Nat.lt_succ_self _)
          unfold upN at this
          rw [if_pos rfl] at this
          exact this
        rw [hat, hfu 12 (by decide), hP _ (show j / 2 < n by omega), hxk]
        by_cases c : src (j / 2) (j % 2) = some k
        · rw [c, if_pos (show eo (some k) = nI k from rfl)]
          have hm2 := IsMx_add (k := j / 2) (T := fun w => ∃ i, i < j + 1 ∧ i / 2 = w ∧ src (i / 2) (i % 2) = some k) hm (fun w => by
            constructor
            · rintro ⟨i, hi, e1, e2⟩
              by_cases d : i = j
              · subst d; exact Or.inr e1.symm
              · exact Or.inl ⟨i, by omega, e1, e2⟩
            · rintro (⟨i, hi, e1, e2⟩ | rfl)
              · exact ⟨i, by omega, e1, e2⟩
              · exact ⟨j, by omega, rfl, c⟩)
          by_cases d : po (j / 2) ≤ x
          · rw [if_pos (nI_le d (by omega))]
            rw [Nat.max_eq_left d] at hm2
            exact Ok.pure ⟨u, by rw [nI_1], x, hx, hfu, hNu, hm2⟩
          · rw [if_neg (fun q => d ((nI_leI (by omega) (by omega)).mp q))]
            rw [Nat.max_eq_right (by omega)] at hm2
            refine Ok.pure ⟨_, by rw [nI_1], _, hpj, hfu.tr (Fr.mst (by decide)), fun v hv => ?_, hm2⟩
            rw [mst_ap]
            have := hNu v hv
            unfold upN at this ⊢
            by_cases z : v = k
            · subst z; simp
            · simp only [z, and_false, if_false] at this ⊢; exact this
        · have : ¬ eo (src (j / 2) (j % 2)) = nI k := by
            cases e : src (j / 2) (j % 2) with
            | none => exact m1_ne' (by omega)
            | some w =>
              have hw := h.2 _ _ _ e
              intro q
              have := (nI_eq (by omega) (by omega)).mp q
              subst this
              exact c e
          rw [if_neg this]
          refine Ok.pure ⟨u, by rw [nI_1], x, hx, hfu, hNu, IsMx_cg hm (fun w => ?_)⟩
          constructor
          · rintro ⟨i, hi, e1, e2⟩
            by_cases d : i = j
            · subst d; exact absurd e2 c
            · exact ⟨i, by omega, e1, e2⟩
          · rintro ⟨i, hi, e1, e2⟩
            exact ⟨i, by omega, e1, e2⟩
      · intro u ⟨x, hx, hfu, hNu, hm⟩
        have hMu := hM.fr hfu (by rw [hfu 0 (by decide)]) (by decide)
        simp only [m_X7_findLives_L42]
        rw [hMu.1, l2, if_pos (nI_le (Nat.le_refl _) (by omega))]
        refine Ok.pure ⟨_, rfl, x, hfu, hNu, IsMx_cg hm (fun w => ?_)⟩
        constructor
        · rintro ⟨hw, e⟩
          obtain ⟨i, hi, e⟩ := ed_in e
          exact ⟨2 * w + i, by omega, by omega, by rw [show (2 * w + i) / 2 = w by omega, show (2 * w + i) % 2 = i by omega]; exact e⟩
        · rintro ⟨i, hi, rfl, e2⟩
          exact ⟨by omega, ed_of (by omega) e2⟩
      · intro v hv
        rw [mst_ap]
        unfold upN
        by_cases c : v = k
        · subst c; simp
        · simp only [c, and_false, if_false]; exact hN v (by omega)
      · rintro ⟨u1, u2⟩ ⟨x, a1, a2, a3⟩
        exact Ok.pure ⟨u1, x, by rw [nI_1], a1, a2, a3⟩
    have fin : ∀ a : Nat, a < n → (∀ x, IsMx (fun w => w < n ∧ ed src w k = true) po a x → IsLa n src ke po k x) → Ok (m_X7_findLives_B39 t (nI k) (nI a) (nI k)) (fun r => ∃ t', r = .inl (t', nI (k + 1)) ∧ Fr [13] σ t' ∧ ∃ la, Nu t' 13 (k + 1) la ∧ ∀ v, v < k + 1 → IsLa n src ke po v (la v)) := fun a ha hx => by
      refine (h39 a ha).mono ?_
      rintro r ⟨t', x, rfl, a1, a2, a3⟩
      refine ⟨t', rfl, a1, _, a2, fun v hv => ?_⟩
      unfold upN
      by_cases c : v = k
      · subst c; rw [if_pos rfl]; exact hx x a3
      · rw [if_neg c]; exact hJ v (by omega)
    simp (disch := omega) only [e_ald]
    rw [hf 5 (by decide), hK k hk]
    cases e : ke k with
    | false =>
      rw [if_pos (show bI false = 0 from rfl), hf 12 (by decide), hP k hk]
      exact fin _ hpk (fun x hx => ⟨fun q => (by rw [e] at q; cases q), fun _ => hx⟩)
    | true =>
      rw [if_neg (show ¬ bI true = 0 by decide), show (nI n - 1 : Int32) = nI (n - 1) from pk_sub (a := n) (b := 1) (by omega)]
      refine fin _ (by omega) (fun x hx => ⟨fun _ => ?_, fun q => by rw [e] at q; cases q⟩)
      rcases hx.2.2 with q | ⟨w, hw, q⟩
      · exact q
      · have := hp w hw.1
        have := hx.1
        omega
  · intro t ⟨hf, hJ⟩
    have hMt := hM.fr hf (by rw [hf 0 (by decide)]) (by decide)
    simp only [m_X7_findLives_L2]
    rw [hMt.1, if_pos (nI_le (Nat.le_refl _) nn)]
    exact Ok.pure ⟨_, rfl, hf, hJ⟩
  · rintro ⟨s1, v1⟩ hP
    exact Ok.pure hP
