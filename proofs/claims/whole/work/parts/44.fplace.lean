/-! ===== places in the class ===== -/
def bef (Z po : Nat → Nat) (u v : Nat) : Prop := Z v < Z u ∨ (Z u = Z v ∧ po u < po v)
def tog (po la : Nat → Nat) (u v : Nat) : Prop := po u ≤ la v ∧ po v ≤ la u
def clr (Z pl : Nat → Nat) (u v o : Nat) : Prop := o + Z v ≤ pl u ∨ pl u + Z u ≤ o
def IsPl (n : Nat) (Z po la pl : Nat → Nat) : Prop := ∀ v, v < n → (∀ u, u < n → bef Z po u v → tog po la u v → clr Z pl u v (pl v)) ∧ ∀ o, o < pl v → ∃ u, u < n ∧ bef Z po u v ∧ tog po la u v ∧ ¬ clr Z pl u v o
def BZ (k : Nat) (sq Z po bz : Nat → Nat) : Prop := (∀ i, i < k → ∃ j, j < k ∧ bz i = sq j) ∧ (∀ j, j < k → ∃ i, i < k ∧ bz i = sq j) ∧ ∀ i j, i < j → j < k → bef Z po (bz i) (bz j)
def insN (bz : Nat → Nat) (r v : Nat) : Nat → Nat := fun i => if i < r then bz i else if i = r then v else bz (i - 1)
theorem BZ_ins {k r : Nat} {sq Z po bz : Nat → Nat} (hB : BZ k sq Z po bz) (hpo : ∀ i, i < k → po (sq i) < po (sq k)) (hr : r ≤ k) (h1 : r = 0 ∨ Z (sq k) ≤ Z (bz (r - 1))) (h2 : ∀ i, r < i → i ≤ k → Z (bz (i - 1)) < Z (sq k)) : BZ (k + 1) sq Z po (insN bz r (sq k)) := by
  obtain ⟨b1, b2, b3⟩ := hB
  refine ⟨fun i hi => ?_, fun j hj => ?_, fun i j hij hj => ?_⟩
  · unfold insN
    by_cases c : i < r
    · rw [if_pos c]
      obtain ⟨j, hj, e⟩ := b1 i (by omega)
      exact ⟨j, by omega, e⟩
    · rw [if_neg c]
      by_cases d : i = r
      · rw [if_pos d]; exact ⟨k, by omega, rfl⟩
      · rw [if_neg d]
        obtain ⟨j, hj, e⟩ := b1 (i - 1) (by omega)
        exact ⟨j, by omega, e⟩
  · by_cases c : j = k
    · subst c
      exact ⟨r, by omega, by unfold insN; rw [if_neg (Nat.lt_irrefl _), if_pos rfl]⟩
    · obtain ⟨i, hi, e⟩ := b2 j (by omega)
      by_cases d : i < r
      · exact ⟨i, by omega, by unfold insN; rw [if_pos d]; exact e⟩
      · exact ⟨i + 1, by omega, by unfold insN; rw [if_neg (by omega), if_neg (by omega)]; exact e⟩
  · unfold insN
    by_cases c : i < r
    · rw [if_pos c]
      by_cases d : j < r
      · rw [if_pos d]; exact b3 i j hij (by omega)
      · rw [if_neg d]
        by_cases e : j = r
        · rw [if_pos e]
          have h1 : Z (sq k) ≤ Z (bz (r - 1)) := by
            rcases h1 with q | q
            · omega
            · exact q
          obtain ⟨j2, hj2, e2⟩ := b1 i (by omega)
          have h3 : Z (bz (r - 1)) ≤ Z (bz i) := by
            by_cases z : i = r - 1
            · rw [z]; exact Nat.le_refl _
            · rcases b3 i (r - 1) (by omega) (by omega) with q | q
              · omega
              · omega
          have h4 := hpo j2 hj2
          rw [← e2] at h4
          unfold bef
          omega
        · rw [if_neg e]; exact b3 i (j - 1) (by omega) (by omega)
    · rw [if_neg c, if_neg (show ¬ j < r by omega), if_neg (show ¬ j = r by omega)]
      by_cases e : i = r
      · rw [if_pos e]; exact Or.inl (h2 j (by omega) (by omega))
      · rw [if_neg e]; exact b3 (i - 1) (j - 1) (by omega) (by omega)
theorem i_dec : ∀ r, r < 41 → 1 ≤ r → nI r + (-1) = nI (r - 1) := by decide +kernel
theorem f_sort {σ : apM} {n : Nat} {sq Z po : Nat → Nat} (hn : n ≤ 12) (hl : σ 3 10 = nI n) (hQ : PO n sq po) (hS : Nu σ 20 n sq) (hZ : Nu σ 18 n Z) (hb : ∀ v, v < n → 1 ≤ Z v ∧ Z v ≤ 40) : Ok (m_X3_sortBySize σ) (fun σ' => Fr [24] σ σ' ∧ ∃ bz, Nu σ' 24 n bz ∧ BZ n sq Z po bz) := by
  have nn : n < 2 ^ 31 := by omega
  unfold m_X3_sortBySize
  refine Ok.bind (P := fun x => Fr [24] σ x.1 ∧ ∃ bz, Nu x.1 24 n bz ∧ BZ n sq Z po bz) (lp_for0 (fun k (t : apM) => (t, nI k)) (fun k t => Fr [24] σ t ∧ ∃ bz, Nu t 24 k bz ∧ BZ k sq Z po bz) n (FU_big (by omega)) ?_ ?_ σ ⟨Fr.rf, fun _ => 0, fun v hv => by omega, fun i hi => by omega, fun i hi => by omega, fun i j _ hj => by omega⟩) ?_
  · intro k t hk ⟨hf, bz, hN, hB⟩
    have hsk := (hQ.2 k hk).1
    have hbzn : ∀ i, i < k → bz i < n := fun i hi => by obtain ⟨j, hj, e⟩ := hB.1 i hi; rw [e]; exact (hQ.2 j (by omega)).1
    have hzk := hb _ hsk
    simp only [m_X3_sortBySize_L2]
    rw [hf 3 (by decide), hl, if_neg (nI_ge hk nn)]
    simp (disch := omega) only [e_ald]
    rw [hf 20 (by decide), hS k hk]
    refine Ok.bind (P := fun x => ∃ r, r ≤ k ∧ x.2 = nI r ∧ Fr [24] σ x.1 ∧ (∀ i, i < r → x.1 24 i = nI (bz i)) ∧ (∀ i, r < i → i ≤ k → x.1 24 i = nI (bz (i - 1)) ∧ Z (bz (i - 1)) < Z (sq k)) ∧ (r = 0 ∨ Z (sq k) ≤ Z (bz (r - 1)))) (lp_okg (fun m (x : apM × Int32) => ∃ r, m = r ∧ r ≤ k ∧ x.2 = nI r ∧ Fr [24] σ x.1 ∧ (∀ i, i < r → x.1 24 i = nI (bz i)) ∧ ∀ i, r < i → i ≤ k → x.1 24 i = nI (bz (i - 1)) ∧ Z (bz (i - 1)) < Z (sq k)) ?_ FU k (t, nI k) (FU_big (by omega)) ⟨k, rfl, Nat.le_refl _, rfl, hf, hN, fun i h1 h2 => by omega⟩) ?_
    · rintro m ⟨u, v3⟩ ⟨r, rfl, hr, e3, hfu, g1, g2⟩
      dsimp only at e3 hfu g1 g2
      subst e3
      simp only [m_X3_sortBySize_L25]
      by_cases c : m = 0
      · subst c
        rw [if_pos (show nI 0 ≤ (0 : Int32) by decide)]
        exact Ok.pure ⟨0, hr, rfl, hfu, g1, g2, Or.inl rfl⟩
      · rw [if_neg (show ¬ nI m ≤ (0 : Int32) from fun q => c (by have := (nI_leI (b := 0) (by omega) (by decide)).mp q; omega)), show (nI m - 1 : Int32) = nI (m - 1) from pk_sub (a := m) (b := 1) (by omega)]
        simp (disch := omega) only [e_ald]
        have hb1 := hbzn (m - 1) (by omega)
        have hzb := hb _ hb1
        rw [g1 (m - 1) (by omega)]
        simp (disch := omega) only [e_ald, e_ast]
        rw [hfu 18 (by decide), hZ _ hb1, hZ _ hsk]
        by_cases d : Z (sq k) ≤ Z (bz (m - 1))
        · rw [if_pos (nI_le d (by omega))]
          exact Ok.pure ⟨m, hr, rfl, hfu, g1, g2, Or.inr d⟩
        · rw [if_neg (fun q => d ((nI_leI (by omega) (by omega)).mp q)), i_dec m (by omega) (by omega)]
          refine Ok.pure ⟨m - 1, by omega, m - 1, rfl, by omega, rfl, hfu.tr (Fr.mst (by decide)), fun i hi => ?_, fun i h1 h2 => ?_⟩
          · show mst u 24 m (nI (bz (m - 1))) 24 i = _
            rw [mst_ni (by omega)]; exact g1 i (by omega)
          · show mst u 24 m (nI (bz (m - 1))) 24 i = _ ∧ _
            by_cases z : i = m
            · subst z; rw [mst_at]; exact ⟨rfl, by omega⟩
            · rw [mst_ni z]; exact g2 i (by omega) h2
    · rintro ⟨u, v3⟩ ⟨r, hr, e3, hfu, g1, g2, g3⟩
      dsimp only at e3 hfu g1 g2 ⊢
      subst e3
      unfold m_X3_sortBySize_B77
      simp (disch := omega) only [e_ast]
      refine Ok.pure ⟨_, by rw [nI_1], hfu.tr (Fr.mst (by decide)), insN bz r (sq k), fun i hi => ?_, BZ_ins hB (fun i hi => by rw [(hQ.2 i (by omega)).2, (hQ.2 k hk).2]; exact hi) hr g3 (fun i h1 h2 => (g2 i h1 h2).2)⟩
      unfold insN
      by_cases c : i < r
      · rw [if_pos c, mst_ni (by omega)]; exact g1 i c
      · rw [if_neg c]
        by_cases d : i = r
        · subst d; rw [if_pos rfl, mst_at]
        · rw [if_neg d, mst_ni d]; exact (g2 i (by omega) (by omega)).1
  · intro t ⟨hf, hJ⟩
    simp only [m_X3_sortBySize_L2]
    rw [hf 3 (by decide), hl, if_pos (nI_le (Nat.le_refl _) nn)]
    exact Ok.pure ⟨_, rfl, hf, hJ⟩
  · rintro ⟨s1, v1⟩ hP
    exact Ok.pure hP
/-! counting -/
def cn (P : Nat → Bool) : Nat → Nat
  | 0 => 0
  | k + 1 => cn P k + if P k = true then 1 else 0
theorem cn_le (P : Nat → Bool) : ∀ k, cn P k ≤ k := by
  intro k
  induction k with
  | zero => exact Nat.le_refl _
  | succ k ih => unfold cn; split <;> omega
theorem cn_mono {P Q : Nat → Bool} (h : ∀ e, P e = true → Q e = true) : ∀ k, cn P k ≤ cn Q k := by
  intro k
  induction k with
  | zero => exact Nat.le_refl _
  | succ k ih =>
    unfold cn
    by_cases c : P k = true
    · rw [if_pos c, if_pos (h k c)]; omega
    · rw [if_neg c]; omega
theorem cn_lt {P Q : Nat → Bool} (h : ∀ e, P e = true → Q e = true) {e : Nat} (h1 : P e = false) (h2 : Q e = true) : ∀ k, e < k → cn P k < cn Q k := by
  intro k
  induction k with
  | zero => intro q; omega
  | succ k ih =>
    intro q
    unfold cn
    by_cases d : e = k
    · subst d
      rw [h1, if_neg (by decide), h2, if_pos rfl]
      have := cn_mono h e
      omega
    · have := ih (by omega)
      by_cases c : P k = true
      · rw [if_pos c, if_pos (h k c)]; omega
      · rw [if_neg c]; omega
theorem cn_all {P : Nat → Bool} : ∀ k, k ≤ cn P k → ∀ e, e < k → P e = true := by
  intro k
  induction k with
  | zero => intro _ e he; omega
  | succ k ih =>
    intro h e he
    unfold cn at h
    have := cn_le P k
    by_cases c : P k = true
    · rw [if_pos c] at h
      by_cases d : e = k
      · rw [d]; exact c
      · exact ih (by omega) e (by omega)
    · rw [if_neg c] at h; omega
theorem f_together {σ : apM} {n u v : Nat} {po la : Nat → Nat} (hn : n ≤ 12) (hP : Nu σ 21 n po) (hA : Nu σ 22 n la) (hp : ∀ v, v < n → po v < n) (ha : ∀ v, v < n → la v < n) (hu : u < n) (hv : v < n) : Ok (m_X4_liveTogether σ (nI u) (nI v)) (fun r => (r = 1 ∧ tog po la u v) ∨ (r = 0 ∧ ¬ tog po la u v)) := by
  unfold m_X4_liveTogether
  simp (disch := omega) only [e_ald]
  rw [hP u hu, hA v hv, hP v hv, hA u hu]
  have := hp u hu
  have := hp v hv
  have := ha u hu
  have := ha v hv
  unfold tog
  by_cases c : po u ≤ la v
  · rw [if_neg (nI_nlt c (by omega))]
    by_cases d : po v ≤ la u
    · rw [if_neg (nI_nlt d (by omega))]; exact Ok.pure (Or.inl ⟨rfl, c, d⟩)
    · rw [if_pos (nI_lt (by omega) (by omega))]; exact Ok.pure (Or.inr ⟨rfl, fun q => d q.2⟩)
  · rw [if_pos (nI_lt (by omega) (by omega))]; exact Ok.pure (Or.inr ⟨rfl, fun q => c q.1⟩)
theorem f_end {σ : apM} {n u : Nat} {Z : Nat → Nat} {p : Nat} (hn : n ≤ 12) (hZ : Nu σ 18 n Z) (hu : u < n) (h : σ 25 u = nI p) : m_X3_end σ (nI u) = some (nI (p + Z u)) := by
  unfold m_X3_end
  simp (disch := omega) only [e_ald]
  rw [h, hZ u hu, nI_add]
theorem f_inTheWay {σ : apM} {n u v o : Nat} {Z po la pl : Nat → Nat} (hn : n ≤ 12) (hZ : Nu σ 18 n Z) (hP : Nu σ 21 n po) (hA : Nu σ 22 n la) (hp : ∀ v, v < n → po v < n) (ha : ∀ v, v < n → la v < n) (hb : ∀ v, v < n → 1 ≤ Z v ∧ Z v ≤ 40) (hu : u < n) (hv : v < n) (h : σ 25 u = nI (pl u)) (hpl : pl u ≤ 1000) (ho : o ≤ 1000) : Ok (m_X3_isInTheWay σ (nI u) (nI v) (nI o)) (fun r => (r = 1 ∧ tog po la u v ∧ ¬ clr Z pl u v o) ∨ (r = 0 ∧ ¬ (tog po la u v ∧ ¬ clr Z pl u v o))) := by
  have := hb u hu
  have := hb v hv
  unfold m_X3_isInTheWay
  refine Ok.bind (f_together hn hP hA hp ha hu hv) (fun r hr => ?_)
  rcases hr with ⟨rfl, ht⟩ | ⟨rfl, ht⟩
  · rw [if_neg (by decide), f_end hn hZ hu h, ob]
    unfold clr
    by_cases c : pl u + Z u ≤ o
    · rw [if_pos (nI_le c (by omega))]; exact Ok.pure (Or.inr ⟨rfl, fun q => q.2 (Or.inr c)⟩)
    · rw [if_neg (fun q => c ((nI_leI (by omega) (by omega)).mp q))]
      simp (disch := omega) only [e_ald]
      rw [h, hZ v hv, nI_add]
      by_cases d : o + Z v ≤ pl u
      · rw [if_pos (nI_le d (by omega))]; exact Ok.pure (Or.inr ⟨rfl, fun q => q.2 (Or.inl d)⟩)
      · rw [if_neg (fun q => d ((nI_leI (by omega) (by omega)).mp q))]; exact Ok.pure (Or.inl ⟨rfl, ht, by omega⟩)
  · rw [if_pos rfl]; exact Ok.pure (Or.inr ⟨rfl, fun q => ht q.1⟩)
theorem f_lowest {σ : apM} {n r : Nat} {Z po la pl bz : Nat → Nat} (hn : n ≤ 12) (hr : r < n) (hN : Nu σ 24 n bz) (hbn : ∀ i, i < n → bz i < n) (hZ : Nu σ 18 n Z) (hP : Nu σ 21 n po) (hA : Nu σ 22 n la) (hp : ∀ v, v < n → po v < n) (ha : ∀ v, v < n → la v < n) (hb : ∀ v, v < n → 1 ≤ Z v ∧ Z v ≤ 40) (hpl : ∀ e, e < r → σ 25 (bz e) = nI (pl (bz e)) ∧ pl (bz e) + Z (bz e) ≤ 40 * (e + 1)) : Ok (m_X3_lowestStart σ (nI r)) (fun x => ∃ o, x = nI o ∧ o ≤ 40 * r ∧ (∀ e, e < r → tog po la (bz e) (bz r) → clr Z pl (bz e) (bz r) o) ∧ ∀ o2, o2 < o → ∃ e, e < r ∧ tog po la (bz e) (bz r) ∧ ¬ clr Z pl (bz e) (bz r) o2) := by
  have hbr := hbn r hr
  let W := fun (e o : Nat) => tog po la (bz e) (bz r) ∧ ¬ clr Z pl (bz e) (bz r) o
  let C := fun (o : Nat) => cn (fun e => decide (pl (bz e) + Z (bz e) ≤ o)) r
  have hCm : ∀ a b, a ≤ b → C a ≤ C b := fun a b hab => cn_mono (fun e he => by have := of_decide_eq_true he; exact decide_eq_true (by omega)) r
  have hCs : ∀ e a, e < r → W e a → C a < C (pl (bz e) + Z (bz e)) := fun e a he hw => by
    obtain ⟨w1, w2⟩ := hw
    unfold clr at w2
    exact cn_lt (e := e) (fun i hi => by have := of_decide_eq_true hi; exact decide_eq_true (by omega)) (decide_eq_false (by omega)) (decide_eq_true (Nat.le_refl _)) r he
  unfold m_X3_lowestStart
  simp (disch := omega) only [e_ald]
  rw [hN r hr]
  refine Ok.bind (P := fun x => ∃ o, x.1 = nI o ∧ o ≤ 40 * r ∧ (∀ e, e < r → ¬ W e o) ∧ ∀ o2, o2 < o → ∃ e, e < r ∧ W e o2) (lp_for0 (fun j (o : Nat) => (nI o, nI j)) (fun j o => o ≤ 40 * r ∧ (∀ o2, o2 < o → ∃ e, e < r ∧ W e o2) ∧ ((∀ e, e < r → ¬ W e o) ∨ j ≤ C o)) r (FU_big (by omega)) ?_ ?_ 0 ⟨Nat.zero_le _, fun o2 h2 => by omega, Or.inr (Nat.zero_le _)⟩) ?_
  · intro j o0 hj ⟨k1, k2, k3⟩
    simp only [m_X3_lowestStart_L12]
    rw [if_neg (nI_ge hj (by omega))]
    refine Ok.bind (P := fun x => ∃ o, x.1 = nI o ∧ o ≤ 40 * r ∧ (∀ o2, o2 < o → ∃ e, e < r ∧ W e o2) ∧ ((o = o0 ∧ ∀ e, e < r → ¬ W e o0) ∨ (C o0 < C o ∧ ¬ ∀ e, e < r → ¬ W e o0))) (lp_for0 (fun e (o : Nat) => (nI o, nI e)) (fun i o => o ≤ 40 * r ∧ (∀ o2, o2 < o → ∃ e, e < r ∧ W e o2) ∧ ((o = o0 ∧ ∀ e, e < i → ¬ W e o0) ∨ (C o0 < C o ∧ ¬ ∀ e, e < r → ¬ W e o0))) r (FU_big (by omega)) ?_ ?_ o0 ⟨k1, k2, Or.inl ⟨rfl, fun e he => by omega⟩⟩) ?_
    · intro e o he ⟨g1, g2, g3⟩
      simp only [m_X3_lowestStart_L21]
      rw [if_neg (nI_ge he (by omega))]
      simp (disch := omega) only [e_ald]
      have hbe := hbn e (by omega)
      obtain ⟨p1, p2⟩ := hpl e he
      rw [hN e (by omega)]
      obtain ⟨x, ex, hx⟩ := f_inTheWay (Z := Z) (pl := pl) (o := o) hn hZ hP hA hp ha hb hbe hbr p1 (by omega) (by omega)
      rw [ex, ob]
      rcases hx with ⟨rfl, hx⟩ | ⟨rfl, hx⟩
      · rw [if_neg (by decide), f_end hn hZ hbe p1, ob]
        have hlt := hCs e o he hx
        have hx2 := hx.2
        unfold clr at hx2
        refine Ok.pure ⟨_, by rw [nI_1], by omega, fun o2 h2 => ?_, Or.inr ?_⟩
        · by_cases c : o2 < o
          · exact g2 o2 c
          · exact ⟨e, he, hx.1, by unfold clr; omega⟩
        · rcases g3 with ⟨rfl, _⟩ | ⟨g3, g4⟩
          · exact ⟨hlt, fun q => q e he hx⟩
          · exact ⟨by omega, g4⟩
      · rw [if_pos rfl]
        refine Ok.pure ⟨o, by rw [nI_1], g1, g2, ?_⟩
        rcases g3 with ⟨rfl, g3⟩ | g3
        · refine Or.inl ⟨rfl, fun e2 h2 => ?_⟩
          by_cases c : e2 = e
          · rw [c]; exact hx
          · exact g3 e2 (by omega)
        · exact Or.inr g3
    · intro o ⟨g1, g2, g3⟩
      simp only [m_X3_lowestStart_L21]
      rw [if_pos (nI_le (Nat.le_refl _) (by omega))]
      exact Ok.pure ⟨_, rfl, o, rfl, g1, g2, g3⟩
    · rintro ⟨x1, x2⟩ ⟨o, e, g1, g2, g3⟩
      dsimp only at e
      subst e
      refine Ok.pure ⟨o, by rw [nI_1], g1, g2, ?_⟩
      rcases g3 with ⟨rfl, g3⟩ | ⟨g3, g4⟩
      · exact Or.inl g3
      · rcases k3 with k3 | k3
        · exact absurd k3 g4
        · exact Or.inr (by omega)
  · intro o ⟨k1, k2, k3⟩
    simp only [m_X3_lowestStart_L12]
    rw [if_pos (nI_le (Nat.le_refl _) (by omega))]
    refine Ok.pure ⟨_, rfl, o, rfl, k1, ?_, k2⟩
    rcases k3 with k3 | k3
    · exact k3
    · intro e he hw
      have := of_decide_eq_true (cn_all r k3 e he)
      have := hw.2
      unfold clr at this
      omega
  · rintro ⟨x1, x2⟩ ⟨o, e, g1, g2, g3⟩
    dsimp only at e
    subst e
    exact Ok.pure ⟨o, rfl, g1, fun e he ht => Classical.byContradiction fun q => g2 e he ⟨ht, q⟩, g3⟩
theorem f_assign {σ : apM} {n : Nat} {sq Z po la : Nat → Nat} (hn : n ≤ 12) (hl : σ 3 10 = nI n) (hQ : PO n sq po) (hS : Nu σ 20 n sq) (hZ : Nu σ 18 n Z) (hP : Nu σ 21 n po) (hA : Nu σ 22 n la) (ha : ∀ v, v < n → la v < n) (hb : ∀ v, v < n → 1 ≤ Z v ∧ Z v ≤ 40) : Ok (m_X3_assign σ) (fun σ' => Fr [24, 25, 4] σ σ' ∧ (∀ j, j ≠ 3 → σ' 4 j = σ 4 j) ∧ ∃ pl a, Nu σ' 25 n pl ∧ σ' 4 3 = nI a ∧ IsPl n Z po la pl ∧ (∀ v, v < n → pl v + Z v ≤ 480) ∧ IsMx (fun v => v < n) (fun v => pl v + Z v) 0 a) := by
  have nn : n < 2 ^ 31 := by omega
  have hp : ∀ v, v < n → po v < n := fun v hv => (hQ.1 v hv).1
  unfold m_X3_assign
  refine Ok.bind (f_sort hn hl hQ hS hZ hb) (fun s1 ⟨f1, bz, hN, hB⟩ => ?_)
  have hbn : ∀ i, i < n → bz i < n := fun i hi => by obtain ⟨j, hj, e⟩ := hB.1 i hi; rw [e]; exact (hQ.2 j hj).1
  have hbi : ∀ i j, i < n → j < n → bz i = bz j → i = j := fun i j hi hj e => by
    rcases Nat.lt_trichotomy i j with q | q | q
    · have := hB.2.2 i j q hj
      rw [e] at this
      unfold bef at this
      omega
    · exact q
    · have := hB.2.2 j i q hi
      rw [e] at this
      unfold bef at this
      omega
  refine Ok.bind (P := fun x => Fr [25, 4] s1 x.1 ∧ (∀ j, j ≠ 3 → x.1 4 j = s1 4 j) ∧ ∃ pl a, (∀ i, i < n → x.1 25 (bz i) = nI (pl (bz i)) ∧ pl (bz i) + Z (bz i) ≤ 40 * (i + 1)) ∧ x.1 4 3 = nI a ∧ (∀ i, i < n → (∀ e, e < i → tog po la (bz e) (bz i) → clr Z pl (bz e) (bz i) (pl (bz i))) ∧ ∀ o, o < pl (bz i) → ∃ e, e < i ∧ tog po la (bz e) (bz i) ∧ ¬ clr Z pl (bz e) (bz i) o) ∧ IsMx (fun w => ∃ i, i < n ∧ bz i = w) (fun v => pl v + Z v) 0 a) (lp_for0 (fun k (t : apM) => (t, nI k)) (fun k t => Fr [25, 4] s1 t ∧ (∀ j, j ≠ 3 → t 4 j = s1 4 j) ∧ ∃ pl a, (∀ i, i < k → t 25 (bz i) = nI (pl (bz i)) ∧ pl (bz i) + Z (bz i) ≤ 40 * (i + 1)) ∧ a ≤ 480 ∧ t 4 3 = nI a ∧ (∀ i, i < k → (∀ e, e < i → tog po la (bz e) (bz i) → clr Z pl (bz e) (bz i) (pl (bz i))) ∧ ∀ o, o < pl (bz i) → ∃ e, e < i ∧ tog po la (bz e) (bz i) ∧ ¬ clr Z pl (bz e) (bz i) o) ∧ IsMx (fun w => ∃ i, i < k ∧ bz i = w) (fun v => pl v + Z v) 0 a) n (FU_big (by omega)) ?_ ?_ _ ⟨Fr.mst (by decide), fun j hj => mst_ni hj, fun _ => 0, 0, fun i hi => by omega, by omega, mst_at, fun i hi => by omega, IsMx_0 (fun w ⟨i, hi, _⟩ => by omega)⟩) ?_
  · intro k t hk ⟨hf, h4, pl, a, g1, ga, g2, g3, g4⟩
    have hbk := hbn k hk
    have hzk := hb _ hbk
    simp only [m_X3_assign_L11]
    rw [hf 3 (by decide), f1 3 (by decide), hl, if_neg (nI_ge hk nn)]
    simp (disch := omega) only [e_ald]
    rw [hf 24 (by decide), hN k hk]
    have fT : Fr [24, 25, 4] σ t := (f1.mono (by decide)).tr (hf.mono (by decide))
    obtain ⟨x, ex, o, rfl, o1, o2, o3⟩ := f_lowest (σ := t) (pl := pl) hn hk (hN.fr hf (by decide)) hbn (hZ.fr fT (by decide)) (hP.fr fT (by decide)) (hA.fr fT (by decide)) hp ha hb g1
    rw [ex, ob]
    simp (disch := omega) only [e_ast]
    have hZm : Nu (mst t 25 (bz k) (nI o)) 18 n Z := (hZ.fr fT (by decide)).fr (ks := [25]) (Fr.mst (by decide)) (by decide)
    rw [f_end hn hZm hbk mst_at, ob]
    rw [show mst t 25 (bz k) (nI o) 4 3 = nI a by rw [mst_k (by decide)]; exact g2, imax (by omega) (by omega)]
    have hne : ∀ i, i < k → ¬ bz i = bz k := fun i hi q => by have := hbi i k (by omega) hk q; omega
    have hupk : upN pl (bz k) o (bz k) = o := by unfold upN; rw [if_pos rfl]
    have hup : ∀ i, i < k → upN pl (bz k) o (bz i) = pl (bz i) := fun i hi => by unfold upN; rw [if_neg (hne i hi)]
    refine Ok.pure ⟨_, by rw [nI_1], hf.tr ((Fr.mst (by decide)).tr (Fr.mst (by decide))), fun j hj => ?_, upN pl (bz k) o, max a (o + Z (bz k)), fun i hi => ?_, by omega, mst_at, fun i hi => ?_, ?_⟩
    · rw [mst_ni hj, mst_k (by decide)]; exact h4 j hj
    · rw [mst_k (by decide), mst_ap]
      by_cases c : i = k
      · subst c; rw [hupk]; exact ⟨by simp, by omega⟩
      · have := hne i (by omega)
        simp only [this, and_false, if_false]
        rw [hup i (by omega)]
        exact g1 i (by omega)
    · have hcl : ∀ e o, e < i → clr Z (upN pl (bz k) o) (bz e) (bz i) = clr Z pl (bz e) (bz i) := fun e o2 he => by
        funext o3
        unfold clr upN
        rw [if_neg (hne e (by omega))]
      by_cases c : i = k
      · subst c
        rw [hupk]
        refine ⟨fun e he ht => by rw [hcl e o he]; exact o2 e he ht, fun z hz => ?_⟩
        obtain ⟨e, he, e1, e2⟩ := o3 z hz
        exact ⟨e, he, e1, by rw [hcl e o he]; exact e2⟩
      · rw [hup i (by omega)]
        obtain ⟨q1, q2⟩ := g3 i (by omega)
        refine ⟨fun e he ht => by rw [hcl e o he]; exact q1 e he ht, fun z hz => ?_⟩
        obtain ⟨e, he, e1, e2⟩ := q2 z hz
        exact ⟨e, he, e1, by rw [hcl e o he]; exact e2⟩
    · have h5 : IsMx (fun w => ∃ i, i < k ∧ bz i = w) (fun v => upN pl (bz k) o v + Z v) 0 a := by
        obtain ⟨m1, m2, m3⟩ := g4
        refine ⟨m1, ?_, ?_⟩
        · rintro w ⟨i, hi, rfl⟩
          dsimp only
          rw [hup i hi]
          exact m2 _ ⟨i, hi, rfl⟩
        · rcases m3 with m3 | ⟨w, ⟨i, hi, rfl⟩, m3⟩
          · exact Or.inl m3
          · refine Or.inr ⟨bz i, ⟨i, hi, rfl⟩, ?_⟩
            dsimp only at m3 ⊢
            rw [hup i hi]; exact m3
      have h6 := IsMx_add (k := bz k) (T := fun w => ∃ i, i < k + 1 ∧ bz i = w) h5 (fun w => by
        constructor
        · rintro ⟨i, hi, rfl⟩
          by_cases c : i = k
          · rw [c]; exact Or.inr rfl
          · exact Or.inl ⟨i, by omega, rfl⟩
        · rintro (⟨i, hi, rfl⟩ | rfl)
          · exact ⟨i, by omega, rfl⟩
          · exact ⟨k, by omega, rfl⟩)
      rw [hupk] at h6
      exact h6
  · intro t ⟨hf, h4, pl, a, g1, ga, g2, g3, g4⟩
    simp only [m_X3_assign_L11]
    rw [hf 3 (by decide), f1 3 (by decide), hl, if_pos (nI_le (Nat.le_refl _) nn)]
    exact Ok.pure ⟨_, rfl, hf, h4, pl, a, g1, g2, g3, g4⟩
  · rintro ⟨t, v1⟩ ⟨hf, h4, pl, a, g1, g2, g3, g4⟩
    have hall : ∀ v, v < n → ∃ i, i < n ∧ bz i = v := fun v hv => by
      obtain ⟨h1, h2⟩ := hQ.1 v hv
      obtain ⟨i, hi, e⟩ := hB.2.1 _ h1
      exact ⟨i, hi, by rw [e, h2]⟩
    have hbe : ∀ e i, e < n → i < n → (bef Z po (bz e) (bz i) ↔ e < i) := fun e i he hi => by
      constructor
      · intro q
        rcases Nat.lt_trichotomy e i with z | z | z
        · exact z
        · subst z; unfold bef at q; omega
        · have := hB.2.2 i e z he
          unfold bef at this q
          omega
      · intro q; exact hB.2.2 e i q hi
    refine Ok.pure ⟨(f1.mono (by decide)).tr (hf.mono (by decide)), fun j hj => (h4 j hj).trans (by rw [f1 4 (by decide)]), pl, a, fun v hv => ?_, g2, fun v hv => ?_, fun v hv => ?_, IsMx_cg g4 (fun w => ⟨fun hw => hall w hw, fun ⟨i, hi, e⟩ => by rw [← e]; exact hbn i hi⟩)⟩
    · obtain ⟨i, hi, rfl⟩ := hall v hv
      exact (g1 i hi).1
    · obtain ⟨i, hi, rfl⟩ := hall v hv
      obtain ⟨q1, q2⟩ := g3 i hi
      refine ⟨fun u hu hbf ht => ?_, fun o ho => ?_⟩
      · obtain ⟨e, he, rfl⟩ := hall u hu
        exact q1 e ((hbe e i he hi).mp hbf) ht
      · obtain ⟨e, he, e1, e2⟩ := q2 o ho
        exact ⟨bz e, hbn e (by omega), hB.2.2 e i he hi, e1, e2⟩
    · obtain ⟨i, hi, rfl⟩ := hall v hv
      have := (g1 i hi).2
      omega
