/-! ===== places in the model ===== -/
theorem f_fits7 {σ : apM} {n v o : Nat} {Z po la pl : Nat → Nat} {P : Nat → Bool} (hn : n ≤ 12) (h1 : σ 0 1 = nI n) (hZ : Nu σ 9 n Z) (hP : Nu σ 12 n po) (hA : Nu σ 13 n la) (hp : ∀ v, v < n → po v < n) (ha : ∀ v, v < n → la v < n) (hb : ∀ v, v < n → 1 ≤ Z v ∧ Z v ≤ 40) (hpl : ∀ u, u < n → pl u ≤ 1000) (hL : ∀ u, u < n → σ 14 u = if P u = true then nI (pl u) else -1) (hv : v < n) (ho : o ≤ 1000) : ∃ b : Bool, m_X7_fits σ (nI v) (nI o) = some (bI b) ∧ (b = true ↔ ∀ u, u < n → P u = true → tog po la u v → clr Z pl u v o) := by
  have nn : n < 2 ^ 31 := by omega
  have hzv := hb v hv
  have e9 : ald σ 9 12 (nI v) = some (nI (Z v)) := by rw [ald_nI (by omega) (by decide), hZ v hv]
  have main : Ok (lp FU (m_X7_fits_L5 σ (nI v) (nI o)) (bI true, nI 0)) (fun x => ∃ b : Bool, x.1 = bI b ∧ (b = true ↔ ∀ u, u < n → P u = true → tog po la u v → clr Z pl u v o)) := by
    refine lp_for0 (fun j (b : Bool) => (bI b, nI j)) (fun j b => b = true ↔ ∀ u, u < j → P u = true → tog po la u v → clr Z pl u v o) n (FU_big (by omega)) ?_ ?_ true (by simp)
    · intro j b hj hJ
      have hzj := hb j hj
      have hpj := hpl j hj
      have step : ∀ (b2 : Bool), (b2 = true ↔ (b = true ∧ (P j = true → tog po la j v → clr Z pl j v o))) → Ok (some (.inl (bI b2, nI j + 1)) : Option ((Int32 × Int32) ⊕ (Int32 × Int32))) (fun r => ∃ t' : Bool, r = .inl (bI t', nI (j + 1)) ∧ (t' = true ↔ ∀ u, u < j + 1 → P u = true → tog po la u v → clr Z pl u v o)) := by
        intro b2 hb2
        refine Ok.pure ⟨b2, by rw [nI_1], hb2.trans ?_⟩
        constructor
        · rintro ⟨q1, q2⟩ u hu
          by_cases c : u = j
          · rw [c]; exact q2
          · exact hJ.mp q1 u (by omega)
        · intro q
          exact ⟨hJ.mpr (fun u hu => q u (by omega)), q j (by omega)⟩
      have h60 : ¬ (P j = true ∧ tog po la j v) → Ok (m_X7_fits_B60 σ (nI v) (nI o) (bI b) (nI j)) (fun r => ∃ t' : Bool, r = .inl (bI t', nI (j + 1)) ∧ (t' = true ↔ ∀ u, u < j + 1 → P u = true → tog po la u v → clr Z pl u v o)) := by
        intro hno
        unfold m_X7_fits_B60 m_X7_fits_B61 m_X7_fits_B113 m_X7_fits_B109 m_X7_fits_B114
        cases b with
        | false =>
          rw [if_pos (show bI false = 0 from rfl)]
          exact step false ⟨fun q => (by cases q), fun q => q.1⟩
        | true =>
          rw [if_neg (show ¬ bI true = 0 by decide), if_pos rfl]
          exact step true ⟨fun _ => ⟨rfl, fun q1 q2 => absurd ⟨q1, q2⟩ hno⟩, fun _ => rfl⟩
      simp only [m_X7_fits_L5]
      rw [h1, if_neg (nI_ge hj nn)]
      simp (disch := omega) only [e_ald]
      rw [hL j hj]
      cases z : P j with
      | false =>
        rw [show (if false = true then nI (pl j) else (-1 : Int32)) = -1 from rfl, if_pos m1_neg]
        exact h60 (fun q => by rw [z] at q; cases q.1)
      | true =>
        rw [if_pos rfl, if_neg (nI_pos (by omega)), hP j hj, hA v hv, hP v hv, hA j hj]
        have := hp j hj
        have := hp v hv
        have := ha j hj
        have := ha v hv
        by_cases c : po j ≤ la v
        · rw [if_neg (nI_nlt c (by omega))]
          by_cases d : po v ≤ la j
          · rw [if_neg (nI_nlt d (by omega))]
            have ht : tog po la j v := ⟨c, d⟩
            unfold m_X7_fits_B61 m_X7_fits_B113 m_X7_fits_B109 m_X7_fits_B114
            cases b with
            | false =>
              rw [if_pos (show bI false = 0 from rfl)]
              exact step false ⟨fun q => (by cases q), fun q => q.1⟩
            | true =>
              rw [if_neg (show ¬ bI true = 0 by decide), if_neg (by decide)]
              simp (disch := omega) only [e_ald]
              rw [hL j hj, z, if_pos rfl, hZ v hv, hZ j hj, nI_add, nI_add]
              by_cases c1 : o + Z v ≤ pl j
              · rw [if_pos (nI_le c1 (by omega))]
                exact step true ⟨fun _ => ⟨rfl, fun _ _ => Or.inl c1⟩, fun _ => rfl⟩
              · rw [if_neg (fun q => c1 ((nI_leI (by omega) (by omega)).mp q))]
                by_cases d1 : pl j + Z j ≤ o
                · rw [if_neg (nI_nlt d1 (by omega))]
                  exact step true ⟨fun _ => ⟨rfl, fun _ _ => Or.inr d1⟩, fun _ => rfl⟩
                · rw [if_pos (nI_lt (by omega) (by omega))]
                  refine step false ⟨fun q => (by cases q), fun q => ?_⟩
                  have := q.2 z ht
                  unfold clr at this
                  omega
          · rw [if_pos (nI_lt (by omega) (by omega))]
            exact h60 (fun q => d q.2.2)
        · rw [if_pos (nI_lt (by omega) (by omega))]
          exact h60 (fun q => c q.2.1)
    · intro b hJ
      simp only [m_X7_fits_L5]
      rw [h1, if_pos (nI_le (Nat.le_refl _) nn)]
      exact Ok.pure ⟨_, rfl, b, rfl, hJ⟩
  obtain ⟨x, e, b, hx, hb2⟩ := main
  refine ⟨b, ?_, hb2⟩
  unfold m_X7_fits
  rw [show (1, 0) = (bI true, nI 0) from rfl, e, ob]
  obtain ⟨x1, x2⟩ := x
  dsimp only at hx ⊢
  rw [hx, bI_z]
  rfl
def plc (Z po : Nat → Nat) (s j u : Nat) : Bool := decide (s < Z u ∨ (Z u = s ∧ po u < j))
theorem plc_iff {Z po : Nat → Nat} {s j u : Nat} : plc Z po s j u = true ↔ (s < Z u ∨ (Z u = s ∧ po u < j)) := by unfold plc; exact decide_eq_true_iff
theorem f_findPlaces7 {σ : apM} {n : Nat} {sq Z po la pl : Nat → Nat} (hn : n ≤ 12) (h1 : σ 0 1 = nI n) (hQ : PO n sq po) (hS : Nu σ 11 n sq) (hZ : Nu σ 9 n Z) (hP : Nu σ 12 n po) (hA : Nu σ 13 n la) (ha : ∀ v, v < n → la v < n) (hb : ∀ v, v < n → 1 ≤ Z v ∧ Z v ≤ 40) (hPl : IsPl n Z po la pl) (hpb : ∀ v, v < n → pl v + Z v ≤ 480) : Ok (m_X7_findPlaces σ) (fun σ' => Fr [14, 0] σ σ' ∧ (∀ j, j ≠ 20 → σ' 0 j = σ 0 j) ∧ Nu σ' 14 n pl ∧ ∃ a, σ' 0 20 = nI a ∧ IsMx (fun v => v < n) (fun v => pl v + Z v) 0 a) := by
  have nn : n < 2 ^ 31 := by omega
  have hp : ∀ v, v < n → po v < n := fun v hv => (hQ.1 v hv).1
  unfold m_X7_findPlaces
  refine Ok.bind (P := fun x => Fr [14, 0] σ x.1 ∧ (∀ j, j ≠ 20 → x.1 0 j = σ 0 j) ∧ x.1 0 20 = nI 0 ∧ ∀ u, u < n → x.1 14 u = -1) (lp_for0 (fun k (t : apM) => (t, nI k)) (fun k t => Fr [14, 0] σ t ∧ (∀ j, j ≠ 20 → t 0 j = σ 0 j) ∧ t 0 20 = nI 0 ∧ ∀ u, u < k → t 14 u = -1) n (FU_big (by omega)) ?_ ?_ _ ⟨Fr.mst (by decide), fun j hj => mst_ni hj, mst_at, fun u hu => by omega⟩) ?_
  · intro k t hk ⟨hf, h0, h20, hJ⟩
    simp only [m_X7_findPlaces_L7]
    rw [h0 1 (by decide), h1, if_neg (nI_ge hk nn)]
    simp (disch := omega) only [e_ast]
    refine Ok.pure ⟨_, by rw [nI_1], hf.tr (Fr.mst (by decide)), fun j hj => by rw [mst_k (by decide)]; exact h0 j hj, by rw [mst_k (by decide)]; exact h20, fun u hu => ?_⟩
    rw [mst_ap]
    by_cases c : u = k
    · subst c; simp
    · simp only [c, and_false, if_false]; exact hJ u (by omega)
  · intro t ⟨hf, h0, h20, hJ⟩
    simp only [m_X7_findPlaces_L7]
    rw [h0 1 (by decide), h1, if_pos (nI_le (Nat.le_refl _) nn)]
    exact Ok.pure ⟨_, rfl, hf, h0, h20, hJ⟩
  rintro ⟨s1, v1⟩ ⟨hf1, h01, h201, hJ1⟩
  dsimp only at hf1 h01 h201 hJ1 ⊢
  refine Ok.bind (P := fun x => Fr [14, 0] σ x.1 ∧ (∀ j, j ≠ 20 → x.1 0 j = σ 0 j) ∧ (∀ u, u < n → x.1 14 u = if plc Z po 0 0 u = true then nI (pl u) else -1) ∧ ∃ a, x.1 0 20 = nI a ∧ IsMx (fun w => w < n ∧ plc Z po 0 0 w = true) (fun v => pl v + Z v) 0 a) (lp_for0 (fun k (t : apM) => (t, nI (40 - k))) (fun k t => Fr [14, 0] σ t ∧ (∀ j, j ≠ 20 → t 0 j = σ 0 j) ∧ (∀ u, u < n → t 14 u = if plc Z po (40 - k) 0 u = true then nI (pl u) else -1) ∧ ∃ a, a ≤ 480 ∧ t 0 20 = nI a ∧ IsMx (fun w => w < n ∧ plc Z po (40 - k) 0 w = true) (fun v => pl v + Z v) 0 a) 40 (FU_big (by omega)) ?_ ?_ s1 ⟨hf1, h01, fun u hu => ?_, 0, by omega, h201, IsMx_0 (fun w hw => ?_)⟩) ?_
  · intro k t hk ⟨hf, h0, h14, a, ha4, h20, hm⟩
    simp only [m_X7_findPlaces_L31]
    generalize hs : 40 - k = s at h14 hm ⊢
    have hs1 : 1 ≤ s ∧ s ≤ 40 := by omega
    rw [if_neg (show ¬ nI s ≤ (0 : Int32) from fun q => by have := (nI_leI (b := 0) (by omega) (by decide)).mp q; omega)]
    refine Ok.bind (P := fun x => Fr [14, 0] σ x.1 ∧ (∀ j, j ≠ 20 → x.1 0 j = σ 0 j) ∧ (∀ u, u < n → x.1 14 u = if plc Z po s n u = true then nI (pl u) else -1) ∧ ∃ a, a ≤ 480 ∧ x.1 0 20 = nI a ∧ IsMx (fun w => w < n ∧ plc Z po s n w = true) (fun v => pl v + Z v) 0 a) (lp_for0 (fun j (t : apM) => (t, nI j)) (fun j t => Fr [14, 0] σ t ∧ (∀ j, j ≠ 20 → t 0 j = σ 0 j) ∧ (∀ u, u < n → t 14 u = if plc Z po s j u = true then nI (pl u) else -1) ∧ ∃ a, a ≤ 480 ∧ t 0 20 = nI a ∧ IsMx (fun w => w < n ∧ plc Z po s j w = true) (fun v => pl v + Z v) 0 a) n (FU_big (by omega)) ?_ ?_ t ⟨hf, h0, h14, a, ha4, h20, hm⟩) ?_
    · intro j u hj ⟨hfu, h0u, h14u, a, ha4, h20, hm⟩
      obtain ⟨hsj, hpj⟩ := hQ.2 j hj
      have hzj := hb _ hsj
      have hplj := hpb _ hsj
      simp only [m_X7_findPlaces_L37]
      rw [h0u 1 (by decide), h1, if_neg (nI_ge hj nn)]
      simp (disch := omega) only [e_ald]
      rw [hfu 11 (by decide), hS j hj]
      simp (disch := omega) only [e_ald, e_ast]
      rw [hfu 9 (by decide), hZ _ hsj]
      by_cases c : Z (sq j) = s
      · rw [if_pos (by rw [c])]
        have hfit : ∀ o, o ≤ 1000 → ∃ b : Bool, m_X7_fits u (nI (sq j)) (nI o) = some (bI b) ∧ (b = true ↔ ∀ w, w < n → bef Z po w (sq j) → tog po la w (sq j) → clr Z pl w (sq j) o) := fun o ho => by
          obtain ⟨b, e1, e2⟩ := f_fits7 (σ := u) (v := sq j) (o := o) (Z := Z) (po := po) (la := la) (pl := pl) hn (by rw [h0u 1 (by decide)]; exact h1) (hZ.fr hfu (by decide)) (hP.fr hfu (by decide)) (hA.fr hfu (by decide)) hp ha hb (fun w hw => by have := hpb w hw; omega) h14u hsj ho
          refine ⟨b, e1, e2.trans ?_⟩
          constructor
          · intro q w hw hbf
            refine q w hw (plc_iff.mpr ?_)
            unfold bef at hbf
            rw [c, hpj] at hbf
            exact hbf
          · intro q w hw hbf
            refine q w hw ?_
            have := plc_iff.mp hbf
            unfold bef
            rw [c, hpj]
            exact this
        have hlp : lp FU (m_X7_findPlaces_L65 u (nI s) (nI j) (nI (sq j))) 0 = some (nI (pl (sq j))) := by
          refine Ok.eq (lp_for0 (fun i (_ : Unit) => nI i) (fun i _ => i ≤ pl (sq j)) (pl (sq j)) (FU_big (by omega)) ?_ ?_ () (Nat.zero_le _))
          · intro i _ hi _
            simp only [m_X7_findPlaces_L65]
            obtain ⟨b, e1, e2⟩ := hfit i (by omega)
            rw [e1, ob]
            obtain ⟨w, w1, w2, w3, w4⟩ := (hPl _ hsj).2 i hi
            cases b with
            | true => exact absurd (e2.mp rfl w w1 w2 w3) w4
            | false =>
              rw [if_pos (show bI false = 0 from rfl)]
              exact Ok.pure ⟨(), by rw [nI_1], hi⟩
          · intro _ _
            simp only [m_X7_findPlaces_L65]
            obtain ⟨b, e1, e2⟩ := hfit (pl (sq j)) (by omega)
            rw [e1, ob, e2.mpr (hPl _ hsj).1, if_neg (show ¬ bI true = 0 by decide)]
            exact Ok.pure ⟨_, rfl, rfl⟩
        rw [hlp, ob, nI_add, show mst u 14 (sq j) (nI (pl (sq j))) 0 20 = nI a by rw [mst_k (by decide)]; exact h20]
        have hpc : ∀ w, w < n → (plc Z po s (j + 1) w = true ↔ (plc Z po s j w = true ∨ w = sq j)) := fun w hw => by
          rw [plc_iff, plc_iff]
          constructor
          · rintro (q | ⟨q1, q2⟩)
            · exact Or.inl (Or.inl q)
            · by_cases d : po w = j
              · right; rw [← d, (hQ.1 w hw).2]
              · exact Or.inl (Or.inr ⟨q1, by omega⟩)
          · rintro ((q | ⟨q1, q2⟩) | rfl)
            · exact Or.inl q
            · exact Or.inr ⟨q1, by omega⟩
            · exact Or.inr ⟨c, by omega⟩
        have hm2 := IsMx_add (k := sq j) (T := fun w => w < n ∧ plc Z po s (j + 1) w = true) hm (fun w => by
          constructor
          · rintro ⟨w1, w2⟩
            rcases (hpc w w1).mp w2 with q | q
            · exact Or.inl ⟨w1, q⟩
            · exact Or.inr q
          · rintro (⟨w1, w2⟩ | rfl)
            · exact ⟨w1, (hpc w w1).mpr (Or.inl w2)⟩
            · exact ⟨hsj, (hpc _ hsj).mpr (Or.inr rfl)⟩)
        have fin : ∀ x, x = max a (pl (sq j) + Z (sq j)) → Ok (m_X7_findPlaces_B112 (mst u 14 (sq j) (nI (pl (sq j)))) (nI s) (nI j) (nI x)) (fun r => ∃ t', r = .inl (t', nI (j + 1)) ∧ Fr [14, 0] σ t' ∧ (∀ j, j ≠ 20 → t' 0 j = σ 0 j) ∧ (∀ u, u < n → t' 14 u = if plc Z po s (j + 1) u = true then nI (pl u) else -1) ∧ ∃ a, a ≤ 480 ∧ t' 0 20 = nI a ∧ IsMx (fun w => w < n ∧ plc Z po s (j + 1) w = true) (fun v => pl v + Z v) 0 a) := by
          intro x hx
          unfold m_X7_findPlaces_B112
          refine Ok.pure ⟨_, by rw [nI_1], hfu.tr ((Fr.mst (by decide)).tr (Fr.mst (by decide))), fun i hi => by rw [mst_ni hi, mst_k (by decide)]; exact h0u i hi, fun w hw => ?_, x, by omega, mst_at, by rw [hx]; exact hm2⟩
          rw [mst_k (by decide), mst_ap]
          by_cases d : w = sq j
          · subst d
            rw [if_pos (by simp), if_pos ((hpc _ hsj).mpr (Or.inr rfl))]
          · simp only [d, and_false, if_false]
            rw [h14u w hw]
            cases z : plc Z po s j w with
            | true => rw [(hpc w hw).mpr (Or.inl z)]
            | false =>
              rw [if_neg (by decide), if_neg (fun q => by
                rcases (hpc w hw).mp q with q | q
                · rw [z] at q; cases q
                · exact d q)]
        by_cases d : pl (sq j) + s ≤ a
        · rw [if_pos (nI_le d (by omega))]
          exact fin a (by omega)
        · rw [if_neg (fun q => d ((nI_leI (by omega) (by omega)).mp q))]
          exact fin _ (by omega)
      · rw [if_neg (fun q => c ((nI_eq (by omega) (by omega)).mp q))]
        have hpc : ∀ w, w < n → plc Z po s (j + 1) w = plc Z po s j w := fun w hw => by
          have : plc Z po s (j + 1) w = true ↔ plc Z po s j w = true := by
            rw [plc_iff, plc_iff]
            constructor
            · rintro (q | ⟨q1, q2⟩)
              · exact Or.inl q
              · refine Or.inr ⟨q1, ?_⟩
                by_cases d : po w = j
                · exfalso; apply c; rw [← d, (hQ.1 w hw).2]; exact q1
                · omega
            · rintro (q | ⟨q1, q2⟩)
              · exact Or.inl q
              · exact Or.inr ⟨q1, by omega⟩
          cases z : plc Z po s j w with
          | true => exact this.mpr z
          | false =>
            cases z2 : plc Z po s (j + 1) w with
            | false => rfl
            | true => have := this.mp z2; rw [z] at this; cases this
        refine Ok.pure ⟨u, by rw [nI_1], hfu, h0u, fun w hw => by rw [hpc w hw]; exact h14u w hw, a, ha4, h20, IsMx_cg hm (fun w => ?_)⟩
        constructor
        · rintro ⟨w1, w2⟩; exact ⟨w1, by rw [← hpc w w1]; exact w2⟩
        · rintro ⟨w1, w2⟩; exact ⟨w1, by rw [hpc w w1]; exact w2⟩
    · intro u ⟨hfu, h0u, hJ⟩
      simp only [m_X7_findPlaces_L37]
      rw [h0u 1 (by decide), h1, if_pos (nI_le (Nat.le_refl _) nn)]
      exact Ok.pure ⟨_, rfl, hfu, h0u, hJ⟩
    · rintro ⟨x1, x2⟩ ⟨g1, g2, g3, a, ga, g4, g5⟩
      have hpc : ∀ w, w < n → plc Z po (40 - (k + 1)) 0 w = plc Z po s n w := fun w hw => by
        unfold plc
        congr 1
        have := hp w hw
        exact propext ⟨fun q => by omega, fun q => by omega⟩
      refine Ok.pure ⟨x1, by rw [i_dec s (by omega) (by omega), show s - 1 = 40 - (k + 1) by omega], g1, g2, fun w hw => by rw [hpc w hw]; exact g3 w hw, a, ga, g4, IsMx_cg g5 (fun w => ?_)⟩
      constructor
      · rintro ⟨w1, w2⟩; exact ⟨w1, by rw [← hpc w w1]; exact w2⟩
      · rintro ⟨w1, w2⟩; exact ⟨w1, by rw [hpc w w1]; exact w2⟩
  · intro t ⟨g1, g2, g3, a, ga, g4, g5⟩
    simp only [m_X7_findPlaces_L31]
    rw [if_pos (show nI (40 - 40) ≤ (0 : Int32) by decide)]
    exact Ok.pure ⟨_, rfl, g1, g2, g3, a, g4, g5⟩
  · have : plc Z po (40 - 0) 0 u = false := by
      have := hb u hu
      exact decide_eq_false (by omega)
    rw [this, if_neg (by decide)]
    exact hJ1 u hu
  · have := plc_iff.mp hw.2
    have := hb w hw.1
    omega
  · rintro ⟨x1, x2⟩ ⟨g1, g2, g3, a, g4, g5⟩
    have hpc : ∀ w, w < n → plc Z po 0 0 w = true := fun w hw => plc_iff.mpr (Or.inl (by have := hb w hw; omega))
    refine Ok.pure ⟨g1, g2, fun w hw => ?_, a, g4, IsMx_cg g5 (fun w => ⟨fun hw => ⟨hw, hpc w hw⟩, fun hw => hw.1⟩)⟩
    have := g3 w hw
    rw [hpc w hw, if_pos rfl] at this
    exact this
