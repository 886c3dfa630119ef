/-! ===== the law's start ===== -/
theorem ap_segs {α : Type} {A B M : List α} {x : α} (hA : A.length = 28) (hB : B.length = 24) (hM : M.length = 21) : (List.range' 52 21 ++ (List.range' 0 28 ++ (List.range' 73 1 ++ List.range' 28 24))).map (fun i => (((A ++ B) ++ M) ++ [x])[i]?) = (M ++ (A ++ x :: B)).map some := by
  have e1 := ap_seg (A ++ B) M [x]
  have e2 := ap_seg [] A (B ++ (M ++ [x]))
  have e3 := ap_seg ((A ++ B) ++ M) [x] []
  have e4 := ap_seg A B (M ++ [x])
  rw [List.length_append, hA, hB, hM] at e1
  rw [hA] at e2
  rw [List.length_append, List.length_append, hA, hB, hM] at e3
  rw [hA, hB] at e4
  have w1 : (A ++ B) ++ (M ++ [x]) = ((A ++ B) ++ M) ++ [x] := (List.append_assoc _ _ _).symm
  have w2 : [] ++ (A ++ (B ++ (M ++ [x]))) = ((A ++ B) ++ M) ++ [x] := by simp [List.append_assoc]
  have w3 : ((A ++ B) ++ M) ++ ([x] ++ []) = ((A ++ B) ++ M) ++ [x] := by simp [List.append_assoc]
  have w4 : A ++ (B ++ (M ++ [x])) = ((A ++ B) ++ M) ++ [x] := by simp [List.append_assoc]
  rw [w1] at e1
  rw [w2] at e2
  rw [w3] at e3
  rw [w4] at e4
  have e3' : (List.range' 73 1).map (fun i => (((A ++ B) ++ M) ++ [x])[i]?) = [x].map some := e3
  have e2' : (List.range' 0 28).map (fun i => (((A ++ B) ++ M) ++ [x])[i]?) = A.map some := e2
  rw [List.map_append, List.map_append, List.map_append, e1, e2', e3', e4]
  simp
/-- another address for the law's row: nothing of the class points there -/
def apAv : apK → Bool
  | .inl (_, fl) => fl.all (fun z => z != some 28)
  | .inr (.inl _) => true
  | .inr (.inr (_, _, b)) => decide (28 < b)
theorem apF_av {q q' : Nat → Nat} (hq : ∀ k, k ≠ 28 → q' k = q k) {f : Nat → Int32} : ∀ (fl : List (Option Nat)) (j : Nat), fl.all (fun z => z != some 28) = true → apF q' f j fl = apF q f j fl
  | [], _, _ => rfl
  | none :: r, j, h => by
    simp only [List.all_cons, Bool.and_eq_true] at h
    show Value.int (f j) :: apF q' f (j + 1) r = Value.int (f j) :: apF q f (j + 1) r
    rw [apF_av hq r (j + 1) h.2]
  | some k :: r, j, h => by
    simp only [List.all_cons, Bool.and_eq_true] at h
    have hk : k ≠ 28 := by
      intro e
      rw [e] at h
      exact absurd h.1 (by decide)
    show Value.ref (q' k) :: apF q' f (j + 1) r = Value.ref (q k) :: apF q f (j + 1) r
    rw [apF_av hq r (j + 1) h.2, hq k hk]
theorem apE_av {q q' : Nat → Nat} (hq : ∀ k, k ≠ 28 → q' k = q k) {d : Nat → ClassId} {f : Nat → Int32} : ∀ x : apK, apAv x = true → apE q' d f x = apE q d f x
  | .inl (c, fl), h => by
    show Sum.inr (c, apF q' f 0 fl) = Sum.inr (c, apF q f 0 fl)
    rw [apF_av hq fl 0 h]
  | .inr (.inl _), _ => rfl
  | .inr (.inr (t, n, b)), h => by
    have hb : 28 < b := of_decide_eq_true h
    show Sum.inl (d t, (n, Sum.inr (Sum.inr (Sum.inr (Sum.inr (fun i => some (q' (b + i)))))))) = _
    have e : (fun i => some (q' (b + i))) = fun i => some (q (b + i)) := funext fun i => by rw [hq (b + i) (by omega)]
    rw [e]
    rfl
theorem apL_av {q q' : Nat → Nat} (hq : ∀ k, k ≠ 28 → q' k = q k) {d : Nat → ClassId} {σ : apM} : ∀ (lay : List apK) (k : Nat), (∀ x ∈ lay, apAv x = true) → (k + lay.length ≤ 28 ∨ 28 < k) → apL q' d σ k lay = apL q d σ k lay
  | [], _, _, _ => rfl
  | x :: r, k, h, hk => by
    rw [List.length_cons] at hk
    show (q' k, apE q' d (σ k) x) :: apL q' d σ (k + 1) r = (q k, apE q d (σ k) x) :: apL q d σ (k + 1) r
    rw [apL_av hq r (k + 1) (fun y hy => h y (List.mem_cons_of_mem _ hy)) (by omega), apE_av hq x (h x List.mem_cons_self), hq k (by omega)]
theorem apL_app {q : Nat → Nat} {d : Nat → ClassId} {σ : apM} : ∀ (A B : List apK) (k : Nat), apL q d σ k (A ++ B) = apL q d σ k A ++ apL q d σ (k + A.length) B
  | [], _, _ => rfl
  | x :: r, B, k => by
    show (q k, apE q d (σ k) x) :: apL q d σ (k + 1) (r ++ B) = (q k, apE q d (σ k) x) :: (apL q d σ (k + 1) r ++ apL q d σ (k + (r.length + 1)) B)
    rw [apL_app r B (k + 1), show k + 1 + r.length = k + (r.length + 1) by omega]
def layC1 : List apK := layC.take 28
def layC2 : List apK := layC.drop 29
theorem layC_cut : layC = layC1 ++ (.inr (.inl (3, 1)) :: layC2) := rfl
theorem layC1_av : ∀ x ∈ layC1, apAv x = true := by decide +kernel
theorem layC2_av : ∀ x ∈ layC2, apAv x = true := by decide +kernel
/-- the class's cells without the law's row -/
theorem apU_cut {q : Nat → Nat} {d : Nat → ClassId} {σ : apM} : (apU layC q d σ).eraseIdx 28 = apL q d σ 0 layC1 ++ apL q d σ 29 layC2 := by
  have h : apU layC q d σ = apL q d σ 0 layC1 ++ ((q 28, apE q d (σ 28) (.inr (.inl (3, 1)))) :: apL q d σ 29 layC2) := by
    show apL q d σ 0 layC = _
    rw [layC_cut, apL_app]
    rfl
  have hl : (apL q d σ 0 layC1).length = 28 := (apL_len _ _).trans rfl
  rw [h, List.eraseIdx_append_of_length_le (by omega), hl]
  rfl
theorem apU_put {q q' : Nat → Nat} (hq : ∀ k, k ≠ 28 → q' k = q k) {d : Nat → ClassId} {σ : apM} : apU layC q' d σ = apL q d σ 0 layC1 ++ ((q' 28, .inl (d 3, (1, .inr (.inl (fun i => (σ 28 i).toInt64))))) :: apL q d σ 29 layC2) := by
  show apL q' d σ 0 layC = _
  rw [layC_cut, apL_app]
  show apL q' d σ 0 layC1 ++ ((q' 28, apE q' d (σ 28) (.inr (.inl (3, 1)))) :: apL q' d σ 29 layC2) = _
  rw [apL_av hq layC1 0 layC1_av (Or.inl (by decide)), apL_av hq layC2 29 layC2_av (Or.inr (by omega))]
  rfl
theorem arr_known {args : Array Value} {s : State} {ty : FieldType} (h : (Cond.arrayClass ty).before args s = true) (hr : ∀ cA : ClassId, s.vm.findClass ("[" ++ ty.toString) = some cA → va_RA s cA ty) : ∃ cA : ClassId, ArrOfT s cA ty ∧ va_RA s cA ty := by
  obtain ⟨cA, kA, comp, h1, h2, h3⟩ := Cond.arrayClass_spec h
  exact ⟨cA, fun n z => ⟨fun k h => (by cases h), kA, h2, comp, h3⟩, hr cA h1⟩
theorem arr_over {args : Array Value} {s : State} {ty : FieldType} (h : (Cond.arrayOver (.array ty)).before args s = true) : ∃ cA : ClassId, ArrOfT s cA (.array ty) ∧ va_RA s cA (.array ty) := by
  obtain ⟨comp, cA, kA, -, h2, h3, h4⟩ := Cond.arrayOver_specA h
  exact ⟨cA, fun n z => ⟨fun k h => (by cases h), kA, h2, comp, h3⟩, h4⟩
section LST
variable {s : State} {b : Nat}
theorem st_str (hts : ∀ w ∈ lw_tbl, w.before #[Value.ref b] s = true) (hgv : (Jvm.Cond.and given_1 narrow_1).before #[Value.ref b] s = true) : ∀ z ∈ apStr, ∃ a, vk_R RX6 z.1 z.2 a s := by
  have fl := flat_of_before _ hgv
  have one : ∀ (k : Nat) (t : String), Cond.stringRef RX6 k t ∈ lw_tbl → (Cond.exactly (.string RX6 k) "java/lang/String").before #[Value.ref b] s = true → ∃ a, vk_R RX6 k t a s := fun k t h1 h2 => by
    obtain ⟨a, -, -, -, h, -⟩ := Cond.exactly_spec h2
    exact ⟨a, vk_R.of (hts _ h1) h⟩
  intro z hz
  simp only [apStr, List.mem_cons, List.not_mem_nil, or_false] at hz
  rcases hz with rfl | rfl | rfl | rfl | rfl | rfl | rfl | rfl | rfl | rfl | rfl
  · exact one _ _ (by decide +kernel) (fl _ (by decide +kernel))
  · exact one _ _ (by decide +kernel) (fl _ (by decide +kernel))
  · exact one _ _ (by decide +kernel) (fl _ (by decide +kernel))
  · exact one _ _ (by decide +kernel) (fl _ (by decide +kernel))
  · exact one _ _ (by decide +kernel) (fl _ (by decide +kernel))
  · exact one _ _ (by decide +kernel) (fl _ (by decide +kernel))
  · exact one _ _ (by decide +kernel) (fl _ (by decide +kernel))
  · exact one _ _ (by decide +kernel) (fl _ (by decide +kernel))
  · exact one _ _ (by decide +kernel) (fl _ (by decide +kernel))
  · exact one _ _ (by decide +kernel) (fl _ (by decide +kernel))
  · exact one _ _ (by decide +kernel) (fl _ (by decide +kernel))
theorem st_in (hts : ∀ w ∈ lw_tbl, w.before #[Value.ref b] s = true) (hgv : (Jvm.Cond.and given_1 narrow_1).before #[Value.ref b] s = true) {A : Nat → Prop} (hA : ∀ a : Nat, a < s.heap.size → ¬ A a) : ∃ t, apI t A s s.heap := by
  have fl := flat_of_before _ hgv
  obtain ⟨t, ht, hT⟩ := va_Tof (args := #[Value.ref b]) (s := s) (tm := .static "ArenaPlan" "INPUTS" "[I") (ty := .int) (N := 8) (f := fun j => .int (apIn j)) (A := A) (by decide) (fl _ (by decide +kernel)) (va_eqt (fl (.eq (.length (.static "ArenaPlan" "INPUTS" "[I")) (.int 8)) (by decide +kernel))) (fun j hj => by
    rcases (show j = 0 ∨ j = 1 ∨ j = 2 ∨ j = 3 ∨ j = 4 ∨ j = 5 ∨ j = 6 ∨ j = 7 by omega) with rfl | rfl | rfl | rfl | rfl | rfl | rfl | rfl
    · exact va_eqt (fl (.eq (.elem (.static "ArenaPlan" "INPUTS" "[I") (.int 0)) (.int 0)) (by decide +kernel))
    · exact va_eqt (fl (.eq (.elem (.static "ArenaPlan" "INPUTS" "[I") (.int 1)) (.int 1)) (by decide +kernel))
    · exact va_eqt (fl (.eq (.elem (.static "ArenaPlan" "INPUTS" "[I") (.int 2)) (.int 2)) (by decide +kernel))
    · exact va_eqt (fl (.eq (.elem (.static "ArenaPlan" "INPUTS" "[I") (.int 3)) (.int 2)) (by decide +kernel))
    · exact va_eqt (fl (.eq (.elem (.static "ArenaPlan" "INPUTS" "[I") (.int 4)) (.int 2)) (by decide +kernel))
    · exact va_eqt (fl (.eq (.elem (.static "ArenaPlan" "INPUTS" "[I") (.int 5)) (.int 1)) (by decide +kernel))
    · exact va_eqt (fl (.eq (.elem (.static "ArenaPlan" "INPUTS" "[I") (.int 6)) (.int 1)) (by decide +kernel))
    · exact va_eqt (fl (.eq (.elem (.static "ArenaPlan" "INPUTS" "[I") (.int 7)) (.int 1)) (by decide +kernel))) hA
  exact ⟨t, va_Zof (hts (.laysStatic "ArenaPlan" "INPUTS" "[I") (by decide +kernel)) (hts (.initialized "ArenaPlan") (by decide +kernel)) ht hA, hT⟩
theorem st_nest : ∀ z ∈ apNest, Cond.methodLinkNest z.1 z.2.1 z.2.2 "ArenaPlan" ∈ lw_tbl := by decide +kernel
theorem st_dcl : ∀ y ∈ apDcl, Cond.declares y ∈ lw_tbl := by decide +kernel
theorem st_cast : ∀ c ∈ apExc, Cond.castable c c ∈ lw_tbl := by decide +kernel
theorem st_X (hts : ∀ w ∈ lw_tbl, w.before #[Value.ref b] s = true) (hgv : (Jvm.Cond.and given_1 narrow_1).before #[Value.ref b] s = true) {A : Nat → Prop} (hA : ∀ a : Nat, a < s.heap.size → ¬ A a) : apXL A s := by
  have fl := flat_of_before _ hgv
  refine ⟨⟨fun z hz => va_Nw.of rfl (hts _ (st_nest z hz)), va_Nw.of rfl (hts _ (by decide +kernel)), st_in hts hgv hA, vx_Zqof (hts _ (by decide +kernel)) (hts _ (by decide +kernel)) (fl _ (by decide +kernel)) hA, vx_Zqof (hts _ (by decide +kernel)) (hts _ (by decide +kernel)) (fl _ (by decide +kernel)) hA, st_str hts hgv, fun y hy => va_Nw.of rfl (hts _ (st_dcl y hy)), fun c hc => va_Nw.of rfl (hts _ (st_cast c hc))⟩, fun z hz => ?_⟩
  simp only [apNcs, List.mem_cons, List.not_mem_nil, or_false] at hz
  rcases hz with rfl | rfl | rfl | rfl | rfl | rfl | rfl | rfl | rfl | rfl
  · exact va_Nc.of (fl _ (by decide +kernel))
  · exact va_Nc.of (fl _ (by decide +kernel))
  · exact va_Nc.of (fl _ (by decide +kernel))
  · exact va_Nc.of (fl _ (by decide +kernel))
  · exact va_Nc.of (fl _ (by decide +kernel))
  · exact va_Nc.of (fl _ (by decide +kernel))
  · exact va_Nc.of (fl _ (by decide +kernel))
  · exact va_Nc.of (fl _ (by decide +kernel))
  · exact va_Nc.of (fl _ (by decide +kernel))
  · exact va_Nc.of (fl _ (by decide +kernel))
theorem st_K (hts : ∀ w ∈ lw_tbl, w.before #[Value.ref b] s = true) : ∃ (D : va_G) (d : Nat → ClassId), va_K D vwCl (apT d) s := by
  obtain ⟨c0, i0, k0⟩ := u_known (C := RJ0) (T := TJ0) (N := 2) (n := 4) hts inJ0 (hts (.instantiable RJ0 4) (by decide +kernel))
  obtain ⟨c1, i1, k1⟩ := u_known (C := RJx00060) (T := TJx00060) (N := 6) (n := 6) hts inJx00060 (hts (.instantiable RJx00060 6) (by decide +kernel))
  obtain ⟨c2, i2, k2⟩ := u_known (C := RX0) (T := TX0) (N := 4) (n := 4) hts inX0 (hts (.instantiable RX0 4) (by decide +kernel))
  obtain ⟨c3, i3, k3⟩ := u_known (C := RX1) (T := TX1) (N := 7) (n := 7) hts inX1 (hts (.instantiable RX1 7) (by decide +kernel))
  obtain ⟨c4, i4, k4⟩ := u_known (C := RX2) (T := TX2) (N := 2) (n := 2) hts inX2 (hts (.instantiable RX2 2) (by decide +kernel))
  obtain ⟨c5, i5, k5⟩ := u_known (C := RX3) (T := TX3) (N := 4) (n := 4) hts inX3 (hts (.instantiable RX3 4) (by decide +kernel))
  obtain ⟨c6, i6, k6⟩ := u_known (C := RX4) (T := TX4) (N := 12) (n := 12) hts inX4 (hts (.instantiable RX4 12) (by decide +kernel))
  obtain ⟨c7, i7, k7⟩ := u_known (C := RX5) (T := TX5) (N := 5) (n := 5) hts inX5 (hts (.instantiable RX5 5) (by decide +kernel))
  obtain ⟨c8, i8, k8⟩ := u_known (C := RX6) (T := TX6) (N := 9) (n := 9) hts inX6 (hts (.instantiable RX6 9) (by decide +kernel))
  obtain ⟨c9, i9, k9⟩ := u_known (C := RX7) (T := TX7) (N := 30) (n := 30) hts inX7 (hts (.instantiable RX7 30) (by decide +kernel))
  obtain ⟨d0, a0, r0⟩ := arr_known (ty := .int) (hts (.arrayClass .int) (by decide +kernel)) (fun _ h => h)
  obtain ⟨d1, a1, r1⟩ := arr_known (ty := .boolean) (hts (.arrayClass .boolean) (by decide +kernel)) (fun _ h => h)
  obtain ⟨d2, a2, r2⟩ := arr_over (ty := .int) (hts (.arrayOver (.array .int)) (by decide +kernel))
  obtain ⟨d3, a3, r3⟩ := arr_known (ty := .long) (hts (.arrayClass .long) (by decide +kernel)) (fun _ h => h)
  refine ⟨(fun k => match k with | 0 => c0 | 1 => c1 | 2 => c2 | 3 => c3 | 4 => c4 | 5 => c5 | 6 => c6 | 7 => c7 | 8 => c8 | _ => c9, fun k => match k with | 0 => i0 | 1 => i1 | 2 => i2 | 3 => i3 | 4 => i4 | 5 => i5 | 6 => i6 | 7 => i7 | 8 => i8 | _ => i9), fun k => match k with | 0 => d0 | 1 => d1 | 2 => d2 | _ => d3, fun k q hq => ?_, fun k q hq => ?_⟩
  · match k, hq with
    | 0, hq => cases hq; exact k0
    | 1, hq => cases hq; exact k1
    | 2, hq => cases hq; exact k2
    | 3, hq => cases hq; exact k3
    | 4, hq => cases hq; exact k4
    | 5, hq => cases hq; exact k5
    | 6, hq => cases hq; exact k6
    | 7, hq => cases hq; exact k7
    | 8, hq => cases hq; exact k8
    | 9, hq => cases hq; exact k9
    | k + 10, hq => simp [vwCl] at hq
  · match k, hq with
    | 0, hq => cases hq; exact ⟨a0, r0⟩
    | 1, hq => cases hq; exact ⟨a1, r1⟩
    | 2, hq => cases hq; exact ⟨a2, r2⟩
    | 3, hq => cases hq; exact ⟨a3, r3⟩
    | k + 4, hq => simp [apT] at hq
end LST
