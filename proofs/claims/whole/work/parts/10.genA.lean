/-! ===== models of methods, and that the bytecode does what they say (by gen.py) ===== -/
theorem i_X1_add_X1 : ∀ w ∈ u_ws RX1 TX1 7, w ∈ wsX1_add := by decide +kernel
def m_X1_add (s : apM) (v1 : Int32) (v2 : Int32) (v3 : Int32) : Option (Int32 × apM) := Option.bind (ast s 7 12 (s 1 6) v1) (fun s1 => Option.bind (ast s1 8 12 (s 1 6) v2) (fun s3 => Option.bind (ast s3 9 12 (s 1 6) v3) (fun s5 => Option.bind (rix 12 (s 1 6)) (fun j7 => some (s 1 6, mst (mfl s5 (41 + j7) (-1) 2) 1 6 (((mfl s5 (41 + j7) (-1) 2) 1 6) + 1))))))
set_option maxHeartbeats 4000000 in
set_option maxRecDepth 100000 in
theorem w_X1_add {Γ : apC} {q : Nat → Nat} (G : apG Γ cX1_add 5 RX1 wsX1_add (apRm 1 0) apXC) {s : apM} {v1 v2 v3 : Int32} {r : (Int32 × apM)} (K : apR Γ cX1_add 0 0 (some r.1) (apU layC q (apd Γ) r.2)) (h : m_X1_add s v1 v2 v3 = some r) : apV Γ 5 (apU layC q (apd Γ) s) 0 0 0 [(0, .ref (q 1)), (1, .int v1), (2, .int v2), (3, .int v3)] [] := by
  unfold m_X1_add at h
  refine v_aload_n G dX1_add_0 rfl 0 rfl ?_
  refine v_geti (lay := layC) (k := 1) (C := RX1) (T := TX1) (N := 7) G (fun _ h => i_X1_add_X1 _ h) rfl rfl 6 (by decide) (by decide +kernel) rfl rfl dX1_add_1 ?_
  refine v_istore (L' := [(4, .int (s 1 6)), (0, .ref (q 1)), (1, .int v1), (2, .int v2), (3, .int v3)]) G dX1_add_4 (by decide) rfl ?_
  refine v_aload_n G dX1_add_6 rfl 1 rfl ?_
  refine v_getr (lay := layC) (k := 1) (k' := 7) (C := RX1) (T := TX1) (N := 7) G (fun _ h => i_X1_add_X1 _ h) rfl rfl 0 (by decide) (by decide +kernel) rfl rfl dX1_add_7 ?_
  refine v_iload G dX1_add_10 0 rfl ?_
  refine v_iload_n G dX1_add_12 rfl 2 rfl ?_
  obtain ⟨s1, e2, h⟩ := Option.bind_eq_some_iff.mp h
  refine v_iast (lay := layC) (k := 7) (n := 12) G rfl e2 dX1_add_13 ?_
  refine v_aload_n G dX1_add_14 rfl 1 rfl ?_
  refine v_getr (lay := layC) (k := 1) (k' := 8) (C := RX1) (T := TX1) (N := 7) G (fun _ h => i_X1_add_X1 _ h) rfl rfl 1 (by decide) (by decide +kernel) rfl rfl dX1_add_15 ?_
  refine v_iload G dX1_add_18 0 rfl ?_
  refine v_iload_n G dX1_add_20 rfl 3 rfl ?_
  obtain ⟨s3, e4, h⟩ := Option.bind_eq_some_iff.mp h
  refine v_iast (lay := layC) (k := 8) (n := 12) G rfl e4 dX1_add_21 ?_
  refine v_aload_n G dX1_add_22 rfl 1 rfl ?_
  refine v_getr (lay := layC) (k := 1) (k' := 9) (C := RX1) (T := TX1) (N := 7) G (fun _ h => i_X1_add_X1 _ h) rfl rfl 2 (by decide) (by decide +kernel) rfl rfl dX1_add_23 ?_
  refine v_iload G dX1_add_26 0 rfl ?_
  refine v_iload_n G dX1_add_28 rfl 4 rfl ?_
  obtain ⟨s5, e6, h⟩ := Option.bind_eq_some_iff.mp h
  refine v_iast (lay := layC) (k := 9) (n := 12) G rfl e6 dX1_add_29 ?_
  refine v_aload_n G dX1_add_30 rfl 1 rfl ?_
  refine v_getr (lay := layC) (k := 1) (k' := 11) (C := RX1) (T := TX1) (N := 7) G (fun _ h => i_X1_add_X1 _ h) rfl rfl 4 (by decide) (by decide +kernel) rfl rfl dX1_add_31 ?_
  refine v_iload G dX1_add_34 0 rfl ?_
  obtain ⟨j7, e8, h⟩ := Option.bind_eq_some_iff.mp h
  refine v_aald (lay := layC) (k := 11) G rfl e8 dX1_add_36 ?_
  refine v_iconst (v := (-1)) G dX1_add_37 (by decide) ?_
  refine v_callvS (lay := layC) (As := [.ref (q (41 + j7)), .int (-1)]) (st := []) (n := 2) G apXCok (c_fill Γ.1.2.1 (layR_41 e8) (by decide)) gX1_add_J7_fill_53178 rfl (by decide) (by decide) rfl rfl (Nat.le_of_ble_eq_true rfl) (by decide) rfl dX1_add_38 ?_
  refine v_aload_n G dX1_add_41 rfl 1 rfl ?_
  refine v_dup G dX1_add_42 rfl ?_
  refine v_geti (lay := layC) (k := 1) (C := RX1) (T := TX1) (N := 7) G (fun _ h => i_X1_add_X1 _ h) rfl rfl 6 (by decide) (by decide +kernel) rfl rfl dX1_add_43 ?_
  refine v_iconst (v := 1) G dX1_add_46 (by decide) ?_
  refine v_iadd G dX1_add_47 ?_
  refine v_put (lay := layC) (k := 1) (C := RX1) (T := TX1) (N := 7) G (fun _ h => i_X1_add_X1 _ h) tyX1 tyX1_ok nmX1 rfl rfl 6 (by decide) (by decide +kernel) rfl rfl (by first | rfl | decide) (by first | rfl | decide) rfl dX1_add_48 ?_
  refine v_iload G dX1_add_51 0 rfl ?_
  cases h
  exact v_iret G K (by decide) (by decide) dX1_add_53
theorem c_X1_add (l : Launch) {s : apM} {v1 v2 v3 : Int32} {r : (Int32 × apM)} (h : m_X1_add s v1 v2 v3 = some r) : apMi l layC apXC yX1_add wsX1_add 1 (fun q => [.ref (q 1), .int v1, .int v2, .int v3]) s r.1 r.2 := apMi_of (cc := cX1_add) (nL := 5) (r := r.1) (by decide) rfl rfl (fun _ => Nat.le_of_ble_eq_true rfl) (fun Γ q hl G K => w_X1_add G K h)
def m_X6_setOf (v0 : Int32) : Int32 := if v0 = (-1) then 0 else (1 <<< (v0 &&& 31))
set_option maxHeartbeats 4000000 in
set_option maxRecDepth 100000 in
theorem w_X6_setOf {Γ : apC} {q : Nat → Nat} (G : apG Γ cX6_setOf 1 RX6 wsX6_setOf (apRm 0 0) apXC) {s : apM} {v0 : Int32} {r : Int32} (K : apR Γ cX6_setOf 0 0 (some r) (apU layC q (apd Γ) s)) (h : m_X6_setOf v0 = r) : apV Γ 1 (apU layC q (apd Γ) s) 0 0 0 [(0, .int v0)] [] := by
  unfold m_X6_setOf at h
  refine v_iload_n G dX6_setOf_0 rfl 0 rfl ?_
  refine v_iconst (v := (-1)) G dX6_setOf_1 (by decide) ?_
  refine v_icmp_ne (tgt := 9) G dX6_setOf_2 (by decide) (fun c1 => ?_) (fun c1 => ?_)
  · replace h := (if_neg c1).symm.trans h
    refine v_iconst (v := 1) G dX6_setOf_9 (by decide) ?_
    refine v_iload_n G dX6_setOf_10 rfl 0 rfl ?_
    refine v_ishl G dX6_setOf_11 ?_
    subst h
    exact v_iret G K (by decide) (by decide) dX6_setOf_12
  · replace h := (if_pos c1).symm.trans h
    refine v_iconst (v := 0) G dX6_setOf_5 (by decide) ?_
    refine v_goto (tgt := 12) G dX6_setOf_6 (by decide) ?_
    subst h
    exact v_iret G K (by decide) (by decide) dX6_setOf_12
theorem c_X6_setOf (l : Launch) {s : apM} {v0 : Int32} {r : Int32} (h : m_X6_setOf v0 = r) : apMi l layC apXC yX6_setOf wsX6_setOf 0 (fun q => [.int v0]) s r s := apMi_of (cc := cX6_setOf) (nL := 1) (r := r) (by decide) rfl rfl (fun _ => Nat.le_of_ble_eq_true rfl) (fun Γ q hl G K => w_X6_setOf G K h)
theorem i_X1_dependencies_X1 : ∀ w ∈ u_ws RX1 TX1 7, w ∈ wsX1_dependencies := by decide +kernel
def m_X1_dependencies (s : apM) (v1 : Int32) : Option Int32 := Option.bind (rix 12 v1) (fun j1 => Option.bind (ald s (41 + j1) 2 0) (fun t3 => Option.bind (rix 12 v1) (fun j5 => Option.bind (ald s (41 + j5) 2 1) (fun t7 => some ((m_X6_setOf t3) ||| (m_X6_setOf t7))))))
set_option maxHeartbeats 4000000 in
set_option maxRecDepth 100000 in
theorem w_X1_dependencies {Γ : apC} {q : Nat → Nat} (G : apG Γ cX1_dependencies 2 RX1 wsX1_dependencies (apRm 1 0) apXC) {s : apM} {v1 : Int32} {r : Int32} (K : apR Γ cX1_dependencies 0 0 (some r) (apU layC q (apd Γ) s)) (h : m_X1_dependencies s v1 = some r) : apV Γ 2 (apU layC q (apd Γ) s) 0 0 0 [(0, .ref (q 1)), (1, .int v1)] [] := by
  unfold m_X1_dependencies at h
  refine v_aload_n G dX1_dependencies_0 rfl 0 rfl ?_
  refine v_getr (lay := layC) (k := 1) (k' := 11) (C := RX1) (T := TX1) (N := 7) G (fun _ h => i_X1_dependencies_X1 _ h) rfl rfl 4 (by decide) (by decide +kernel) rfl rfl dX1_dependencies_1 ?_
  refine v_iload_n G dX1_dependencies_4 rfl 1 rfl ?_
  obtain ⟨j1, e2, h⟩ := Option.bind_eq_some_iff.mp h
  refine v_aald (lay := layC) (k := 11) G rfl e2 dX1_dependencies_5 ?_
  refine v_iconst (v := 0) G dX1_dependencies_6 (by decide) ?_
  obtain ⟨t3, e4, h⟩ := Option.bind_eq_some_iff.mp h
  refine v_iald (lay := layC) G (layR_41 e2) e4 dX1_dependencies_7 ?_
  refine v_calliN (lay := layC) (As := [.int t3]) (st := []) (n := 1) G apXCok (c_X6_setOf Γ.1.2.1 (s := s) rfl) gX1_dependencies_X6_setOf_n54 rfl (apNest_in G (by decide)) (by decide +kernel) (by decide +kernel) (by decide +kernel) (by decide) rfl rfl (Nat.le_of_ble_eq_true rfl) (by decide) rfl dX1_dependencies_8 ?_
  refine v_aload_n G dX1_dependencies_11 rfl 0 rfl ?_
  refine v_getr (lay := layC) (k := 1) (k' := 11) (C := RX1) (T := TX1) (N := 7) G (fun _ h => i_X1_dependencies_X1 _ h) rfl rfl 4 (by decide) (by decide +kernel) rfl rfl dX1_dependencies_12 ?_
  refine v_iload_n G dX1_dependencies_15 rfl 1 rfl ?_
  obtain ⟨j5, e6, h⟩ := Option.bind_eq_some_iff.mp h
  refine v_aald (lay := layC) (k := 11) G rfl e6 dX1_dependencies_16 ?_
  refine v_iconst (v := 1) G dX1_dependencies_17 (by decide) ?_
  obtain ⟨t7, e8, h⟩ := Option.bind_eq_some_iff.mp h
  refine v_iald (lay := layC) G (layR_41 e6) e8 dX1_dependencies_18 ?_
  refine v_calliN (lay := layC) (As := [.int t7]) (st := [.int (m_X6_setOf t3)]) (n := 1) G apXCok (c_X6_setOf Γ.1.2.1 (s := s) rfl) gX1_dependencies_X6_setOf_n54 rfl (apNest_in G (by decide)) (by decide +kernel) (by decide +kernel) (by decide +kernel) (by decide) rfl rfl (Nat.le_of_ble_eq_true rfl) (by decide) rfl dX1_dependencies_19 ?_
  refine v_ior G dX1_dependencies_22 ?_
  cases h
  exact v_iret G K (by decide) (by decide) dX1_dependencies_23
theorem c_X1_dependencies (l : Launch) {s : apM} {v1 : Int32} {r : Int32} (h : m_X1_dependencies s v1 = some r) : apMi l layC apXC yX1_dependencies wsX1_dependencies 1 (fun q => [.ref (q 1), .int v1]) s r s := apMi_of (cc := cX1_dependencies) (nL := 2) (r := r) (by decide) rfl rfl (fun _ => Nat.le_of_ble_eq_true rfl) (fun Γ q hl G K => w_X1_dependencies G K h)
def m_X6_isWithin (v0 : Int32) (v1 : Int32) : Int32 := if v0 < 0 then 0 else (if v1 ≤ v0 then 0 else 1)
set_option maxHeartbeats 4000000 in
set_option maxRecDepth 100000 in
theorem w_X6_isWithin {Γ : apC} {q : Nat → Nat} (G : apG Γ cX6_isWithin 2 RX6 wsX6_isWithin (apRm 0 0) apXC) {s : apM} {v0 v1 : Int32} {r : Int32} (K : apR Γ cX6_isWithin 0 0 (some r) (apU layC q (apd Γ) s)) (h : m_X6_isWithin v0 v1 = r) : apV Γ 2 (apU layC q (apd Γ) s) 0 0 0 [(0, .int v0), (1, .int v1)] [] := by
  unfold m_X6_isWithin at h
  refine v_iload_n G dX6_isWithin_0 rfl 0 rfl ?_
  refine v_if_lt (tgt := 13) G dX6_isWithin_1 (by decide) (fun c1 => ?_) (fun c1 => ?_)
  · replace h := (if_pos c1).symm.trans h
    refine v_iconst (v := 0) G dX6_isWithin_13 (by decide) ?_
    subst h
    exact v_iret G K (by decide) (by decide) dX6_isWithin_14
  · replace h := (if_neg c1).symm.trans h
    refine v_iload_n G dX6_isWithin_4 rfl 0 rfl ?_
    refine v_iload_n G dX6_isWithin_5 rfl 1 rfl ?_
    refine v_icmp_ge (tgt := 13) G dX6_isWithin_6 (by decide) (fun c2 => ?_) (fun c2 => ?_)
    · replace h := (if_pos c2).symm.trans h
      refine v_iconst (v := 0) G dX6_isWithin_13 (by decide) ?_
      subst h
      exact v_iret G K (by decide) (by decide) dX6_isWithin_14
    · replace h := (if_neg c2).symm.trans h
      refine v_iconst (v := 1) G dX6_isWithin_9 (by decide) ?_
      refine v_goto (tgt := 14) G dX6_isWithin_10 (by decide) ?_
      subst h
      exact v_iret G K (by decide) (by decide) dX6_isWithin_14
theorem z_X6_isWithin {s : apM} {v0 v1 : Int32} {r : Int32} (h : m_X6_isWithin v0 v1 = r) : r = 0 ∨ r = 1 := by
  unfold m_X6_isWithin at h
  by_cases c1 : v0 < 0
  · replace h := (if_pos c1).symm.trans h
    subst h
    exact Or.inl rfl
  · replace h := (if_neg c1).symm.trans h
    by_cases c2 : v1 ≤ v0
    · replace h := (if_pos c2).symm.trans h
      subst h
      exact Or.inl rfl
    · replace h := (if_neg c2).symm.trans h
      subst h
      exact Or.inr rfl
theorem c_X6_isWithin (l : Launch) {s : apM} {v0 v1 : Int32} {r : Int32} (h : m_X6_isWithin v0 v1 = r) : apMi l layC apXC yX6_isWithin wsX6_isWithin 0 (fun q => [.int v0, .int v1]) s r s := apMi_of (cc := cX6_isWithin) (nL := 2) (r := r) (by decide) rfl (by rcases z_X6_isWithin (s := s) h with e | e <;> rw [e] <;> rfl) (fun _ => Nat.le_of_ble_eq_true rfl) (fun Γ q hl G K => w_X6_isWithin G K h)
theorem i_X1_has_X1 : ∀ w ∈ u_ws RX1 TX1 7, w ∈ wsX1_has := by decide +kernel
def m_X1_has (s : apM) (v1 : Int32) : Int32 := (m_X6_isWithin v1 (s 1 6))
set_option maxHeartbeats 4000000 in
set_option maxRecDepth 100000 in
theorem w_X1_has {Γ : apC} {q : Nat → Nat} (G : apG Γ cX1_has 2 RX1 wsX1_has (apRm 1 0) apXC) {s : apM} {v1 : Int32} {r : Int32} (K : apR Γ cX1_has 0 0 (some r) (apU layC q (apd Γ) s)) (h : m_X1_has s v1 = r) : apV Γ 2 (apU layC q (apd Γ) s) 0 0 0 [(0, .ref (q 1)), (1, .int v1)] [] := by
  unfold m_X1_has at h
  refine v_iload_n G dX1_has_0 rfl 1 rfl ?_
  refine v_aload_n G dX1_has_1 rfl 0 rfl ?_
  refine v_geti (lay := layC) (k := 1) (C := RX1) (T := TX1) (N := 7) G (fun _ h => i_X1_has_X1 _ h) rfl rfl 6 (by decide) (by decide +kernel) rfl rfl dX1_has_2 ?_
  refine v_calliN (lay := layC) (As := [.int v1, .int (s 1 6)]) (st := []) (n := 2) G apXCok (c_X6_isWithin Γ.1.2.1 (s := s) rfl) gX1_has_X6_isWithin_n37 rfl (apNest_in G (by decide)) (by decide +kernel) (by decide +kernel) (by decide +kernel) (by decide) rfl rfl (Nat.le_of_ble_eq_true rfl) (by decide) rfl dX1_has_5 ?_
  subst h
  exact v_iret G K (by decide) (by decide) dX1_has_8
theorem z_X1_has {s : apM} {v1 : Int32} {r : Int32} (h : m_X1_has s v1 = r) : r = 0 ∨ r = 1 := by
  unfold m_X1_has at h
  subst h
  exact z_X6_isWithin (s := s) rfl
theorem c_X1_has (l : Launch) {s : apM} {v1 : Int32} {r : Int32} (h : m_X1_has s v1 = r) : apMi l layC apXC yX1_has wsX1_has 1 (fun q => [.ref (q 1), .int v1]) s r s := apMi_of (cc := cX1_has) (nL := 2) (r := r) (by decide) rfl (by rcases z_X1_has h with e | e <;> rw [e] <;> rfl) (fun _ => Nat.le_of_ble_eq_true rfl) (fun Γ q hl G K => w_X1_has G K h)
theorem i_X1_inputs_X1 : ∀ w ∈ u_ws RX1 TX1 7, w ∈ wsX1_inputs := by decide +kernel
def m_X1_inputs (s : apM) (v1 : Int32) : Option Int32 := Option.bind (ald s 7 12 v1) (fun t3 => Option.bind (ain t3) (fun t5 => some t5))
set_option maxHeartbeats 4000000 in
set_option maxRecDepth 100000 in
theorem w_X1_inputs {Γ : apC} {q : Nat → Nat} (G : apG Γ cX1_inputs 2 RX1 wsX1_inputs (apRm 0 0) apXC) {s : apM} {v1 : Int32} {r : Int32} (K : apR Γ cX1_inputs 0 0 (some r) (apU layC q (apd Γ) s)) (h : m_X1_inputs s v1 = some r) : apV Γ 2 (apU layC q (apd Γ) s) 0 0 0 [(0, .ref (q 1)), (1, .int v1)] [] := by
  unfold m_X1_inputs at h
  refine v_sgetN G dX1_inputs_0 (fun b1 f2 => ?_)
  refine v_aload_n G dX1_inputs_3 rfl 0 rfl ?_
  refine v_getr (lay := layC) (k := 1) (k' := 7) (C := RX1) (T := TX1) (N := 7) G (fun _ h => i_X1_inputs_X1 _ h) rfl rfl 0 (by decide) (by decide +kernel) rfl rfl dX1_inputs_4 ?_
  refine v_iload_n G dX1_inputs_7 rfl 1 rfl ?_
  obtain ⟨t3, e4, h⟩ := Option.bind_eq_some_iff.mp h
  refine v_iald (lay := layC) (k := 7) (n := 12) G rfl e4 dX1_inputs_8 ?_
  obtain ⟨t5, e6, h⟩ := Option.bind_eq_some_iff.mp h
  refine v_sild G f2 e6 dX1_inputs_9 ?_
  cases h
  exact v_iret G K (by decide) (by decide) dX1_inputs_10
theorem c_X1_inputs (l : Launch) {s : apM} {v1 : Int32} {r : Int32} (h : m_X1_inputs s v1 = some r) : apMi l layC apXC yX1_inputs wsX1_inputs 0 (fun q => [.ref (q 1), .int v1]) s r s := apMi_of (cc := cX1_inputs) (nL := 2) (r := r) (by decide) rfl rfl (fun _ => Nat.le_of_ble_eq_true rfl) (fun Γ q hl G K => w_X1_inputs G K h)
theorem i_X1_isWired_X1 : ∀ w ∈ u_ws RX1 TX1 7, w ∈ wsX1_isWired := by decide +kernel
def m_X1_isWired_L12 (s : apM) (v1 : Int32) : Int32 → Option ((Int32) ⊕ (Int32 ⊕ (Int32))) := fun v2 => Option.bind (m_X1_inputs s v1) (fun t2 => if t2 ≤ v2 then (some (.inr (.inr v2))) else (Option.bind (rix 12 v1) (fun j5 => Option.bind (ald s (41 + j5) 2 v2) (fun t7 => if t7 = (-1) then (some (.inr (.inl 0))) else (some (.inl (v2 + 1)))))))
set_option maxHeartbeats 4000000 in
set_option maxRecDepth 100000 in
theorem w_X1_isWired_L12 {Γ : apC} {q : Nat → Nat} (G : apG Γ cX1_isWired 3 RX1 wsX1_isWired (apRm 1 0) apXC) {s : apM} {v1 v2 : Int32} {r : ((Int32) ⊕ (Int32 ⊕ (Int32)))} (K : match r with | .inl x => apV Γ 3 (apU layC q (apd Γ) s) 0 0 12 [(0, .ref (q 1)), (1, .int v1), (2, .int x)] [] | .inr (.inl r) => apR Γ cX1_isWired 0 0 (some r) (apU layC q (apd Γ) s) | .inr (.inr x) => apV Γ 3 (apU layC q (apd Γ) s) 0 0 41 [(0, .ref (q 1)), (1, .int v1)] []) (h : m_X1_isWired_L12 s v1 v2 = some r) : apV Γ 3 (apU layC q (apd Γ) s) 0 0 12 [(0, .ref (q 1)), (1, .int v1), (2, .int v2)] [] := by
  unfold m_X1_isWired_L12 at h
  refine v_iload_n G dX1_isWired_12 rfl 2 rfl ?_
  refine v_aload_n G dX1_isWired_13 rfl 0 rfl ?_
  refine v_iload_n G dX1_isWired_14 rfl 1 rfl ?_
  obtain ⟨t2, e3, h⟩ := Option.bind_eq_some_iff.mp h
  refine v_calliV (lay := layC) (As := [.int v1]) (st := [.int v2]) (n := 1) (C := RX1) (T := TX1) (k0 := 1) G apXCok (c_X1_inputs Γ.1.2.1 e3) gX1_isWired_X1_inputs rfl (by decide +kernel) (by decide) rfl rfl rfl rfl (Nat.le_of_ble_eq_true rfl) (by decide) rfl dX1_isWired_15 ?_
  refine v_icmp_ge (tgt := 41) G dX1_isWired_18 (by decide) (fun c4 => ?_) (fun c4 => ?_)
  · replace h := (if_pos c4).symm.trans h
    cases h
    refine v_locs (L' := [(0, .ref (q 1)), (1, .int v1)]) [0, 1] rfl ?_
    exact K
  · replace h := (if_neg c4).symm.trans h
    refine v_aload_n G dX1_isWired_21 rfl 0 rfl ?_
    refine v_getr (lay := layC) (k := 1) (k' := 11) (C := RX1) (T := TX1) (N := 7) G (fun _ h => i_X1_isWired_X1 _ h) rfl rfl 4 (by decide) (by decide +kernel) rfl rfl dX1_isWired_22 ?_
    refine v_iload_n G dX1_isWired_25 rfl 1 rfl ?_
    obtain ⟨j5, e6, h⟩ := Option.bind_eq_some_iff.mp h
    refine v_aald (lay := layC) (k := 11) G rfl e6 dX1_isWired_26 ?_
    refine v_iload_n G dX1_isWired_27 rfl 2 rfl ?_
    obtain ⟨t7, e8, h⟩ := Option.bind_eq_some_iff.mp h
    refine v_iald (lay := layC) G (layR_41 e6) e8 dX1_isWired_28 ?_
    refine v_iconst (v := (-1)) G dX1_isWired_29 (by decide) ?_
    refine v_icmp_ne (tgt := 35) G dX1_isWired_30 (by decide) (fun c9 => ?_) (fun c9 => ?_)
    · replace h := (if_neg c9).symm.trans h
      refine v_iinc (v := v2 + 1) (L' := [(2, .int (v2 + 1)), (0, .ref (q 1)), (1, .int v1)]) G dX1_isWired_35 2 rfl rfl (by decide) rfl ?_
      refine v_goto (tgt := 12) G dX1_isWired_38 (by decide) ?_
      cases h
      refine v_locs (L' := [(0, .ref (q 1)), (1, .int v1), (2, .int (v2 + 1))]) [1, 2, 0] rfl ?_
      exact K
    · replace h := (if_pos c9).symm.trans h
      refine v_iconst (v := 0) G dX1_isWired_33 (by decide) ?_
      cases h
      exact v_iret G K (by decide) (by decide) dX1_isWired_34
def m_X1_isWired_L2 (s : apM)  : Int32 → Option ((Int32) ⊕ (Int32 ⊕ (Int32))) := fun v1 => if (s 1 6) ≤ v1 then (some (.inr (.inr v1))) else (Option.bind (lp FU (m_X1_isWired_L12 s v1) 0) (fun x10 => match x10 with | .inl r14 => some (.inr (.inl r14)) | .inr v12 => some (.inl (v1 + 1))))
set_option maxHeartbeats 4000000 in
set_option maxRecDepth 100000 in
theorem w_X1_isWired_L2 {Γ : apC} {q : Nat → Nat} (G : apG Γ cX1_isWired 3 RX1 wsX1_isWired (apRm 1 0) apXC) {s : apM} {v1 : Int32} {r : ((Int32) ⊕ (Int32 ⊕ (Int32)))} (K : match r with | .inl x => apV Γ 3 (apU layC q (apd Γ) s) 0 0 2 [(0, .ref (q 1)), (1, .int x)] [] | .inr (.inl r) => apR Γ cX1_isWired 0 0 (some r) (apU layC q (apd Γ) s) | .inr (.inr x) => apV Γ 3 (apU layC q (apd Γ) s) 0 0 47 [] []) (h : m_X1_isWired_L2 s v1 = some r) : apV Γ 3 (apU layC q (apd Γ) s) 0 0 2 [(0, .ref (q 1)), (1, .int v1)] [] := by
  unfold m_X1_isWired_L2 at h
  refine v_iload_n G dX1_isWired_2 rfl 1 rfl ?_
  refine v_aload_n G dX1_isWired_3 rfl 0 rfl ?_
  refine v_geti (lay := layC) (k := 1) (C := RX1) (T := TX1) (N := 7) G (fun _ h => i_X1_isWired_X1 _ h) rfl rfl 6 (by decide) (by decide +kernel) rfl rfl dX1_isWired_4 ?_
  refine v_icmp_ge (tgt := 47) G dX1_isWired_7 (by decide) (fun c1 => ?_) (fun c1 => ?_)
  · replace h := (if_pos c1).symm.trans h
    cases h
    refine v_locs (L' := []) [] rfl ?_
    exact K
  · replace h := (if_neg c1).symm.trans h
    refine v_iconst (v := 0) G dX1_isWired_10 (by decide) ?_
    refine v_istore_n (L' := [(2, .int 0), (0, .ref (q 1)), (1, .int v1)]) G dX1_isWired_11 rfl (by decide) rfl ?_
    obtain ⟨x10, e11, h⟩ := Option.bind_eq_some_iff.mp h
    refine v_locs (L' := [(0, .ref (q 1)), (1, .int v1), (2, .int 0)]) [1, 2, 0] rfl ?_
    have l13 := v_lp (b := m_X1_isWired_L12 s v1) (I := fun x => apV Γ 3 (apU layC q (apd Γ) s) 0 0 12 [(0, .ref (q 1)), (1, .int v1), (2, .int x)] []) (O := fun x => match x with | .inl r => apR Γ cX1_isWired 0 0 (some r) (apU layC q (apd Γ) s) | .inr x => apV Γ 3 (apU layC q (apd Γ) s) 0 0 41 [(0, .ref (q 1)), (1, .int v1)] []) (fun x r hb hK => by rcases r with r | r | r <;> exact w_X1_isWired_L12 G hK hb) FU 0 x10 e11
    rcases x10 with r14 | x10
    · cases h
      exact l13 K
    · obtain ⟨v12, rfl⟩ : ∃ z, z = x10 := ⟨_, rfl⟩
      refine l13 ?_
      refine v_iinc (v := v1 + 1) (L' := [(1, .int (v1 + 1)), (0, .ref (q 1))]) G dX1_isWired_41 1 rfl rfl (by decide) rfl ?_
      refine v_goto (tgt := 2) G dX1_isWired_44 (by decide) ?_
      cases h
      refine v_locs (L' := [(0, .ref (q 1)), (1, .int (v1 + 1))]) [1, 0] rfl ?_
      exact K
def m_X1_isWired (s : apM)  : Option Int32 := Option.bind (lp FU (m_X1_isWired_L2 s) 0) (fun x15 => match x15 with | .inl r19 => Option.bind (bz r19) (fun t20 => some t20) | .inr v17 => some 1)
set_option maxHeartbeats 4000000 in
set_option maxRecDepth 100000 in
theorem w_X1_isWired {Γ : apC} {q : Nat → Nat} (G : apG Γ cX1_isWired 3 RX1 wsX1_isWired (apRm 1 0) apXC) {s : apM} {r : Int32} (K : apR Γ cX1_isWired 0 0 (some r) (apU layC q (apd Γ) s)) (h : m_X1_isWired s = some r) : apV Γ 3 (apU layC q (apd Γ) s) 0 0 0 [(0, .ref (q 1))] [] := by
  unfold m_X1_isWired at h
  refine v_iconst (v := 0) G dX1_isWired_0 (by decide) ?_
  refine v_istore_n (L' := [(1, .int 0), (0, .ref (q 1))]) G dX1_isWired_1 rfl (by decide) rfl ?_
  obtain ⟨x15, e16, h⟩ := Option.bind_eq_some_iff.mp h
  refine v_locs (L' := [(0, .ref (q 1)), (1, .int 0)]) [1, 0] rfl ?_
  have l18 := v_lp (b := m_X1_isWired_L2 s) (I := fun x => apV Γ 3 (apU layC q (apd Γ) s) 0 0 2 [(0, .ref (q 1)), (1, .int x)] []) (O := fun x => match x with | .inl r => apR Γ cX1_isWired 0 0 (some r) (apU layC q (apd Γ) s) | .inr x => apV Γ 3 (apU layC q (apd Γ) s) 0 0 47 [] []) (fun x r hb hK => by rcases r with r | r | r <;> exact w_X1_isWired_L2 G hK hb) FU 0 x15 e16
  rcases x15 with r19 | x15
  · obtain ⟨t20, e21, h⟩ := Option.bind_eq_some_iff.mp h
    obtain ⟨e21, -⟩ := bz_some e21
    cases h
    subst e21
    exact l18 K
  · obtain ⟨v17, rfl⟩ : ∃ z, z = x15 := ⟨_, rfl⟩
    refine l18 ?_
    refine v_iconst (v := 1) G dX1_isWired_47 (by decide) ?_
    cases h
    exact v_iret G K (by decide) (by decide) dX1_isWired_48
theorem z_X1_isWired {s : apM} {r : Int32} (h : m_X1_isWired s = some r) : r = 0 ∨ r = 1 := by
  unfold m_X1_isWired at h
  obtain ⟨x15, e16, h⟩ := Option.bind_eq_some_iff.mp h
  rcases x15 with r19 | x15
  · obtain ⟨t20, e21, h⟩ := Option.bind_eq_some_iff.mp h
    have e21 := bz_some e21
    cases h
    rw [← e21.1]; exact e21.2
  · obtain ⟨v17, rfl⟩ : ∃ z, z = x15 := ⟨_, rfl⟩
    cases h
    exact Or.inr rfl
theorem c_X1_isWired (l : Launch) {s : apM} {r : Int32} (h : m_X1_isWired s = some r) : apMi l layC apXC yX1_isWired wsX1_isWired 1 (fun q => [.ref (q 1)]) s r s := apMi_of (cc := cX1_isWired) (nL := 3) (r := r) (by decide) rfl (by rcases z_X1_isWired h with e | e <;> rw [e] <;> rfl) (fun _ => Nat.le_of_ble_eq_true rfl) (fun Γ q hl G K => w_X1_isWired G K h)
def m_X6_isPartOf (v0 : Int32) (v1 : Int32) : Int32 := if (v0 &&& (v1 ^^^ (-1))) = 0 then 1 else 0
set_option maxHeartbeats 4000000 in
set_option maxRecDepth 100000 in
theorem w_X6_isPartOf {Γ : apC} {q : Nat → Nat} (G : apG Γ cX6_isPartOf 2 RX6 wsX6_isPartOf (apRm 0 0) apXC) {s : apM} {v0 v1 : Int32} {r : Int32} (K : apR Γ cX6_isPartOf 0 0 (some r) (apU layC q (apd Γ) s)) (h : m_X6_isPartOf v0 v1 = r) : apV Γ 2 (apU layC q (apd Γ) s) 0 0 0 [(0, .int v0), (1, .int v1)] [] := by
  unfold m_X6_isPartOf at h
  refine v_iload_n G dX6_isPartOf_0 rfl 0 rfl ?_
  refine v_iload_n G dX6_isPartOf_1 rfl 1 rfl ?_
  refine v_iconst (v := (-1)) G dX6_isPartOf_2 (by decide) ?_
  refine v_ixor G dX6_isPartOf_3 ?_
  refine v_iand G dX6_isPartOf_4 ?_
  refine v_if_ne (tgt := 12) G dX6_isPartOf_5 (by decide) (fun c1 => ?_) (fun c1 => ?_)
  · replace h := (if_neg c1).symm.trans h
    refine v_iconst (v := 0) G dX6_isPartOf_12 (by decide) ?_
    subst h
    exact v_iret G K (by decide) (by decide) dX6_isPartOf_13
  · replace h := (if_pos c1).symm.trans h
    refine v_iconst (v := 1) G dX6_isPartOf_8 (by decide) ?_
    refine v_goto (tgt := 13) G dX6_isPartOf_9 (by decide) ?_
    subst h
    exact v_iret G K (by decide) (by decide) dX6_isPartOf_13
theorem z_X6_isPartOf {s : apM} {v0 v1 : Int32} {r : Int32} (h : m_X6_isPartOf v0 v1 = r) : r = 0 ∨ r = 1 := by
  unfold m_X6_isPartOf at h
  by_cases c1 : (v0 &&& (v1 ^^^ (-1))) = 0
  · replace h := (if_pos c1).symm.trans h
    subst h
    exact Or.inr rfl
  · replace h := (if_neg c1).symm.trans h
    subst h
    exact Or.inl rfl
theorem c_X6_isPartOf (l : Launch) {s : apM} {v0 v1 : Int32} {r : Int32} (h : m_X6_isPartOf v0 v1 = r) : apMi l layC apXC yX6_isPartOf wsX6_isPartOf 0 (fun q => [.int v0, .int v1]) s r s := apMi_of (cc := cX6_isPartOf) (nL := 2) (r := r) (by decide) rfl (by rcases z_X6_isPartOf (s := s) h with e | e <;> rw [e] <;> rfl) (fun _ => Nat.le_of_ble_eq_true rfl) (fun Γ q hl G K => w_X6_isPartOf G K h)
def m_X6_contains (v0 : Int32) (v1 : Int32) : Int32 := if ((v0 >>> (v1 &&& 31)) &&& 1) = 0 then 0 else 1
set_option maxHeartbeats 4000000 in
set_option maxRecDepth 100000 in
theorem w_X6_contains {Γ : apC} {q : Nat → Nat} (G : apG Γ cX6_contains 2 RX6 wsX6_contains (apRm 0 0) apXC) {s : apM} {v0 v1 : Int32} {r : Int32} (K : apR Γ cX6_contains 0 0 (some r) (apU layC q (apd Γ) s)) (h : m_X6_contains v0 v1 = r) : apV Γ 2 (apU layC q (apd Γ) s) 0 0 0 [(0, .int v0), (1, .int v1)] [] := by
  unfold m_X6_contains at h
  refine v_iload_n G dX6_contains_0 rfl 0 rfl ?_
  refine v_iload_n G dX6_contains_1 rfl 1 rfl ?_
  refine v_ishr G dX6_contains_2 ?_
  refine v_iconst (v := 1) G dX6_contains_3 (by decide) ?_
  refine v_iand G dX6_contains_4 ?_
  refine v_if_eq (tgt := 12) G dX6_contains_5 (by decide) (fun c1 => ?_) (fun c1 => ?_)
  · replace h := (if_pos c1).symm.trans h
    refine v_iconst (v := 0) G dX6_contains_12 (by decide) ?_
    subst h
    exact v_iret G K (by decide) (by decide) dX6_contains_13
  · replace h := (if_neg c1).symm.trans h
    refine v_iconst (v := 1) G dX6_contains_8 (by decide) ?_
    refine v_goto (tgt := 13) G dX6_contains_9 (by decide) ?_
    subst h
    exact v_iret G K (by decide) (by decide) dX6_contains_13
theorem z_X6_contains {s : apM} {v0 v1 : Int32} {r : Int32} (h : m_X6_contains v0 v1 = r) : r = 0 ∨ r = 1 := by
  unfold m_X6_contains at h
  by_cases c1 : ((v0 >>> (v1 &&& 31)) &&& 1) = 0
  · replace h := (if_pos c1).symm.trans h
    subst h
    exact Or.inl rfl
  · replace h := (if_neg c1).symm.trans h
    subst h
    exact Or.inr rfl
theorem c_X6_contains (l : Launch) {s : apM} {v0 v1 : Int32} {r : Int32} (h : m_X6_contains v0 v1 = r) : apMi l layC apXC yX6_contains wsX6_contains 0 (fun q => [.int v0, .int v1]) s r s := apMi_of (cc := cX6_contains) (nL := 2) (r := r) (by decide) rfl (by rcases z_X6_contains (s := s) h with e | e <;> rw [e] <;> rfl) (fun _ => Nat.le_of_ble_eq_true rfl) (fun Γ q hl G K => w_X6_contains G K h)
theorem i_X5_nearest_X1 : ∀ w ∈ u_ws RX1 TX1 7, w ∈ wsX5_nearest := by decide +kernel
theorem i_X5_nearest_X5 : ∀ w ∈ u_ws RX5 TX5 5, w ∈ wsX5_nearest := by decide +kernel
def m_X5_nearest (s : apM) (v1 : Int32) : Option Int32 := Option.bind (rix 12 v1) (fun j1 => Option.bind (ald s (41 + j1) 2 0) (fun t3 => Option.bind (rix 12 v1) (fun j5 => Option.bind (ald s (41 + j5) 2 1) (fun t7 => if t3 = (-1) then (some t7) else (if t7 = (-1) then (some t3) else (Option.bind (ald s 14 12 t7) (fun t11 => Option.bind (ald s 14 12 t3) (fun t13 => if t13 ≤ t11 then (some t3) else (some t7)))))))))
set_option maxHeartbeats 4000000 in
set_option maxRecDepth 100000 in
theorem w_X5_nearest {Γ : apC} {q : Nat → Nat} (G : apG Γ cX5_nearest 4 RX5 wsX5_nearest (apRm 0 0) apXC) {s : apM} {v1 : Int32} {r : Int32} (K : apR Γ cX5_nearest 0 0 (some r) (apU layC q (apd Γ) s)) (h : m_X5_nearest s v1 = some r) : apV Γ 4 (apU layC q (apd Γ) s) 0 0 0 [(0, .ref (q 2)), (1, .int v1)] [] := by
  unfold m_X5_nearest at h
  refine v_aload_n G dX5_nearest_0 rfl 0 rfl ?_
  refine v_getr (lay := layC) (k := 2) (k' := 1) (C := RX5) (T := TX5) (N := 5) G (fun _ h => i_X5_nearest_X5 _ h) rfl rfl 0 (by decide) (by decide +kernel) rfl rfl dX5_nearest_1 ?_
  refine v_getr (lay := layC) (k := 1) (k' := 11) (C := RX1) (T := TX1) (N := 7) G (fun _ h => i_X5_nearest_X1 _ h) rfl rfl 4 (by decide) (by decide +kernel) rfl rfl dX5_nearest_4 ?_
  refine v_iload_n G dX5_nearest_7 rfl 1 rfl ?_
  obtain ⟨j1, e2, h⟩ := Option.bind_eq_some_iff.mp h
  refine v_aald (lay := layC) (k := 11) G rfl e2 dX5_nearest_8 ?_
  refine v_iconst (v := 0) G dX5_nearest_9 (by decide) ?_
  obtain ⟨t3, e4, h⟩ := Option.bind_eq_some_iff.mp h
  refine v_iald (lay := layC) G (layR_41 e2) e4 dX5_nearest_10 ?_
  refine v_istore_n (L' := [(2, .int t3), (0, .ref (q 2)), (1, .int v1)]) G dX5_nearest_11 rfl (by decide) rfl ?_
  refine v_aload_n G dX5_nearest_12 rfl 1 rfl ?_
  refine v_getr (lay := layC) (k := 2) (k' := 1) (C := RX5) (T := TX5) (N := 5) G (fun _ h => i_X5_nearest_X5 _ h) rfl rfl 0 (by decide) (by decide +kernel) rfl rfl dX5_nearest_13 ?_
  refine v_getr (lay := layC) (k := 1) (k' := 11) (C := RX1) (T := TX1) (N := 7) G (fun _ h => i_X5_nearest_X1 _ h) rfl rfl 4 (by decide) (by decide +kernel) rfl rfl dX5_nearest_16 ?_
  refine v_iload_n G dX5_nearest_19 rfl 2 rfl ?_
  obtain ⟨j5, e6, h⟩ := Option.bind_eq_some_iff.mp h
  refine v_aald (lay := layC) (k := 11) G rfl e6 dX5_nearest_20 ?_
  refine v_iconst (v := 1) G dX5_nearest_21 (by decide) ?_
  obtain ⟨t7, e8, h⟩ := Option.bind_eq_some_iff.mp h
  refine v_iald (lay := layC) G (layR_41 e6) e8 dX5_nearest_22 ?_
  refine v_istore_n (L' := [(3, .int t7), (2, .int t3), (0, .ref (q 2)), (1, .int v1)]) G dX5_nearest_23 rfl (by decide) rfl ?_
  refine v_iload_n G dX5_nearest_24 rfl 1 rfl ?_
  refine v_iconst (v := (-1)) G dX5_nearest_25 (by decide) ?_
  refine v_icmp_ne (tgt := 31) G dX5_nearest_26 (by decide) (fun c9 => ?_) (fun c9 => ?_)
  · replace h := (if_neg c9).symm.trans h
    refine v_iload_n G dX5_nearest_31 rfl 0 rfl ?_
    refine v_iconst (v := (-1)) G dX5_nearest_32 (by decide) ?_
    refine v_icmp_ne (tgt := 38) G dX5_nearest_33 (by decide) (fun c10 => ?_) (fun c10 => ?_)
    · replace h := (if_neg c10).symm.trans h
      refine v_aload_n G dX5_nearest_38 rfl 2 rfl ?_
      refine v_getr (lay := layC) (k := 2) (k' := 14) (C := RX5) (T := TX5) (N := 5) G (fun _ h => i_X5_nearest_X5 _ h) rfl rfl 2 (by decide) (by decide +kernel) rfl rfl dX5_nearest_39 ?_
      refine v_iload_n G dX5_nearest_42 rfl 0 rfl ?_
      obtain ⟨t11, e12, h⟩ := Option.bind_eq_some_iff.mp h
      refine v_iald (lay := layC) (k := 14) (n := 12) G rfl e12 dX5_nearest_43 ?_
      refine v_aload_n G dX5_nearest_44 rfl 2 rfl ?_
      refine v_getr (lay := layC) (k := 2) (k' := 14) (C := RX5) (T := TX5) (N := 5) G (fun _ h => i_X5_nearest_X5 _ h) rfl rfl 2 (by decide) (by decide +kernel) rfl rfl dX5_nearest_45 ?_
      refine v_iload_n G dX5_nearest_48 rfl 1 rfl ?_
      obtain ⟨t13, e14, h⟩ := Option.bind_eq_some_iff.mp h
      refine v_iald (lay := layC) (k := 14) (n := 12) G rfl e14 dX5_nearest_49 ?_
      refine v_icmp_ge (tgt := 57) G dX5_nearest_50 (by decide) (fun c15 => ?_) (fun c15 => ?_)
      · replace h := (if_pos c15).symm.trans h
        refine v_iload_n G dX5_nearest_57 rfl 1 rfl ?_
        cases h
        exact v_iret G K (by decide) (by decide) dX5_nearest_58
      · replace h := (if_neg c15).symm.trans h
        refine v_iload_n G dX5_nearest_53 rfl 0 rfl ?_
        refine v_goto (tgt := 58) G dX5_nearest_54 (by decide) ?_
        cases h
        exact v_iret G K (by decide) (by decide) dX5_nearest_58
    · replace h := (if_pos c10).symm.trans h
      refine v_iload_n G dX5_nearest_36 rfl 1 rfl ?_
      cases h
      exact v_iret G K (by decide) (by decide) dX5_nearest_37
  · replace h := (if_pos c9).symm.trans h
    refine v_iload_n G dX5_nearest_29 rfl 0 rfl ?_
    cases h
    exact v_iret G K (by decide) (by decide) dX5_nearest_30
theorem c_X5_nearest (l : Launch) {s : apM} {v1 : Int32} {r : Int32} (h : m_X5_nearest s v1 = some r) : apMi l layC apXC yX5_nearest wsX5_nearest 0 (fun q => [.ref (q 2), .int v1]) s r s := apMi_of (cc := cX5_nearest) (nL := 4) (r := r) (by decide) rfl rfl (fun _ => Nat.le_of_ble_eq_true rfl) (fun Γ q hl G K => w_X5_nearest G K h)
theorem i_X5_countSteps_X1 : ∀ w ∈ u_ws RX1 TX1 7, w ∈ wsX5_countSteps := by decide +kernel
theorem i_X5_countSteps_X5 : ∀ w ∈ u_ws RX5 TX5 5, w ∈ wsX5_countSteps := by decide +kernel
def m_X5_countSteps_L31 (v2 : Int32) : (apM × Int32) → Option ((apM × Int32) ⊕ (apM × Int32)) := fun (s0, v3) => if (s0 1 6) ≤ v3 then (some (.inr (s0, v3))) else (Option.bind (m_X5_nearest s0 v3) (fun t5 => if t5 = (-1) then (some (.inl (s0, v3 + 1))) else (Option.bind (ald s0 14 12 v3) (fun t8 => Option.bind (ald s0 14 12 t5) (fun t10 => Option.bind (ast s0 14 12 v3 (if (t10 + 1) < t8 then (t10 + 1) else t8)) (fun s12 => some (.inl (s12, v3 + 1))))))))
set_option maxHeartbeats 4000000 in
set_option maxRecDepth 100000 in
theorem w_X5_countSteps_L31 {Γ : apC} {q : Nat → Nat} (G : apG Γ cX5_countSteps 5 RX5 wsX5_countSteps (apRm 1 0) apXC) {s0 : apM} {v2 v3 : Int32} {r : ((apM × Int32) ⊕ (apM × Int32))} (K : match r with | .inl x => apV Γ 5 (apU layC q (apd Γ) x.1) 0 0 31 [(0, .ref (q 2)), (2, .int v2), (3, .int x.2)] [] | .inr x => apV Γ 5 (apU layC q (apd Γ) x.1) 0 0 85 [(0, .ref (q 2)), (2, .int v2)] []) (h : m_X5_countSteps_L31 v2 (s0, v3) = some r) : apV Γ 5 (apU layC q (apd Γ) s0) 0 0 31 [(0, .ref (q 2)), (2, .int v2), (3, .int v3)] [] := by
  unfold m_X5_countSteps_L31 at h
  dsimp only at h
  refine v_iload_n G dX5_countSteps_31 rfl 2 rfl ?_
  refine v_aload_n G dX5_countSteps_32 rfl 0 rfl ?_
  refine v_getr (lay := layC) (k := 2) (k' := 1) (C := RX5) (T := TX5) (N := 5) G (fun _ h => i_X5_countSteps_X5 _ h) rfl rfl 0 (by decide) (by decide +kernel) rfl rfl dX5_countSteps_33 ?_
  refine v_geti (lay := layC) (k := 1) (C := RX1) (T := TX1) (N := 7) G (fun _ h => i_X5_countSteps_X1 _ h) rfl rfl 6 (by decide) (by decide +kernel) rfl rfl dX5_countSteps_36 ?_
  refine v_icmp_ge (tgt := 85) G dX5_countSteps_39 (by decide) (fun c4 => ?_) (fun c4 => ?_)
  · replace h := (if_pos c4).symm.trans h
    cases h
    refine v_locs (L' := [(0, .ref (q 2)), (2, .int v2)]) [0, 1] rfl ?_
    exact K
  · replace h := (if_neg c4).symm.trans h
    refine v_aload_n G dX5_countSteps_42 rfl 0 rfl ?_
    refine v_iload_n G dX5_countSteps_43 rfl 2 rfl ?_
    obtain ⟨t5, e6, h⟩ := Option.bind_eq_some_iff.mp h
    refine v_calliV (lay := layC) (As := [.int v3]) (st := []) (n := 1) (C := RX5) (T := TX5) (k0 := 2) G apXCok (c_X5_nearest Γ.1.2.1 e6) gX5_countSteps_X5_nearest rfl (by decide +kernel) (by decide) rfl rfl rfl rfl (Nat.le_of_ble_eq_true rfl) (by decide) rfl dX5_countSteps_44 ?_
    refine v_istore (L' := [(4, .int t5), (0, .ref (q 2)), (2, .int v2), (3, .int v3)]) G dX5_countSteps_47 (by decide) rfl ?_
    refine v_iload G dX5_countSteps_49 0 rfl ?_
    refine v_iconst (v := (-1)) G dX5_countSteps_51 (by decide) ?_
    refine v_icmp_eq (tgt := 79) G dX5_countSteps_52 (by decide) (fun c7 => ?_) (fun c7 => ?_)
    · replace h := (if_pos c7).symm.trans h
      refine v_iinc (v := v3 + 1) (L' := [(3, .int (v3 + 1)), (4, .int t5), (0, .ref (q 2)), (2, .int v2)]) G dX5_countSteps_79 3 rfl rfl (by decide) rfl ?_
      refine v_goto (tgt := 31) G dX5_countSteps_82 (by decide) ?_
      cases h
      refine v_locs (L' := [(0, .ref (q 2)), (2, .int v2), (3, .int (v3 + 1))]) [2, 3, 0] rfl ?_
      exact K
    · replace h := (if_neg c7).symm.trans h
      refine v_aload_n G dX5_countSteps_55 rfl 1 rfl ?_
      refine v_getr (lay := layC) (k := 2) (k' := 14) (C := RX5) (T := TX5) (N := 5) G (fun _ h => i_X5_countSteps_X5 _ h) rfl rfl 2 (by decide) (by decide +kernel) rfl rfl dX5_countSteps_56 ?_
      refine v_iload_n G dX5_countSteps_59 rfl 3 rfl ?_
      refine v_aload_n G dX5_countSteps_60 rfl 1 rfl ?_
      refine v_getr (lay := layC) (k := 2) (k' := 14) (C := RX5) (T := TX5) (N := 5) G (fun _ h => i_X5_countSteps_X5 _ h) rfl rfl 2 (by decide) (by decide +kernel) rfl rfl dX5_countSteps_61 ?_
      refine v_iload_n G dX5_countSteps_64 rfl 3 rfl ?_
      obtain ⟨t8, e9, h⟩ := Option.bind_eq_some_iff.mp h
      refine v_iald (lay := layC) (k := 14) (n := 12) G rfl e9 dX5_countSteps_65 ?_
      refine v_aload_n G dX5_countSteps_66 rfl 1 rfl ?_
      refine v_getr (lay := layC) (k := 2) (k' := 14) (C := RX5) (T := TX5) (N := 5) G (fun _ h => i_X5_countSteps_X5 _ h) rfl rfl 2 (by decide) (by decide +kernel) rfl rfl dX5_countSteps_67 ?_
      refine v_iload G dX5_countSteps_70 0 rfl ?_
      obtain ⟨t10, e11, h⟩ := Option.bind_eq_some_iff.mp h
      refine v_iald (lay := layC) (k := 14) (n := 12) G rfl e11 dX5_countSteps_72 ?_
      refine v_iconst (v := 1) G dX5_countSteps_73 (by decide) ?_
      refine v_iadd G dX5_countSteps_74 ?_
      refine v_mmin G (by decide +kernel) (by decide +kernel) (by decide +kernel) (by decide +kernel) (by decide) (Nat.le_of_ble_eq_true rfl) (by decide) dX5_countSteps_75 ?_
      obtain ⟨s12, e13, h⟩ := Option.bind_eq_some_iff.mp h
      refine v_iast (lay := layC) (k := 14) (n := 12) G rfl e13 dX5_countSteps_78 ?_
      refine v_iinc (v := v3 + 1) (L' := [(3, .int (v3 + 1)), (4, .int t5), (0, .ref (q 2)), (2, .int v2)]) G dX5_countSteps_79 3 rfl rfl (by decide) rfl ?_
      refine v_goto (tgt := 31) G dX5_countSteps_82 (by decide) ?_
      cases h
      refine v_locs (L' := [(0, .ref (q 2)), (2, .int v2), (3, .int (v3 + 1))]) [2, 3, 0] rfl ?_
      exact K
def m_X5_countSteps_L18  : (apM × Int32) → Option ((apM × Int32) ⊕ (apM × Int32)) := fun (s0, v2) => if (s0 1 6) ≤ v2 then (some (.inr (s0, v2))) else (Option.bind (lp FU (m_X5_countSteps_L31 v2) (s0, 0)) (fun x14 => match x14 with | (s17, v16) => some (.inl (s17, v2 + 1))))
set_option maxHeartbeats 4000000 in
set_option maxRecDepth 100000 in
theorem w_X5_countSteps_L18 {Γ : apC} {q : Nat → Nat} (G : apG Γ cX5_countSteps 5 RX5 wsX5_countSteps (apRm 1 0) apXC) {s0 : apM} {v2 : Int32} {r : ((apM × Int32) ⊕ (apM × Int32))} (K : match r with | .inl x => apV Γ 5 (apU layC q (apd Γ) x.1) 0 0 18 [(0, .ref (q 2)), (2, .int x.2)] [] | .inr x => apV Γ 5 (apU layC q (apd Γ) x.1) 0 0 91 [] []) (h : m_X5_countSteps_L18 (s0, v2) = some r) : apV Γ 5 (apU layC q (apd Γ) s0) 0 0 18 [(0, .ref (q 2)), (2, .int v2)] [] := by
  unfold m_X5_countSteps_L18 at h
  dsimp only at h
  refine v_iload_n G dX5_countSteps_18 rfl 1 rfl ?_
  refine v_aload_n G dX5_countSteps_19 rfl 0 rfl ?_
  refine v_getr (lay := layC) (k := 2) (k' := 1) (C := RX5) (T := TX5) (N := 5) G (fun _ h => i_X5_countSteps_X5 _ h) rfl rfl 0 (by decide) (by decide +kernel) rfl rfl dX5_countSteps_20 ?_
  refine v_geti (lay := layC) (k := 1) (C := RX1) (T := TX1) (N := 7) G (fun _ h => i_X5_countSteps_X1 _ h) rfl rfl 6 (by decide) (by decide +kernel) rfl rfl dX5_countSteps_23 ?_
  refine v_icmp_ge (tgt := 91) G dX5_countSteps_26 (by decide) (fun c3 => ?_) (fun c3 => ?_)
  · replace h := (if_pos c3).symm.trans h
    cases h
    refine v_locs (L' := []) [] rfl ?_
    exact K
  · replace h := (if_neg c3).symm.trans h
    refine v_iconst (v := 0) G dX5_countSteps_29 (by decide) ?_
    refine v_istore_n (L' := [(3, .int 0), (0, .ref (q 2)), (2, .int v2)]) G dX5_countSteps_30 rfl (by decide) rfl ?_
    obtain ⟨x14, e15, h⟩ := Option.bind_eq_some_iff.mp h
    refine v_locs (L' := [(0, .ref (q 2)), (2, .int v2), (3, .int 0)]) [1, 2, 0] rfl ?_
    have l18 := v_lp (b := m_X5_countSteps_L31 v2) (I := fun x => apV Γ 5 (apU layC q (apd Γ) x.1) 0 0 31 [(0, .ref (q 2)), (2, .int v2), (3, .int x.2)] []) (O := fun x => apV Γ 5 (apU layC q (apd Γ) x.1) 0 0 85 [(0, .ref (q 2)), (2, .int v2)] []) (fun x r hb hK => by obtain ⟨ys, y3⟩ := x; rcases r with r | r <;> exact w_X5_countSteps_L31 G hK hb) FU (s0, 0) x14 e15
    obtain ⟨s17, v16⟩ := x14
    dsimp only at h
    refine l18 ?_
    refine v_iinc (v := v2 + 1) (L' := [(2, .int (v2 + 1)), (0, .ref (q 2))]) G dX5_countSteps_85 1 rfl rfl (by decide) rfl ?_
    refine v_goto (tgt := 18) G dX5_countSteps_88 (by decide) ?_
    cases h
    refine v_locs (L' := [(0, .ref (q 2)), (2, .int (v2 + 1))]) [1, 0] rfl ?_
    exact K
def m_X5_countSteps (s : apM) (v1 : Int32) : Option apM := Option.bind (ast (mfl s 14 12 12) 14 12 v1 0) (fun s1 => Option.bind (lp FU (m_X5_countSteps_L18) (s1, 0)) (fun x19 => match x19 with | (s22, v21) => some s22))
set_option maxHeartbeats 4000000 in
set_option maxRecDepth 100000 in
theorem w_X5_countSteps {Γ : apC} {q : Nat → Nat} (G : apG Γ cX5_countSteps 5 RX5 wsX5_countSteps (apRm 1 0) apXC) {s : apM} {v1 : Int32} {r : apM} (K : apR Γ cX5_countSteps 0 0 none (apU layC q (apd Γ) r)) (h : m_X5_countSteps s v1 = some r) : apV Γ 5 (apU layC q (apd Γ) s) 0 0 0 [(0, .ref (q 2)), (1, .int v1)] [] := by
  unfold m_X5_countSteps at h
  refine v_aload_n G dX5_countSteps_0 rfl 0 rfl ?_
  refine v_getr (lay := layC) (k := 2) (k' := 14) (C := RX5) (T := TX5) (N := 5) G (fun _ h => i_X5_countSteps_X5 _ h) rfl rfl 2 (by decide) (by decide +kernel) rfl rfl dX5_countSteps_1 ?_
  refine v_bipush (v := 12) G dX5_countSteps_4 (by decide) ?_
  refine v_callvS (lay := layC) (As := [.ref (q 14), .int 12]) (st := []) (n := 2) G apXCok (c_fill Γ.1.2.1 rfl (by decide)) gX5_countSteps_J7_fill_53178 rfl (by decide) (by decide) rfl rfl (Nat.le_of_ble_eq_true rfl) (by decide) rfl dX5_countSteps_6 ?_
  refine v_aload_n G dX5_countSteps_9 rfl 0 rfl ?_
  refine v_getr (lay := layC) (k := 2) (k' := 14) (C := RX5) (T := TX5) (N := 5) G (fun _ h => i_X5_countSteps_X5 _ h) rfl rfl 2 (by decide) (by decide +kernel) rfl rfl dX5_countSteps_10 ?_
  refine v_iload_n G dX5_countSteps_13 rfl 1 rfl ?_
  refine v_iconst (v := 0) G dX5_countSteps_14 (by decide) ?_
  obtain ⟨s1, e2, h⟩ := Option.bind_eq_some_iff.mp h
  refine v_iast (lay := layC) (k := 14) (n := 12) G rfl e2 dX5_countSteps_15 ?_
  refine v_iconst (v := 0) G dX5_countSteps_16 (by decide) ?_
  refine v_istore_n (L' := [(2, .int 0), (0, .ref (q 2)), (1, .int v1)]) G dX5_countSteps_17 rfl (by decide) rfl ?_
  obtain ⟨x19, e20, h⟩ := Option.bind_eq_some_iff.mp h
  refine v_locs (L' := [(0, .ref (q 2)), (2, .int 0)]) [1, 0] rfl ?_
  have l23 := v_lp (b := m_X5_countSteps_L18) (I := fun x => apV Γ 5 (apU layC q (apd Γ) x.1) 0 0 18 [(0, .ref (q 2)), (2, .int x.2)] []) (O := fun x => apV Γ 5 (apU layC q (apd Γ) x.1) 0 0 91 [] []) (fun x r hb hK => by obtain ⟨ys, y2⟩ := x; rcases r with r | r <;> exact w_X5_countSteps_L18 G hK hb) FU (s1, 0) x19 e20
  obtain ⟨s22, v21⟩ := x19
  dsimp only at h
  refine l23 ?_
  cases h
  exact v_vret G K (by decide) (by decide) dX5_countSteps_91
theorem c_X5_countSteps (l : Launch) {s : apM} {v1 : Int32} {r : apM} (h : m_X5_countSteps s v1 = some r) : apMv l layC apXC yX5_countSteps wsX5_countSteps 1 (fun q => [.ref (q 2), .int v1]) s r := apMv_of (cc := cX5_countSteps) (nL := 5) (by decide) rfl (fun _ => Nat.le_of_ble_eq_true rfl) (fun Γ q hl G K => w_X5_countSteps G K h)
theorem i_X5_findReach_X1 : ∀ w ∈ u_ws RX1 TX1 7, w ∈ wsX5_findReach := by decide +kernel
theorem i_X5_findReach_X5 : ∀ w ∈ u_ws RX5 TX5 5, w ∈ wsX5_findReach := by decide +kernel
def m_X5_findReach_L2  : (apM × Int32) → Option ((apM × Int32) ⊕ (apM × Int32)) := fun (s0, v1) => if (s0 1 6) ≤ v1 then (some (.inr (s0, v1))) else (Option.bind (m_X1_dependencies s0 v1) (fun t2 => Option.bind (ast s0 13 12 v1 t2) (fun s4 => some (.inl (s4, v1 + 1)))))
set_option maxHeartbeats 4000000 in
set_option maxRecDepth 100000 in
theorem w_X5_findReach_L2 {Γ : apC} {q : Nat → Nat} (G : apG Γ cX5_findReach 3 RX5 wsX5_findReach (apRm 2 0) apXC) {s0 : apM} {v1 : Int32} {r : ((apM × Int32) ⊕ (apM × Int32))} (K : match r with | .inl x => apV Γ 3 (apU layC q (apd Γ) x.1) 0 0 2 [(0, .ref (q 2)), (1, .int x.2)] [] | .inr x => apV Γ 3 (apU layC q (apd Γ) x.1) 0 0 33 [(0, .ref (q 2))] []) (h : m_X5_findReach_L2 (s0, v1) = some r) : apV Γ 3 (apU layC q (apd Γ) s0) 0 0 2 [(0, .ref (q 2)), (1, .int v1)] [] := by
  unfold m_X5_findReach_L2 at h
  dsimp only at h
  refine v_iload_n G dX5_findReach_2 rfl 1 rfl ?_
  refine v_aload_n G dX5_findReach_3 rfl 0 rfl ?_
  refine v_getr (lay := layC) (k := 2) (k' := 1) (C := RX5) (T := TX5) (N := 5) G (fun _ h => i_X5_findReach_X5 _ h) rfl rfl 0 (by decide) (by decide +kernel) rfl rfl dX5_findReach_4 ?_
  refine v_geti (lay := layC) (k := 1) (C := RX1) (T := TX1) (N := 7) G (fun _ h => i_X5_findReach_X1 _ h) rfl rfl 6 (by decide) (by decide +kernel) rfl rfl dX5_findReach_7 ?_
  refine v_icmp_ge (tgt := 33) G dX5_findReach_10 (by decide) (fun c1 => ?_) (fun c1 => ?_)
  · replace h := (if_pos c1).symm.trans h
    cases h
    refine v_locs (L' := [(0, .ref (q 2))]) [0] rfl ?_
    exact K
  · replace h := (if_neg c1).symm.trans h
    refine v_aload_n G dX5_findReach_13 rfl 0 rfl ?_
    refine v_getr (lay := layC) (k := 2) (k' := 13) (C := RX5) (T := TX5) (N := 5) G (fun _ h => i_X5_findReach_X5 _ h) rfl rfl 1 (by decide) (by decide +kernel) rfl rfl dX5_findReach_14 ?_
    refine v_iload_n G dX5_findReach_17 rfl 1 rfl ?_
    refine v_aload_n G dX5_findReach_18 rfl 0 rfl ?_
    refine v_getr (lay := layC) (k := 2) (k' := 1) (C := RX5) (T := TX5) (N := 5) G (fun _ h => i_X5_findReach_X5 _ h) rfl rfl 0 (by decide) (by decide +kernel) rfl rfl dX5_findReach_19 ?_
    refine v_iload_n G dX5_findReach_22 rfl 1 rfl ?_
    obtain ⟨t2, e3, h⟩ := Option.bind_eq_some_iff.mp h
    refine v_calliV (lay := layC) (As := [.int v1]) (st := [.int v1, .ref (q 13)]) (n := 1) (C := RX1) (T := TX1) (k0 := 1) G apXCok (c_X1_dependencies Γ.1.2.1 e3) gX5_findReach_X1_dependencies rfl (by decide +kernel) (by decide) rfl rfl rfl rfl (Nat.le_of_ble_eq_true rfl) (by decide) rfl dX5_findReach_23 ?_
    obtain ⟨s4, e5, h⟩ := Option.bind_eq_some_iff.mp h
    refine v_iast (lay := layC) (k := 13) (n := 12) G rfl e5 dX5_findReach_26 ?_
    refine v_iinc (v := v1 + 1) (L' := [(1, .int (v1 + 1)), (0, .ref (q 2))]) G dX5_findReach_27 1 rfl rfl (by decide) rfl ?_
    refine v_goto (tgt := 2) G dX5_findReach_30 (by decide) ?_
    cases h
    refine v_locs (L' := [(0, .ref (q 2)), (1, .int (v1 + 1))]) [1, 0] rfl ?_
    exact K
def m_X5_findReach_L48 (v1 : Int32) : (apM × Int32) → Option ((apM × Int32) ⊕ (apM × Int32)) := fun (s0, v2) => if (s0 1 6) ≤ v2 then (some (.inr (s0, v2))) else (Option.bind (ald s0 13 12 v2) (fun t12 => if (m_X6_contains t12 v1) = 0 then (some (.inl (s0, v2 + 1))) else (Option.bind (ald s0 13 12 v2) (fun t15 => Option.bind (ald s0 13 12 v1) (fun t17 => Option.bind (ast s0 13 12 v2 (t15 ||| t17)) (fun s19 => some (.inl (s19, v2 + 1))))))))
set_option maxHeartbeats 4000000 in
set_option maxRecDepth 100000 in
theorem w_X5_findReach_L48 {Γ : apC} {q : Nat → Nat} (G : apG Γ cX5_findReach 3 RX5 wsX5_findReach (apRm 2 0) apXC) {s0 : apM} {v1 v2 : Int32} {r : ((apM × Int32) ⊕ (apM × Int32))} (K : match r with | .inl x => apV Γ 3 (apU layC q (apd Γ) x.1) 0 0 48 [(0, .ref (q 2)), (1, .int v1), (2, .int x.2)] [] | .inr x => apV Γ 3 (apU layC q (apd Γ) x.1) 0 0 93 [(0, .ref (q 2)), (1, .int v1)] []) (h : m_X5_findReach_L48 v1 (s0, v2) = some r) : apV Γ 3 (apU layC q (apd Γ) s0) 0 0 48 [(0, .ref (q 2)), (1, .int v1), (2, .int v2)] [] := by
  unfold m_X5_findReach_L48 at h
  dsimp only at h
  refine v_iload_n G dX5_findReach_48 rfl 2 rfl ?_
  refine v_aload_n G dX5_findReach_49 rfl 0 rfl ?_
  refine v_getr (lay := layC) (k := 2) (k' := 1) (C := RX5) (T := TX5) (N := 5) G (fun _ h => i_X5_findReach_X5 _ h) rfl rfl 0 (by decide) (by decide +kernel) rfl rfl dX5_findReach_50 ?_
  refine v_geti (lay := layC) (k := 1) (C := RX1) (T := TX1) (N := 7) G (fun _ h => i_X5_findReach_X1 _ h) rfl rfl 6 (by decide) (by decide +kernel) rfl rfl dX5_findReach_53 ?_
  refine v_icmp_ge (tgt := 93) G dX5_findReach_56 (by decide) (fun c11 => ?_) (fun c11 => ?_)
  · replace h := (if_pos c11).symm.trans h
    cases h
    refine v_locs (L' := [(0, .ref (q 2)), (1, .int v1)]) [0, 1] rfl ?_
    exact K
  · replace h := (if_neg c11).symm.trans h
    refine v_aload_n G dX5_findReach_59 rfl 0 rfl ?_
    refine v_getr (lay := layC) (k := 2) (k' := 13) (C := RX5) (T := TX5) (N := 5) G (fun _ h => i_X5_findReach_X5 _ h) rfl rfl 1 (by decide) (by decide +kernel) rfl rfl dX5_findReach_60 ?_
    refine v_iload_n G dX5_findReach_63 rfl 2 rfl ?_
    obtain ⟨t12, e13, h⟩ := Option.bind_eq_some_iff.mp h
    refine v_iald (lay := layC) (k := 13) (n := 12) G rfl e13 dX5_findReach_64 ?_
    refine v_iload_n G dX5_findReach_65 rfl 1 rfl ?_
    refine v_calliN (lay := layC) (As := [.int t12, .int v1]) (st := []) (n := 2) G apXCok (c_X6_contains Γ.1.2.1 (s := s0) rfl) gX5_findReach_X6_contains_n37 rfl (apNest_in G (by decide)) (by decide +kernel) (by decide +kernel) (by decide +kernel) (by decide) rfl rfl (Nat.le_of_ble_eq_true rfl) (by decide) rfl dX5_findReach_66 ?_
    refine v_if_eq (tgt := 87) G dX5_findReach_69 (by decide) (fun c14 => ?_) (fun c14 => ?_)
    · replace h := (if_pos c14).symm.trans h
      refine v_iinc (v := v2 + 1) (L' := [(2, .int (v2 + 1)), (0, .ref (q 2)), (1, .int v1)]) G dX5_findReach_87 2 rfl rfl (by decide) rfl ?_
      refine v_goto (tgt := 48) G dX5_findReach_90 (by decide) ?_
      cases h
      refine v_locs (L' := [(0, .ref (q 2)), (1, .int v1), (2, .int (v2 + 1))]) [1, 2, 0] rfl ?_
      exact K
    · replace h := (if_neg c14).symm.trans h
      refine v_aload_n G dX5_findReach_72 rfl 0 rfl ?_
      refine v_getr (lay := layC) (k := 2) (k' := 13) (C := RX5) (T := TX5) (N := 5) G (fun _ h => i_X5_findReach_X5 _ h) rfl rfl 1 (by decide) (by decide +kernel) rfl rfl dX5_findReach_73 ?_
      refine v_iload_n G dX5_findReach_76 rfl 2 rfl ?_
      refine v_dup2 G dX5_findReach_77 rfl rfl ?_
      obtain ⟨t15, e16, h⟩ := Option.bind_eq_some_iff.mp h
      refine v_iald (lay := layC) (k := 13) (n := 12) G rfl e16 dX5_findReach_78 ?_
      refine v_aload_n G dX5_findReach_79 rfl 0 rfl ?_
      refine v_getr (lay := layC) (k := 2) (k' := 13) (C := RX5) (T := TX5) (N := 5) G (fun _ h => i_X5_findReach_X5 _ h) rfl rfl 1 (by decide) (by decide +kernel) rfl rfl dX5_findReach_80 ?_
      refine v_iload_n G dX5_findReach_83 rfl 1 rfl ?_
      obtain ⟨t17, e18, h⟩ := Option.bind_eq_some_iff.mp h
      refine v_iald (lay := layC) (k := 13) (n := 12) G rfl e18 dX5_findReach_84 ?_
      refine v_ior G dX5_findReach_85 ?_
      obtain ⟨s19, e20, h⟩ := Option.bind_eq_some_iff.mp h
      refine v_iast (lay := layC) (k := 13) (n := 12) G rfl e20 dX5_findReach_86 ?_
      refine v_iinc (v := v2 + 1) (L' := [(2, .int (v2 + 1)), (0, .ref (q 2)), (1, .int v1)]) G dX5_findReach_87 2 rfl rfl (by decide) rfl ?_
      refine v_goto (tgt := 48) G dX5_findReach_90 (by decide) ?_
      cases h
      refine v_locs (L' := [(0, .ref (q 2)), (1, .int v1), (2, .int (v2 + 1))]) [1, 2, 0] rfl ?_
      exact K
def m_X5_findReach_L35  : (apM × Int32) → Option ((apM × Int32) ⊕ (apM × Int32)) := fun (s0, v1) => if (s0 1 6) ≤ v1 then (some (.inr (s0, v1))) else (Option.bind (lp FU (m_X5_findReach_L48 v1) (s0, 0)) (fun x21 => match x21 with | (s24, v23) => some (.inl (s24, v1 + 1))))
set_option maxHeartbeats 4000000 in
set_option maxRecDepth 100000 in
theorem w_X5_findReach_L35 {Γ : apC} {q : Nat → Nat} (G : apG Γ cX5_findReach 3 RX5 wsX5_findReach (apRm 2 0) apXC) {s0 : apM} {v1 : Int32} {r : ((apM × Int32) ⊕ (apM × Int32))} (K : match r with | .inl x => apV Γ 3 (apU layC q (apd Γ) x.1) 0 0 35 [(0, .ref (q 2)), (1, .int x.2)] [] | .inr x => apV Γ 3 (apU layC q (apd Γ) x.1) 0 0 99 [] []) (h : m_X5_findReach_L35 (s0, v1) = some r) : apV Γ 3 (apU layC q (apd Γ) s0) 0 0 35 [(0, .ref (q 2)), (1, .int v1)] [] := by
  unfold m_X5_findReach_L35 at h
  dsimp only at h
  refine v_iload_n G dX5_findReach_35 rfl 1 rfl ?_
  refine v_aload_n G dX5_findReach_36 rfl 0 rfl ?_
  refine v_getr (lay := layC) (k := 2) (k' := 1) (C := RX5) (T := TX5) (N := 5) G (fun _ h => i_X5_findReach_X5 _ h) rfl rfl 0 (by decide) (by decide +kernel) rfl rfl dX5_findReach_37 ?_
  refine v_geti (lay := layC) (k := 1) (C := RX1) (T := TX1) (N := 7) G (fun _ h => i_X5_findReach_X1 _ h) rfl rfl 6 (by decide) (by decide +kernel) rfl rfl dX5_findReach_40 ?_
  refine v_icmp_ge (tgt := 99) G dX5_findReach_43 (by decide) (fun c10 => ?_) (fun c10 => ?_)
  · replace h := (if_pos c10).symm.trans h
    cases h
    refine v_locs (L' := []) [] rfl ?_
    exact K
  · replace h := (if_neg c10).symm.trans h
    refine v_iconst (v := 0) G dX5_findReach_46 (by decide) ?_
    refine v_istore_n (L' := [(2, .int 0), (0, .ref (q 2)), (1, .int v1)]) G dX5_findReach_47 rfl (by decide) rfl ?_
    obtain ⟨x21, e22, h⟩ := Option.bind_eq_some_iff.mp h
    refine v_locs (L' := [(0, .ref (q 2)), (1, .int v1), (2, .int 0)]) [1, 2, 0] rfl ?_
    have l25 := v_lp (b := m_X5_findReach_L48 v1) (I := fun x => apV Γ 3 (apU layC q (apd Γ) x.1) 0 0 48 [(0, .ref (q 2)), (1, .int v1), (2, .int x.2)] []) (O := fun x => apV Γ 3 (apU layC q (apd Γ) x.1) 0 0 93 [(0, .ref (q 2)), (1, .int v1)] []) (fun x r hb hK => by obtain ⟨ys, y2⟩ := x; rcases r with r | r <;> exact w_X5_findReach_L48 G hK hb) FU (s0, 0) x21 e22
    obtain ⟨s24, v23⟩ := x21
    dsimp only at h
    refine l25 ?_
    refine v_iinc (v := v1 + 1) (L' := [(1, .int (v1 + 1)), (0, .ref (q 2))]) G dX5_findReach_93 1 rfl rfl (by decide) rfl ?_
    refine v_goto (tgt := 35) G dX5_findReach_96 (by decide) ?_
    cases h
    refine v_locs (L' := [(0, .ref (q 2)), (1, .int (v1 + 1))]) [1, 0] rfl ?_
    exact K
def m_X5_findReach (s : apM)  : Option apM := Option.bind (lp FU (m_X5_findReach_L2) (s, 0)) (fun x6 => match x6 with | (s9, v8) => Option.bind (lp FU (m_X5_findReach_L35) (s9, 0)) (fun x26 => match x26 with | (s29, v28) => some s29))
set_option maxHeartbeats 4000000 in
set_option maxRecDepth 100000 in
theorem w_X5_findReach {Γ : apC} {q : Nat → Nat} (G : apG Γ cX5_findReach 3 RX5 wsX5_findReach (apRm 2 0) apXC) {s : apM} {r : apM} (K : apR Γ cX5_findReach 0 0 none (apU layC q (apd Γ) r)) (h : m_X5_findReach s = some r) : apV Γ 3 (apU layC q (apd Γ) s) 0 0 0 [(0, .ref (q 2))] [] := by
  unfold m_X5_findReach at h
  refine v_iconst (v := 0) G dX5_findReach_0 (by decide) ?_
  refine v_istore_n (L' := [(1, .int 0), (0, .ref (q 2))]) G dX5_findReach_1 rfl (by decide) rfl ?_
  obtain ⟨x6, e7, h⟩ := Option.bind_eq_some_iff.mp h
  refine v_locs (L' := [(0, .ref (q 2)), (1, .int 0)]) [1, 0] rfl ?_
  have l31 := v_lp (b := m_X5_findReach_L2) (I := fun x => apV Γ 3 (apU layC q (apd Γ) x.1) 0 0 2 [(0, .ref (q 2)), (1, .int x.2)] []) (O := fun x => apV Γ 3 (apU layC q (apd Γ) x.1) 0 0 33 [(0, .ref (q 2))] []) (fun x r hb hK => by obtain ⟨ys, y1⟩ := x; rcases r with r | r <;> exact w_X5_findReach_L2 G hK hb) FU (s, 0) x6 e7
  obtain ⟨s9, v8⟩ := x6
  dsimp only at h
  refine l31 ?_
  refine v_iconst (v := 0) G dX5_findReach_33 (by decide) ?_
  refine v_istore_n (L' := [(1, .int 0), (0, .ref (q 2))]) G dX5_findReach_34 rfl (by decide) rfl ?_
  obtain ⟨x26, e27, h⟩ := Option.bind_eq_some_iff.mp h
  refine v_locs (L' := [(0, .ref (q 2)), (1, .int 0)]) [1, 0] rfl ?_
  have l30 := v_lp (b := m_X5_findReach_L35) (I := fun x => apV Γ 3 (apU layC q (apd Γ) x.1) 0 0 35 [(0, .ref (q 2)), (1, .int x.2)] []) (O := fun x => apV Γ 3 (apU layC q (apd Γ) x.1) 0 0 99 [] []) (fun x r hb hK => by obtain ⟨ys, y1⟩ := x; rcases r with r | r <;> exact w_X5_findReach_L35 G hK hb) FU (s9, 0) x26 e27
  obtain ⟨s29, v28⟩ := x26
  dsimp only at h
  refine l30 ?_
  cases h
  exact v_vret G K (by decide) (by decide) dX5_findReach_99
theorem c_X5_findReach (l : Launch) {s : apM} {r : apM} (h : m_X5_findReach s = some r) : apMv l layC apXC yX5_findReach wsX5_findReach 2 (fun q => [.ref (q 2)]) s r := apMv_of (cc := cX5_findReach) (nL := 3) (by decide) rfl (fun _ => Nat.le_of_ble_eq_true rfl) (fun Γ q hl G K => w_X5_findReach G K h)
theorem i_X5_follow_X1 : ∀ w ∈ u_ws RX1 TX1 7, w ∈ wsX5_follow := by decide +kernel
theorem i_X5_follow_X5 : ∀ w ∈ u_ws RX5 TX5 5, w ∈ wsX5_follow := by decide +kernel
def m_X5_follow_L2 (v1 : Int32) : (apM × Int32) → Option ((apM × Int32) ⊕ (apM × Int32)) := fun (s0, v2) => Option.bind (ast s0 15 12 (s0 2 4) v2) (fun s1 => Option.bind (m_X5_nearest (mst s1 2 4 ((s1 2 4) + 1)) v2) (fun t3 => if t3 = v1 then (some (.inr (mst s1 2 4 ((s1 2 4) + 1), t3))) else (if t3 = (-1) then (some (.inr (mst s1 2 4 ((s1 2 4) + 1), t3))) else (if ((mst s1 2 4 ((s1 2 4) + 1)) 2 4) < ((mst s1 2 4 ((s1 2 4) + 1)) 1 6) then (some (.inl (mst s1 2 4 ((s1 2 4) + 1), t3))) else (some (.inr (mst s1 2 4 ((s1 2 4) + 1), t3)))))))
set_option maxHeartbeats 4000000 in
set_option maxRecDepth 100000 in
theorem w_X5_follow_L2 {Γ : apC} {q : Nat → Nat} (G : apG Γ cX5_follow 3 RX5 wsX5_follow (apRm 1 0) apXC) {s0 : apM} {v1 v2 : Int32} {r : ((apM × Int32) ⊕ (apM × Int32))} (K : match r with | .inl x => apV Γ 3 (apU layC q (apd Γ) x.1) 0 0 2 [(0, .ref (q 2)), (1, .int v1), (2, .int x.2)] [] | .inr x => apV Γ 3 (apU layC q (apd Γ) x.1) 0 0 52 [] []) (h : m_X5_follow_L2 v1 (s0, v2) = some r) : apV Γ 3 (apU layC q (apd Γ) s0) 0 0 2 [(0, .ref (q 2)), (1, .int v1), (2, .int v2)] [] := by
  unfold m_X5_follow_L2 at h
  dsimp only at h
  refine v_aload_n G dX5_follow_2 rfl 0 rfl ?_
  refine v_getr (lay := layC) (k := 2) (k' := 15) (C := RX5) (T := TX5) (N := 5) G (fun _ h => i_X5_follow_X5 _ h) rfl rfl 3 (by decide) (by decide +kernel) rfl rfl dX5_follow_3 ?_
  refine v_aload_n G dX5_follow_6 rfl 0 rfl ?_
  refine v_geti (lay := layC) (k := 2) (C := RX5) (T := TX5) (N := 5) G (fun _ h => i_X5_follow_X5 _ h) rfl rfl 4 (by decide) (by decide +kernel) rfl rfl dX5_follow_7 ?_
  refine v_iload_n G dX5_follow_10 rfl 2 rfl ?_
  obtain ⟨s1, e2, h⟩ := Option.bind_eq_some_iff.mp h
  refine v_iast (lay := layC) (k := 15) (n := 12) G rfl e2 dX5_follow_11 ?_
  refine v_aload_n G dX5_follow_12 rfl 0 rfl ?_
  refine v_dup G dX5_follow_13 rfl ?_
  refine v_geti (lay := layC) (k := 2) (C := RX5) (T := TX5) (N := 5) G (fun _ h => i_X5_follow_X5 _ h) rfl rfl 4 (by decide) (by decide +kernel) rfl rfl dX5_follow_14 ?_
  refine v_iconst (v := 1) G dX5_follow_17 (by decide) ?_
  refine v_iadd G dX5_follow_18 ?_
  refine v_put (lay := layC) (k := 2) (C := RX5) (T := TX5) (N := 5) G (fun _ h => i_X5_follow_X5 _ h) tyX5 tyX5_ok nmX5 rfl rfl 4 (by decide) (by decide +kernel) rfl rfl (by first | rfl | decide) (by first | rfl | decide) rfl dX5_follow_19 ?_
  refine v_aload_n G dX5_follow_22 rfl 0 rfl ?_
  refine v_iload_n G dX5_follow_23 rfl 2 rfl ?_
  obtain ⟨t3, e4, h⟩ := Option.bind_eq_some_iff.mp h
  refine v_calliV (lay := layC) (As := [.int v2]) (st := []) (n := 1) (C := RX5) (T := TX5) (k0 := 2) G apXCok (c_X5_nearest Γ.1.2.1 e4) gX5_follow_X5_nearest rfl (by decide +kernel) (by decide) rfl rfl rfl rfl (Nat.le_of_ble_eq_true rfl) (by decide) rfl dX5_follow_24 ?_
  refine v_istore_n (L' := [(2, .int t3), (0, .ref (q 2)), (1, .int v1)]) G dX5_follow_27 rfl (by decide) rfl ?_
  refine v_iload_n G dX5_follow_28 rfl 0 rfl ?_
  refine v_iload_n G dX5_follow_29 rfl 2 rfl ?_
  refine v_icmp_eq (tgt := 52) G dX5_follow_30 (by decide) (fun c5 => ?_) (fun c5 => ?_)
  · replace h := (if_pos c5).symm.trans h
    cases h
    refine v_locs (L' := []) [] rfl ?_
    exact K
  · replace h := (if_neg c5).symm.trans h
    refine v_iload_n G dX5_follow_33 rfl 0 rfl ?_
    refine v_iconst (v := (-1)) G dX5_follow_34 (by decide) ?_
    refine v_icmp_eq (tgt := 52) G dX5_follow_35 (by decide) (fun c6 => ?_) (fun c6 => ?_)
    · replace h := (if_pos c6).symm.trans h
      cases h
      refine v_locs (L' := []) [] rfl ?_
      exact K
    · replace h := (if_neg c6).symm.trans h
      refine v_aload_n G dX5_follow_38 rfl 1 rfl ?_
      refine v_geti (lay := layC) (k := 2) (C := RX5) (T := TX5) (N := 5) G (fun _ h => i_X5_follow_X5 _ h) rfl rfl 4 (by decide) (by decide +kernel) rfl rfl dX5_follow_39 ?_
      refine v_aload_n G dX5_follow_42 rfl 1 rfl ?_
      refine v_getr (lay := layC) (k := 2) (k' := 1) (C := RX5) (T := TX5) (N := 5) G (fun _ h => i_X5_follow_X5 _ h) rfl rfl 0 (by decide) (by decide +kernel) rfl rfl dX5_follow_43 ?_
      refine v_geti (lay := layC) (k := 1) (C := RX1) (T := TX1) (N := 7) G (fun _ h => i_X5_follow_X1 _ h) rfl rfl 6 (by decide) (by decide +kernel) rfl rfl dX5_follow_46 ?_
      refine v_icmp_lt (tgt := 2) G dX5_follow_49 (by decide) (fun c7 => ?_) (fun c7 => ?_)
      · replace h := (if_pos c7).symm.trans h
        cases h
        refine v_locs (L' := [(0, .ref (q 2)), (1, .int v1), (2, .int t3)]) [1, 2, 0] rfl ?_
        exact K
      · replace h := (if_neg c7).symm.trans h
        cases h
        refine v_locs (L' := []) [] rfl ?_
        exact K
def m_X5_follow (s : apM) (v1 : Int32) : Option apM := Option.bind (lp FU (m_X5_follow_L2 v1) (s, v1)) (fun x8 => match x8 with | (s11, v10) => some s11)
set_option maxHeartbeats 4000000 in
set_option maxRecDepth 100000 in
theorem w_X5_follow {Γ : apC} {q : Nat → Nat} (G : apG Γ cX5_follow 3 RX5 wsX5_follow (apRm 1 0) apXC) {s : apM} {v1 : Int32} {r : apM} (K : apR Γ cX5_follow 0 0 none (apU layC q (apd Γ) r)) (h : m_X5_follow s v1 = some r) : apV Γ 3 (apU layC q (apd Γ) s) 0 0 0 [(0, .ref (q 2)), (1, .int v1)] [] := by
  unfold m_X5_follow at h
  refine v_iload_n G dX5_follow_0 rfl 1 rfl ?_
  refine v_istore_n (L' := [(2, .int v1), (0, .ref (q 2)), (1, .int v1)]) G dX5_follow_1 rfl (by decide) rfl ?_
  obtain ⟨x8, e9, h⟩ := Option.bind_eq_some_iff.mp h
  refine v_locs (L' := [(0, .ref (q 2)), (1, .int v1), (2, .int v1)]) [1, 2, 0] rfl ?_
  have l12 := v_lp (b := m_X5_follow_L2 v1) (I := fun x => apV Γ 3 (apU layC q (apd Γ) x.1) 0 0 2 [(0, .ref (q 2)), (1, .int v1), (2, .int x.2)] []) (O := fun x => apV Γ 3 (apU layC q (apd Γ) x.1) 0 0 52 [] []) (fun x r hb hK => by obtain ⟨ys, y2⟩ := x; rcases r with r | r <;> exact w_X5_follow_L2 G hK hb) FU (s, v1) x8 e9
  obtain ⟨s11, v10⟩ := x8
  dsimp only at h
  refine l12 ?_
  cases h
  exact v_vret G K (by decide) (by decide) dX5_follow_52
theorem c_X5_follow (l : Launch) {s : apM} {v1 : Int32} {r : apM} (h : m_X5_follow s v1 = some r) : apMv l layC apXC yX5_follow wsX5_follow 1 (fun q => [.ref (q 2), .int v1]) s r := apMv_of (cc := cX5_follow) (nL := 3) (by decide) rfl (fun _ => Nat.le_of_ble_eq_true rfl) (fun Γ q hl G K => w_X5_follow G K h)
theorem i_X5_find_X1 : ∀ w ∈ u_ws RX1 TX1 7, w ∈ wsX5_find := by decide +kernel
theorem i_X5_find_X5 : ∀ w ∈ u_ws RX5 TX5 5, w ∈ wsX5_find := by decide +kernel
def m_X5_find_L11 (s : apM)  : Int32 → Option ((Int32) ⊕ (apM ⊕ (Int32))) := fun v1 => if (s 1 6) ≤ v1 then (some (.inr (.inr v1))) else (Option.bind (ald s 13 12 v1) (fun t4 => if (m_X6_contains t4 v1) = 0 then (some (.inl (v1 + 1))) else (Option.bind (m_X5_countSteps s v1) (fun s7 => Option.bind (m_X5_follow s7 v1) (fun s9 => some (.inr (.inl s9)))))))
set_option maxHeartbeats 4000000 in
set_option maxRecDepth 100000 in
theorem w_X5_find_L11 {Γ : apC} {q : Nat → Nat} (G : apG Γ cX5_find 2 RX5 wsX5_find (apRm 3 0) apXC) {s : apM} {v1 : Int32} {r : ((Int32) ⊕ (apM ⊕ (Int32)))} (K : match r with | .inl x => apV Γ 2 (apU layC q (apd Γ) s) 0 0 11 [(0, .ref (q 2)), (1, .int x)] [] | .inr (.inl r) => apR Γ cX5_find 0 0 none (apU layC q (apd Γ) r) | .inr (.inr x) => apV Γ 2 (apU layC q (apd Γ) s) 0 0 52 [] []) (h : m_X5_find_L11 s v1 = some r) : apV Γ 2 (apU layC q (apd Γ) s) 0 0 11 [(0, .ref (q 2)), (1, .int v1)] [] := by
  unfold m_X5_find_L11 at h
  refine v_iload_n G dX5_find_11 rfl 1 rfl ?_
  refine v_aload_n G dX5_find_12 rfl 0 rfl ?_
  refine v_getr (lay := layC) (k := 2) (k' := 1) (C := RX5) (T := TX5) (N := 5) G (fun _ h => i_X5_find_X5 _ h) rfl rfl 0 (by decide) (by decide +kernel) rfl rfl dX5_find_13 ?_
  refine v_geti (lay := layC) (k := 1) (C := RX1) (T := TX1) (N := 7) G (fun _ h => i_X5_find_X1 _ h) rfl rfl 6 (by decide) (by decide +kernel) rfl rfl dX5_find_16 ?_
  refine v_icmp_ge (tgt := 52) G dX5_find_19 (by decide) (fun c3 => ?_) (fun c3 => ?_)
  · replace h := (if_pos c3).symm.trans h
    cases h
    refine v_locs (L' := []) [] rfl ?_
    exact K
  · replace h := (if_neg c3).symm.trans h
    refine v_aload_n G dX5_find_22 rfl 0 rfl ?_
    refine v_getr (lay := layC) (k := 2) (k' := 13) (C := RX5) (T := TX5) (N := 5) G (fun _ h => i_X5_find_X5 _ h) rfl rfl 1 (by decide) (by decide +kernel) rfl rfl dX5_find_23 ?_
    refine v_iload_n G dX5_find_26 rfl 1 rfl ?_
    obtain ⟨t4, e5, h⟩ := Option.bind_eq_some_iff.mp h
    refine v_iald (lay := layC) (k := 13) (n := 12) G rfl e5 dX5_find_27 ?_
    refine v_iload_n G dX5_find_28 rfl 1 rfl ?_
    refine v_calliN (lay := layC) (As := [.int t4, .int v1]) (st := []) (n := 2) G apXCok (c_X6_contains Γ.1.2.1 (s := s) rfl) gX5_find_X6_contains_n37 rfl (apNest_in G (by decide)) (by decide +kernel) (by decide +kernel) (by decide +kernel) (by decide) rfl rfl (Nat.le_of_ble_eq_true rfl) (by decide) rfl dX5_find_29 ?_
    refine v_if_eq (tgt := 46) G dX5_find_32 (by decide) (fun c6 => ?_) (fun c6 => ?_)
    · replace h := (if_pos c6).symm.trans h
      refine v_iinc (v := v1 + 1) (L' := [(1, .int (v1 + 1)), (0, .ref (q 2))]) G dX5_find_46 1 rfl rfl (by decide) rfl ?_
      refine v_goto (tgt := 11) G dX5_find_49 (by decide) ?_
      cases h
      refine v_locs (L' := [(0, .ref (q 2)), (1, .int (v1 + 1))]) [1, 0] rfl ?_
      exact K
    · replace h := (if_neg c6).symm.trans h
      refine v_aload_n G dX5_find_35 rfl 0 rfl ?_
      refine v_iload_n G dX5_find_36 rfl 1 rfl ?_
      obtain ⟨s7, e8, h⟩ := Option.bind_eq_some_iff.mp h
      refine v_callvV (lay := layC) (As := [.int v1]) (st := []) (n := 1) (C := RX5) (T := TX5) (k0 := 2) G apXCok (c_X5_countSteps Γ.1.2.1 e8) gX5_find_X5_countSteps rfl (by decide +kernel) (by decide) rfl rfl rfl rfl (Nat.le_of_ble_eq_true rfl) (by decide) rfl dX5_find_37 ?_
      refine v_aload_n G dX5_find_40 rfl 0 rfl ?_
      refine v_iload_n G dX5_find_41 rfl 1 rfl ?_
      obtain ⟨s9, e10, h⟩ := Option.bind_eq_some_iff.mp h
      refine v_callvV (lay := layC) (As := [.int v1]) (st := []) (n := 1) (C := RX5) (T := TX5) (k0 := 2) G apXCok (c_X5_follow Γ.1.2.1 e10) gX5_find_X5_follow rfl (by decide +kernel) (by decide) rfl rfl rfl rfl (Nat.le_of_ble_eq_true rfl) (by decide) rfl dX5_find_42 ?_
      cases h
      exact v_vret G K (by decide) (by decide) dX5_find_45
def m_X5_find (s : apM)  : Option apM := Option.bind (m_X5_findReach (mst s 2 4 0)) (fun s1 => Option.bind (lp FU (m_X5_find_L11 s1) 0) (fun x11 => match x11 with | .inl r15 => some r15 | .inr v13 => some s1))
set_option maxHeartbeats 4000000 in
set_option maxRecDepth 100000 in
theorem w_X5_find {Γ : apC} {q : Nat → Nat} (G : apG Γ cX5_find 2 RX5 wsX5_find (apRm 3 0) apXC) {s : apM} {r : apM} (K : apR Γ cX5_find 0 0 none (apU layC q (apd Γ) r)) (h : m_X5_find s = some r) : apV Γ 2 (apU layC q (apd Γ) s) 0 0 0 [(0, .ref (q 2))] [] := by
  unfold m_X5_find at h
  refine v_aload_n G dX5_find_0 rfl 0 rfl ?_
  refine v_iconst (v := 0) G dX5_find_1 (by decide) ?_
  refine v_put (lay := layC) (k := 2) (C := RX5) (T := TX5) (N := 5) G (fun _ h => i_X5_find_X5 _ h) tyX5 tyX5_ok nmX5 rfl rfl 4 (by decide) (by decide +kernel) rfl rfl (by first | rfl | decide) (by first | rfl | decide) rfl dX5_find_2 ?_
  refine v_aload_n G dX5_find_5 rfl 0 rfl ?_
  obtain ⟨s1, e2, h⟩ := Option.bind_eq_some_iff.mp h
  refine v_callvV (lay := layC) (As := []) (st := []) (n := 0) (C := RX5) (T := TX5) (k0 := 2) G apXCok (c_X5_findReach Γ.1.2.1 e2) gX5_find_X5_findReach rfl (by decide +kernel) (by decide) rfl rfl rfl rfl (Nat.le_of_ble_eq_true rfl) (by decide) rfl dX5_find_6 ?_
  refine v_iconst (v := 0) G dX5_find_9 (by decide) ?_
  refine v_istore_n (L' := [(1, .int 0), (0, .ref (q 2))]) G dX5_find_10 rfl (by decide) rfl ?_
  obtain ⟨x11, e12, h⟩ := Option.bind_eq_some_iff.mp h
  refine v_locs (L' := [(0, .ref (q 2)), (1, .int 0)]) [1, 0] rfl ?_
  have l14 := v_lp (b := m_X5_find_L11 s1) (I := fun x => apV Γ 2 (apU layC q (apd Γ) s1) 0 0 11 [(0, .ref (q 2)), (1, .int x)] []) (O := fun x => match x with | .inl r => apR Γ cX5_find 0 0 none (apU layC q (apd Γ) r) | .inr x => apV Γ 2 (apU layC q (apd Γ) s1) 0 0 52 [] []) (fun x r hb hK => by rcases r with r | r | r <;> exact w_X5_find_L11 G hK hb) FU 0 x11 e12
  rcases x11 with r15 | x11
  · cases h
    exact l14 K
  · obtain ⟨v13, rfl⟩ : ∃ z, z = x11 := ⟨_, rfl⟩
    refine l14 ?_
    cases h
    exact v_vret G K (by decide) (by decide) dX5_find_52
theorem c_X5_find (l : Launch) {s : apM} {r : apM} (h : m_X5_find s = some r) : apMv l layC apXC yX5_find wsX5_find 3 (fun q => [.ref (q 2)]) s r := apMv_of (cc := cX5_find) (nL := 2) (by decide) rfl (fun _ => Nat.le_of_ble_eq_true rfl) (fun Γ q hl G K => w_X5_find G K h)
def m_X6_canBeMade_B36 (v1 : Int32) : Int32 := if v1 < 1 then 0 else (if 16 < v1 then 0 else 1)
set_option maxHeartbeats 4000000 in
set_option maxRecDepth 100000 in
theorem w_X6_canBeMade_B36 {Γ : apC} {q : Nat → Nat} (G : apG Γ cX6_canBeMade 3 RX6 wsX6_canBeMade (apRm 1 0) apXC) {s : apM} {v1 : Int32} {r : Int32} (K : apR Γ cX6_canBeMade 0 0 (some r) (apU layC q (apd Γ) s)) (h : m_X6_canBeMade_B36 v1 = r) : apV Γ 3 (apU layC q (apd Γ) s) 0 0 36 [(1, .int v1)] [] := by
  unfold m_X6_canBeMade_B36 at h
  refine v_iload_n G dX6_canBeMade_36 rfl 0 rfl ?_
  refine v_iconst (v := 1) G dX6_canBeMade_37 (by decide) ?_
  refine v_icmp_lt (tgt := 51) G dX6_canBeMade_38 (by decide) (fun c2 => ?_) (fun c2 => ?_)
  · replace h := (if_pos c2).symm.trans h
    refine v_iconst (v := 0) G dX6_canBeMade_51 (by decide) ?_
    subst h
    exact v_iret G K (by decide) (by decide) dX6_canBeMade_52
  · replace h := (if_neg c2).symm.trans h
    refine v_iload_n G dX6_canBeMade_41 rfl 0 rfl ?_
    refine v_bipush (v := 16) G dX6_canBeMade_42 (by decide) ?_
    refine v_icmp_gt (tgt := 51) G dX6_canBeMade_44 (by decide) (fun c3 => ?_) (fun c3 => ?_)
    · replace h := (if_pos c3).symm.trans h
      refine v_iconst (v := 0) G dX6_canBeMade_51 (by decide) ?_
      subst h
      exact v_iret G K (by decide) (by decide) dX6_canBeMade_52
    · replace h := (if_neg c3).symm.trans h
      refine v_iconst (v := 1) G dX6_canBeMade_47 (by decide) ?_
      refine v_goto (tgt := 52) G dX6_canBeMade_48 (by decide) ?_
      subst h
      exact v_iret G K (by decide) (by decide) dX6_canBeMade_52
theorem z_X6_canBeMade_B36 {s : apM} {v1 : Int32} {r : Int32} (h : m_X6_canBeMade_B36 v1 = r) : r = 0 ∨ r = 1 := by
  unfold m_X6_canBeMade_B36 at h
  by_cases c2 : v1 < 1
  · replace h := (if_pos c2).symm.trans h
    subst h
    exact Or.inl rfl
  · replace h := (if_neg c2).symm.trans h
    by_cases c3 : 16 < v1
    · replace h := (if_pos c3).symm.trans h
      subst h
      exact Or.inl rfl
    · replace h := (if_neg c3).symm.trans h
      subst h
      exact Or.inr rfl
def m_X6_canBeMade (v0 : Int32) (v1 : Int32) (v2 : Int32) : Int32 := if v0 = 0 then (m_X6_canBeMade_B36 v1) else (if v0 = 5 then (if (m_X6_isWithin v1 40) = 0 then 0 else (if v2 < 1 then 0 else (if 16 < v2 then 0 else 1))) else (if v0 = 7 then (m_X6_canBeMade_B36 v1) else ((m_X6_isWithin v0 8))))
set_option maxHeartbeats 4000000 in
set_option maxRecDepth 100000 in
theorem w_X6_canBeMade {Γ : apC} {q : Nat → Nat} (G : apG Γ cX6_canBeMade 3 RX6 wsX6_canBeMade (apRm 1 0) apXC) {s : apM} {v0 v1 v2 : Int32} {r : Int32} (K : apR Γ cX6_canBeMade 0 0 (some r) (apU layC q (apd Γ) s)) (h : m_X6_canBeMade v0 v1 v2 = r) : apV Γ 3 (apU layC q (apd Γ) s) 0 0 0 [(0, .int v0), (1, .int v1), (2, .int v2)] [] := by
  unfold m_X6_canBeMade at h
  refine v_iload_n G dX6_canBeMade_0 rfl 0 rfl ?_
  by_cases c1 : v0 = 0
  · replace h := (if_pos c1).symm.trans h
    refine v_lookupI (c := 0) (tgt := 36) G dX6_canBeMade_1 c1 (by decide) rfl (by decide) ?_
    refine v_locs (L' := [(1, .int v1)]) [1] rfl ?_
    exact w_X6_canBeMade_B36 G K h
  · replace h := (if_neg c1).symm.trans h
    by_cases c4 : v0 = 5
    · replace h := (if_pos c4).symm.trans h
      refine v_lookupI (c := 5) (tgt := 53) G dX6_canBeMade_1 c4 (by decide) rfl (by decide) ?_
      refine v_iload_n G dX6_canBeMade_53 rfl 1 rfl ?_
      refine v_bipush (v := 40) G dX6_canBeMade_54 (by decide) ?_
      refine v_calliS (lay := layC) (As := [.int v1, .int 40]) (st := []) (n := 2) G apXCok (c_X6_isWithin Γ.1.2.1 (s := s) rfl) gX6_canBeMade_X6_isWithin rfl (by decide +kernel) (by decide) rfl rfl (Nat.le_of_ble_eq_true rfl) (by decide) rfl dX6_canBeMade_56 ?_
      refine v_if_eq (tgt := 77) G dX6_canBeMade_59 (by decide) (fun c5 => ?_) (fun c5 => ?_)
      · replace h := (if_pos c5).symm.trans h
        refine v_iconst (v := 0) G dX6_canBeMade_77 (by decide) ?_
        subst h
        exact v_iret G K (by decide) (by decide) dX6_canBeMade_78
      · replace h := (if_neg c5).symm.trans h
        refine v_iload_n G dX6_canBeMade_62 rfl 2 rfl ?_
        refine v_iconst (v := 1) G dX6_canBeMade_63 (by decide) ?_
        refine v_icmp_lt (tgt := 77) G dX6_canBeMade_64 (by decide) (fun c6 => ?_) (fun c6 => ?_)
        · replace h := (if_pos c6).symm.trans h
          refine v_iconst (v := 0) G dX6_canBeMade_77 (by decide) ?_
          subst h
          exact v_iret G K (by decide) (by decide) dX6_canBeMade_78
        · replace h := (if_neg c6).symm.trans h
          refine v_iload_n G dX6_canBeMade_67 rfl 2 rfl ?_
          refine v_bipush (v := 16) G dX6_canBeMade_68 (by decide) ?_
          refine v_icmp_gt (tgt := 77) G dX6_canBeMade_70 (by decide) (fun c7 => ?_) (fun c7 => ?_)
          · replace h := (if_pos c7).symm.trans h
            refine v_iconst (v := 0) G dX6_canBeMade_77 (by decide) ?_
            subst h
            exact v_iret G K (by decide) (by decide) dX6_canBeMade_78
          · replace h := (if_neg c7).symm.trans h
            refine v_iconst (v := 1) G dX6_canBeMade_73 (by decide) ?_
            refine v_goto (tgt := 78) G dX6_canBeMade_74 (by decide) ?_
            subst h
            exact v_iret G K (by decide) (by decide) dX6_canBeMade_78
    · replace h := (if_neg c4).symm.trans h
      by_cases c8 : v0 = 7
      · replace h := (if_pos c8).symm.trans h
        refine v_lookupI (c := 7) (tgt := 36) G dX6_canBeMade_1 c8 (by decide) rfl (by decide) ?_
        refine v_locs (L' := [(1, .int v1)]) [1] rfl ?_
        exact w_X6_canBeMade_B36 G K h
      · replace h := (if_neg c8).symm.trans h
        refine v_lookup (tgt := 79) (off := 78) G dX6_canBeMade_1 (by decide) (by show Op.lookupswitch.offset [(0, 35), (5, 52), (7, 35)] 78 _ = _; rw [lv_osw (a := 0) c1 (by decide), lv_osw (a := 5) c4 (by decide), lv_osw (a := 7) c8 (by decide)]; rfl) (by decide) ?_
        refine v_iload_n G dX6_canBeMade_79 rfl 0 rfl ?_
        refine v_sget G (by decide +kernel) dX6_canBeMade_80 (fun b9 f10 => ?_)
        refine v_slen G f10 dX6_canBeMade_83 ?_
        refine v_calliS (lay := layC) (As := [.int v0, .int 8]) (st := []) (n := 2) G apXCok (c_X6_isWithin Γ.1.2.1 (s := s) rfl) gX6_canBeMade_X6_isWithin rfl (by decide +kernel) (by decide) rfl rfl (Nat.le_of_ble_eq_true rfl) (by decide) rfl dX6_canBeMade_84 ?_
        subst h
        exact v_iret G K (by decide) (by decide) dX6_canBeMade_87
theorem z_X6_canBeMade {s : apM} {v0 v1 v2 : Int32} {r : Int32} (h : m_X6_canBeMade v0 v1 v2 = r) : r = 0 ∨ r = 1 := by
  unfold m_X6_canBeMade at h
  by_cases c1 : v0 = 0
  · replace h := (if_pos c1).symm.trans h
    exact z_X6_canBeMade_B36 (s := s) h
  · replace h := (if_neg c1).symm.trans h
    by_cases c4 : v0 = 5
    · replace h := (if_pos c4).symm.trans h
      by_cases c5 : (m_X6_isWithin v1 40) = 0
      · replace h := (if_pos c5).symm.trans h
        subst h
        exact Or.inl rfl
      · replace h := (if_neg c5).symm.trans h
        by_cases c6 : v2 < 1
        · replace h := (if_pos c6).symm.trans h
          subst h
          exact Or.inl rfl
        · replace h := (if_neg c6).symm.trans h
          by_cases c7 : 16 < v2
          · replace h := (if_pos c7).symm.trans h
            subst h
            exact Or.inl rfl
          · replace h := (if_neg c7).symm.trans h
            subst h
            exact Or.inr rfl
    · replace h := (if_neg c4).symm.trans h
      by_cases c8 : v0 = 7
      · replace h := (if_pos c8).symm.trans h
        exact z_X6_canBeMade_B36 (s := s) h
      · replace h := (if_neg c8).symm.trans h
        subst h
        exact z_X6_isWithin (s := s) rfl
theorem c_X6_canBeMade (l : Launch) {s : apM} {v0 v1 v2 : Int32} {r : Int32} (h : m_X6_canBeMade v0 v1 v2 = r) : apMi l layC apXC yX6_canBeMade wsX6_canBeMade 1 (fun q => [.int v0, .int v1, .int v2]) s r s := apMi_of (cc := cX6_canBeMade) (nL := 3) (r := r) (by decide) rfl (by rcases z_X6_canBeMade (s := s) h with e | e <;> rw [e] <;> rfl) (fun _ => Nat.le_of_ble_eq_true rfl) (fun Γ q hl G K => w_X6_canBeMade G K h)
