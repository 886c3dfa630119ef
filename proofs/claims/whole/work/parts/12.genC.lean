/-! ===== models of methods, and that the bytecode does what they say (by gen.py) ===== -/
theorem i_X0_valueOf_X0 : ∀ w ∈ u_ws RX0 TX0 4, w ∈ wsX0_valueOf := by decide +kernel
theorem i_X0_valueOf_X3 : ∀ w ∈ u_ws RX3 TX3 4, w ∈ wsX0_valueOf := by decide +kernel
def m_X0_valueOf (s : apM) (v1 : Int32) (v2 : Int32) : Option Int32 := Option.bind (ald s 25 12 v1) (fun t1 => Option.bind (ald s 26 480 (t1 + v2)) (fun t3 => some t3))
set_option maxHeartbeats 4000000 in
set_option maxRecDepth 100000 in
theorem w_X0_valueOf {Γ : apC} {q : Nat → Nat} (G : apG Γ cX0_valueOf 3 RX0 wsX0_valueOf (apRm 0 0) apXC) {s : apM} {v1 v2 : Int32} {r : Int32} (K : apR Γ cX0_valueOf 0 0 (some r) (apU layC q (apd Γ) s)) (h : m_X0_valueOf s v1 v2 = some r) : apV Γ 3 (apU layC q (apd Γ) s) 0 0 0 [(0, .ref (q 5)), (1, .int v1), (2, .int v2)] [] := by
  unfold m_X0_valueOf at h
  refine v_aload_n G dX0_valueOf_0 rfl 0 rfl ?_
  refine v_getr (lay := layC) (k := 5) (k' := 26) (C := RX0) (T := TX0) (N := 4) G (fun _ h => i_X0_valueOf_X0 _ h) rfl rfl 3 (by decide) (by decide +kernel) rfl rfl dX0_valueOf_1 ?_
  refine v_aload_n G dX0_valueOf_4 rfl 0 rfl ?_
  refine v_getr (lay := layC) (k := 5) (k' := 4) (C := RX0) (T := TX0) (N := 4) G (fun _ h => i_X0_valueOf_X0 _ h) rfl rfl 2 (by decide) (by decide +kernel) rfl rfl dX0_valueOf_5 ?_
  refine v_getr (lay := layC) (k := 4) (k' := 25) (C := RX3) (T := TX3) (N := 4) G (fun _ h => i_X0_valueOf_X3 _ h) rfl rfl 2 (by decide) (by decide +kernel) rfl rfl dX0_valueOf_8 ?_
  refine v_iload_n G dX0_valueOf_11 rfl 1 rfl ?_
  obtain ⟨t1, e2, h⟩ := Option.bind_eq_some_iff.mp h
  refine v_iald (lay := layC) (k := 25) (n := 12) G rfl e2 dX0_valueOf_12 ?_
  refine v_iload_n G dX0_valueOf_13 rfl 2 rfl ?_
  refine v_iadd G dX0_valueOf_14 ?_
  obtain ⟨t3, e4, h⟩ := Option.bind_eq_some_iff.mp h
  refine v_iald (lay := layC) (k := 26) (n := 480) G rfl e4 dX0_valueOf_15 ?_
  cases h
  exact v_iret G K (by decide) (by decide) dX0_valueOf_16
theorem c_X0_valueOf (l : Launch) {s : apM} {v1 v2 : Int32} {r : Int32} (h : m_X0_valueOf s v1 v2 = some r) : apMi l layC apXC yX0_valueOf wsX0_valueOf 0 (fun q => [.ref (q 5), .int v1, .int v2]) s r s := apMi_of (cc := cX0_valueOf) (nL := 3) (r := r) (by decide) rfl rfl (fun _ => Nat.le_of_ble_eq_true rfl) (fun Γ q hl G K => w_X0_valueOf G K h)
theorem i_X0_totalOf_X0 : ∀ w ∈ u_ws RX0 TX0 4, w ∈ wsX0_totalOf := by decide +kernel
theorem i_X0_totalOf_X4 : ∀ w ∈ u_ws RX4 TX4 12, w ∈ wsX0_totalOf := by decide +kernel
def m_X0_totalOf_L4 (s : apM) (v1 : Int32) : (Int32 × Int32) → Option ((Int32 × Int32) ⊕ (Int32 × Int32)) := fun (v2, v3) => Option.bind (ald s 18 12 v1) (fun t1 => if t1 ≤ v3 then (some (.inr (v2, v3))) else (Option.bind (m_X0_valueOf s v1 v3) (fun t4 => some (.inl (v2 + t4, v3 + 1)))))
set_option maxHeartbeats 4000000 in
set_option maxRecDepth 100000 in
theorem w_X0_totalOf_L4 {Γ : apC} {q : Nat → Nat} (G : apG Γ cX0_totalOf 4 RX0 wsX0_totalOf (apRm 1 0) apXC) {s : apM} {v1 v2 v3 : Int32} {r : ((Int32 × Int32) ⊕ (Int32 × Int32))} (K : match r with | .inl x => apV Γ 4 (apU layC q (apd Γ) s) 0 0 4 [(0, .ref (q 5)), (1, .int v1), (2, .int x.1), (3, .int x.2)] [] | .inr x => apV Γ 4 (apU layC q (apd Γ) s) 0 0 32 [(2, .int x.1)] []) (h : m_X0_totalOf_L4 s v1 (v2, v3) = some r) : apV Γ 4 (apU layC q (apd Γ) s) 0 0 4 [(0, .ref (q 5)), (1, .int v1), (2, .int v2), (3, .int v3)] [] := by
  unfold m_X0_totalOf_L4 at h
  dsimp only at h
  refine v_iload_n G dX0_totalOf_4 rfl 3 rfl ?_
  refine v_aload_n G dX0_totalOf_5 rfl 0 rfl ?_
  refine v_getr (lay := layC) (k := 5) (k' := 3) (C := RX0) (T := TX0) (N := 4) G (fun _ h => i_X0_totalOf_X0 _ h) rfl rfl 1 (by decide) (by decide +kernel) rfl rfl dX0_totalOf_6 ?_
  refine v_getr (lay := layC) (k := 3) (k' := 18) (C := RX4) (T := TX4) (N := 12) G (fun _ h => i_X0_totalOf_X4 _ h) rfl rfl 3 (by decide) (by decide +kernel) rfl rfl dX0_totalOf_9 ?_
  refine v_iload_n G dX0_totalOf_12 rfl 1 rfl ?_
  obtain ⟨t1, e2, h⟩ := Option.bind_eq_some_iff.mp h
  refine v_iald (lay := layC) (k := 18) (n := 12) G rfl e2 dX0_totalOf_13 ?_
  refine v_icmp_ge (tgt := 32) G dX0_totalOf_14 (by decide) (fun c3 => ?_) (fun c3 => ?_)
  · replace h := (if_pos c3).symm.trans h
    cases h
    refine v_locs (L' := [(2, .int v2)]) [2] rfl ?_
    exact K
  · replace h := (if_neg c3).symm.trans h
    refine v_iload_n G dX0_totalOf_17 rfl 2 rfl ?_
    refine v_aload_n G dX0_totalOf_18 rfl 0 rfl ?_
    refine v_iload_n G dX0_totalOf_19 rfl 1 rfl ?_
    refine v_iload_n G dX0_totalOf_20 rfl 3 rfl ?_
    obtain ⟨t4, e5, h⟩ := Option.bind_eq_some_iff.mp h
    refine v_calliV (lay := layC) (As := [.int v1, .int v3]) (st := [.int v2]) (n := 2) (C := RX0) (T := TX0) (k0 := 5) G apXCok (c_X0_valueOf Γ.1.2.1 e5) gX0_totalOf_X0_valueOf rfl (by decide +kernel) (by decide) rfl rfl rfl rfl (Nat.le_of_ble_eq_true rfl) (by decide) rfl dX0_totalOf_21 ?_
    refine v_iadd G dX0_totalOf_24 ?_
    refine v_istore_n (L' := [(2, .int (v2 + t4)), (0, .ref (q 5)), (1, .int v1), (3, .int v3)]) G dX0_totalOf_25 rfl (by decide) rfl ?_
    refine v_iinc (v := v3 + 1) (L' := [(3, .int (v3 + 1)), (2, .int (v2 + t4)), (0, .ref (q 5)), (1, .int v1)]) G dX0_totalOf_26 3 rfl rfl (by decide) rfl ?_
    refine v_goto (tgt := 4) G dX0_totalOf_29 (by decide) ?_
    cases h
    refine v_locs (L' := [(0, .ref (q 5)), (1, .int v1), (2, .int (v2 + t4)), (3, .int (v3 + 1))]) [2, 3, 1, 0] rfl ?_
    exact K
def m_X0_totalOf (s : apM) (v1 : Int32) : Option Int32 := Option.bind (lp FU (m_X0_totalOf_L4 s v1) (0, 0)) (fun x6 => match x6 with | (v8, v9) => some v8)
set_option maxHeartbeats 4000000 in
set_option maxRecDepth 100000 in
theorem w_X0_totalOf {Γ : apC} {q : Nat → Nat} (G : apG Γ cX0_totalOf 4 RX0 wsX0_totalOf (apRm 1 0) apXC) {s : apM} {v1 : Int32} {r : Int32} (K : apR Γ cX0_totalOf 0 0 (some r) (apU layC q (apd Γ) s)) (h : m_X0_totalOf s v1 = some r) : apV Γ 4 (apU layC q (apd Γ) s) 0 0 0 [(0, .ref (q 5)), (1, .int v1)] [] := by
  unfold m_X0_totalOf at h
  refine v_iconst (v := 0) G dX0_totalOf_0 (by decide) ?_
  refine v_istore_n (L' := [(2, .int 0), (0, .ref (q 5)), (1, .int v1)]) G dX0_totalOf_1 rfl (by decide) rfl ?_
  refine v_iconst (v := 0) G dX0_totalOf_2 (by decide) ?_
  refine v_istore_n (L' := [(3, .int 0), (2, .int 0), (0, .ref (q 5)), (1, .int v1)]) G dX0_totalOf_3 rfl (by decide) rfl ?_
  obtain ⟨x6, e7, h⟩ := Option.bind_eq_some_iff.mp h
  refine v_locs (L' := [(0, .ref (q 5)), (1, .int v1), (2, .int 0), (3, .int 0)]) [2, 3, 1, 0] rfl ?_
  have l10 := v_lp (b := m_X0_totalOf_L4 s v1) (I := fun x => apV Γ 4 (apU layC q (apd Γ) s) 0 0 4 [(0, .ref (q 5)), (1, .int v1), (2, .int x.1), (3, .int x.2)] []) (O := fun x => apV Γ 4 (apU layC q (apd Γ) s) 0 0 32 [(2, .int x.1)] []) (fun x r hb hK => by obtain ⟨y2, y3⟩ := x; rcases r with r | r <;> exact w_X0_totalOf_L4 G hK hb) FU (0, 0) x6 e7
  obtain ⟨v8, v9⟩ := x6
  dsimp only at h
  refine l10 ?_
  refine v_iload_n G dX0_totalOf_32 rfl 0 rfl ?_
  cases h
  exact v_iret G K (by decide) (by decide) dX0_totalOf_33
theorem c_X0_totalOf (l : Launch) {s : apM} {v1 : Int32} {r : Int32} (h : m_X0_totalOf s v1 = some r) : apMi l layC apXC yX0_totalOf wsX0_totalOf 1 (fun q => [.ref (q 5), .int v1]) s r s := apMi_of (cc := cX0_totalOf) (nL := 4) (r := r) (by decide) rfl rfl (fun _ => Nat.le_of_ble_eq_true rfl) (fun Γ q hl G K => w_X0_totalOf G K h)
theorem i_X0_workOut_X0 : ∀ w ∈ u_ws RX0 TX0 4, w ∈ wsX0_workOut := by decide +kernel
theorem i_X0_workOut_X1 : ∀ w ∈ u_ws RX1 TX1 7, w ∈ wsX0_workOut := by decide +kernel
theorem i_X0_workOut_X4 : ∀ w ∈ u_ws RX4 TX4 12, w ∈ wsX0_workOut := by decide +kernel
def m_X0_workOut (s : apM) (v1 : Int32) (v2 : Int32) : Option Int32 := Option.bind (rix 12 v1) (fun j1 => Option.bind (ald s (41 + j1) 2 0) (fun t3 => Option.bind (rix 12 v1) (fun j5 => Option.bind (ald s (41 + j5) 2 1) (fun t7 => Option.bind (ald s 7 12 v1) (fun t9 => if t9 = 0 then (Option.bind (rix 12 v1) (fun j12 => Option.bind (ald s (29 + j12) 16 v2) (fun t14 => some t14))) else (if t9 = 1 then (Option.bind (m_X0_valueOf s t3 v2) (fun t17 => some (-t17))) else (if t9 = 2 then (Option.bind (m_X0_valueOf s t3 v2) (fun t20 => Option.bind (m_X0_valueOf s t7 v2) (fun t22 => some (t20 + t22)))) else (if t9 = 3 then (Option.bind (m_X0_valueOf s t3 v2) (fun t25 => Option.bind (m_X0_valueOf s t7 v2) (fun t27 => some (t25 * t27)))) else (if t9 = 4 then (Option.bind (ald s 18 12 t3) (fun t30 => if t30 ≤ v2 then (Option.bind (m_X0_valueOf s t7 (v2 - t30)) (fun t33 => some t33)) else (Option.bind (m_X0_valueOf s t3 v2) (fun t35 => some t35)))) else (if t9 = 5 then (Option.bind (ald s 8 12 v1) (fun t38 => Option.bind (m_X0_valueOf s t3 (t38 + v2)) (fun t40 => some t40))) else (if t9 = 6 then (Option.bind (m_X0_totalOf s t3) (fun t43 => some t43)) else (Option.bind (m_X0_valueOf s t3 0) (fun t45 => some t45)))))))))))))
set_option maxHeartbeats 4000000 in
set_option maxRecDepth 100000 in
theorem w_X0_workOut {Γ : apC} {q : Nat → Nat} (G : apG Γ cX0_workOut 6 RX0 wsX0_workOut (apRm 2 0) apXC) {s : apM} {v1 v2 : Int32} {r : Int32} (K : apR Γ cX0_workOut 0 0 (some r) (apU layC q (apd Γ) s)) (h : m_X0_workOut s v1 v2 = some r) : apV Γ 6 (apU layC q (apd Γ) s) 0 0 0 [(0, .ref (q 5)), (1, .int v1), (2, .int v2)] [] := by
  unfold m_X0_workOut at h
  refine v_aload_n G dX0_workOut_0 rfl 0 rfl ?_
  refine v_getr (lay := layC) (k := 5) (k' := 1) (C := RX0) (T := TX0) (N := 4) G (fun _ h => i_X0_workOut_X0 _ h) rfl rfl 0 (by decide) (by decide +kernel) rfl rfl dX0_workOut_1 ?_
  refine v_getr (lay := layC) (k := 1) (k' := 11) (C := RX1) (T := TX1) (N := 7) G (fun _ h => i_X0_workOut_X1 _ h) rfl rfl 4 (by decide) (by decide +kernel) rfl rfl dX0_workOut_4 ?_
  refine v_iload_n G dX0_workOut_7 rfl 1 rfl ?_
  obtain ⟨j1, e2, h⟩ := Option.bind_eq_some_iff.mp h
  refine v_aald (lay := layC) (k := 11) G rfl e2 dX0_workOut_8 ?_
  refine v_iconst (v := 0) G dX0_workOut_9 (by decide) ?_
  obtain ⟨t3, e4, h⟩ := Option.bind_eq_some_iff.mp h
  refine v_iald (lay := layC) G (layR_41 e2) e4 dX0_workOut_10 ?_
  refine v_istore_n (L' := [(3, .int t3), (0, .ref (q 5)), (1, .int v1), (2, .int v2)]) G dX0_workOut_11 rfl (by decide) rfl ?_
  refine v_aload_n G dX0_workOut_12 rfl 1 rfl ?_
  refine v_getr (lay := layC) (k := 5) (k' := 1) (C := RX0) (T := TX0) (N := 4) G (fun _ h => i_X0_workOut_X0 _ h) rfl rfl 0 (by decide) (by decide +kernel) rfl rfl dX0_workOut_13 ?_
  refine v_getr (lay := layC) (k := 1) (k' := 11) (C := RX1) (T := TX1) (N := 7) G (fun _ h => i_X0_workOut_X1 _ h) rfl rfl 4 (by decide) (by decide +kernel) rfl rfl dX0_workOut_16 ?_
  refine v_iload_n G dX0_workOut_19 rfl 2 rfl ?_
  obtain ⟨j5, e6, h⟩ := Option.bind_eq_some_iff.mp h
  refine v_aald (lay := layC) (k := 11) G rfl e6 dX0_workOut_20 ?_
  refine v_iconst (v := 1) G dX0_workOut_21 (by decide) ?_
  obtain ⟨t7, e8, h⟩ := Option.bind_eq_some_iff.mp h
  refine v_iald (lay := layC) G (layR_41 e6) e8 dX0_workOut_22 ?_
  refine v_istore (L' := [(4, .int t7), (3, .int t3), (0, .ref (q 5)), (1, .int v1), (2, .int v2)]) G dX0_workOut_23 (by decide) rfl ?_
  refine v_aload_n G dX0_workOut_25 rfl 2 rfl ?_
  refine v_getr (lay := layC) (k := 5) (k' := 1) (C := RX0) (T := TX0) (N := 4) G (fun _ h => i_X0_workOut_X0 _ h) rfl rfl 0 (by decide) (by decide +kernel) rfl rfl dX0_workOut_26 ?_
  refine v_getr (lay := layC) (k := 1) (k' := 7) (C := RX1) (T := TX1) (N := 7) G (fun _ h => i_X0_workOut_X1 _ h) rfl rfl 0 (by decide) (by decide +kernel) rfl rfl dX0_workOut_29 ?_
  refine v_iload_n G dX0_workOut_32 rfl 3 rfl ?_
  obtain ⟨t9, e10, h⟩ := Option.bind_eq_some_iff.mp h
  refine v_iald (lay := layC) (k := 7) (n := 12) G rfl e10 dX0_workOut_33 ?_
  by_cases c11 : t9 = 0
  · replace h := (if_pos c11).symm.trans h
    refine v_tableI (c := 0) (tgt := 76) G dX0_workOut_34 c11 (by decide) (by decide) rfl (by decide) ?_
    refine v_aload_n G dX0_workOut_76 rfl 2 rfl ?_
    refine v_getr (lay := layC) (k := 5) (k' := 1) (C := RX0) (T := TX0) (N := 4) G (fun _ h => i_X0_workOut_X0 _ h) rfl rfl 0 (by decide) (by decide +kernel) rfl rfl dX0_workOut_77 ?_
    refine v_getr (lay := layC) (k := 1) (k' := 10) (C := RX1) (T := TX1) (N := 7) G (fun _ h => i_X0_workOut_X1 _ h) rfl rfl 3 (by decide) (by decide +kernel) rfl rfl dX0_workOut_80 ?_
    refine v_iload_n G dX0_workOut_83 rfl 3 rfl ?_
    obtain ⟨j12, e13, h⟩ := Option.bind_eq_some_iff.mp h
    refine v_aald (lay := layC) (k := 10) G rfl e13 dX0_workOut_84 ?_
    refine v_iload_n G dX0_workOut_85 rfl 4 rfl ?_
    obtain ⟨t14, e15, h⟩ := Option.bind_eq_some_iff.mp h
    refine v_iald (lay := layC) G (layR_29 e13) e15 dX0_workOut_86 ?_
    cases h
    exact v_iret G K (by decide) (by decide) dX0_workOut_87
  · replace h := (if_neg c11).symm.trans h
    by_cases c16 : t9 = 1
    · replace h := (if_pos c16).symm.trans h
      refine v_tableI (c := 1) (tgt := 88) G dX0_workOut_34 c16 (by decide) (by decide) rfl (by decide) ?_
      refine v_aload_n G dX0_workOut_88 rfl 2 rfl ?_
      refine v_iload_n G dX0_workOut_89 rfl 1 rfl ?_
      refine v_iload_n G dX0_workOut_90 rfl 4 rfl ?_
      obtain ⟨t17, e18, h⟩ := Option.bind_eq_some_iff.mp h
      refine v_calliV (lay := layC) (As := [.int t3, .int v2]) (st := []) (n := 2) (C := RX0) (T := TX0) (k0 := 5) G apXCok (c_X0_valueOf Γ.1.2.1 e18) gX0_workOut_X0_valueOf rfl (by decide +kernel) (by decide) rfl rfl rfl rfl (Nat.le_of_ble_eq_true rfl) (by decide) rfl dX0_workOut_91 ?_
      refine v_ineg G dX0_workOut_94 ?_
      cases h
      exact v_iret G K (by decide) (by decide) dX0_workOut_95
    · replace h := (if_neg c16).symm.trans h
      by_cases c19 : t9 = 2
      · replace h := (if_pos c19).symm.trans h
        refine v_tableI (c := 2) (tgt := 96) G dX0_workOut_34 c19 (by decide) (by decide) rfl (by decide) ?_
        refine v_aload_n G dX0_workOut_96 rfl 2 rfl ?_
        refine v_iload_n G dX0_workOut_97 rfl 1 rfl ?_
        refine v_iload_n G dX0_workOut_98 rfl 4 rfl ?_
        obtain ⟨t20, e21, h⟩ := Option.bind_eq_some_iff.mp h
        refine v_calliV (lay := layC) (As := [.int t3, .int v2]) (st := []) (n := 2) (C := RX0) (T := TX0) (k0 := 5) G apXCok (c_X0_valueOf Γ.1.2.1 e21) gX0_workOut_X0_valueOf rfl (by decide +kernel) (by decide) rfl rfl rfl rfl (Nat.le_of_ble_eq_true rfl) (by decide) rfl dX0_workOut_99 ?_
        refine v_aload_n G dX0_workOut_102 rfl 2 rfl ?_
        refine v_iload G dX0_workOut_103 0 rfl ?_
        refine v_iload_n G dX0_workOut_105 rfl 4 rfl ?_
        obtain ⟨t22, e23, h⟩ := Option.bind_eq_some_iff.mp h
        refine v_calliV (lay := layC) (As := [.int t7, .int v2]) (st := [.int t20]) (n := 2) (C := RX0) (T := TX0) (k0 := 5) G apXCok (c_X0_valueOf Γ.1.2.1 e23) gX0_workOut_X0_valueOf rfl (by decide +kernel) (by decide) rfl rfl rfl rfl (Nat.le_of_ble_eq_true rfl) (by decide) rfl dX0_workOut_106 ?_
        refine v_iadd G dX0_workOut_109 ?_
        cases h
        exact v_iret G K (by decide) (by decide) dX0_workOut_110
      · replace h := (if_neg c19).symm.trans h
        by_cases c24 : t9 = 3
        · replace h := (if_pos c24).symm.trans h
          refine v_tableI (c := 3) (tgt := 111) G dX0_workOut_34 c24 (by decide) (by decide) rfl (by decide) ?_
          refine v_aload_n G dX0_workOut_111 rfl 2 rfl ?_
          refine v_iload_n G dX0_workOut_112 rfl 1 rfl ?_
          refine v_iload_n G dX0_workOut_113 rfl 4 rfl ?_
          obtain ⟨t25, e26, h⟩ := Option.bind_eq_some_iff.mp h
          refine v_calliV (lay := layC) (As := [.int t3, .int v2]) (st := []) (n := 2) (C := RX0) (T := TX0) (k0 := 5) G apXCok (c_X0_valueOf Γ.1.2.1 e26) gX0_workOut_X0_valueOf rfl (by decide +kernel) (by decide) rfl rfl rfl rfl (Nat.le_of_ble_eq_true rfl) (by decide) rfl dX0_workOut_114 ?_
          refine v_aload_n G dX0_workOut_117 rfl 2 rfl ?_
          refine v_iload G dX0_workOut_118 0 rfl ?_
          refine v_iload_n G dX0_workOut_120 rfl 4 rfl ?_
          obtain ⟨t27, e28, h⟩ := Option.bind_eq_some_iff.mp h
          refine v_calliV (lay := layC) (As := [.int t7, .int v2]) (st := [.int t25]) (n := 2) (C := RX0) (T := TX0) (k0 := 5) G apXCok (c_X0_valueOf Γ.1.2.1 e28) gX0_workOut_X0_valueOf rfl (by decide +kernel) (by decide) rfl rfl rfl rfl (Nat.le_of_ble_eq_true rfl) (by decide) rfl dX0_workOut_121 ?_
          refine v_imul G dX0_workOut_124 ?_
          cases h
          exact v_iret G K (by decide) (by decide) dX0_workOut_125
        · replace h := (if_neg c24).symm.trans h
          by_cases c29 : t9 = 4
          · replace h := (if_pos c29).symm.trans h
            refine v_tableI (c := 4) (tgt := 126) G dX0_workOut_34 c29 (by decide) (by decide) rfl (by decide) ?_
            refine v_aload_n G dX0_workOut_126 rfl 2 rfl ?_
            refine v_getr (lay := layC) (k := 5) (k' := 3) (C := RX0) (T := TX0) (N := 4) G (fun _ h => i_X0_workOut_X0 _ h) rfl rfl 1 (by decide) (by decide +kernel) rfl rfl dX0_workOut_127 ?_
            refine v_getr (lay := layC) (k := 3) (k' := 18) (C := RX4) (T := TX4) (N := 12) G (fun _ h => i_X0_workOut_X4 _ h) rfl rfl 3 (by decide) (by decide +kernel) rfl rfl dX0_workOut_130 ?_
            refine v_iload_n G dX0_workOut_133 rfl 1 rfl ?_
            obtain ⟨t30, e31, h⟩ := Option.bind_eq_some_iff.mp h
            refine v_iald (lay := layC) (k := 18) (n := 12) G rfl e31 dX0_workOut_134 ?_
            refine v_istore (L' := [(5, .int t30), (4, .int t7), (3, .int t3), (0, .ref (q 5)), (1, .int v1), (2, .int v2)]) G dX0_workOut_135 (by decide) rfl ?_
            refine v_iload_n G dX0_workOut_137 rfl 5 rfl ?_
            refine v_iload G dX0_workOut_138 0 rfl ?_
            refine v_icmp_ge (tgt := 152) G dX0_workOut_140 (by decide) (fun c32 => ?_) (fun c32 => ?_)
            · replace h := (if_pos c32).symm.trans h
              refine v_aload_n G dX0_workOut_152 rfl 3 rfl ?_
              refine v_iload G dX0_workOut_153 1 rfl ?_
              refine v_iload_n G dX0_workOut_155 rfl 5 rfl ?_
              refine v_iload G dX0_workOut_156 0 rfl ?_
              refine v_isub G dX0_workOut_158 ?_
              obtain ⟨t33, e34, h⟩ := Option.bind_eq_some_iff.mp h
              refine v_calliV (lay := layC) (As := [.int t7, .int (v2 - t30)]) (st := []) (n := 2) (C := RX0) (T := TX0) (k0 := 5) G apXCok (c_X0_valueOf Γ.1.2.1 e34) gX0_workOut_X0_valueOf rfl (by decide +kernel) (by decide) rfl rfl rfl rfl (Nat.le_of_ble_eq_true rfl) (by decide) rfl dX0_workOut_159 ?_
              cases h
              exact v_iret G K (by decide) (by decide) dX0_workOut_162
            · replace h := (if_neg c32).symm.trans h
              refine v_aload_n G dX0_workOut_143 rfl 3 rfl ?_
              refine v_iload_n G dX0_workOut_144 rfl 2 rfl ?_
              refine v_iload_n G dX0_workOut_145 rfl 5 rfl ?_
              obtain ⟨t35, e36, h⟩ := Option.bind_eq_some_iff.mp h
              refine v_calliV (lay := layC) (As := [.int t3, .int v2]) (st := []) (n := 2) (C := RX0) (T := TX0) (k0 := 5) G apXCok (c_X0_valueOf Γ.1.2.1 e36) gX0_workOut_X0_valueOf rfl (by decide +kernel) (by decide) rfl rfl rfl rfl (Nat.le_of_ble_eq_true rfl) (by decide) rfl dX0_workOut_146 ?_
              refine v_goto (tgt := 162) G dX0_workOut_149 (by decide) ?_
              cases h
              exact v_iret G K (by decide) (by decide) dX0_workOut_162
          · replace h := (if_neg c29).symm.trans h
            by_cases c37 : t9 = 5
            · replace h := (if_pos c37).symm.trans h
              refine v_tableI (c := 5) (tgt := 163) G dX0_workOut_34 c37 (by decide) (by decide) rfl (by decide) ?_
              refine v_aload_n G dX0_workOut_163 rfl 2 rfl ?_
              refine v_iload_n G dX0_workOut_164 rfl 1 rfl ?_
              refine v_aload_n G dX0_workOut_165 rfl 2 rfl ?_
              refine v_getr (lay := layC) (k := 5) (k' := 1) (C := RX0) (T := TX0) (N := 4) G (fun _ h => i_X0_workOut_X0 _ h) rfl rfl 0 (by decide) (by decide +kernel) rfl rfl dX0_workOut_166 ?_
              refine v_getr (lay := layC) (k := 1) (k' := 8) (C := RX1) (T := TX1) (N := 7) G (fun _ h => i_X0_workOut_X1 _ h) rfl rfl 1 (by decide) (by decide +kernel) rfl rfl dX0_workOut_169 ?_
              refine v_iload_n G dX0_workOut_172 rfl 3 rfl ?_
              obtain ⟨t38, e39, h⟩ := Option.bind_eq_some_iff.mp h
              refine v_iald (lay := layC) (k := 8) (n := 12) G rfl e39 dX0_workOut_173 ?_
              refine v_iload_n G dX0_workOut_174 rfl 4 rfl ?_
              refine v_iadd G dX0_workOut_175 ?_
              obtain ⟨t40, e41, h⟩ := Option.bind_eq_some_iff.mp h
              refine v_calliV (lay := layC) (As := [.int t3, .int (t38 + v2)]) (st := []) (n := 2) (C := RX0) (T := TX0) (k0 := 5) G apXCok (c_X0_valueOf Γ.1.2.1 e41) gX0_workOut_X0_valueOf rfl (by decide +kernel) (by decide) rfl rfl rfl rfl (Nat.le_of_ble_eq_true rfl) (by decide) rfl dX0_workOut_176 ?_
              cases h
              exact v_iret G K (by decide) (by decide) dX0_workOut_179
            · replace h := (if_neg c37).symm.trans h
              by_cases c42 : t9 = 6
              · replace h := (if_pos c42).symm.trans h
                refine v_tableI (c := 6) (tgt := 180) G dX0_workOut_34 c42 (by decide) (by decide) rfl (by decide) ?_
                refine v_aload_n G dX0_workOut_180 rfl 2 rfl ?_
                refine v_iload_n G dX0_workOut_181 rfl 1 rfl ?_
                obtain ⟨t43, e44, h⟩ := Option.bind_eq_some_iff.mp h
                refine v_calliV (lay := layC) (As := [.int t3]) (st := []) (n := 1) (C := RX0) (T := TX0) (k0 := 5) G apXCok (c_X0_totalOf Γ.1.2.1 e44) gX0_workOut_X0_totalOf rfl (by decide +kernel) (by decide) rfl rfl rfl rfl (Nat.le_of_ble_eq_true rfl) (by decide) rfl dX0_workOut_182 ?_
                cases h
                exact v_iret G K (by decide) (by decide) dX0_workOut_185
              · replace h := (if_neg c42).symm.trans h
                refine v_tableOut (tgt := 186) G dX0_workOut_34 (by have a0 := lv_neT c11 (show (0 : Int32).toInt = 0 by decide); have a1 := lv_neT c16 (show (1 : Int32).toInt = 1 by decide); have a2 := lv_neT c19 (show (2 : Int32).toInt = 2 by decide); have a3 := lv_neT c24 (show (3 : Int32).toInt = 3 by decide); have a4 := lv_neT c29 (show (4 : Int32).toInt = 4 by decide); have a5 := lv_neT c37 (show (5 : Int32).toInt = 5 by decide); have a6 := lv_neT c42 (show (6 : Int32).toInt = 6 by decide); omega) (by decide) ?_
                refine v_aload_n G dX0_workOut_186 rfl 2 rfl ?_
                refine v_iload_n G dX0_workOut_187 rfl 1 rfl ?_
                refine v_iconst (v := 0) G dX0_workOut_188 (by decide) ?_
                obtain ⟨t45, e46, h⟩ := Option.bind_eq_some_iff.mp h
                refine v_calliV (lay := layC) (As := [.int t3, .int 0]) (st := []) (n := 2) (C := RX0) (T := TX0) (k0 := 5) G apXCok (c_X0_valueOf Γ.1.2.1 e46) gX0_workOut_X0_valueOf rfl (by decide +kernel) (by decide) rfl rfl rfl rfl (Nat.le_of_ble_eq_true rfl) (by decide) rfl dX0_workOut_189 ?_
                cases h
                exact v_iret G K (by decide) (by decide) dX0_workOut_192
theorem c_X0_workOut (l : Launch) {s : apM} {v1 v2 : Int32} {r : Int32} (h : m_X0_workOut s v1 v2 = some r) : apMi l layC apXC yX0_workOut wsX0_workOut 2 (fun q => [.ref (q 5), .int v1, .int v2]) s r s := apMi_of (cc := cX0_workOut) (nL := 6) (r := r) (by decide) rfl rfl (fun _ => Nat.le_of_ble_eq_true rfl) (fun Γ q hl G K => w_X0_workOut G K h)
theorem i_X0_work_X0 : ∀ w ∈ u_ws RX0 TX0 4, w ∈ wsX0_work := by decide +kernel
theorem i_X0_work_X3 : ∀ w ∈ u_ws RX3 TX3 4, w ∈ wsX0_work := by decide +kernel
theorem i_X0_work_X4 : ∀ w ∈ u_ws RX4 TX4 12, w ∈ wsX0_work := by decide +kernel
def m_X0_work_L36 (v1 : Int32) (v2 : Int32) (v3 : Int32) : (apM × Int32) → Option ((apM × Int32) ⊕ (apM × Int32)) := fun (s0, v4) => Option.bind (ald s0 18 12 v3) (fun t4 => if t4 ≤ v4 then (some (.inr (s0, v4))) else (Option.bind (ald s0 25 12 v3) (fun t7 => Option.bind (m_X0_workOut s0 v3 v4) (fun t9 => Option.bind (ast s0 26 480 (t7 + v4) t9) (fun s11 => some (.inl (s11, v4 + 1)))))))
set_option maxHeartbeats 4000000 in
set_option maxRecDepth 100000 in
theorem w_X0_work_L36 {Γ : apC} {q : Nat → Nat} (G : apG Γ cX0_work 5 RX0 wsX0_work (apRm 3 0) apXC) {s0 : apM} {v1 v2 v3 v4 : Int32} {r : ((apM × Int32) ⊕ (apM × Int32))} (K : match r with | .inl x => apV Γ 5 (apU layC q (apd Γ) x.1) 0 0 36 [(0, .ref (q 5)), (1, .int v1), (2, .int v2), (3, .int v3), (4, .int x.2)] [] | .inr x => apV Γ 5 (apU layC q (apd Γ) x.1) 0 0 80 [(0, .ref (q 5)), (1, .int v1), (2, .int v2), (3, .int v3)] []) (h : m_X0_work_L36 v1 v2 v3 (s0, v4) = some r) : apV Γ 5 (apU layC q (apd Γ) s0) 0 0 36 [(0, .ref (q 5)), (1, .int v1), (2, .int v2), (3, .int v3), (4, .int v4)] [] := by
  unfold m_X0_work_L36 at h
  dsimp only at h
  refine v_iload G dX0_work_36 4 rfl ?_
  refine v_aload_n G dX0_work_38 rfl 0 rfl ?_
  refine v_getr (lay := layC) (k := 5) (k' := 3) (C := RX0) (T := TX0) (N := 4) G (fun _ h => i_X0_work_X0 _ h) rfl rfl 1 (by decide) (by decide +kernel) rfl rfl dX0_work_39 ?_
  refine v_getr (lay := layC) (k := 3) (k' := 18) (C := RX4) (T := TX4) (N := 12) G (fun _ h => i_X0_work_X4 _ h) rfl rfl 3 (by decide) (by decide +kernel) rfl rfl dX0_work_42 ?_
  refine v_iload_n G dX0_work_45 rfl 3 rfl ?_
  obtain ⟨t4, e5, h⟩ := Option.bind_eq_some_iff.mp h
  refine v_iald (lay := layC) (k := 18) (n := 12) G rfl e5 dX0_work_46 ?_
  refine v_icmp_ge (tgt := 80) G dX0_work_47 (by decide) (fun c6 => ?_) (fun c6 => ?_)
  · replace h := (if_pos c6).symm.trans h
    cases h
    refine v_locs (L' := [(0, .ref (q 5)), (1, .int v1), (2, .int v2), (3, .int v3)]) [0, 1, 2, 3] rfl ?_
    exact K
  · replace h := (if_neg c6).symm.trans h
    refine v_aload_n G dX0_work_50 rfl 0 rfl ?_
    refine v_getr (lay := layC) (k := 5) (k' := 26) (C := RX0) (T := TX0) (N := 4) G (fun _ h => i_X0_work_X0 _ h) rfl rfl 3 (by decide) (by decide +kernel) rfl rfl dX0_work_51 ?_
    refine v_aload_n G dX0_work_54 rfl 0 rfl ?_
    refine v_getr (lay := layC) (k := 5) (k' := 4) (C := RX0) (T := TX0) (N := 4) G (fun _ h => i_X0_work_X0 _ h) rfl rfl 2 (by decide) (by decide +kernel) rfl rfl dX0_work_55 ?_
    refine v_getr (lay := layC) (k := 4) (k' := 25) (C := RX3) (T := TX3) (N := 4) G (fun _ h => i_X0_work_X3 _ h) rfl rfl 2 (by decide) (by decide +kernel) rfl rfl dX0_work_58 ?_
    refine v_iload_n G dX0_work_61 rfl 3 rfl ?_
    obtain ⟨t7, e8, h⟩ := Option.bind_eq_some_iff.mp h
    refine v_iald (lay := layC) (k := 25) (n := 12) G rfl e8 dX0_work_62 ?_
    refine v_iload G dX0_work_63 4 rfl ?_
    refine v_iadd G dX0_work_65 ?_
    refine v_aload_n G dX0_work_66 rfl 0 rfl ?_
    refine v_iload_n G dX0_work_67 rfl 3 rfl ?_
    refine v_iload G dX0_work_68 4 rfl ?_
    obtain ⟨t9, e10, h⟩ := Option.bind_eq_some_iff.mp h
    refine v_calliV (lay := layC) (As := [.int v3, .int v4]) (st := [.int (t7 + v4), .ref (q 26)]) (n := 2) (C := RX0) (T := TX0) (k0 := 5) G apXCok (c_X0_workOut Γ.1.2.1 e10) gX0_work_X0_workOut rfl (by decide +kernel) (by decide) rfl rfl rfl rfl (Nat.le_of_ble_eq_true rfl) (by decide) rfl dX0_work_70 ?_
    obtain ⟨s11, e12, h⟩ := Option.bind_eq_some_iff.mp h
    refine v_iast (lay := layC) (k := 26) (n := 480) G rfl e12 dX0_work_73 ?_
    refine v_iinc (v := v4 + 1) (L' := [(4, .int (v4 + 1)), (0, .ref (q 5)), (1, .int v1), (2, .int v2), (3, .int v3)]) G dX0_work_74 4 rfl rfl (by decide) rfl ?_
    refine v_goto (tgt := 36) G dX0_work_77 (by decide) ?_
    cases h
    refine v_locs (L' := [(0, .ref (q 5)), (1, .int v1), (2, .int v2), (3, .int v3), (4, .int (v4 + 1))]) [1, 2, 3, 4, 0] rfl ?_
    exact K
def m_X0_work_L12  : (apM × Int32 × Int32) → Option ((apM × Int32 × Int32) ⊕ (apM × Int32 × Int32)) := fun (s0, v1, v2) => if (s0 3 10) ≤ v2 then (some (.inr (s0, v1, v2))) else (Option.bind (ald s0 20 12 v2) (fun t2 => Option.bind (lp FU (m_X0_work_L36 v1 v2 t2) (s0, 0)) (fun x13 => match x13 with | (s16, v15) => Option.bind (ald s16 18 12 t2) (fun t17 => some (.inl (s16, v1 + t17, v2 + 1))))))
set_option maxHeartbeats 4000000 in
set_option maxRecDepth 100000 in
theorem w_X0_work_L12 {Γ : apC} {q : Nat → Nat} (G : apG Γ cX0_work 5 RX0 wsX0_work (apRm 3 0) apXC) {s0 : apM} {v1 v2 : Int32} {r : ((apM × Int32 × Int32) ⊕ (apM × Int32 × Int32))} (K : match r with | .inl x => apV Γ 5 (apU layC q (apd Γ) x.1) 0 0 12 [(0, .ref (q 5)), (1, .int x.2.1), (2, .int x.2.2)] [] | .inr x => apV Γ 5 (apU layC q (apd Γ) x.1) 0 0 98 [(1, .int x.2.1)] []) (h : m_X0_work_L12 (s0, v1, v2) = some r) : apV Γ 5 (apU layC q (apd Γ) s0) 0 0 12 [(0, .ref (q 5)), (1, .int v1), (2, .int v2)] [] := by
  unfold m_X0_work_L12 at h
  dsimp only at h
  refine v_iload_n G dX0_work_12 rfl 2 rfl ?_
  refine v_aload_n G dX0_work_13 rfl 0 rfl ?_
  refine v_getr (lay := layC) (k := 5) (k' := 3) (C := RX0) (T := TX0) (N := 4) G (fun _ h => i_X0_work_X0 _ h) rfl rfl 1 (by decide) (by decide +kernel) rfl rfl dX0_work_14 ?_
  refine v_geti (lay := layC) (k := 3) (C := RX4) (T := TX4) (N := 12) G (fun _ h => i_X0_work_X4 _ h) rfl rfl 10 (by decide) (by decide +kernel) rfl rfl dX0_work_17 ?_
  refine v_icmp_ge (tgt := 98) G dX0_work_20 (by decide) (fun c1 => ?_) (fun c1 => ?_)
  · replace h := (if_pos c1).symm.trans h
    cases h
    refine v_locs (L' := [(1, .int v1)]) [1] rfl ?_
    exact K
  · replace h := (if_neg c1).symm.trans h
    refine v_aload_n G dX0_work_23 rfl 0 rfl ?_
    refine v_getr (lay := layC) (k := 5) (k' := 3) (C := RX0) (T := TX0) (N := 4) G (fun _ h => i_X0_work_X0 _ h) rfl rfl 1 (by decide) (by decide +kernel) rfl rfl dX0_work_24 ?_
    refine v_getr (lay := layC) (k := 3) (k' := 20) (C := RX4) (T := TX4) (N := 12) G (fun _ h => i_X0_work_X4 _ h) rfl rfl 5 (by decide) (by decide +kernel) rfl rfl dX0_work_27 ?_
    refine v_iload_n G dX0_work_30 rfl 2 rfl ?_
    obtain ⟨t2, e3, h⟩ := Option.bind_eq_some_iff.mp h
    refine v_iald (lay := layC) (k := 20) (n := 12) G rfl e3 dX0_work_31 ?_
    refine v_istore_n (L' := [(3, .int t2), (0, .ref (q 5)), (1, .int v1), (2, .int v2)]) G dX0_work_32 rfl (by decide) rfl ?_
    refine v_iconst (v := 0) G dX0_work_33 (by decide) ?_
    refine v_istore (L' := [(4, .int 0), (3, .int t2), (0, .ref (q 5)), (1, .int v1), (2, .int v2)]) G dX0_work_34 (by decide) rfl ?_
    obtain ⟨x13, e14, h⟩ := Option.bind_eq_some_iff.mp h
    refine v_locs (L' := [(0, .ref (q 5)), (1, .int v1), (2, .int v2), (3, .int t2), (4, .int 0)]) [2, 3, 4, 1, 0] rfl ?_
    have l19 := v_lp (b := m_X0_work_L36 v1 v2 t2) (I := fun x => apV Γ 5 (apU layC q (apd Γ) x.1) 0 0 36 [(0, .ref (q 5)), (1, .int v1), (2, .int v2), (3, .int t2), (4, .int x.2)] []) (O := fun x => apV Γ 5 (apU layC q (apd Γ) x.1) 0 0 80 [(0, .ref (q 5)), (1, .int v1), (2, .int v2), (3, .int t2)] []) (fun x r hb hK => by obtain ⟨ys, y4⟩ := x; rcases r with r | r <;> exact w_X0_work_L36 G hK hb) FU (s0, 0) x13 e14
    obtain ⟨s16, v15⟩ := x13
    dsimp only at h
    refine l19 ?_
    refine v_iload_n G dX0_work_80 rfl 1 rfl ?_
    refine v_aload_n G dX0_work_81 rfl 0 rfl ?_
    refine v_getr (lay := layC) (k := 5) (k' := 3) (C := RX0) (T := TX0) (N := 4) G (fun _ h => i_X0_work_X0 _ h) rfl rfl 1 (by decide) (by decide +kernel) rfl rfl dX0_work_82 ?_
    refine v_getr (lay := layC) (k := 3) (k' := 18) (C := RX4) (T := TX4) (N := 12) G (fun _ h => i_X0_work_X4 _ h) rfl rfl 3 (by decide) (by decide +kernel) rfl rfl dX0_work_85 ?_
    refine v_iload_n G dX0_work_88 rfl 3 rfl ?_
    obtain ⟨t17, e18, h⟩ := Option.bind_eq_some_iff.mp h
    refine v_iald (lay := layC) (k := 18) (n := 12) G rfl e18 dX0_work_89 ?_
    refine v_iadd G dX0_work_90 ?_
    refine v_istore_n (L' := [(1, .int (v1 + t17)), (0, .ref (q 5)), (2, .int v2), (3, .int t2)]) G dX0_work_91 rfl (by decide) rfl ?_
    refine v_iinc (v := v2 + 1) (L' := [(2, .int (v2 + 1)), (1, .int (v1 + t17)), (0, .ref (q 5)), (3, .int t2)]) G dX0_work_92 2 rfl rfl (by decide) rfl ?_
    refine v_goto (tgt := 12) G dX0_work_95 (by decide) ?_
    cases h
    refine v_locs (L' := [(0, .ref (q 5)), (1, .int (v1 + t17)), (2, .int (v2 + 1))]) [2, 1, 0] rfl ?_
    exact K
def m_X0_work (s : apM)  : Option (Int32 × apM) := Option.bind (lp FU (m_X0_work_L12) (mfl s 26 0 480, 0, 0)) (fun x20 => match x20 with | (s24, v22, v23) => some (v22, s24))
set_option maxHeartbeats 4000000 in
set_option maxRecDepth 100000 in
theorem w_X0_work {Γ : apC} {q : Nat → Nat} (G : apG Γ cX0_work 5 RX0 wsX0_work (apRm 3 0) apXC) {s : apM} {r : (Int32 × apM)} (K : apR Γ cX0_work 0 0 (some r.1) (apU layC q (apd Γ) r.2)) (h : m_X0_work s = some r) : apV Γ 5 (apU layC q (apd Γ) s) 0 0 0 [(0, .ref (q 5))] [] := by
  unfold m_X0_work at h
  refine v_aload_n G dX0_work_0 rfl 0 rfl ?_
  refine v_getr (lay := layC) (k := 5) (k' := 26) (C := RX0) (T := TX0) (N := 4) G (fun _ h => i_X0_work_X0 _ h) rfl rfl 3 (by decide) (by decide +kernel) rfl rfl dX0_work_1 ?_
  refine v_iconst (v := 0) G dX0_work_4 (by decide) ?_
  refine v_callvS (lay := layC) (As := [.ref (q 26), .int 0]) (st := []) (n := 2) G apXCok (c_fill Γ.1.2.1 rfl (by decide)) gX0_work_J7_fill_53178 rfl (by decide) (by decide) rfl rfl (Nat.le_of_ble_eq_true rfl) (by decide) rfl dX0_work_5 ?_
  refine v_iconst (v := 0) G dX0_work_8 (by decide) ?_
  refine v_istore_n (L' := [(1, .int 0), (0, .ref (q 5))]) G dX0_work_9 rfl (by decide) rfl ?_
  refine v_iconst (v := 0) G dX0_work_10 (by decide) ?_
  refine v_istore_n (L' := [(2, .int 0), (1, .int 0), (0, .ref (q 5))]) G dX0_work_11 rfl (by decide) rfl ?_
  obtain ⟨x20, e21, h⟩ := Option.bind_eq_some_iff.mp h
  refine v_locs (L' := [(0, .ref (q 5)), (1, .int 0), (2, .int 0)]) [2, 1, 0] rfl ?_
  have l25 := v_lp (b := m_X0_work_L12) (I := fun x => apV Γ 5 (apU layC q (apd Γ) x.1) 0 0 12 [(0, .ref (q 5)), (1, .int x.2.1), (2, .int x.2.2)] []) (O := fun x => apV Γ 5 (apU layC q (apd Γ) x.1) 0 0 98 [(1, .int x.2.1)] []) (fun x r hb hK => by obtain ⟨ys, y1, y2⟩ := x; rcases r with r | r <;> exact w_X0_work_L12 G hK hb) FU (mfl s 26 0 480, 0, 0) x20 e21
  obtain ⟨s24, v22, v23⟩ := x20
  dsimp only at h
  refine l25 ?_
  refine v_iload_n G dX0_work_98 rfl 0 rfl ?_
  cases h
  exact v_iret G K (by decide) (by decide) dX0_work_99
theorem c_X0_work (l : Launch) {s : apM} {r : (Int32 × apM)} (h : m_X0_work s = some r) : apMi l layC apXC yX0_work wsX0_work 3 (fun q => [.ref (q 5)]) s r.1 r.2 := apMi_of (cc := cX0_work) (nL := 5) (r := r.1) (by decide) rfl rfl (fun _ => Nat.le_of_ble_eq_true rfl) (fun Γ q hl G K => w_X0_work G K h)
theorem i_X2_heldAfter_X1 : ∀ w ∈ u_ws RX1 TX1 7, w ∈ wsX2_heldAfter := by decide +kernel
theorem i_X2_heldAfter_X2 : ∀ w ∈ u_ws RX2 TX2 2, w ∈ wsX2_heldAfter := by decide +kernel
theorem i_X2_heldAfter_X4 : ∀ w ∈ u_ws RX4 TX4 12, w ∈ wsX2_heldAfter := by decide +kernel
def m_X2_heldAfter_B51 (s : apM) (v1 : Int32) (v2 : Int32) (v3 : Int32) (k0 : Int32) : Option ((Int32 × Int32) ⊕ (Int32 × Int32)) := if (m_X6_contains v1 v3) = 0 then (some (.inl (v2, v3 + 1))) else (if k0 = 0 then (some (.inl (v2, v3 + 1))) else (Option.bind (ald s 18 12 v3) (fun t10 => some (.inl (v2 + t10, v3 + 1)))))
set_option maxHeartbeats 4000000 in
set_option maxRecDepth 100000 in
theorem w_X2_heldAfter_B51 {Γ : apC} {q : Nat → Nat} (G : apG Γ cX2_heldAfter 5 RX2 wsX2_heldAfter (apRm 1 0) apXC) {s : apM} {v1 v2 v3 k0 : Int32} {r : ((Int32 × Int32) ⊕ (Int32 × Int32))} (K : match r with | .inl x => apV Γ 5 (apU layC q (apd Γ) s) 0 0 4 [(0, .ref (q 6)), (1, .int v1), (2, .int x.1), (3, .int x.2)] [] | .inr x => apV Γ 5 (apU layC q (apd Γ) s) 0 0 84 [(2, .int x.1)] []) (h : m_X2_heldAfter_B51 s v1 v2 v3 k0 = some r) : apV Γ 5 (apU layC q (apd Γ) s) 0 0 51 [(0, .ref (q 6)), (1, .int v1), (2, .int v2), (3, .int v3)] [.int k0] := by
  unfold m_X2_heldAfter_B51 at h
  refine v_istore (L' := [(4, .int k0), (0, .ref (q 6)), (1, .int v1), (2, .int v2), (3, .int v3)]) G dX2_heldAfter_51 (by decide) rfl ?_
  refine v_iload_n G dX2_heldAfter_53 rfl 2 rfl ?_
  refine v_iload_n G dX2_heldAfter_54 rfl 4 rfl ?_
  refine v_calliN (lay := layC) (As := [.int v1, .int v3]) (st := []) (n := 2) G apXCok (c_X6_contains Γ.1.2.1 (s := s) rfl) gX2_heldAfter_X6_contains_n42 rfl (apNest_in G (by decide)) (by decide +kernel) (by decide +kernel) (by decide +kernel) (by decide) rfl rfl (Nat.le_of_ble_eq_true rfl) (by decide) rfl dX2_heldAfter_55 ?_
  refine v_if_eq (tgt := 78) G dX2_heldAfter_58 (by decide) (fun c8 => ?_) (fun c8 => ?_)
  · replace h := (if_pos c8).symm.trans h
    refine v_iinc (v := v3 + 1) (L' := [(3, .int (v3 + 1)), (4, .int k0), (0, .ref (q 6)), (1, .int v1), (2, .int v2)]) G dX2_heldAfter_78 4 rfl rfl (by decide) rfl ?_
    refine v_goto (tgt := 4) G dX2_heldAfter_81 (by decide) ?_
    cases h
    refine v_locs (L' := [(0, .ref (q 6)), (1, .int v1), (2, .int v2), (3, .int (v3 + 1))]) [2, 3, 4, 0] rfl ?_
    exact K
  · replace h := (if_neg c8).symm.trans h
    refine v_iload G dX2_heldAfter_61 0 rfl ?_
    refine v_if_eq (tgt := 78) G dX2_heldAfter_63 (by decide) (fun c9 => ?_) (fun c9 => ?_)
    · replace h := (if_pos c9).symm.trans h
      refine v_iinc (v := v3 + 1) (L' := [(3, .int (v3 + 1)), (4, .int k0), (0, .ref (q 6)), (1, .int v1), (2, .int v2)]) G dX2_heldAfter_78 4 rfl rfl (by decide) rfl ?_
      refine v_goto (tgt := 4) G dX2_heldAfter_81 (by decide) ?_
      cases h
      refine v_locs (L' := [(0, .ref (q 6)), (1, .int v1), (2, .int v2), (3, .int (v3 + 1))]) [2, 3, 4, 0] rfl ?_
      exact K
    · replace h := (if_neg c9).symm.trans h
      refine v_iload_n G dX2_heldAfter_66 rfl 3 rfl ?_
      refine v_aload_n G dX2_heldAfter_67 rfl 1 rfl ?_
      refine v_getr (lay := layC) (k := 6) (k' := 3) (C := RX2) (T := TX2) (N := 2) G (fun _ h => i_X2_heldAfter_X2 _ h) rfl rfl 0 (by decide) (by decide +kernel) rfl rfl dX2_heldAfter_68 ?_
      refine v_getr (lay := layC) (k := 3) (k' := 18) (C := RX4) (T := TX4) (N := 12) G (fun _ h => i_X2_heldAfter_X4 _ h) rfl rfl 3 (by decide) (by decide +kernel) rfl rfl dX2_heldAfter_71 ?_
      refine v_iload_n G dX2_heldAfter_74 rfl 4 rfl ?_
      obtain ⟨t10, e11, h⟩ := Option.bind_eq_some_iff.mp h
      refine v_iald (lay := layC) (k := 18) (n := 12) G rfl e11 dX2_heldAfter_75 ?_
      refine v_iadd G dX2_heldAfter_76 ?_
      refine v_istore_n (L' := [(2, .int (v2 + t10)), (4, .int k0), (0, .ref (q 6)), (1, .int v1), (3, .int v3)]) G dX2_heldAfter_77 rfl (by decide) rfl ?_
      refine v_iinc (v := v3 + 1) (L' := [(3, .int (v3 + 1)), (2, .int (v2 + t10)), (4, .int k0), (0, .ref (q 6)), (1, .int v1)]) G dX2_heldAfter_78 4 rfl rfl (by decide) rfl ?_
      refine v_goto (tgt := 4) G dX2_heldAfter_81 (by decide) ?_
      cases h
      refine v_locs (L' := [(0, .ref (q 6)), (1, .int v1), (2, .int (v2 + t10)), (3, .int (v3 + 1))]) [3, 4, 1, 0] rfl ?_
      exact K
def m_X2_heldAfter_B46 (s : apM) (v1 : Int32) (v2 : Int32) (v3 : Int32) : Option ((Int32 × Int32) ⊕ (Int32 × Int32)) := m_X2_heldAfter_B51 s v1 v2 v3 1
set_option maxHeartbeats 4000000 in
set_option maxRecDepth 100000 in
theorem w_X2_heldAfter_B46 {Γ : apC} {q : Nat → Nat} (G : apG Γ cX2_heldAfter 5 RX2 wsX2_heldAfter (apRm 1 0) apXC) {s : apM} {v1 v2 v3 : Int32} {r : ((Int32 × Int32) ⊕ (Int32 × Int32))} (K : match r with | .inl x => apV Γ 5 (apU layC q (apd Γ) s) 0 0 4 [(0, .ref (q 6)), (1, .int v1), (2, .int x.1), (3, .int x.2)] [] | .inr x => apV Γ 5 (apU layC q (apd Γ) s) 0 0 84 [(2, .int x.1)] []) (h : m_X2_heldAfter_B46 s v1 v2 v3 = some r) : apV Γ 5 (apU layC q (apd Γ) s) 0 0 46 [(0, .ref (q 6)), (1, .int v1), (2, .int v2), (3, .int v3)] [] := by
  unfold m_X2_heldAfter_B46 at h
  refine v_iconst (v := 1) G dX2_heldAfter_46 (by decide) ?_
  refine v_goto (tgt := 51) G dX2_heldAfter_47 (by decide) ?_
  exact w_X2_heldAfter_B51 G K h
def m_X2_heldAfter_L4 (s : apM) (v1 : Int32) : (Int32 × Int32) → Option ((Int32 × Int32) ⊕ (Int32 × Int32)) := fun (v2, v3) => if (s 3 10) ≤ v3 then (some (.inr (v2, v3))) else (Option.bind (ald s 12 12 v3) (fun t2 => if t2 = 0 then (Option.bind (ald s 17 12 v3) (fun t5 => if (m_X6_isPartOf t5 v1) = 0 then (m_X2_heldAfter_B46 s v1 v2 v3) else (m_X2_heldAfter_B51 s v1 v2 v3 0))) else (m_X2_heldAfter_B46 s v1 v2 v3)))
set_option maxHeartbeats 4000000 in
set_option maxRecDepth 100000 in
theorem w_X2_heldAfter_L4 {Γ : apC} {q : Nat → Nat} (G : apG Γ cX2_heldAfter 5 RX2 wsX2_heldAfter (apRm 1 0) apXC) {s : apM} {v1 v2 v3 : Int32} {r : ((Int32 × Int32) ⊕ (Int32 × Int32))} (K : match r with | .inl x => apV Γ 5 (apU layC q (apd Γ) s) 0 0 4 [(0, .ref (q 6)), (1, .int v1), (2, .int x.1), (3, .int x.2)] [] | .inr x => apV Γ 5 (apU layC q (apd Γ) s) 0 0 84 [(2, .int x.1)] []) (h : m_X2_heldAfter_L4 s v1 (v2, v3) = some r) : apV Γ 5 (apU layC q (apd Γ) s) 0 0 4 [(0, .ref (q 6)), (1, .int v1), (2, .int v2), (3, .int v3)] [] := by
  unfold m_X2_heldAfter_L4 at h
  dsimp only at h
  refine v_iload_n G dX2_heldAfter_4 rfl 3 rfl ?_
  refine v_aload_n G dX2_heldAfter_5 rfl 0 rfl ?_
  refine v_getr (lay := layC) (k := 6) (k' := 3) (C := RX2) (T := TX2) (N := 2) G (fun _ h => i_X2_heldAfter_X2 _ h) rfl rfl 0 (by decide) (by decide +kernel) rfl rfl dX2_heldAfter_6 ?_
  refine v_geti (lay := layC) (k := 3) (C := RX4) (T := TX4) (N := 12) G (fun _ h => i_X2_heldAfter_X4 _ h) rfl rfl 10 (by decide) (by decide +kernel) rfl rfl dX2_heldAfter_9 ?_
  refine v_icmp_ge (tgt := 84) G dX2_heldAfter_12 (by decide) (fun c1 => ?_) (fun c1 => ?_)
  · replace h := (if_pos c1).symm.trans h
    cases h
    refine v_locs (L' := [(2, .int v2)]) [2] rfl ?_
    exact K
  · replace h := (if_neg c1).symm.trans h
    refine v_aload_n G dX2_heldAfter_15 rfl 0 rfl ?_
    refine v_getr (lay := layC) (k := 6) (k' := 3) (C := RX2) (T := TX2) (N := 2) G (fun _ h => i_X2_heldAfter_X2 _ h) rfl rfl 0 (by decide) (by decide +kernel) rfl rfl dX2_heldAfter_16 ?_
    refine v_getr (lay := layC) (k := 3) (k' := 1) (C := RX4) (T := TX4) (N := 12) G (fun _ h => i_X2_heldAfter_X4 _ h) rfl rfl 0 (by decide) (by decide +kernel) rfl rfl dX2_heldAfter_19 ?_
    refine v_getr (lay := layC) (k := 1) (k' := 12) (C := RX1) (T := TX1) (N := 7) G (fun _ h => i_X2_heldAfter_X1 _ h) rfl rfl 5 (by decide) (by decide +kernel) rfl rfl dX2_heldAfter_22 ?_
    refine v_iload_n G dX2_heldAfter_25 rfl 3 rfl ?_
    obtain ⟨t2, e3, h⟩ := Option.bind_eq_some_iff.mp h
    refine v_zald (lay := layC) (k := 12) (n := 12) G rfl e3 dX2_heldAfter_26 ?_
    refine v_if_ne (tgt := 46) G dX2_heldAfter_27 (by decide) (fun c4 => ?_) (fun c4 => ?_)
    · replace h := (if_neg c4).symm.trans h
      exact w_X2_heldAfter_B46 G K h
    · replace h := (if_pos c4).symm.trans h
      refine v_aload_n G dX2_heldAfter_30 rfl 0 rfl ?_
      refine v_getr (lay := layC) (k := 6) (k' := 3) (C := RX2) (T := TX2) (N := 2) G (fun _ h => i_X2_heldAfter_X2 _ h) rfl rfl 0 (by decide) (by decide +kernel) rfl rfl dX2_heldAfter_31 ?_
      refine v_getr (lay := layC) (k := 3) (k' := 17) (C := RX4) (T := TX4) (N := 12) G (fun _ h => i_X2_heldAfter_X4 _ h) rfl rfl 2 (by decide) (by decide +kernel) rfl rfl dX2_heldAfter_34 ?_
      refine v_iload_n G dX2_heldAfter_37 rfl 3 rfl ?_
      obtain ⟨t5, e6, h⟩ := Option.bind_eq_some_iff.mp h
      refine v_iald (lay := layC) (k := 17) (n := 12) G rfl e6 dX2_heldAfter_38 ?_
      refine v_iload_n G dX2_heldAfter_39 rfl 1 rfl ?_
      refine v_calliN (lay := layC) (As := [.int t5, .int v1]) (st := []) (n := 2) G apXCok (c_X6_isPartOf Γ.1.2.1 (s := s) rfl) gX2_heldAfter_X6_isPartOf_n49 rfl (apNest_in G (by decide)) (by decide +kernel) (by decide +kernel) (by decide +kernel) (by decide) rfl rfl (Nat.le_of_ble_eq_true rfl) (by decide) rfl dX2_heldAfter_40 ?_
      refine v_if_ne (tgt := 50) G dX2_heldAfter_43 (by decide) (fun c7 => ?_) (fun c7 => ?_)
      · replace h := (if_neg c7).symm.trans h
        refine v_iconst (v := 0) G dX2_heldAfter_50 (by decide) ?_
        exact w_X2_heldAfter_B51 G K h
      · replace h := (if_pos c7).symm.trans h
        exact w_X2_heldAfter_B46 G K h
def m_X2_heldAfter (s : apM) (v1 : Int32) : Option Int32 := Option.bind (lp FU (m_X2_heldAfter_L4 s v1) (0, 0)) (fun x12 => match x12 with | (v14, v15) => some v14)
set_option maxHeartbeats 4000000 in
set_option maxRecDepth 100000 in
theorem w_X2_heldAfter {Γ : apC} {q : Nat → Nat} (G : apG Γ cX2_heldAfter 5 RX2 wsX2_heldAfter (apRm 1 0) apXC) {s : apM} {v1 : Int32} {r : Int32} (K : apR Γ cX2_heldAfter 0 0 (some r) (apU layC q (apd Γ) s)) (h : m_X2_heldAfter s v1 = some r) : apV Γ 5 (apU layC q (apd Γ) s) 0 0 0 [(0, .ref (q 6)), (1, .int v1)] [] := by
  unfold m_X2_heldAfter at h
  refine v_iconst (v := 0) G dX2_heldAfter_0 (by decide) ?_
  refine v_istore_n (L' := [(2, .int 0), (0, .ref (q 6)), (1, .int v1)]) G dX2_heldAfter_1 rfl (by decide) rfl ?_
  refine v_iconst (v := 0) G dX2_heldAfter_2 (by decide) ?_
  refine v_istore_n (L' := [(3, .int 0), (2, .int 0), (0, .ref (q 6)), (1, .int v1)]) G dX2_heldAfter_3 rfl (by decide) rfl ?_
  obtain ⟨x12, e13, h⟩ := Option.bind_eq_some_iff.mp h
  refine v_locs (L' := [(0, .ref (q 6)), (1, .int v1), (2, .int 0), (3, .int 0)]) [2, 3, 1, 0] rfl ?_
  have l16 := v_lp (b := m_X2_heldAfter_L4 s v1) (I := fun x => apV Γ 5 (apU layC q (apd Γ) s) 0 0 4 [(0, .ref (q 6)), (1, .int v1), (2, .int x.1), (3, .int x.2)] []) (O := fun x => apV Γ 5 (apU layC q (apd Γ) s) 0 0 84 [(2, .int x.1)] []) (fun x r hb hK => by obtain ⟨y2, y3⟩ := x; rcases r with r | r <;> exact w_X2_heldAfter_L4 G hK hb) FU (0, 0) x12 e13
  obtain ⟨v14, v15⟩ := x12
  dsimp only at h
  refine l16 ?_
  refine v_iload_n G dX2_heldAfter_84 rfl 0 rfl ?_
  cases h
  exact v_iret G K (by decide) (by decide) dX2_heldAfter_85
theorem c_X2_heldAfter (l : Launch) {s : apM} {v1 : Int32} {r : Int32} (h : m_X2_heldAfter s v1 = some r) : apMi l layC apXC yX2_heldAfter wsX2_heldAfter 1 (fun q => [.ref (q 6), .int v1]) s r s := apMi_of (cc := cX2_heldAfter) (nL := 5) (r := r) (by decide) rfl rfl (fun _ => Nat.le_of_ble_eq_true rfl) (fun Γ q hl G K => w_X2_heldAfter G K h)
theorem i_X2_goOn_X2 : ∀ w ∈ u_ws RX2 TX2 2, w ∈ wsX2_goOn := by decide +kernel
theorem i_X2_goOn_X4 : ∀ w ∈ u_ws RX4 TX4 12, w ∈ wsX2_goOn := by decide +kernel
def m_X2_goOn_L8 (v1 : Int32) (v2 : Int32) : (apM × Int32) → Option ((apM × Int32) ⊕ (apM × Int32)) := fun (s0, v3) => if (s0 3 10) ≤ v3 then (some (.inr (s0, v3))) else (if (m_X6_contains v1 v3) = 0 then (Option.bind (ald s0 16 12 v3) (fun t5 => if (m_X6_isPartOf t5 v1) = 0 then (some (.inl (s0, v3 + 1))) else (Option.bind (ald s0 27 4096 v1) (fun t8 => Option.bind (ald s0 18 12 v3) (fun t10 => Option.bind (ald s0 27 4096 (v1 ||| (m_X6_setOf v3))) (fun t12 => Option.bind (ast s0 27 4096 (v1 ||| (m_X6_setOf v3)) (if (if t8 < (v2 + t10) then (v2 + t10) else t8) < t12 then (if t8 < (v2 + t10) then (v2 + t10) else t8) else t12)) (fun s14 => some (.inl (s14, v3 + 1))))))))) else (some (.inl (s0, v3 + 1))))
set_option maxHeartbeats 4000000 in
set_option maxRecDepth 100000 in
theorem w_X2_goOn_L8 {Γ : apC} {q : Nat → Nat} (G : apG Γ cX2_goOn 6 RX2 wsX2_goOn (apRm 2 0) apXC) {s0 : apM} {v1 v2 v3 : Int32} {r : ((apM × Int32) ⊕ (apM × Int32))} (K : match r with | .inl x => apV Γ 6 (apU layC q (apd Γ) x.1) 0 0 8 [(0, .ref (q 6)), (1, .int v1), (2, .int v2), (3, .int x.2)] [] | .inr x => apV Γ 6 (apU layC q (apd Γ) x.1) 0 0 98 [] []) (h : m_X2_goOn_L8 v1 v2 (s0, v3) = some r) : apV Γ 6 (apU layC q (apd Γ) s0) 0 0 8 [(0, .ref (q 6)), (1, .int v1), (2, .int v2), (3, .int v3)] [] := by
  unfold m_X2_goOn_L8 at h
  dsimp only at h
  refine v_iload_n G dX2_goOn_8 rfl 3 rfl ?_
  refine v_aload_n G dX2_goOn_9 rfl 0 rfl ?_
  refine v_getr (lay := layC) (k := 6) (k' := 3) (C := RX2) (T := TX2) (N := 2) G (fun _ h => i_X2_goOn_X2 _ h) rfl rfl 0 (by decide) (by decide +kernel) rfl rfl dX2_goOn_10 ?_
  refine v_geti (lay := layC) (k := 3) (C := RX4) (T := TX4) (N := 12) G (fun _ h => i_X2_goOn_X4 _ h) rfl rfl 10 (by decide) (by decide +kernel) rfl rfl dX2_goOn_13 ?_
  refine v_icmp_ge (tgt := 98) G dX2_goOn_16 (by decide) (fun c3 => ?_) (fun c3 => ?_)
  · replace h := (if_pos c3).symm.trans h
    cases h
    refine v_locs (L' := []) [] rfl ?_
    exact K
  · replace h := (if_neg c3).symm.trans h
    refine v_iload_n G dX2_goOn_19 rfl 1 rfl ?_
    refine v_iload_n G dX2_goOn_20 rfl 3 rfl ?_
    refine v_calliN (lay := layC) (As := [.int v1, .int v3]) (st := []) (n := 2) G apXCok (c_X6_contains Γ.1.2.1 (s := s0) rfl) gX2_goOn_X6_contains_n42 rfl (apNest_in G (by decide)) (by decide +kernel) (by decide +kernel) (by decide +kernel) (by decide) rfl rfl (Nat.le_of_ble_eq_true rfl) (by decide) rfl dX2_goOn_21 ?_
    refine v_if_ne (tgt := 92) G dX2_goOn_24 (by decide) (fun c4 => ?_) (fun c4 => ?_)
    · replace h := (if_neg c4).symm.trans h
      refine v_iinc (v := v3 + 1) (L' := [(3, .int (v3 + 1)), (0, .ref (q 6)), (1, .int v1), (2, .int v2)]) G dX2_goOn_92 3 rfl rfl (by decide) rfl ?_
      refine v_goto (tgt := 8) G dX2_goOn_95 (by decide) ?_
      cases h
      refine v_locs (L' := [(0, .ref (q 6)), (1, .int v1), (2, .int v2), (3, .int (v3 + 1))]) [1, 2, 3, 0] rfl ?_
      exact K
    · replace h := (if_pos c4).symm.trans h
      refine v_aload_n G dX2_goOn_27 rfl 0 rfl ?_
      refine v_getr (lay := layC) (k := 6) (k' := 3) (C := RX2) (T := TX2) (N := 2) G (fun _ h => i_X2_goOn_X2 _ h) rfl rfl 0 (by decide) (by decide +kernel) rfl rfl dX2_goOn_28 ?_
      refine v_getr (lay := layC) (k := 3) (k' := 16) (C := RX4) (T := TX4) (N := 12) G (fun _ h => i_X2_goOn_X4 _ h) rfl rfl 1 (by decide) (by decide +kernel) rfl rfl dX2_goOn_31 ?_
      refine v_iload_n G dX2_goOn_34 rfl 3 rfl ?_
      obtain ⟨t5, e6, h⟩ := Option.bind_eq_some_iff.mp h
      refine v_iald (lay := layC) (k := 16) (n := 12) G rfl e6 dX2_goOn_35 ?_
      refine v_iload_n G dX2_goOn_36 rfl 1 rfl ?_
      refine v_calliN (lay := layC) (As := [.int t5, .int v1]) (st := []) (n := 2) G apXCok (c_X6_isPartOf Γ.1.2.1 (s := s0) rfl) gX2_goOn_X6_isPartOf_n49 rfl (apNest_in G (by decide)) (by decide +kernel) (by decide +kernel) (by decide +kernel) (by decide) rfl rfl (Nat.le_of_ble_eq_true rfl) (by decide) rfl dX2_goOn_37 ?_
      refine v_if_eq (tgt := 92) G dX2_goOn_40 (by decide) (fun c7 => ?_) (fun c7 => ?_)
      · replace h := (if_pos c7).symm.trans h
        refine v_iinc (v := v3 + 1) (L' := [(3, .int (v3 + 1)), (0, .ref (q 6)), (1, .int v1), (2, .int v2)]) G dX2_goOn_92 3 rfl rfl (by decide) rfl ?_
        refine v_goto (tgt := 8) G dX2_goOn_95 (by decide) ?_
        cases h
        refine v_locs (L' := [(0, .ref (q 6)), (1, .int v1), (2, .int v2), (3, .int (v3 + 1))]) [1, 2, 3, 0] rfl ?_
        exact K
      · replace h := (if_neg c7).symm.trans h
        refine v_iload_n G dX2_goOn_43 rfl 1 rfl ?_
        refine v_iload_n G dX2_goOn_44 rfl 3 rfl ?_
        refine v_calliN (lay := layC) (As := [.int v3]) (st := [.int v1]) (n := 1) G apXCok (c_X6_setOf Γ.1.2.1 (s := s0) rfl) gX2_goOn_X6_setOf_n52 rfl (apNest_in G (by decide)) (by decide +kernel) (by decide +kernel) (by decide +kernel) (by decide) rfl rfl (Nat.le_of_ble_eq_true rfl) (by decide) rfl dX2_goOn_45 ?_
        refine v_ior G dX2_goOn_48 ?_
        refine v_istore (L' := [(4, .int (v1 ||| (m_X6_setOf v3))), (0, .ref (q 6)), (1, .int v1), (2, .int v2), (3, .int v3)]) G dX2_goOn_49 (by decide) rfl ?_
        refine v_aload_n G dX2_goOn_51 rfl 1 rfl ?_
        refine v_getr (lay := layC) (k := 6) (k' := 27) (C := RX2) (T := TX2) (N := 2) G (fun _ h => i_X2_goOn_X2 _ h) rfl rfl 1 (by decide) (by decide +kernel) rfl rfl dX2_goOn_52 ?_
        refine v_iload_n G dX2_goOn_55 rfl 2 rfl ?_
        obtain ⟨t8, e9, h⟩ := Option.bind_eq_some_iff.mp h
        refine v_iald (lay := layC) (k := 27) (n := 4096) G rfl e9 dX2_goOn_56 ?_
        refine v_iload_n G dX2_goOn_57 rfl 3 rfl ?_
        refine v_aload_n G dX2_goOn_58 rfl 1 rfl ?_
        refine v_getr (lay := layC) (k := 6) (k' := 3) (C := RX2) (T := TX2) (N := 2) G (fun _ h => i_X2_goOn_X2 _ h) rfl rfl 0 (by decide) (by decide +kernel) rfl rfl dX2_goOn_59 ?_
        refine v_getr (lay := layC) (k := 3) (k' := 18) (C := RX4) (T := TX4) (N := 12) G (fun _ h => i_X2_goOn_X4 _ h) rfl rfl 3 (by decide) (by decide +kernel) rfl rfl dX2_goOn_62 ?_
        refine v_iload_n G dX2_goOn_65 rfl 4 rfl ?_
        obtain ⟨t10, e11, h⟩ := Option.bind_eq_some_iff.mp h
        refine v_iald (lay := layC) (k := 18) (n := 12) G rfl e11 dX2_goOn_66 ?_
        refine v_iadd G dX2_goOn_67 ?_
        refine v_mmax G (by decide +kernel) (by decide +kernel) (by decide +kernel) (by decide +kernel) (by decide) (Nat.le_of_ble_eq_true rfl) (by decide) dX2_goOn_68 ?_
        refine v_istore (L' := [(5, .int (if t8 < (v2 + t10) then (v2 + t10) else t8)), (4, .int (v1 ||| (m_X6_setOf v3))), (0, .ref (q 6)), (1, .int v1), (2, .int v2), (3, .int v3)]) G dX2_goOn_71 (by decide) rfl ?_
        refine v_aload_n G dX2_goOn_73 rfl 2 rfl ?_
        refine v_getr (lay := layC) (k := 6) (k' := 27) (C := RX2) (T := TX2) (N := 2) G (fun _ h => i_X2_goOn_X2 _ h) rfl rfl 1 (by decide) (by decide +kernel) rfl rfl dX2_goOn_74 ?_
        refine v_iload G dX2_goOn_77 1 rfl ?_
        refine v_aload_n G dX2_goOn_79 rfl 2 rfl ?_
        refine v_getr (lay := layC) (k := 6) (k' := 27) (C := RX2) (T := TX2) (N := 2) G (fun _ h => i_X2_goOn_X2 _ h) rfl rfl 1 (by decide) (by decide +kernel) rfl rfl dX2_goOn_80 ?_
        refine v_iload G dX2_goOn_83 1 rfl ?_
        obtain ⟨t12, e13, h⟩ := Option.bind_eq_some_iff.mp h
        refine v_iald (lay := layC) (k := 27) (n := 4096) G rfl e13 dX2_goOn_85 ?_
        refine v_iload G dX2_goOn_86 0 rfl ?_
        refine v_mmin G (by decide +kernel) (by decide +kernel) (by decide +kernel) (by decide +kernel) (by decide) (Nat.le_of_ble_eq_true rfl) (by decide) dX2_goOn_88 ?_
        obtain ⟨s14, e15, h⟩ := Option.bind_eq_some_iff.mp h
        refine v_iast (lay := layC) (k := 27) (n := 4096) G rfl e15 dX2_goOn_91 ?_
        refine v_iinc (v := v3 + 1) (L' := [(3, .int (v3 + 1)), (5, .int (if t8 < (v2 + t10) then (v2 + t10) else t8)), (4, .int (v1 ||| (m_X6_setOf v3))), (0, .ref (q 6)), (1, .int v1), (2, .int v2)]) G dX2_goOn_92 5 rfl rfl (by decide) rfl ?_
        refine v_goto (tgt := 8) G dX2_goOn_95 (by decide) ?_
        cases h
        refine v_locs (L' := [(0, .ref (q 6)), (1, .int v1), (2, .int v2), (3, .int (v3 + 1))]) [3, 4, 5, 0] rfl ?_
        exact K
def m_X2_goOn (s : apM) (v1 : Int32) : Option apM := Option.bind (m_X2_heldAfter s v1) (fun t1 => Option.bind (lp FU (m_X2_goOn_L8 v1 t1) (s, 0)) (fun x16 => match x16 with | (s19, v18) => some s19))
set_option maxHeartbeats 4000000 in
set_option maxRecDepth 100000 in
theorem w_X2_goOn {Γ : apC} {q : Nat → Nat} (G : apG Γ cX2_goOn 6 RX2 wsX2_goOn (apRm 2 0) apXC) {s : apM} {v1 : Int32} {r : apM} (K : apR Γ cX2_goOn 0 0 none (apU layC q (apd Γ) r)) (h : m_X2_goOn s v1 = some r) : apV Γ 6 (apU layC q (apd Γ) s) 0 0 0 [(0, .ref (q 6)), (1, .int v1)] [] := by
  unfold m_X2_goOn at h
  refine v_aload_n G dX2_goOn_0 rfl 0 rfl ?_
  refine v_iload_n G dX2_goOn_1 rfl 1 rfl ?_
  obtain ⟨t1, e2, h⟩ := Option.bind_eq_some_iff.mp h
  refine v_calliV (lay := layC) (As := [.int v1]) (st := []) (n := 1) (C := RX2) (T := TX2) (k0 := 6) G apXCok (c_X2_heldAfter Γ.1.2.1 e2) gX2_goOn_X2_heldAfter rfl (by decide +kernel) (by decide) rfl rfl rfl rfl (Nat.le_of_ble_eq_true rfl) (by decide) rfl dX2_goOn_2 ?_
  refine v_istore_n (L' := [(2, .int t1), (0, .ref (q 6)), (1, .int v1)]) G dX2_goOn_5 rfl (by decide) rfl ?_
  refine v_iconst (v := 0) G dX2_goOn_6 (by decide) ?_
  refine v_istore_n (L' := [(3, .int 0), (2, .int t1), (0, .ref (q 6)), (1, .int v1)]) G dX2_goOn_7 rfl (by decide) rfl ?_
  obtain ⟨x16, e17, h⟩ := Option.bind_eq_some_iff.mp h
  refine v_locs (L' := [(0, .ref (q 6)), (1, .int v1), (2, .int t1), (3, .int 0)]) [2, 3, 1, 0] rfl ?_
  have l20 := v_lp (b := m_X2_goOn_L8 v1 t1) (I := fun x => apV Γ 6 (apU layC q (apd Γ) x.1) 0 0 8 [(0, .ref (q 6)), (1, .int v1), (2, .int t1), (3, .int x.2)] []) (O := fun x => apV Γ 6 (apU layC q (apd Γ) x.1) 0 0 98 [] []) (fun x r hb hK => by obtain ⟨ys, y3⟩ := x; rcases r with r | r <;> exact w_X2_goOn_L8 G hK hb) FU (s, 0) x16 e17
  obtain ⟨s19, v18⟩ := x16
  dsimp only at h
  refine l20 ?_
  cases h
  exact v_vret G K (by decide) (by decide) dX2_goOn_98
theorem c_X2_goOn (l : Launch) {s : apM} {v1 : Int32} {r : apM} (h : m_X2_goOn s v1 = some r) : apMv l layC apXC yX2_goOn wsX2_goOn 2 (fun q => [.ref (q 6), .int v1]) s r := apMv_of (cc := cX2_goOn) (nL := 6) (by decide) rfl (fun _ => Nat.le_of_ble_eq_true rfl) (fun Γ q hl G K => w_X2_goOn G K h)
theorem i_X2_find_X2 : ∀ w ∈ u_ws RX2 TX2 2, w ∈ wsX2_find := by decide +kernel
theorem i_X2_find_X4 : ∀ w ∈ u_ws RX4 TX4 12, w ∈ wsX2_find := by decide +kernel
def m_X2_find_L35 (v1 : Int32) : (apM × Int32) → Option ((apM × Int32) ⊕ (apM × Int32)) := fun (s0, v2) => if v1 ≤ v2 then (some (.inr (s0, v2))) else (Option.bind (ald s0 27 4096 v2) (fun t4 => if (s0 3 11) ≤ t4 then (some (.inl (s0, v2 + 1))) else (Option.bind (m_X2_goOn s0 v2) (fun s7 => some (.inl (s7, v2 + 1))))))
set_option maxHeartbeats 4000000 in
set_option maxRecDepth 100000 in
theorem w_X2_find_L35 {Γ : apC} {q : Nat → Nat} (G : apG Γ cX2_find 3 RX2 wsX2_find (apRm 3 0) apXC) {s0 : apM} {v1 v2 : Int32} {r : ((apM × Int32) ⊕ (apM × Int32))} (K : match r with | .inl x => apV Γ 3 (apU layC q (apd Γ) x.1) 0 0 35 [(0, .ref (q 6)), (1, .int v1), (2, .int x.2)] [] | .inr x => apV Γ 3 (apU layC q (apd Γ) x.1) 0 0 67 [(0, .ref (q 6)), (1, .int v1)] []) (h : m_X2_find_L35 v1 (s0, v2) = some r) : apV Γ 3 (apU layC q (apd Γ) s0) 0 0 35 [(0, .ref (q 6)), (1, .int v1), (2, .int v2)] [] := by
  unfold m_X2_find_L35 at h
  dsimp only at h
  refine v_iload_n G dX2_find_35 rfl 2 rfl ?_
  refine v_iload_n G dX2_find_36 rfl 1 rfl ?_
  refine v_icmp_ge (tgt := 67) G dX2_find_37 (by decide) (fun c3 => ?_) (fun c3 => ?_)
  · replace h := (if_pos c3).symm.trans h
    cases h
    refine v_locs (L' := [(0, .ref (q 6)), (1, .int v1)]) [0, 1] rfl ?_
    exact K
  · replace h := (if_neg c3).symm.trans h
    refine v_aload_n G dX2_find_40 rfl 0 rfl ?_
    refine v_getr (lay := layC) (k := 6) (k' := 27) (C := RX2) (T := TX2) (N := 2) G (fun _ h => i_X2_find_X2 _ h) rfl rfl 1 (by decide) (by decide +kernel) rfl rfl dX2_find_41 ?_
    refine v_iload_n G dX2_find_44 rfl 2 rfl ?_
    obtain ⟨t4, e5, h⟩ := Option.bind_eq_some_iff.mp h
    refine v_iald (lay := layC) (k := 27) (n := 4096) G rfl e5 dX2_find_45 ?_
    refine v_aload_n G dX2_find_46 rfl 0 rfl ?_
    refine v_getr (lay := layC) (k := 6) (k' := 3) (C := RX2) (T := TX2) (N := 2) G (fun _ h => i_X2_find_X2 _ h) rfl rfl 0 (by decide) (by decide +kernel) rfl rfl dX2_find_47 ?_
    refine v_geti (lay := layC) (k := 3) (C := RX4) (T := TX4) (N := 12) G (fun _ h => i_X2_find_X4 _ h) rfl rfl 11 (by decide) (by decide +kernel) rfl rfl dX2_find_50 ?_
    refine v_icmp_ge (tgt := 61) G dX2_find_53 (by decide) (fun c6 => ?_) (fun c6 => ?_)
    · replace h := (if_pos c6).symm.trans h
      refine v_iinc (v := v2 + 1) (L' := [(2, .int (v2 + 1)), (0, .ref (q 6)), (1, .int v1)]) G dX2_find_61 2 rfl rfl (by decide) rfl ?_
      refine v_goto (tgt := 35) G dX2_find_64 (by decide) ?_
      cases h
      refine v_locs (L' := [(0, .ref (q 6)), (1, .int v1), (2, .int (v2 + 1))]) [1, 2, 0] rfl ?_
      exact K
    · replace h := (if_neg c6).symm.trans h
      refine v_aload_n G dX2_find_56 rfl 0 rfl ?_
      refine v_iload_n G dX2_find_57 rfl 2 rfl ?_
      obtain ⟨s7, e8, h⟩ := Option.bind_eq_some_iff.mp h
      refine v_callvV (lay := layC) (As := [.int v2]) (st := []) (n := 1) (C := RX2) (T := TX2) (k0 := 6) G apXCok (c_X2_goOn Γ.1.2.1 e8) gX2_find_X2_goOn rfl (by decide +kernel) (by decide) rfl rfl rfl rfl (Nat.le_of_ble_eq_true rfl) (by decide) rfl dX2_find_58 ?_
      refine v_iinc (v := v2 + 1) (L' := [(2, .int (v2 + 1)), (0, .ref (q 6)), (1, .int v1)]) G dX2_find_61 2 rfl rfl (by decide) rfl ?_
      refine v_goto (tgt := 35) G dX2_find_64 (by decide) ?_
      cases h
      refine v_locs (L' := [(0, .ref (q 6)), (1, .int v1), (2, .int (v2 + 1))]) [1, 2, 0] rfl ?_
      exact K
def m_X2_find (s : apM)  : Option (Int32 × apM) := Option.bind (ast (mfl s 27 (s 3 11) 4096) 27 4096 0 0) (fun s1 => Option.bind (lp FU (m_X2_find_L35 ((1 <<< ((s 3 10) &&& 31)) - 1)) (s1, 0)) (fun x9 => match x9 with | (s12, v11) => Option.bind (ald s12 27 4096 ((1 <<< ((s 3 10) &&& 31)) - 1)) (fun t13 => some (t13, s12))))
set_option maxHeartbeats 4000000 in
set_option maxRecDepth 100000 in
theorem w_X2_find {Γ : apC} {q : Nat → Nat} (G : apG Γ cX2_find 3 RX2 wsX2_find (apRm 3 0) apXC) {s : apM} {r : (Int32 × apM)} (K : apR Γ cX2_find 0 0 (some r.1) (apU layC q (apd Γ) r.2)) (h : m_X2_find s = some r) : apV Γ 3 (apU layC q (apd Γ) s) 0 0 0 [(0, .ref (q 6))] [] := by
  unfold m_X2_find at h
  refine v_iconst (v := 1) G dX2_find_0 (by decide) ?_
  refine v_aload_n G dX2_find_1 rfl 0 rfl ?_
  refine v_getr (lay := layC) (k := 6) (k' := 3) (C := RX2) (T := TX2) (N := 2) G (fun _ h => i_X2_find_X2 _ h) rfl rfl 0 (by decide) (by decide +kernel) rfl rfl dX2_find_2 ?_
  refine v_geti (lay := layC) (k := 3) (C := RX4) (T := TX4) (N := 12) G (fun _ h => i_X2_find_X4 _ h) rfl rfl 10 (by decide) (by decide +kernel) rfl rfl dX2_find_5 ?_
  refine v_ishl G dX2_find_8 ?_
  refine v_iconst (v := 1) G dX2_find_9 (by decide) ?_
  refine v_isub G dX2_find_10 ?_
  refine v_istore_n (L' := [(1, .int ((1 <<< ((s 3 10) &&& 31)) - 1)), (0, .ref (q 6))]) G dX2_find_11 rfl (by decide) rfl ?_
  refine v_aload_n G dX2_find_12 rfl 1 rfl ?_
  refine v_getr (lay := layC) (k := 6) (k' := 27) (C := RX2) (T := TX2) (N := 2) G (fun _ h => i_X2_find_X2 _ h) rfl rfl 1 (by decide) (by decide +kernel) rfl rfl dX2_find_13 ?_
  refine v_aload_n G dX2_find_16 rfl 1 rfl ?_
  refine v_getr (lay := layC) (k := 6) (k' := 3) (C := RX2) (T := TX2) (N := 2) G (fun _ h => i_X2_find_X2 _ h) rfl rfl 0 (by decide) (by decide +kernel) rfl rfl dX2_find_17 ?_
  refine v_geti (lay := layC) (k := 3) (C := RX4) (T := TX4) (N := 12) G (fun _ h => i_X2_find_X4 _ h) rfl rfl 11 (by decide) (by decide +kernel) rfl rfl dX2_find_20 ?_
  refine v_callvS (lay := layC) (As := [.ref (q 27), .int (s 3 11)]) (st := []) (n := 2) G apXCok (c_fill Γ.1.2.1 rfl (by decide)) gX2_find_J7_fill_53178 rfl (by decide) (by decide) rfl rfl (Nat.le_of_ble_eq_true rfl) (by decide) rfl dX2_find_23 ?_
  refine v_aload_n G dX2_find_26 rfl 1 rfl ?_
  refine v_getr (lay := layC) (k := 6) (k' := 27) (C := RX2) (T := TX2) (N := 2) G (fun _ h => i_X2_find_X2 _ h) rfl rfl 1 (by decide) (by decide +kernel) rfl rfl dX2_find_27 ?_
  refine v_iconst (v := 0) G dX2_find_30 (by decide) ?_
  refine v_iconst (v := 0) G dX2_find_31 (by decide) ?_
  obtain ⟨s1, e2, h⟩ := Option.bind_eq_some_iff.mp h
  refine v_iast (lay := layC) (k := 27) (n := 4096) G rfl e2 dX2_find_32 ?_
  refine v_iconst (v := 0) G dX2_find_33 (by decide) ?_
  refine v_istore_n (L' := [(2, .int 0), (1, .int ((1 <<< ((s 3 10) &&& 31)) - 1)), (0, .ref (q 6))]) G dX2_find_34 rfl (by decide) rfl ?_
  obtain ⟨x9, e10, h⟩ := Option.bind_eq_some_iff.mp h
  refine v_locs (L' := [(0, .ref (q 6)), (1, .int ((1 <<< ((s 3 10) &&& 31)) - 1)), (2, .int 0)]) [2, 1, 0] rfl ?_
  have l15 := v_lp (b := m_X2_find_L35 ((1 <<< ((s 3 10) &&& 31)) - 1)) (I := fun x => apV Γ 3 (apU layC q (apd Γ) x.1) 0 0 35 [(0, .ref (q 6)), (1, .int ((1 <<< ((s 3 10) &&& 31)) - 1)), (2, .int x.2)] []) (O := fun x => apV Γ 3 (apU layC q (apd Γ) x.1) 0 0 67 [(0, .ref (q 6)), (1, .int ((1 <<< ((s 3 10) &&& 31)) - 1))] []) (fun x r hb hK => by obtain ⟨ys, y2⟩ := x; rcases r with r | r <;> exact w_X2_find_L35 G hK hb) FU (s1, 0) x9 e10
  obtain ⟨s12, v11⟩ := x9
  dsimp only at h
  refine l15 ?_
  refine v_aload_n G dX2_find_67 rfl 0 rfl ?_
  refine v_getr (lay := layC) (k := 6) (k' := 27) (C := RX2) (T := TX2) (N := 2) G (fun _ h => i_X2_find_X2 _ h) rfl rfl 1 (by decide) (by decide +kernel) rfl rfl dX2_find_68 ?_
  refine v_iload_n G dX2_find_71 rfl 1 rfl ?_
  obtain ⟨t13, e14, h⟩ := Option.bind_eq_some_iff.mp h
  refine v_iald (lay := layC) (k := 27) (n := 4096) G rfl e14 dX2_find_72 ?_
  cases h
  exact v_iret G K (by decide) (by decide) dX2_find_73
theorem c_X2_find (l : Launch) {s : apM} {r : (Int32 × apM)} (h : m_X2_find s = some r) : apMi l layC apXC yX2_find wsX2_find 3 (fun q => [.ref (q 6)]) s r.1 r.2 := apMi_of (cc := cX2_find) (nL := 3) (r := r.1) (by decide) rfl rfl (fun _ => Nat.le_of_ble_eq_true rfl) (fun Γ q hl G K => w_X2_find G K h)
theorem i_X3_sortBySize_X3 : ∀ w ∈ u_ws RX3 TX3 4, w ∈ wsX3_sortBySize := by decide +kernel
theorem i_X3_sortBySize_X4 : ∀ w ∈ u_ws RX4 TX4 12, w ∈ wsX3_sortBySize := by decide +kernel
def m_X3_sortBySize_L25 (v1 : Int32) (v2 : Int32) : (apM × Int32) → Option ((apM × Int32) ⊕ (apM × Int32)) := fun (s0, v3) => if v3 ≤ 0 then (some (.inr (s0, v3))) else (Option.bind (ald s0 24 12 (v3 - 1)) (fun t5 => Option.bind (ald s0 18 12 t5) (fun t7 => Option.bind (ald s0 18 12 v2) (fun t9 => if t9 ≤ t7 then (some (.inr (s0, v3))) else (Option.bind (ald s0 24 12 (v3 - 1)) (fun t12 => Option.bind (ast s0 24 12 v3 t12) (fun s14 => some (.inl (s14, v3 + (-1))))))))))
set_option maxHeartbeats 4000000 in
set_option maxRecDepth 100000 in
theorem w_X3_sortBySize_L25 {Γ : apC} {q : Nat → Nat} (G : apG Γ cX3_sortBySize 4 RX3 wsX3_sortBySize (apRm 0 0) apXC) {s0 : apM} {v1 v2 v3 : Int32} {r : ((apM × Int32) ⊕ (apM × Int32))} (K : match r with | .inl x => apV Γ 4 (apU layC q (apd Γ) x.1) 0 0 25 [(0, .ref (q 4)), (1, .int v1), (2, .int v2), (3, .int x.2)] [] | .inr x => apV Γ 4 (apU layC q (apd Γ) x.1) 0 0 77 [(0, .ref (q 4)), (1, .int v1), (2, .int v2), (3, .int x.2)] []) (h : m_X3_sortBySize_L25 v1 v2 (s0, v3) = some r) : apV Γ 4 (apU layC q (apd Γ) s0) 0 0 25 [(0, .ref (q 4)), (1, .int v1), (2, .int v2), (3, .int v3)] [] := by
  unfold m_X3_sortBySize_L25 at h
  dsimp only at h
  refine v_iload_n G dX3_sortBySize_25 rfl 3 rfl ?_
  refine v_if_le (tgt := 77) G dX3_sortBySize_26 (by decide) (fun c4 => ?_) (fun c4 => ?_)
  · replace h := (if_pos c4).symm.trans h
    cases h
    exact K
  · replace h := (if_neg c4).symm.trans h
    refine v_aload_n G dX3_sortBySize_29 rfl 0 rfl ?_
    refine v_getr (lay := layC) (k := 4) (k' := 3) (C := RX3) (T := TX3) (N := 4) G (fun _ h => i_X3_sortBySize_X3 _ h) rfl rfl 0 (by decide) (by decide +kernel) rfl rfl dX3_sortBySize_30 ?_
    refine v_getr (lay := layC) (k := 3) (k' := 18) (C := RX4) (T := TX4) (N := 12) G (fun _ h => i_X3_sortBySize_X4 _ h) rfl rfl 3 (by decide) (by decide +kernel) rfl rfl dX3_sortBySize_33 ?_
    refine v_aload_n G dX3_sortBySize_36 rfl 0 rfl ?_
    refine v_getr (lay := layC) (k := 4) (k' := 24) (C := RX3) (T := TX3) (N := 4) G (fun _ h => i_X3_sortBySize_X3 _ h) rfl rfl 1 (by decide) (by decide +kernel) rfl rfl dX3_sortBySize_37 ?_
    refine v_iload_n G dX3_sortBySize_40 rfl 3 rfl ?_
    refine v_iconst (v := 1) G dX3_sortBySize_41 (by decide) ?_
    refine v_isub G dX3_sortBySize_42 ?_
    obtain ⟨t5, e6, h⟩ := Option.bind_eq_some_iff.mp h
    refine v_iald (lay := layC) (k := 24) (n := 12) G rfl e6 dX3_sortBySize_43 ?_
    obtain ⟨t7, e8, h⟩ := Option.bind_eq_some_iff.mp h
    refine v_iald (lay := layC) (k := 18) (n := 12) G rfl e8 dX3_sortBySize_44 ?_
    refine v_aload_n G dX3_sortBySize_45 rfl 0 rfl ?_
    refine v_getr (lay := layC) (k := 4) (k' := 3) (C := RX3) (T := TX3) (N := 4) G (fun _ h => i_X3_sortBySize_X3 _ h) rfl rfl 0 (by decide) (by decide +kernel) rfl rfl dX3_sortBySize_46 ?_
    refine v_getr (lay := layC) (k := 3) (k' := 18) (C := RX4) (T := TX4) (N := 12) G (fun _ h => i_X3_sortBySize_X4 _ h) rfl rfl 3 (by decide) (by decide +kernel) rfl rfl dX3_sortBySize_49 ?_
    refine v_iload_n G dX3_sortBySize_52 rfl 2 rfl ?_
    obtain ⟨t9, e10, h⟩ := Option.bind_eq_some_iff.mp h
    refine v_iald (lay := layC) (k := 18) (n := 12) G rfl e10 dX3_sortBySize_53 ?_
    refine v_icmp_ge (tgt := 77) G dX3_sortBySize_54 (by decide) (fun c11 => ?_) (fun c11 => ?_)
    · replace h := (if_pos c11).symm.trans h
      cases h
      exact K
    · replace h := (if_neg c11).symm.trans h
      refine v_aload_n G dX3_sortBySize_57 rfl 0 rfl ?_
      refine v_getr (lay := layC) (k := 4) (k' := 24) (C := RX3) (T := TX3) (N := 4) G (fun _ h => i_X3_sortBySize_X3 _ h) rfl rfl 1 (by decide) (by decide +kernel) rfl rfl dX3_sortBySize_58 ?_
      refine v_iload_n G dX3_sortBySize_61 rfl 3 rfl ?_
      refine v_aload_n G dX3_sortBySize_62 rfl 0 rfl ?_
      refine v_getr (lay := layC) (k := 4) (k' := 24) (C := RX3) (T := TX3) (N := 4) G (fun _ h => i_X3_sortBySize_X3 _ h) rfl rfl 1 (by decide) (by decide +kernel) rfl rfl dX3_sortBySize_63 ?_
      refine v_iload_n G dX3_sortBySize_66 rfl 3 rfl ?_
      refine v_iconst (v := 1) G dX3_sortBySize_67 (by decide) ?_
      refine v_isub G dX3_sortBySize_68 ?_
      obtain ⟨t12, e13, h⟩ := Option.bind_eq_some_iff.mp h
      refine v_iald (lay := layC) (k := 24) (n := 12) G rfl e13 dX3_sortBySize_69 ?_
      obtain ⟨s14, e15, h⟩ := Option.bind_eq_some_iff.mp h
      refine v_iast (lay := layC) (k := 24) (n := 12) G rfl e15 dX3_sortBySize_70 ?_
      refine v_iinc (v := v3 + (-1)) (L' := [(3, .int (v3 + (-1))), (0, .ref (q 4)), (1, .int v1), (2, .int v2)]) G dX3_sortBySize_71 3 rfl rfl (by decide) rfl ?_
      refine v_goto (tgt := 25) G dX3_sortBySize_74 (by decide) ?_
      cases h
      refine v_locs (L' := [(0, .ref (q 4)), (1, .int v1), (2, .int v2), (3, .int (v3 + (-1)))]) [1, 2, 3, 0] rfl ?_
      exact K
def m_X3_sortBySize_B77 (s : apM) (v1 : Int32) (v2 : Int32) (v3 : Int32) : Option ((apM × Int32) ⊕ (apM × Int32)) := Option.bind (ast s 24 12 v3 v2) (fun s20 => some (.inl (s20, v1 + 1)))
set_option maxHeartbeats 4000000 in
set_option maxRecDepth 100000 in
theorem w_X3_sortBySize_B77 {Γ : apC} {q : Nat → Nat} (G : apG Γ cX3_sortBySize 4 RX3 wsX3_sortBySize (apRm 0 0) apXC) {s : apM} {v1 v2 v3 : Int32} {r : ((apM × Int32) ⊕ (apM × Int32))} (K : match r with | .inl x => apV Γ 4 (apU layC q (apd Γ) x.1) 0 0 2 [(0, .ref (q 4)), (1, .int x.2)] [] | .inr x => apV Γ 4 (apU layC q (apd Γ) x.1) 0 0 90 [] []) (h : m_X3_sortBySize_B77 s v1 v2 v3 = some r) : apV Γ 4 (apU layC q (apd Γ) s) 0 0 77 [(0, .ref (q 4)), (1, .int v1), (2, .int v2), (3, .int v3)] [] := by
  unfold m_X3_sortBySize_B77 at h
  refine v_aload_n G dX3_sortBySize_77 rfl 0 rfl ?_
  refine v_getr (lay := layC) (k := 4) (k' := 24) (C := RX3) (T := TX3) (N := 4) G (fun _ h => i_X3_sortBySize_X3 _ h) rfl rfl 1 (by decide) (by decide +kernel) rfl rfl dX3_sortBySize_78 ?_
  refine v_iload_n G dX3_sortBySize_81 rfl 3 rfl ?_
  refine v_iload_n G dX3_sortBySize_82 rfl 2 rfl ?_
  obtain ⟨s20, e21, h⟩ := Option.bind_eq_some_iff.mp h
  refine v_iast (lay := layC) (k := 24) (n := 12) G rfl e21 dX3_sortBySize_83 ?_
  refine v_iinc (v := v1 + 1) (L' := [(1, .int (v1 + 1)), (0, .ref (q 4)), (2, .int v2), (3, .int v3)]) G dX3_sortBySize_84 1 rfl rfl (by decide) rfl ?_
  refine v_goto (tgt := 2) G dX3_sortBySize_87 (by decide) ?_
  cases h
  refine v_locs (L' := [(0, .ref (q 4)), (1, .int (v1 + 1))]) [1, 0] rfl ?_
  exact K
def m_X3_sortBySize_L2  : (apM × Int32) → Option ((apM × Int32) ⊕ (apM × Int32)) := fun (s0, v1) => if (s0 3 10) ≤ v1 then (some (.inr (s0, v1))) else (Option.bind (ald s0 20 12 v1) (fun t2 => Option.bind (lp FU (m_X3_sortBySize_L25 v1 t2) (s0, v1)) (fun x16 => match x16 with | (s19, v18) => m_X3_sortBySize_B77 s19 v1 t2 v18)))
set_option maxHeartbeats 4000000 in
set_option maxRecDepth 100000 in
theorem w_X3_sortBySize_L2 {Γ : apC} {q : Nat → Nat} (G : apG Γ cX3_sortBySize 4 RX3 wsX3_sortBySize (apRm 0 0) apXC) {s0 : apM} {v1 : Int32} {r : ((apM × Int32) ⊕ (apM × Int32))} (K : match r with | .inl x => apV Γ 4 (apU layC q (apd Γ) x.1) 0 0 2 [(0, .ref (q 4)), (1, .int x.2)] [] | .inr x => apV Γ 4 (apU layC q (apd Γ) x.1) 0 0 90 [] []) (h : m_X3_sortBySize_L2 (s0, v1) = some r) : apV Γ 4 (apU layC q (apd Γ) s0) 0 0 2 [(0, .ref (q 4)), (1, .int v1)] [] := by
  unfold m_X3_sortBySize_L2 at h
  dsimp only at h
  refine v_iload_n G dX3_sortBySize_2 rfl 1 rfl ?_
  refine v_aload_n G dX3_sortBySize_3 rfl 0 rfl ?_
  refine v_getr (lay := layC) (k := 4) (k' := 3) (C := RX3) (T := TX3) (N := 4) G (fun _ h => i_X3_sortBySize_X3 _ h) rfl rfl 0 (by decide) (by decide +kernel) rfl rfl dX3_sortBySize_4 ?_
  refine v_geti (lay := layC) (k := 3) (C := RX4) (T := TX4) (N := 12) G (fun _ h => i_X3_sortBySize_X4 _ h) rfl rfl 10 (by decide) (by decide +kernel) rfl rfl dX3_sortBySize_7 ?_
  refine v_icmp_ge (tgt := 90) G dX3_sortBySize_10 (by decide) (fun c1 => ?_) (fun c1 => ?_)
  · replace h := (if_pos c1).symm.trans h
    cases h
    refine v_locs (L' := []) [] rfl ?_
    exact K
  · replace h := (if_neg c1).symm.trans h
    refine v_aload_n G dX3_sortBySize_13 rfl 0 rfl ?_
    refine v_getr (lay := layC) (k := 4) (k' := 3) (C := RX3) (T := TX3) (N := 4) G (fun _ h => i_X3_sortBySize_X3 _ h) rfl rfl 0 (by decide) (by decide +kernel) rfl rfl dX3_sortBySize_14 ?_
    refine v_getr (lay := layC) (k := 3) (k' := 20) (C := RX4) (T := TX4) (N := 12) G (fun _ h => i_X3_sortBySize_X4 _ h) rfl rfl 5 (by decide) (by decide +kernel) rfl rfl dX3_sortBySize_17 ?_
    refine v_iload_n G dX3_sortBySize_20 rfl 1 rfl ?_
    obtain ⟨t2, e3, h⟩ := Option.bind_eq_some_iff.mp h
    refine v_iald (lay := layC) (k := 20) (n := 12) G rfl e3 dX3_sortBySize_21 ?_
    refine v_istore_n (L' := [(2, .int t2), (0, .ref (q 4)), (1, .int v1)]) G dX3_sortBySize_22 rfl (by decide) rfl ?_
    refine v_iload_n G dX3_sortBySize_23 rfl 2 rfl ?_
    refine v_istore_n (L' := [(3, .int v1), (2, .int t2), (0, .ref (q 4)), (1, .int v1)]) G dX3_sortBySize_24 rfl (by decide) rfl ?_
    obtain ⟨x16, e17, h⟩ := Option.bind_eq_some_iff.mp h
    refine v_locs (L' := [(0, .ref (q 4)), (1, .int v1), (2, .int t2), (3, .int v1)]) [2, 3, 1, 0] rfl ?_
    have l22 := v_lp (b := m_X3_sortBySize_L25 v1 t2) (I := fun x => apV Γ 4 (apU layC q (apd Γ) x.1) 0 0 25 [(0, .ref (q 4)), (1, .int v1), (2, .int t2), (3, .int x.2)] []) (O := fun x => apV Γ 4 (apU layC q (apd Γ) x.1) 0 0 77 [(0, .ref (q 4)), (1, .int v1), (2, .int t2), (3, .int x.2)] []) (fun x r hb hK => by obtain ⟨ys, y3⟩ := x; rcases r with r | r <;> exact w_X3_sortBySize_L25 G hK hb) FU (s0, v1) x16 e17
    obtain ⟨s19, v18⟩ := x16
    dsimp only at h
    refine l22 ?_
    exact w_X3_sortBySize_B77 G K h
def m_X3_sortBySize (s : apM)  : Option apM := Option.bind (lp FU (m_X3_sortBySize_L2) (s, 0)) (fun x23 => match x23 with | (s26, v25) => some s26)
set_option maxHeartbeats 4000000 in
set_option maxRecDepth 100000 in
theorem w_X3_sortBySize {Γ : apC} {q : Nat → Nat} (G : apG Γ cX3_sortBySize 4 RX3 wsX3_sortBySize (apRm 0 0) apXC) {s : apM} {r : apM} (K : apR Γ cX3_sortBySize 0 0 none (apU layC q (apd Γ) r)) (h : m_X3_sortBySize s = some r) : apV Γ 4 (apU layC q (apd Γ) s) 0 0 0 [(0, .ref (q 4))] [] := by
  unfold m_X3_sortBySize at h
  refine v_iconst (v := 0) G dX3_sortBySize_0 (by decide) ?_
  refine v_istore_n (L' := [(1, .int 0), (0, .ref (q 4))]) G dX3_sortBySize_1 rfl (by decide) rfl ?_
  obtain ⟨x23, e24, h⟩ := Option.bind_eq_some_iff.mp h
  refine v_locs (L' := [(0, .ref (q 4)), (1, .int 0)]) [1, 0] rfl ?_
  have l27 := v_lp (b := m_X3_sortBySize_L2) (I := fun x => apV Γ 4 (apU layC q (apd Γ) x.1) 0 0 2 [(0, .ref (q 4)), (1, .int x.2)] []) (O := fun x => apV Γ 4 (apU layC q (apd Γ) x.1) 0 0 90 [] []) (fun x r hb hK => by obtain ⟨ys, y1⟩ := x; rcases r with r | r <;> exact w_X3_sortBySize_L2 G hK hb) FU (s, 0) x23 e24
  obtain ⟨s26, v25⟩ := x23
  dsimp only at h
  refine l27 ?_
  cases h
  exact v_vret G K (by decide) (by decide) dX3_sortBySize_90
theorem c_X3_sortBySize (l : Launch) {s : apM} {r : apM} (h : m_X3_sortBySize s = some r) : apMv l layC apXC yX3_sortBySize wsX3_sortBySize 0 (fun q => [.ref (q 4)]) s r := apMv_of (cc := cX3_sortBySize) (nL := 4) (by decide) rfl (fun _ => Nat.le_of_ble_eq_true rfl) (fun Γ q hl G K => w_X3_sortBySize G K h)
theorem i_X3_end_X3 : ∀ w ∈ u_ws RX3 TX3 4, w ∈ wsX3_end := by decide +kernel
theorem i_X3_end_X4 : ∀ w ∈ u_ws RX4 TX4 12, w ∈ wsX3_end := by decide +kernel
def m_X3_end (s : apM) (v1 : Int32) : Option Int32 := Option.bind (ald s 25 12 v1) (fun t1 => Option.bind (ald s 18 12 v1) (fun t3 => some (t1 + t3)))
set_option maxHeartbeats 4000000 in
set_option maxRecDepth 100000 in
theorem w_X3_end {Γ : apC} {q : Nat → Nat} (G : apG Γ cX3_end 2 RX3 wsX3_end (apRm 0 0) apXC) {s : apM} {v1 : Int32} {r : Int32} (K : apR Γ cX3_end 0 0 (some r) (apU layC q (apd Γ) s)) (h : m_X3_end s v1 = some r) : apV Γ 2 (apU layC q (apd Γ) s) 0 0 0 [(0, .ref (q 4)), (1, .int v1)] [] := by
  unfold m_X3_end at h
  refine v_aload_n G dX3_end_0 rfl 0 rfl ?_
  refine v_getr (lay := layC) (k := 4) (k' := 25) (C := RX3) (T := TX3) (N := 4) G (fun _ h => i_X3_end_X3 _ h) rfl rfl 2 (by decide) (by decide +kernel) rfl rfl dX3_end_1 ?_
  refine v_iload_n G dX3_end_4 rfl 1 rfl ?_
  obtain ⟨t1, e2, h⟩ := Option.bind_eq_some_iff.mp h
  refine v_iald (lay := layC) (k := 25) (n := 12) G rfl e2 dX3_end_5 ?_
  refine v_aload_n G dX3_end_6 rfl 0 rfl ?_
  refine v_getr (lay := layC) (k := 4) (k' := 3) (C := RX3) (T := TX3) (N := 4) G (fun _ h => i_X3_end_X3 _ h) rfl rfl 0 (by decide) (by decide +kernel) rfl rfl dX3_end_7 ?_
  refine v_getr (lay := layC) (k := 3) (k' := 18) (C := RX4) (T := TX4) (N := 12) G (fun _ h => i_X3_end_X4 _ h) rfl rfl 3 (by decide) (by decide +kernel) rfl rfl dX3_end_10 ?_
  refine v_iload_n G dX3_end_13 rfl 1 rfl ?_
  obtain ⟨t3, e4, h⟩ := Option.bind_eq_some_iff.mp h
  refine v_iald (lay := layC) (k := 18) (n := 12) G rfl e4 dX3_end_14 ?_
  refine v_iadd G dX3_end_15 ?_
  cases h
  exact v_iret G K (by decide) (by decide) dX3_end_16
theorem c_X3_end (l : Launch) {s : apM} {v1 : Int32} {r : Int32} (h : m_X3_end s v1 = some r) : apMi l layC apXC yX3_end wsX3_end 0 (fun q => [.ref (q 4), .int v1]) s r s := apMi_of (cc := cX3_end) (nL := 2) (r := r) (by decide) rfl rfl (fun _ => Nat.le_of_ble_eq_true rfl) (fun Γ q hl G K => w_X3_end G K h)
theorem i_X3_isInTheWay_X3 : ∀ w ∈ u_ws RX3 TX3 4, w ∈ wsX3_isInTheWay := by decide +kernel
theorem i_X3_isInTheWay_X4 : ∀ w ∈ u_ws RX4 TX4 12, w ∈ wsX3_isInTheWay := by decide +kernel
def m_X3_isInTheWay (s : apM) (v1 : Int32) (v2 : Int32) (v3 : Int32) : Option Int32 := Option.bind (m_X4_liveTogether s v1 v2) (fun t1 => if t1 = 0 then (some 0) else (Option.bind (m_X3_end s v1) (fun t4 => if t4 ≤ v3 then (some 0) else (Option.bind (ald s 25 12 v1) (fun t7 => Option.bind (ald s 18 12 v2) (fun t9 => if (v3 + t9) ≤ t7 then (some 0) else (some 1)))))))
set_option maxHeartbeats 4000000 in
set_option maxRecDepth 100000 in
theorem w_X3_isInTheWay {Γ : apC} {q : Nat → Nat} (G : apG Γ cX3_isInTheWay 4 RX3 wsX3_isInTheWay (apRm 1 0) apXC) {s : apM} {v1 v2 v3 : Int32} {r : Int32} (K : apR Γ cX3_isInTheWay 0 0 (some r) (apU layC q (apd Γ) s)) (h : m_X3_isInTheWay s v1 v2 v3 = some r) : apV Γ 4 (apU layC q (apd Γ) s) 0 0 0 [(0, .ref (q 4)), (1, .int v1), (2, .int v2), (3, .int v3)] [] := by
  unfold m_X3_isInTheWay at h
  refine v_aload_n G dX3_isInTheWay_0 rfl 0 rfl ?_
  refine v_getr (lay := layC) (k := 4) (k' := 3) (C := RX3) (T := TX3) (N := 4) G (fun _ h => i_X3_isInTheWay_X3 _ h) rfl rfl 0 (by decide) (by decide +kernel) rfl rfl dX3_isInTheWay_1 ?_
  refine v_iload_n G dX3_isInTheWay_4 rfl 1 rfl ?_
  refine v_iload_n G dX3_isInTheWay_5 rfl 2 rfl ?_
  obtain ⟨t1, e2, h⟩ := Option.bind_eq_some_iff.mp h
  refine v_calliV (lay := layC) (As := [.int v1, .int v2]) (st := []) (n := 2) (C := RX4) (T := TX4) (k0 := 3) G apXCok (c_X4_liveTogether Γ.1.2.1 e2) gX3_isInTheWay_X4_liveTogether rfl (by decide +kernel) (by decide) rfl rfl rfl rfl (Nat.le_of_ble_eq_true rfl) (by decide) rfl dX3_isInTheWay_6 ?_
  refine v_if_eq (tgt := 45) G dX3_isInTheWay_9 (by decide) (fun c3 => ?_) (fun c3 => ?_)
  · replace h := (if_pos c3).symm.trans h
    refine v_iconst (v := 0) G dX3_isInTheWay_45 (by decide) ?_
    cases h
    exact v_iret G K (by decide) (by decide) dX3_isInTheWay_46
  · replace h := (if_neg c3).symm.trans h
    refine v_iload_n G dX3_isInTheWay_12 rfl 3 rfl ?_
    refine v_aload_n G dX3_isInTheWay_13 rfl 0 rfl ?_
    refine v_iload_n G dX3_isInTheWay_14 rfl 1 rfl ?_
    obtain ⟨t4, e5, h⟩ := Option.bind_eq_some_iff.mp h
    refine v_calliV (lay := layC) (As := [.int v1]) (st := [.int v3]) (n := 1) (C := RX3) (T := TX3) (k0 := 4) G apXCok (c_X3_end Γ.1.2.1 e5) gX3_isInTheWay_X3_end rfl (by decide +kernel) (by decide) rfl rfl rfl rfl (Nat.le_of_ble_eq_true rfl) (by decide) rfl dX3_isInTheWay_15 ?_
    refine v_icmp_ge (tgt := 45) G dX3_isInTheWay_18 (by decide) (fun c6 => ?_) (fun c6 => ?_)
    · replace h := (if_pos c6).symm.trans h
      refine v_iconst (v := 0) G dX3_isInTheWay_45 (by decide) ?_
      cases h
      exact v_iret G K (by decide) (by decide) dX3_isInTheWay_46
    · replace h := (if_neg c6).symm.trans h
      refine v_aload_n G dX3_isInTheWay_21 rfl 0 rfl ?_
      refine v_getr (lay := layC) (k := 4) (k' := 25) (C := RX3) (T := TX3) (N := 4) G (fun _ h => i_X3_isInTheWay_X3 _ h) rfl rfl 2 (by decide) (by decide +kernel) rfl rfl dX3_isInTheWay_22 ?_
      refine v_iload_n G dX3_isInTheWay_25 rfl 1 rfl ?_
      obtain ⟨t7, e8, h⟩ := Option.bind_eq_some_iff.mp h
      refine v_iald (lay := layC) (k := 25) (n := 12) G rfl e8 dX3_isInTheWay_26 ?_
      refine v_iload_n G dX3_isInTheWay_27 rfl 3 rfl ?_
      refine v_aload_n G dX3_isInTheWay_28 rfl 0 rfl ?_
      refine v_getr (lay := layC) (k := 4) (k' := 3) (C := RX3) (T := TX3) (N := 4) G (fun _ h => i_X3_isInTheWay_X3 _ h) rfl rfl 0 (by decide) (by decide +kernel) rfl rfl dX3_isInTheWay_29 ?_
      refine v_getr (lay := layC) (k := 3) (k' := 18) (C := RX4) (T := TX4) (N := 12) G (fun _ h => i_X3_isInTheWay_X4 _ h) rfl rfl 3 (by decide) (by decide +kernel) rfl rfl dX3_isInTheWay_32 ?_
      refine v_iload_n G dX3_isInTheWay_35 rfl 2 rfl ?_
      obtain ⟨t9, e10, h⟩ := Option.bind_eq_some_iff.mp h
      refine v_iald (lay := layC) (k := 18) (n := 12) G rfl e10 dX3_isInTheWay_36 ?_
      refine v_iadd G dX3_isInTheWay_37 ?_
      refine v_icmp_ge (tgt := 45) G dX3_isInTheWay_38 (by decide) (fun c11 => ?_) (fun c11 => ?_)
      · replace h := (if_pos c11).symm.trans h
        refine v_iconst (v := 0) G dX3_isInTheWay_45 (by decide) ?_
        cases h
        exact v_iret G K (by decide) (by decide) dX3_isInTheWay_46
      · replace h := (if_neg c11).symm.trans h
        refine v_iconst (v := 1) G dX3_isInTheWay_41 (by decide) ?_
        refine v_goto (tgt := 46) G dX3_isInTheWay_42 (by decide) ?_
        cases h
        exact v_iret G K (by decide) (by decide) dX3_isInTheWay_46
theorem z_X3_isInTheWay {s : apM} {v1 v2 v3 : Int32} {r : Int32} (h : m_X3_isInTheWay s v1 v2 v3 = some r) : r = 0 ∨ r = 1 := by
  unfold m_X3_isInTheWay at h
  obtain ⟨t1, e2, h⟩ := Option.bind_eq_some_iff.mp h
  by_cases c3 : t1 = 0
  · replace h := (if_pos c3).symm.trans h
    cases h
    exact Or.inl rfl
  · replace h := (if_neg c3).symm.trans h
    obtain ⟨t4, e5, h⟩ := Option.bind_eq_some_iff.mp h
    by_cases c6 : t4 ≤ v3
    · replace h := (if_pos c6).symm.trans h
      cases h
      exact Or.inl rfl
    · replace h := (if_neg c6).symm.trans h
      obtain ⟨t7, e8, h⟩ := Option.bind_eq_some_iff.mp h
      obtain ⟨t9, e10, h⟩ := Option.bind_eq_some_iff.mp h
      by_cases c11 : (v3 + t9) ≤ t7
      · replace h := (if_pos c11).symm.trans h
        cases h
        exact Or.inl rfl
      · replace h := (if_neg c11).symm.trans h
        cases h
        exact Or.inr rfl
theorem c_X3_isInTheWay (l : Launch) {s : apM} {v1 v2 v3 : Int32} {r : Int32} (h : m_X3_isInTheWay s v1 v2 v3 = some r) : apMi l layC apXC yX3_isInTheWay wsX3_isInTheWay 1 (fun q => [.ref (q 4), .int v1, .int v2, .int v3]) s r s := apMi_of (cc := cX3_isInTheWay) (nL := 4) (r := r) (by decide) rfl (by rcases z_X3_isInTheWay h with e | e <;> rw [e] <;> rfl) (fun _ => Nat.le_of_ble_eq_true rfl) (fun Γ q hl G K => w_X3_isInTheWay G K h)
theorem i_X3_lowestStart_X3 : ∀ w ∈ u_ws RX3 TX3 4, w ∈ wsX3_lowestStart := by decide +kernel
def m_X3_lowestStart_L21 (s : apM) (v1 : Int32) (v2 : Int32) (v4 : Int32) : (Int32 × Int32) → Option ((Int32 × Int32) ⊕ (Int32 × Int32)) := fun (v3, v5) => if v1 ≤ v5 then (some (.inr (v3, v5))) else (Option.bind (ald s 24 12 v5) (fun t5 => Option.bind (m_X3_isInTheWay s t5 v2 v3) (fun t7 => if t7 = 0 then (some (.inl (v3, v5 + 1))) else (Option.bind (ald s 24 12 v5) (fun t10 => Option.bind (m_X3_end s t10) (fun t12 => some (.inl (t12, v5 + 1))))))))
set_option maxHeartbeats 4000000 in
set_option maxRecDepth 100000 in
theorem w_X3_lowestStart_L21 {Γ : apC} {q : Nat → Nat} (G : apG Γ cX3_lowestStart 6 RX3 wsX3_lowestStart (apRm 2 0) apXC) {s : apM} {v1 v2 v4 v3 v5 : Int32} {r : ((Int32 × Int32) ⊕ (Int32 × Int32))} (K : match r with | .inl x => apV Γ 6 (apU layC q (apd Γ) s) 0 0 21 [(0, .ref (q 4)), (1, .int v1), (2, .int v2), (3, .int x.1), (4, .int v4), (5, .int x.2)] [] | .inr x => apV Γ 6 (apU layC q (apd Γ) s) 0 0 61 [(0, .ref (q 4)), (1, .int v1), (2, .int v2), (3, .int x.1), (4, .int v4)] []) (h : m_X3_lowestStart_L21 s v1 v2 v4 (v3, v5) = some r) : apV Γ 6 (apU layC q (apd Γ) s) 0 0 21 [(0, .ref (q 4)), (1, .int v1), (2, .int v2), (3, .int v3), (4, .int v4), (5, .int v5)] [] := by
  unfold m_X3_lowestStart_L21 at h
  dsimp only at h
  refine v_iload G dX3_lowestStart_21 5 rfl ?_
  refine v_iload_n G dX3_lowestStart_23 rfl 1 rfl ?_
  refine v_icmp_ge (tgt := 61) G dX3_lowestStart_24 (by decide) (fun c4 => ?_) (fun c4 => ?_)
  · replace h := (if_pos c4).symm.trans h
    cases h
    refine v_locs (L' := [(0, .ref (q 4)), (1, .int v1), (2, .int v2), (3, .int v3), (4, .int v4)]) [0, 1, 2, 3, 4] rfl ?_
    exact K
  · replace h := (if_neg c4).symm.trans h
    refine v_aload_n G dX3_lowestStart_27 rfl 0 rfl ?_
    refine v_aload_n G dX3_lowestStart_28 rfl 0 rfl ?_
    refine v_getr (lay := layC) (k := 4) (k' := 24) (C := RX3) (T := TX3) (N := 4) G (fun _ h => i_X3_lowestStart_X3 _ h) rfl rfl 1 (by decide) (by decide +kernel) rfl rfl dX3_lowestStart_29 ?_
    refine v_iload G dX3_lowestStart_32 5 rfl ?_
    obtain ⟨t5, e6, h⟩ := Option.bind_eq_some_iff.mp h
    refine v_iald (lay := layC) (k := 24) (n := 12) G rfl e6 dX3_lowestStart_34 ?_
    refine v_iload_n G dX3_lowestStart_35 rfl 2 rfl ?_
    refine v_iload_n G dX3_lowestStart_36 rfl 3 rfl ?_
    obtain ⟨t7, e8, h⟩ := Option.bind_eq_some_iff.mp h
    refine v_calliV (lay := layC) (As := [.int t5, .int v2, .int v3]) (st := []) (n := 3) (C := RX3) (T := TX3) (k0 := 4) G apXCok (c_X3_isInTheWay Γ.1.2.1 e8) gX3_lowestStart_X3_isInTheWay rfl (by decide +kernel) (by decide) rfl rfl rfl rfl (Nat.le_of_ble_eq_true rfl) (by decide) rfl dX3_lowestStart_37 ?_
    refine v_if_eq (tgt := 55) G dX3_lowestStart_40 (by decide) (fun c9 => ?_) (fun c9 => ?_)
    · replace h := (if_pos c9).symm.trans h
      refine v_iinc (v := v5 + 1) (L' := [(5, .int (v5 + 1)), (0, .ref (q 4)), (1, .int v1), (2, .int v2), (3, .int v3), (4, .int v4)]) G dX3_lowestStart_55 5 rfl rfl (by decide) rfl ?_
      refine v_goto (tgt := 21) G dX3_lowestStart_58 (by decide) ?_
      cases h
      refine v_locs (L' := [(0, .ref (q 4)), (1, .int v1), (2, .int v2), (3, .int v3), (4, .int v4), (5, .int (v5 + 1))]) [1, 2, 3, 4, 5, 0] rfl ?_
      exact K
    · replace h := (if_neg c9).symm.trans h
      refine v_aload_n G dX3_lowestStart_43 rfl 0 rfl ?_
      refine v_aload_n G dX3_lowestStart_44 rfl 0 rfl ?_
      refine v_getr (lay := layC) (k := 4) (k' := 24) (C := RX3) (T := TX3) (N := 4) G (fun _ h => i_X3_lowestStart_X3 _ h) rfl rfl 1 (by decide) (by decide +kernel) rfl rfl dX3_lowestStart_45 ?_
      refine v_iload G dX3_lowestStart_48 5 rfl ?_
      obtain ⟨t10, e11, h⟩ := Option.bind_eq_some_iff.mp h
      refine v_iald (lay := layC) (k := 24) (n := 12) G rfl e11 dX3_lowestStart_50 ?_
      obtain ⟨t12, e13, h⟩ := Option.bind_eq_some_iff.mp h
      refine v_calliV (lay := layC) (As := [.int t10]) (st := []) (n := 1) (C := RX3) (T := TX3) (k0 := 4) G apXCok (c_X3_end Γ.1.2.1 e13) gX3_lowestStart_X3_end rfl (by decide +kernel) (by decide) rfl rfl rfl rfl (Nat.le_of_ble_eq_true rfl) (by decide) rfl dX3_lowestStart_51 ?_
      refine v_istore_n (L' := [(3, .int t12), (0, .ref (q 4)), (1, .int v1), (2, .int v2), (4, .int v4), (5, .int v5)]) G dX3_lowestStart_54 rfl (by decide) rfl ?_
      refine v_iinc (v := v5 + 1) (L' := [(5, .int (v5 + 1)), (3, .int t12), (0, .ref (q 4)), (1, .int v1), (2, .int v2), (4, .int v4)]) G dX3_lowestStart_55 5 rfl rfl (by decide) rfl ?_
      refine v_goto (tgt := 21) G dX3_lowestStart_58 (by decide) ?_
      cases h
      refine v_locs (L' := [(0, .ref (q 4)), (1, .int v1), (2, .int v2), (3, .int t12), (4, .int v4), (5, .int (v5 + 1))]) [2, 3, 4, 1, 5, 0] rfl ?_
      exact K
def m_X3_lowestStart_L12 (s : apM) (v1 : Int32) (v2 : Int32) : (Int32 × Int32) → Option ((Int32 × Int32) ⊕ (Int32 × Int32)) := fun (v3, v4) => if v1 ≤ v4 then (some (.inr (v3, v4))) else (Option.bind (lp FU (m_X3_lowestStart_L21 s v1 v2 v4) (v3, 0)) (fun x14 => match x14 with | (v16, v17) => some (.inl (v16, v4 + 1))))
set_option maxHeartbeats 4000000 in
set_option maxRecDepth 100000 in
theorem w_X3_lowestStart_L12 {Γ : apC} {q : Nat → Nat} (G : apG Γ cX3_lowestStart 6 RX3 wsX3_lowestStart (apRm 2 0) apXC) {s : apM} {v1 v2 v3 v4 : Int32} {r : ((Int32 × Int32) ⊕ (Int32 × Int32))} (K : match r with | .inl x => apV Γ 6 (apU layC q (apd Γ) s) 0 0 12 [(0, .ref (q 4)), (1, .int v1), (2, .int v2), (3, .int x.1), (4, .int x.2)] [] | .inr x => apV Γ 6 (apU layC q (apd Γ) s) 0 0 67 [(3, .int x.1)] []) (h : m_X3_lowestStart_L12 s v1 v2 (v3, v4) = some r) : apV Γ 6 (apU layC q (apd Γ) s) 0 0 12 [(0, .ref (q 4)), (1, .int v1), (2, .int v2), (3, .int v3), (4, .int v4)] [] := by
  unfold m_X3_lowestStart_L12 at h
  dsimp only at h
  refine v_iload G dX3_lowestStart_12 4 rfl ?_
  refine v_iload_n G dX3_lowestStart_14 rfl 1 rfl ?_
  refine v_icmp_ge (tgt := 67) G dX3_lowestStart_15 (by decide) (fun c3 => ?_) (fun c3 => ?_)
  · replace h := (if_pos c3).symm.trans h
    cases h
    refine v_locs (L' := [(3, .int v3)]) [3] rfl ?_
    exact K
  · replace h := (if_neg c3).symm.trans h
    refine v_iconst (v := 0) G dX3_lowestStart_18 (by decide) ?_
    refine v_istore (L' := [(5, .int 0), (0, .ref (q 4)), (1, .int v1), (2, .int v2), (3, .int v3), (4, .int v4)]) G dX3_lowestStart_19 (by decide) rfl ?_
    obtain ⟨x14, e15, h⟩ := Option.bind_eq_some_iff.mp h
    refine v_locs (L' := [(0, .ref (q 4)), (1, .int v1), (2, .int v2), (3, .int v3), (4, .int v4), (5, .int 0)]) [1, 2, 3, 4, 5, 0] rfl ?_
    have l18 := v_lp (b := m_X3_lowestStart_L21 s v1 v2 v4) (I := fun x => apV Γ 6 (apU layC q (apd Γ) s) 0 0 21 [(0, .ref (q 4)), (1, .int v1), (2, .int v2), (3, .int x.1), (4, .int v4), (5, .int x.2)] []) (O := fun x => apV Γ 6 (apU layC q (apd Γ) s) 0 0 61 [(0, .ref (q 4)), (1, .int v1), (2, .int v2), (3, .int x.1), (4, .int v4)] []) (fun x r hb hK => by obtain ⟨y3, y5⟩ := x; rcases r with r | r <;> exact w_X3_lowestStart_L21 G hK hb) FU (v3, 0) x14 e15
    obtain ⟨v16, v17⟩ := x14
    dsimp only at h
    refine l18 ?_
    refine v_iinc (v := v4 + 1) (L' := [(4, .int (v4 + 1)), (0, .ref (q 4)), (1, .int v1), (2, .int v2), (3, .int v16)]) G dX3_lowestStart_61 4 rfl rfl (by decide) rfl ?_
    refine v_goto (tgt := 12) G dX3_lowestStart_64 (by decide) ?_
    cases h
    refine v_locs (L' := [(0, .ref (q 4)), (1, .int v1), (2, .int v2), (3, .int v16), (4, .int (v4 + 1))]) [1, 2, 3, 4, 0] rfl ?_
    exact K
def m_X3_lowestStart (s : apM) (v1 : Int32) : Option Int32 := Option.bind (ald s 24 12 v1) (fun t1 => Option.bind (lp FU (m_X3_lowestStart_L12 s v1 t1) (0, 0)) (fun x19 => match x19 with | (v21, v22) => some v21))
set_option maxHeartbeats 4000000 in
set_option maxRecDepth 100000 in
theorem w_X3_lowestStart {Γ : apC} {q : Nat → Nat} (G : apG Γ cX3_lowestStart 6 RX3 wsX3_lowestStart (apRm 2 0) apXC) {s : apM} {v1 : Int32} {r : Int32} (K : apR Γ cX3_lowestStart 0 0 (some r) (apU layC q (apd Γ) s)) (h : m_X3_lowestStart s v1 = some r) : apV Γ 6 (apU layC q (apd Γ) s) 0 0 0 [(0, .ref (q 4)), (1, .int v1)] [] := by
  unfold m_X3_lowestStart at h
  refine v_aload_n G dX3_lowestStart_0 rfl 0 rfl ?_
  refine v_getr (lay := layC) (k := 4) (k' := 24) (C := RX3) (T := TX3) (N := 4) G (fun _ h => i_X3_lowestStart_X3 _ h) rfl rfl 1 (by decide) (by decide +kernel) rfl rfl dX3_lowestStart_1 ?_
  refine v_iload_n G dX3_lowestStart_4 rfl 1 rfl ?_
  obtain ⟨t1, e2, h⟩ := Option.bind_eq_some_iff.mp h
  refine v_iald (lay := layC) (k := 24) (n := 12) G rfl e2 dX3_lowestStart_5 ?_
  refine v_istore_n (L' := [(2, .int t1), (0, .ref (q 4)), (1, .int v1)]) G dX3_lowestStart_6 rfl (by decide) rfl ?_
  refine v_iconst (v := 0) G dX3_lowestStart_7 (by decide) ?_
  refine v_istore_n (L' := [(3, .int 0), (2, .int t1), (0, .ref (q 4)), (1, .int v1)]) G dX3_lowestStart_8 rfl (by decide) rfl ?_
  refine v_iconst (v := 0) G dX3_lowestStart_9 (by decide) ?_
  refine v_istore (L' := [(4, .int 0), (3, .int 0), (2, .int t1), (0, .ref (q 4)), (1, .int v1)]) G dX3_lowestStart_10 (by decide) rfl ?_
  obtain ⟨x19, e20, h⟩ := Option.bind_eq_some_iff.mp h
  refine v_locs (L' := [(0, .ref (q 4)), (1, .int v1), (2, .int t1), (3, .int 0), (4, .int 0)]) [3, 4, 2, 1, 0] rfl ?_
  have l23 := v_lp (b := m_X3_lowestStart_L12 s v1 t1) (I := fun x => apV Γ 6 (apU layC q (apd Γ) s) 0 0 12 [(0, .ref (q 4)), (1, .int v1), (2, .int t1), (3, .int x.1), (4, .int x.2)] []) (O := fun x => apV Γ 6 (apU layC q (apd Γ) s) 0 0 67 [(3, .int x.1)] []) (fun x r hb hK => by obtain ⟨y3, y4⟩ := x; rcases r with r | r <;> exact w_X3_lowestStart_L12 G hK hb) FU (0, 0) x19 e20
  obtain ⟨v21, v22⟩ := x19
  dsimp only at h
  refine l23 ?_
  refine v_iload_n G dX3_lowestStart_67 rfl 0 rfl ?_
  cases h
  exact v_iret G K (by decide) (by decide) dX3_lowestStart_68
theorem c_X3_lowestStart (l : Launch) {s : apM} {v1 : Int32} {r : Int32} (h : m_X3_lowestStart s v1 = some r) : apMi l layC apXC yX3_lowestStart wsX3_lowestStart 2 (fun q => [.ref (q 4), .int v1]) s r s := apMi_of (cc := cX3_lowestStart) (nL := 6) (r := r) (by decide) rfl rfl (fun _ => Nat.le_of_ble_eq_true rfl) (fun Γ q hl G K => w_X3_lowestStart G K h)
theorem i_X3_assign_X3 : ∀ w ∈ u_ws RX3 TX3 4, w ∈ wsX3_assign := by decide +kernel
theorem i_X3_assign_X4 : ∀ w ∈ u_ws RX4 TX4 12, w ∈ wsX3_assign := by decide +kernel
def m_X3_assign_L11  : (apM × Int32) → Option ((apM × Int32) ⊕ (apM × Int32)) := fun (s0, v1) => if (s0 3 10) ≤ v1 then (some (.inr (s0, v1))) else (Option.bind (ald s0 24 12 v1) (fun t4 => Option.bind (m_X3_lowestStart s0 v1) (fun t6 => Option.bind (ast s0 25 12 t4 t6) (fun s8 => Option.bind (m_X3_end s8 t4) (fun t10 => some (.inl (mst s8 4 3 (if (s8 4 3) < t10 then t10 else (s8 4 3)), v1 + 1)))))))
set_option maxHeartbeats 4000000 in
set_option maxRecDepth 100000 in
theorem w_X3_assign_L11 {Γ : apC} {q : Nat → Nat} (G : apG Γ cX3_assign 3 RX3 wsX3_assign (apRm 3 0) apXC) {s0 : apM} {v1 : Int32} {r : ((apM × Int32) ⊕ (apM × Int32))} (K : match r with | .inl x => apV Γ 3 (apU layC q (apd Γ) x.1) 0 0 11 [(0, .ref (q 4)), (1, .int x.2)] [] | .inr x => apV Γ 3 (apU layC q (apd Γ) x.1) 0 0 62 [] []) (h : m_X3_assign_L11 (s0, v1) = some r) : apV Γ 3 (apU layC q (apd Γ) s0) 0 0 11 [(0, .ref (q 4)), (1, .int v1)] [] := by
  unfold m_X3_assign_L11 at h
  dsimp only at h
  refine v_iload_n G dX3_assign_11 rfl 1 rfl ?_
  refine v_aload_n G dX3_assign_12 rfl 0 rfl ?_
  refine v_getr (lay := layC) (k := 4) (k' := 3) (C := RX3) (T := TX3) (N := 4) G (fun _ h => i_X3_assign_X3 _ h) rfl rfl 0 (by decide) (by decide +kernel) rfl rfl dX3_assign_13 ?_
  refine v_geti (lay := layC) (k := 3) (C := RX4) (T := TX4) (N := 12) G (fun _ h => i_X3_assign_X4 _ h) rfl rfl 10 (by decide) (by decide +kernel) rfl rfl dX3_assign_16 ?_
  refine v_icmp_ge (tgt := 62) G dX3_assign_19 (by decide) (fun c3 => ?_) (fun c3 => ?_)
  · replace h := (if_pos c3).symm.trans h
    cases h
    refine v_locs (L' := []) [] rfl ?_
    exact K
  · replace h := (if_neg c3).symm.trans h
    refine v_aload_n G dX3_assign_22 rfl 0 rfl ?_
    refine v_getr (lay := layC) (k := 4) (k' := 24) (C := RX3) (T := TX3) (N := 4) G (fun _ h => i_X3_assign_X3 _ h) rfl rfl 1 (by decide) (by decide +kernel) rfl rfl dX3_assign_23 ?_
    refine v_iload_n G dX3_assign_26 rfl 1 rfl ?_
    obtain ⟨t4, e5, h⟩ := Option.bind_eq_some_iff.mp h
    refine v_iald (lay := layC) (k := 24) (n := 12) G rfl e5 dX3_assign_27 ?_
    refine v_istore_n (L' := [(2, .int t4), (0, .ref (q 4)), (1, .int v1)]) G dX3_assign_28 rfl (by decide) rfl ?_
    refine v_aload_n G dX3_assign_29 rfl 1 rfl ?_
    refine v_getr (lay := layC) (k := 4) (k' := 25) (C := RX3) (T := TX3) (N := 4) G (fun _ h => i_X3_assign_X3 _ h) rfl rfl 2 (by decide) (by decide +kernel) rfl rfl dX3_assign_30 ?_
    refine v_iload_n G dX3_assign_33 rfl 0 rfl ?_
    refine v_aload_n G dX3_assign_34 rfl 1 rfl ?_
    refine v_iload_n G dX3_assign_35 rfl 2 rfl ?_
    obtain ⟨t6, e7, h⟩ := Option.bind_eq_some_iff.mp h
    refine v_calliV (lay := layC) (As := [.int v1]) (st := [.int t4, .ref (q 25)]) (n := 1) (C := RX3) (T := TX3) (k0 := 4) G apXCok (c_X3_lowestStart Γ.1.2.1 e7) gX3_assign_X3_lowestStart rfl (by decide +kernel) (by decide) rfl rfl rfl rfl (Nat.le_of_ble_eq_true rfl) (by decide) rfl dX3_assign_36 ?_
    obtain ⟨s8, e9, h⟩ := Option.bind_eq_some_iff.mp h
    refine v_iast (lay := layC) (k := 25) (n := 12) G rfl e9 dX3_assign_39 ?_
    refine v_aload_n G dX3_assign_40 rfl 1 rfl ?_
    refine v_aload_n G dX3_assign_41 rfl 1 rfl ?_
    refine v_geti (lay := layC) (k := 4) (C := RX3) (T := TX3) (N := 4) G (fun _ h => i_X3_assign_X3 _ h) rfl rfl 3 (by decide) (by decide +kernel) rfl rfl dX3_assign_42 ?_
    refine v_aload_n G dX3_assign_45 rfl 1 rfl ?_
    refine v_iload_n G dX3_assign_46 rfl 0 rfl ?_
    obtain ⟨t10, e11, h⟩ := Option.bind_eq_some_iff.mp h
    refine v_calliV (lay := layC) (As := [.int t4]) (st := [.int (s8 4 3), .ref (q 4)]) (n := 1) (C := RX3) (T := TX3) (k0 := 4) G apXCok (c_X3_end Γ.1.2.1 e11) gX3_assign_X3_end rfl (by decide +kernel) (by decide) rfl rfl rfl rfl (Nat.le_of_ble_eq_true rfl) (by decide) rfl dX3_assign_47 ?_
    refine v_mmax G (by decide +kernel) (by decide +kernel) (by decide +kernel) (by decide +kernel) (by decide) (Nat.le_of_ble_eq_true rfl) (by decide) dX3_assign_50 ?_
    refine v_put (lay := layC) (k := 4) (C := RX3) (T := TX3) (N := 4) G (fun _ h => i_X3_assign_X3 _ h) tyX3 tyX3_ok nmX3 rfl rfl 3 (by decide) (by decide +kernel) rfl rfl (by first | rfl | decide) (by first | rfl | decide) rfl dX3_assign_53 ?_
    refine v_iinc (v := v1 + 1) (L' := [(1, .int (v1 + 1)), (2, .int t4), (0, .ref (q 4))]) G dX3_assign_56 2 rfl rfl (by decide) rfl ?_
    refine v_goto (tgt := 11) G dX3_assign_59 (by decide) ?_
    cases h
    refine v_locs (L' := [(0, .ref (q 4)), (1, .int (v1 + 1))]) [2, 0] rfl ?_
    exact K
def m_X3_assign (s : apM)  : Option apM := Option.bind (m_X3_sortBySize s) (fun s1 => Option.bind (lp FU (m_X3_assign_L11) (mst s1 4 3 0, 0)) (fun x12 => match x12 with | (s15, v14) => some s15))
set_option maxHeartbeats 4000000 in
set_option maxRecDepth 100000 in
theorem w_X3_assign {Γ : apC} {q : Nat → Nat} (G : apG Γ cX3_assign 3 RX3 wsX3_assign (apRm 3 0) apXC) {s : apM} {r : apM} (K : apR Γ cX3_assign 0 0 none (apU layC q (apd Γ) r)) (h : m_X3_assign s = some r) : apV Γ 3 (apU layC q (apd Γ) s) 0 0 0 [(0, .ref (q 4))] [] := by
  unfold m_X3_assign at h
  refine v_aload_n G dX3_assign_0 rfl 0 rfl ?_
  obtain ⟨s1, e2, h⟩ := Option.bind_eq_some_iff.mp h
  refine v_callvV (lay := layC) (As := []) (st := []) (n := 0) (C := RX3) (T := TX3) (k0 := 4) G apXCok (c_X3_sortBySize Γ.1.2.1 e2) gX3_assign_X3_sortBySize rfl (by decide +kernel) (by decide) rfl rfl rfl rfl (Nat.le_of_ble_eq_true rfl) (by decide) rfl dX3_assign_1 ?_
  refine v_aload_n G dX3_assign_4 rfl 0 rfl ?_
  refine v_iconst (v := 0) G dX3_assign_5 (by decide) ?_
  refine v_put (lay := layC) (k := 4) (C := RX3) (T := TX3) (N := 4) G (fun _ h => i_X3_assign_X3 _ h) tyX3 tyX3_ok nmX3 rfl rfl 3 (by decide) (by decide +kernel) rfl rfl (by first | rfl | decide) (by first | rfl | decide) rfl dX3_assign_6 ?_
  refine v_iconst (v := 0) G dX3_assign_9 (by decide) ?_
  refine v_istore_n (L' := [(1, .int 0), (0, .ref (q 4))]) G dX3_assign_10 rfl (by decide) rfl ?_
  obtain ⟨x12, e13, h⟩ := Option.bind_eq_some_iff.mp h
  refine v_locs (L' := [(0, .ref (q 4)), (1, .int 0)]) [1, 0] rfl ?_
  have l16 := v_lp (b := m_X3_assign_L11) (I := fun x => apV Γ 3 (apU layC q (apd Γ) x.1) 0 0 11 [(0, .ref (q 4)), (1, .int x.2)] []) (O := fun x => apV Γ 3 (apU layC q (apd Γ) x.1) 0 0 62 [] []) (fun x r hb hK => by obtain ⟨ys, y1⟩ := x; rcases r with r | r <;> exact w_X3_assign_L11 G hK hb) FU (mst s1 4 3 0, 0) x12 e13
  obtain ⟨s15, v14⟩ := x12
  dsimp only at h
  refine l16 ?_
  cases h
  exact v_vret G K (by decide) (by decide) dX3_assign_62
theorem c_X3_assign (l : Launch) {s : apM} {r : apM} (h : m_X3_assign s = some r) : apMv l layC apXC yX3_assign wsX3_assign 3 (fun q => [.ref (q 4)]) s r := apMv_of (cc := cX3_assign) (nL := 3) (by decide) rfl (fun _ => Nat.le_of_ble_eq_true rfl) (fun Γ q hl G K => w_X3_assign G K h)
