/-! ===== models of methods, and that the bytecode does what they say (by gen.py) ===== -/
theorem i_X4_liveTogether_X4 : ∀ w ∈ u_ws RX4 TX4 12, w ∈ wsX4_liveTogether := by decide +kernel
def m_X4_liveTogether (s : apM) (v1 : Int32) (v2 : Int32) : Option Int32 := Option.bind (ald s 21 12 v1) (fun t1 => Option.bind (ald s 22 12 v2) (fun t3 => if t3 < t1 then (some 0) else (Option.bind (ald s 21 12 v2) (fun t6 => Option.bind (ald s 22 12 v1) (fun t8 => if t8 < t6 then (some 0) else (some 1))))))
set_option maxHeartbeats 4000000 in
set_option maxRecDepth 100000 in
theorem w_X4_liveTogether {Γ : apC} {q : Nat → Nat} (G : apG Γ cX4_liveTogether 3 RX4 wsX4_liveTogether (apRm 0 0) apXC) {s : apM} {v1 v2 : Int32} {r : Int32} (K : apR Γ cX4_liveTogether 0 0 (some r) (apU layC q (apd Γ) s)) (h : m_X4_liveTogether s v1 v2 = some r) : apV Γ 3 (apU layC q (apd Γ) s) 0 0 0 [(0, .ref (q 3)), (1, .int v1), (2, .int v2)] [] := by
  unfold m_X4_liveTogether at h
  refine v_aload_n G dX4_liveTogether_0 rfl 0 rfl ?_
  refine v_getr (lay := layC) (k := 3) (k' := 21) (C := RX4) (T := TX4) (N := 12) G (fun _ h => i_X4_liveTogether_X4 _ h) rfl rfl 6 (by decide) (by decide +kernel) rfl rfl dX4_liveTogether_1 ?_
  refine v_iload_n G dX4_liveTogether_4 rfl 1 rfl ?_
  obtain ⟨t1, e2, h⟩ := Option.bind_eq_some_iff.mp h
  refine v_iald (lay := layC) (k := 21) (n := 12) G rfl e2 dX4_liveTogether_5 ?_
  refine v_aload_n G dX4_liveTogether_6 rfl 0 rfl ?_
  refine v_getr (lay := layC) (k := 3) (k' := 22) (C := RX4) (T := TX4) (N := 12) G (fun _ h => i_X4_liveTogether_X4 _ h) rfl rfl 7 (by decide) (by decide +kernel) rfl rfl dX4_liveTogether_7 ?_
  refine v_iload_n G dX4_liveTogether_10 rfl 2 rfl ?_
  obtain ⟨t3, e4, h⟩ := Option.bind_eq_some_iff.mp h
  refine v_iald (lay := layC) (k := 22) (n := 12) G rfl e4 dX4_liveTogether_11 ?_
  refine v_icmp_gt (tgt := 34) G dX4_liveTogether_12 (by decide) (fun c5 => ?_) (fun c5 => ?_)
  · replace h := (if_pos c5).symm.trans h
    refine v_iconst (v := 0) G dX4_liveTogether_34 (by decide) ?_
    cases h
    exact v_iret G K (by decide) (by decide) dX4_liveTogether_35
  · replace h := (if_neg c5).symm.trans h
    refine v_aload_n G dX4_liveTogether_15 rfl 0 rfl ?_
    refine v_getr (lay := layC) (k := 3) (k' := 21) (C := RX4) (T := TX4) (N := 12) G (fun _ h => i_X4_liveTogether_X4 _ h) rfl rfl 6 (by decide) (by decide +kernel) rfl rfl dX4_liveTogether_16 ?_
    refine v_iload_n G dX4_liveTogether_19 rfl 2 rfl ?_
    obtain ⟨t6, e7, h⟩ := Option.bind_eq_some_iff.mp h
    refine v_iald (lay := layC) (k := 21) (n := 12) G rfl e7 dX4_liveTogether_20 ?_
    refine v_aload_n G dX4_liveTogether_21 rfl 0 rfl ?_
    refine v_getr (lay := layC) (k := 3) (k' := 22) (C := RX4) (T := TX4) (N := 12) G (fun _ h => i_X4_liveTogether_X4 _ h) rfl rfl 7 (by decide) (by decide +kernel) rfl rfl dX4_liveTogether_22 ?_
    refine v_iload_n G dX4_liveTogether_25 rfl 1 rfl ?_
    obtain ⟨t8, e9, h⟩ := Option.bind_eq_some_iff.mp h
    refine v_iald (lay := layC) (k := 22) (n := 12) G rfl e9 dX4_liveTogether_26 ?_
    refine v_icmp_gt (tgt := 34) G dX4_liveTogether_27 (by decide) (fun c10 => ?_) (fun c10 => ?_)
    · replace h := (if_pos c10).symm.trans h
      refine v_iconst (v := 0) G dX4_liveTogether_34 (by decide) ?_
      cases h
      exact v_iret G K (by decide) (by decide) dX4_liveTogether_35
    · replace h := (if_neg c10).symm.trans h
      refine v_iconst (v := 1) G dX4_liveTogether_30 (by decide) ?_
      refine v_goto (tgt := 35) G dX4_liveTogether_31 (by decide) ?_
      cases h
      exact v_iret G K (by decide) (by decide) dX4_liveTogether_35
theorem z_X4_liveTogether {s : apM} {v1 v2 : Int32} {r : Int32} (h : m_X4_liveTogether s v1 v2 = some r) : r = 0 ∨ r = 1 := by
  unfold m_X4_liveTogether at h
  obtain ⟨t1, e2, h⟩ := Option.bind_eq_some_iff.mp h
  obtain ⟨t3, e4, h⟩ := Option.bind_eq_some_iff.mp h
  by_cases c5 : t3 < t1
  · replace h := (if_pos c5).symm.trans h
    cases h
    exact Or.inl rfl
  · replace h := (if_neg c5).symm.trans h
    obtain ⟨t6, e7, h⟩ := Option.bind_eq_some_iff.mp h
    obtain ⟨t8, e9, h⟩ := Option.bind_eq_some_iff.mp h
    by_cases c10 : t8 < t6
    · replace h := (if_pos c10).symm.trans h
      cases h
      exact Or.inl rfl
    · replace h := (if_neg c10).symm.trans h
      cases h
      exact Or.inr rfl
theorem c_X4_liveTogether (l : Launch) {s : apM} {v1 v2 : Int32} {r : Int32} (h : m_X4_liveTogether s v1 v2 = some r) : apMi l layC apXC yX4_liveTogether wsX4_liveTogether 0 (fun q => [.ref (q 3), .int v1, .int v2]) s r s := apMi_of (cc := cX4_liveTogether) (nL := 3) (r := r) (by decide) rfl (by rcases z_X4_liveTogether h with e | e <;> rw [e] <;> rfl) (fun _ => Nat.le_of_ble_eq_true rfl) (fun Γ q hl G K => w_X4_liveTogether G K h)
theorem i_X4_addCosts_X1 : ∀ w ∈ u_ws RX1 TX1 7, w ∈ wsX4_addCosts := by decide +kernel
theorem i_X4_addCosts_X4 : ∀ w ∈ u_ws RX4 TX4 12, w ∈ wsX4_addCosts := by decide +kernel
def m_X4_addCosts_L25 (v1 : Int32) : (apM × Int32) → Option ((apM × Int32) ⊕ (apM × Int32)) := fun (s0, v2) => if (s0 1 6) ≤ v2 then (some (.inr (s0, v2))) else (Option.bind (ald s0 21 12 v2) (fun t3 => if v1 < t3 then (some (.inl (s0, v2 + 1))) else (Option.bind (ald s0 22 12 v2) (fun t6 => if t6 < v1 then (some (.inl (s0, v2 + 1))) else (Option.bind (ald s0 23 12 v1) (fun t9 => Option.bind (ald s0 18 12 v2) (fun t11 => Option.bind (ast s0 23 12 v1 (t9 + t11)) (fun s13 => some (.inl (s13, v2 + 1))))))))))
set_option maxHeartbeats 4000000 in
set_option maxRecDepth 100000 in
theorem w_X4_addCosts_L25 {Γ : apC} {q : Nat → Nat} (G : apG Γ cX4_addCosts 3 RX4 wsX4_addCosts (apRm 1 0) apXC) {s0 : apM} {v1 v2 : Int32} {r : ((apM × Int32) ⊕ (apM × Int32))} (K : match r with | .inl x => apV Γ 3 (apU layC q (apd Γ) x.1) 0 0 25 [(0, .ref (q 3)), (1, .int v1), (2, .int x.2)] [] | .inr x => apV Γ 3 (apU layC q (apd Γ) x.1) 0 0 77 [(0, .ref (q 3)), (1, .int v1)] []) (h : m_X4_addCosts_L25 v1 (s0, v2) = some r) : apV Γ 3 (apU layC q (apd Γ) s0) 0 0 25 [(0, .ref (q 3)), (1, .int v1), (2, .int v2)] [] := by
  unfold m_X4_addCosts_L25 at h
  dsimp only at h
  refine v_iload_n G dX4_addCosts_25 rfl 2 rfl ?_
  refine v_aload_n G dX4_addCosts_26 rfl 0 rfl ?_
  refine v_getr (lay := layC) (k := 3) (k' := 1) (C := RX4) (T := TX4) (N := 12) G (fun _ h => i_X4_addCosts_X4 _ h) rfl rfl 0 (by decide) (by decide +kernel) rfl rfl dX4_addCosts_27 ?_
  refine v_geti (lay := layC) (k := 1) (C := RX1) (T := TX1) (N := 7) G (fun _ h => i_X4_addCosts_X1 _ h) rfl rfl 6 (by decide) (by decide +kernel) rfl rfl dX4_addCosts_30 ?_
  refine v_icmp_ge (tgt := 77) G dX4_addCosts_33 (by decide) (fun c2 => ?_) (fun c2 => ?_)
  · replace h := (if_pos c2).symm.trans h
    cases h
    refine v_locs (L' := [(0, .ref (q 3)), (1, .int v1)]) [0, 1] rfl ?_
    exact K
  · replace h := (if_neg c2).symm.trans h
    refine v_aload_n G dX4_addCosts_36 rfl 0 rfl ?_
    refine v_getr (lay := layC) (k := 3) (k' := 21) (C := RX4) (T := TX4) (N := 12) G (fun _ h => i_X4_addCosts_X4 _ h) rfl rfl 6 (by decide) (by decide +kernel) rfl rfl dX4_addCosts_37 ?_
    refine v_iload_n G dX4_addCosts_40 rfl 2 rfl ?_
    obtain ⟨t3, e4, h⟩ := Option.bind_eq_some_iff.mp h
    refine v_iald (lay := layC) (k := 21) (n := 12) G rfl e4 dX4_addCosts_41 ?_
    refine v_iload_n G dX4_addCosts_42 rfl 1 rfl ?_
    refine v_icmp_gt (tgt := 71) G dX4_addCosts_43 (by decide) (fun c5 => ?_) (fun c5 => ?_)
    · replace h := (if_pos c5).symm.trans h
      refine v_iinc (v := v2 + 1) (L' := [(2, .int (v2 + 1)), (0, .ref (q 3)), (1, .int v1)]) G dX4_addCosts_71 2 rfl rfl (by decide) rfl ?_
      refine v_goto (tgt := 25) G dX4_addCosts_74 (by decide) ?_
      cases h
      refine v_locs (L' := [(0, .ref (q 3)), (1, .int v1), (2, .int (v2 + 1))]) [1, 2, 0] rfl ?_
      exact K
    · replace h := (if_neg c5).symm.trans h
      refine v_iload_n G dX4_addCosts_46 rfl 1 rfl ?_
      refine v_aload_n G dX4_addCosts_47 rfl 0 rfl ?_
      refine v_getr (lay := layC) (k := 3) (k' := 22) (C := RX4) (T := TX4) (N := 12) G (fun _ h => i_X4_addCosts_X4 _ h) rfl rfl 7 (by decide) (by decide +kernel) rfl rfl dX4_addCosts_48 ?_
      refine v_iload_n G dX4_addCosts_51 rfl 2 rfl ?_
      obtain ⟨t6, e7, h⟩ := Option.bind_eq_some_iff.mp h
      refine v_iald (lay := layC) (k := 22) (n := 12) G rfl e7 dX4_addCosts_52 ?_
      refine v_icmp_gt (tgt := 71) G dX4_addCosts_53 (by decide) (fun c8 => ?_) (fun c8 => ?_)
      · replace h := (if_pos c8).symm.trans h
        refine v_iinc (v := v2 + 1) (L' := [(2, .int (v2 + 1)), (0, .ref (q 3)), (1, .int v1)]) G dX4_addCosts_71 2 rfl rfl (by decide) rfl ?_
        refine v_goto (tgt := 25) G dX4_addCosts_74 (by decide) ?_
        cases h
        refine v_locs (L' := [(0, .ref (q 3)), (1, .int v1), (2, .int (v2 + 1))]) [1, 2, 0] rfl ?_
        exact K
      · replace h := (if_neg c8).symm.trans h
        refine v_aload_n G dX4_addCosts_56 rfl 0 rfl ?_
        refine v_getr (lay := layC) (k := 3) (k' := 23) (C := RX4) (T := TX4) (N := 12) G (fun _ h => i_X4_addCosts_X4 _ h) rfl rfl 8 (by decide) (by decide +kernel) rfl rfl dX4_addCosts_57 ?_
        refine v_iload_n G dX4_addCosts_60 rfl 1 rfl ?_
        refine v_dup2 G dX4_addCosts_61 rfl rfl ?_
        obtain ⟨t9, e10, h⟩ := Option.bind_eq_some_iff.mp h
        refine v_iald (lay := layC) (k := 23) (n := 12) G rfl e10 dX4_addCosts_62 ?_
        refine v_aload_n G dX4_addCosts_63 rfl 0 rfl ?_
        refine v_getr (lay := layC) (k := 3) (k' := 18) (C := RX4) (T := TX4) (N := 12) G (fun _ h => i_X4_addCosts_X4 _ h) rfl rfl 3 (by decide) (by decide +kernel) rfl rfl dX4_addCosts_64 ?_
        refine v_iload_n G dX4_addCosts_67 rfl 2 rfl ?_
        obtain ⟨t11, e12, h⟩ := Option.bind_eq_some_iff.mp h
        refine v_iald (lay := layC) (k := 18) (n := 12) G rfl e12 dX4_addCosts_68 ?_
        refine v_iadd G dX4_addCosts_69 ?_
        obtain ⟨s13, e14, h⟩ := Option.bind_eq_some_iff.mp h
        refine v_iast (lay := layC) (k := 23) (n := 12) G rfl e14 dX4_addCosts_70 ?_
        refine v_iinc (v := v2 + 1) (L' := [(2, .int (v2 + 1)), (0, .ref (q 3)), (1, .int v1)]) G dX4_addCosts_71 2 rfl rfl (by decide) rfl ?_
        refine v_goto (tgt := 25) G dX4_addCosts_74 (by decide) ?_
        cases h
        refine v_locs (L' := [(0, .ref (q 3)), (1, .int v1), (2, .int (v2 + 1))]) [1, 2, 0] rfl ?_
        exact K
def m_X4_addCosts_L15  : (apM × Int32) → Option ((apM × Int32) ⊕ (apM × Int32)) := fun (s0, v1) => if (s0 3 10) ≤ v1 then (some (.inr (s0, v1))) else (Option.bind (lp FU (m_X4_addCosts_L25 v1) (s0, 0)) (fun x15 => match x15 with | (s18, v17) => Option.bind (ald s18 23 12 v1) (fun t19 => some (.inl (mst s18 3 11 (if (s18 3 11) < t19 then t19 else (s18 3 11)), v1 + 1)))))
set_option maxHeartbeats 4000000 in
set_option maxRecDepth 100000 in
theorem w_X4_addCosts_L15 {Γ : apC} {q : Nat → Nat} (G : apG Γ cX4_addCosts 3 RX4 wsX4_addCosts (apRm 1 0) apXC) {s0 : apM} {v1 : Int32} {r : ((apM × Int32) ⊕ (apM × Int32))} (K : match r with | .inl x => apV Γ 3 (apU layC q (apd Γ) x.1) 0 0 15 [(0, .ref (q 3)), (1, .int x.2)] [] | .inr x => apV Γ 3 (apU layC q (apd Γ) x.1) 0 0 100 [] []) (h : m_X4_addCosts_L15 (s0, v1) = some r) : apV Γ 3 (apU layC q (apd Γ) s0) 0 0 15 [(0, .ref (q 3)), (1, .int v1)] [] := by
  unfold m_X4_addCosts_L15 at h
  dsimp only at h
  refine v_iload_n G dX4_addCosts_15 rfl 1 rfl ?_
  refine v_aload_n G dX4_addCosts_16 rfl 0 rfl ?_
  refine v_geti (lay := layC) (k := 3) (C := RX4) (T := TX4) (N := 12) G (fun _ h => i_X4_addCosts_X4 _ h) rfl rfl 10 (by decide) (by decide +kernel) rfl rfl dX4_addCosts_17 ?_
  refine v_icmp_ge (tgt := 100) G dX4_addCosts_20 (by decide) (fun c1 => ?_) (fun c1 => ?_)
  · replace h := (if_pos c1).symm.trans h
    cases h
    refine v_locs (L' := []) [] rfl ?_
    exact K
  · replace h := (if_neg c1).symm.trans h
    refine v_iconst (v := 0) G dX4_addCosts_23 (by decide) ?_
    refine v_istore_n (L' := [(2, .int 0), (0, .ref (q 3)), (1, .int v1)]) G dX4_addCosts_24 rfl (by decide) rfl ?_
    obtain ⟨x15, e16, h⟩ := Option.bind_eq_some_iff.mp h
    refine v_locs (L' := [(0, .ref (q 3)), (1, .int v1), (2, .int 0)]) [1, 2, 0] rfl ?_
    have l21 := v_lp (b := m_X4_addCosts_L25 v1) (I := fun x => apV Γ 3 (apU layC q (apd Γ) x.1) 0 0 25 [(0, .ref (q 3)), (1, .int v1), (2, .int x.2)] []) (O := fun x => apV Γ 3 (apU layC q (apd Γ) x.1) 0 0 77 [(0, .ref (q 3)), (1, .int v1)] []) (fun x r hb hK => by obtain ⟨ys, y2⟩ := x; rcases r with r | r <;> exact w_X4_addCosts_L25 G hK hb) FU (s0, 0) x15 e16
    obtain ⟨s18, v17⟩ := x15
    dsimp only at h
    refine l21 ?_
    refine v_aload_n G dX4_addCosts_77 rfl 0 rfl ?_
    refine v_aload_n G dX4_addCosts_78 rfl 0 rfl ?_
    refine v_geti (lay := layC) (k := 3) (C := RX4) (T := TX4) (N := 12) G (fun _ h => i_X4_addCosts_X4 _ h) rfl rfl 11 (by decide) (by decide +kernel) rfl rfl dX4_addCosts_79 ?_
    refine v_aload_n G dX4_addCosts_82 rfl 0 rfl ?_
    refine v_getr (lay := layC) (k := 3) (k' := 23) (C := RX4) (T := TX4) (N := 12) G (fun _ h => i_X4_addCosts_X4 _ h) rfl rfl 8 (by decide) (by decide +kernel) rfl rfl dX4_addCosts_83 ?_
    refine v_iload_n G dX4_addCosts_86 rfl 1 rfl ?_
    obtain ⟨t19, e20, h⟩ := Option.bind_eq_some_iff.mp h
    refine v_iald (lay := layC) (k := 23) (n := 12) G rfl e20 dX4_addCosts_87 ?_
    refine v_mmax G (by decide +kernel) (by decide +kernel) (by decide +kernel) (by decide +kernel) (by decide) (Nat.le_of_ble_eq_true rfl) (by decide) dX4_addCosts_88 ?_
    refine v_put (lay := layC) (k := 3) (C := RX4) (T := TX4) (N := 12) G (fun _ h => i_X4_addCosts_X4 _ h) tyX4 tyX4_ok nmX4 rfl rfl 11 (by decide) (by decide +kernel) rfl rfl (by first | rfl | decide) (by first | rfl | decide) rfl dX4_addCosts_91 ?_
    refine v_iinc (v := v1 + 1) (L' := [(1, .int (v1 + 1)), (0, .ref (q 3))]) G dX4_addCosts_94 1 rfl rfl (by decide) rfl ?_
    refine v_goto (tgt := 15) G dX4_addCosts_97 (by decide) ?_
    cases h
    refine v_locs (L' := [(0, .ref (q 3)), (1, .int (v1 + 1))]) [1, 0] rfl ?_
    exact K
def m_X4_addCosts (s : apM)  : Option apM := Option.bind (lp FU (m_X4_addCosts_L15) (mfl (mst s 3 11 0) 23 0 12, 0)) (fun x22 => match x22 with | (s25, v24) => some s25)
set_option maxHeartbeats 4000000 in
set_option maxRecDepth 100000 in
theorem w_X4_addCosts {Γ : apC} {q : Nat → Nat} (G : apG Γ cX4_addCosts 3 RX4 wsX4_addCosts (apRm 1 0) apXC) {s : apM} {r : apM} (K : apR Γ cX4_addCosts 0 0 none (apU layC q (apd Γ) r)) (h : m_X4_addCosts s = some r) : apV Γ 3 (apU layC q (apd Γ) s) 0 0 0 [(0, .ref (q 3))] [] := by
  unfold m_X4_addCosts at h
  refine v_aload_n G dX4_addCosts_0 rfl 0 rfl ?_
  refine v_iconst (v := 0) G dX4_addCosts_1 (by decide) ?_
  refine v_put (lay := layC) (k := 3) (C := RX4) (T := TX4) (N := 12) G (fun _ h => i_X4_addCosts_X4 _ h) tyX4 tyX4_ok nmX4 rfl rfl 11 (by decide) (by decide +kernel) rfl rfl (by first | rfl | decide) (by first | rfl | decide) rfl dX4_addCosts_2 ?_
  refine v_aload_n G dX4_addCosts_5 rfl 0 rfl ?_
  refine v_getr (lay := layC) (k := 3) (k' := 23) (C := RX4) (T := TX4) (N := 12) G (fun _ h => i_X4_addCosts_X4 _ h) rfl rfl 8 (by decide) (by decide +kernel) rfl rfl dX4_addCosts_6 ?_
  refine v_iconst (v := 0) G dX4_addCosts_9 (by decide) ?_
  refine v_callvS (lay := layC) (As := [.ref (q 23), .int 0]) (st := []) (n := 2) G apXCok (c_fill Γ.1.2.1 rfl (by decide)) gX4_addCosts_J7_fill_53178 rfl (by decide) (by decide) rfl rfl (Nat.le_of_ble_eq_true rfl) (by decide) rfl dX4_addCosts_10 ?_
  refine v_iconst (v := 0) G dX4_addCosts_13 (by decide) ?_
  refine v_istore_n (L' := [(1, .int 0), (0, .ref (q 3))]) G dX4_addCosts_14 rfl (by decide) rfl ?_
  obtain ⟨x22, e23, h⟩ := Option.bind_eq_some_iff.mp h
  refine v_locs (L' := [(0, .ref (q 3)), (1, .int 0)]) [1, 0] rfl ?_
  have l26 := v_lp (b := m_X4_addCosts_L15) (I := fun x => apV Γ 3 (apU layC q (apd Γ) x.1) 0 0 15 [(0, .ref (q 3)), (1, .int x.2)] []) (O := fun x => apV Γ 3 (apU layC q (apd Γ) x.1) 0 0 100 [] []) (fun x r hb hK => by obtain ⟨ys, y1⟩ := x; rcases r with r | r <;> exact w_X4_addCosts_L15 G hK hb) FU (mfl (mst s 3 11 0) 23 0 12, 0) x22 e23
  obtain ⟨s25, v24⟩ := x22
  dsimp only at h
  refine l26 ?_
  cases h
  exact v_vret G K (by decide) (by decide) dX4_addCosts_100
theorem c_X4_addCosts (l : Launch) {s : apM} {r : apM} (h : m_X4_addCosts s = some r) : apMv l layC apXC yX4_addCosts wsX4_addCosts 1 (fun q => [.ref (q 3)]) s r := apMv_of (cc := cX4_addCosts) (nL := 3) (by decide) rfl (fun _ => Nat.le_of_ble_eq_true rfl) (fun Γ q hl G K => w_X4_addCosts G K h)
theorem i_X4_append_X4 : ∀ w ∈ u_ws RX4 TX4 12, w ∈ wsX4_append := by decide +kernel
def m_X4_append (s : apM) (v1 : Int32) : Option apM := Option.bind (ast s 20 12 (s 3 10) v1) (fun s1 => Option.bind (ast s1 21 12 v1 (s1 3 10)) (fun s3 => some (mst (mst s3 3 9 ((s3 3 9) ||| (m_X6_setOf v1))) 3 10 (((mst s3 3 9 ((s3 3 9) ||| (m_X6_setOf v1))) 3 10) + 1))))
set_option maxHeartbeats 4000000 in
set_option maxRecDepth 100000 in
theorem w_X4_append {Γ : apC} {q : Nat → Nat} (G : apG Γ cX4_append 2 RX4 wsX4_append (apRm 1 0) apXC) {s : apM} {v1 : Int32} {r : apM} (K : apR Γ cX4_append 0 0 none (apU layC q (apd Γ) r)) (h : m_X4_append s v1 = some r) : apV Γ 2 (apU layC q (apd Γ) s) 0 0 0 [(0, .ref (q 3)), (1, .int v1)] [] := by
  unfold m_X4_append at h
  refine v_aload_n G dX4_append_0 rfl 0 rfl ?_
  refine v_getr (lay := layC) (k := 3) (k' := 20) (C := RX4) (T := TX4) (N := 12) G (fun _ h => i_X4_append_X4 _ h) rfl rfl 5 (by decide) (by decide +kernel) rfl rfl dX4_append_1 ?_
  refine v_aload_n G dX4_append_4 rfl 0 rfl ?_
  refine v_geti (lay := layC) (k := 3) (C := RX4) (T := TX4) (N := 12) G (fun _ h => i_X4_append_X4 _ h) rfl rfl 10 (by decide) (by decide +kernel) rfl rfl dX4_append_5 ?_
  refine v_iload_n G dX4_append_8 rfl 1 rfl ?_
  obtain ⟨s1, e2, h⟩ := Option.bind_eq_some_iff.mp h
  refine v_iast (lay := layC) (k := 20) (n := 12) G rfl e2 dX4_append_9 ?_
  refine v_aload_n G dX4_append_10 rfl 0 rfl ?_
  refine v_getr (lay := layC) (k := 3) (k' := 21) (C := RX4) (T := TX4) (N := 12) G (fun _ h => i_X4_append_X4 _ h) rfl rfl 6 (by decide) (by decide +kernel) rfl rfl dX4_append_11 ?_
  refine v_iload_n G dX4_append_14 rfl 1 rfl ?_
  refine v_aload_n G dX4_append_15 rfl 0 rfl ?_
  refine v_geti (lay := layC) (k := 3) (C := RX4) (T := TX4) (N := 12) G (fun _ h => i_X4_append_X4 _ h) rfl rfl 10 (by decide) (by decide +kernel) rfl rfl dX4_append_16 ?_
  obtain ⟨s3, e4, h⟩ := Option.bind_eq_some_iff.mp h
  refine v_iast (lay := layC) (k := 21) (n := 12) G rfl e4 dX4_append_19 ?_
  refine v_aload_n G dX4_append_20 rfl 0 rfl ?_
  refine v_dup G dX4_append_21 rfl ?_
  refine v_geti (lay := layC) (k := 3) (C := RX4) (T := TX4) (N := 12) G (fun _ h => i_X4_append_X4 _ h) rfl rfl 9 (by decide) (by decide +kernel) rfl rfl dX4_append_22 ?_
  refine v_iload_n G dX4_append_25 rfl 1 rfl ?_
  refine v_calliN (lay := layC) (As := [.int v1]) (st := [.int (s3 3 9), .ref (q 3)]) (n := 1) G apXCok (c_X6_setOf Γ.1.2.1 (s := s3) rfl) gX4_append_X6_setOf_n87 rfl (apNest_in G (by decide)) (by decide +kernel) (by decide +kernel) (by decide +kernel) (by decide) rfl rfl (Nat.le_of_ble_eq_true rfl) (by decide) rfl dX4_append_26 ?_
  refine v_ior G dX4_append_29 ?_
  refine v_put (lay := layC) (k := 3) (C := RX4) (T := TX4) (N := 12) G (fun _ h => i_X4_append_X4 _ h) tyX4 tyX4_ok nmX4 rfl rfl 9 (by decide) (by decide +kernel) rfl rfl (by first | rfl | decide) (by first | rfl | decide) rfl dX4_append_30 ?_
  refine v_aload_n G dX4_append_33 rfl 0 rfl ?_
  refine v_dup G dX4_append_34 rfl ?_
  refine v_geti (lay := layC) (k := 3) (C := RX4) (T := TX4) (N := 12) G (fun _ h => i_X4_append_X4 _ h) rfl rfl 10 (by decide) (by decide +kernel) rfl rfl dX4_append_35 ?_
  refine v_iconst (v := 1) G dX4_append_38 (by decide) ?_
  refine v_iadd G dX4_append_39 ?_
  refine v_put (lay := layC) (k := 3) (C := RX4) (T := TX4) (N := 12) G (fun _ h => i_X4_append_X4 _ h) tyX4 tyX4_ok nmX4 rfl rfl 10 (by decide) (by decide +kernel) rfl rfl (by first | rfl | decide) (by first | rfl | decide) rfl dX4_append_40 ?_
  cases h
  exact v_vret G K (by decide) (by decide) dX4_append_43
theorem c_X4_append (l : Launch) {s : apM} {v1 : Int32} {r : apM} (h : m_X4_append s v1 = some r) : apMv l layC apXC yX4_append wsX4_append 1 (fun q => [.ref (q 3), .int v1]) s r := apMv_of (cc := cX4_append) (nL := 2) (by decide) rfl (fun _ => Nat.le_of_ble_eq_true rfl) (fun Γ q hl G K => w_X4_append G K h)
theorem i_X4_beginOrder_X4 : ∀ w ∈ u_ws RX4 TX4 12, w ∈ wsX4_beginOrder := by decide +kernel
def m_X4_beginOrder (s : apM)  : Option apM := some (mst (mst (mfl s 21 (-1) 12) 3 9 0) 3 10 0)
set_option maxHeartbeats 4000000 in
set_option maxRecDepth 100000 in
theorem w_X4_beginOrder {Γ : apC} {q : Nat → Nat} (G : apG Γ cX4_beginOrder 1 RX4 wsX4_beginOrder (apRm 1 0) apXC) {s : apM} {r : apM} (K : apR Γ cX4_beginOrder 0 0 none (apU layC q (apd Γ) r)) (h : m_X4_beginOrder s = some r) : apV Γ 1 (apU layC q (apd Γ) s) 0 0 0 [(0, .ref (q 3))] [] := by
  unfold m_X4_beginOrder at h
  refine v_aload_n G dX4_beginOrder_0 rfl 0 rfl ?_
  refine v_getr (lay := layC) (k := 3) (k' := 21) (C := RX4) (T := TX4) (N := 12) G (fun _ h => i_X4_beginOrder_X4 _ h) rfl rfl 6 (by decide) (by decide +kernel) rfl rfl dX4_beginOrder_1 ?_
  refine v_iconst (v := (-1)) G dX4_beginOrder_4 (by decide) ?_
  refine v_callvS (lay := layC) (As := [.ref (q 21), .int (-1)]) (st := []) (n := 2) G apXCok (c_fill Γ.1.2.1 rfl (by decide)) gX4_beginOrder_J7_fill_53178 rfl (by decide) (by decide) rfl rfl (Nat.le_of_ble_eq_true rfl) (by decide) rfl dX4_beginOrder_5 ?_
  refine v_aload_n G dX4_beginOrder_8 rfl 0 rfl ?_
  refine v_iconst (v := 0) G dX4_beginOrder_9 (by decide) ?_
  refine v_put (lay := layC) (k := 3) (C := RX4) (T := TX4) (N := 12) G (fun _ h => i_X4_beginOrder_X4 _ h) tyX4 tyX4_ok nmX4 rfl rfl 9 (by decide) (by decide +kernel) rfl rfl (by first | rfl | decide) (by first | rfl | decide) rfl dX4_beginOrder_10 ?_
  refine v_aload_n G dX4_beginOrder_13 rfl 0 rfl ?_
  refine v_iconst (v := 0) G dX4_beginOrder_14 (by decide) ?_
  refine v_put (lay := layC) (k := 3) (C := RX4) (T := TX4) (N := 12) G (fun _ h => i_X4_beginOrder_X4 _ h) tyX4 tyX4_ok nmX4 rfl rfl 10 (by decide) (by decide +kernel) rfl rfl (by first | rfl | decide) (by first | rfl | decide) rfl dX4_beginOrder_15 ?_
  cases h
  exact v_vret G K (by decide) (by decide) dX4_beginOrder_18
theorem c_X4_beginOrder (l : Launch) {s : apM} {r : apM} (h : m_X4_beginOrder s = some r) : apMv l layC apXC yX4_beginOrder wsX4_beginOrder 1 (fun q => [.ref (q 3)]) s r := apMv_of (cc := cX4_beginOrder) (nL := 1) (by decide) rfl (fun _ => Nat.le_of_ble_eq_true rfl) (fun Γ q hl G K => w_X4_beginOrder G K h)
theorem i_X4_isMissing_X4 : ∀ w ∈ u_ws RX4 TX4 12, w ∈ wsX4_isMissing := by decide +kernel
def m_X4_isMissing (s : apM) (v1 : Int32) : Option Int32 := Option.bind (ald s 21 12 v1) (fun t1 => if t1 = (-1) then (some 1) else (some 0))
set_option maxHeartbeats 4000000 in
set_option maxRecDepth 100000 in
theorem w_X4_isMissing {Γ : apC} {q : Nat → Nat} (G : apG Γ cX4_isMissing 2 RX4 wsX4_isMissing (apRm 0 0) apXC) {s : apM} {v1 : Int32} {r : Int32} (K : apR Γ cX4_isMissing 0 0 (some r) (apU layC q (apd Γ) s)) (h : m_X4_isMissing s v1 = some r) : apV Γ 2 (apU layC q (apd Γ) s) 0 0 0 [(0, .ref (q 3)), (1, .int v1)] [] := by
  unfold m_X4_isMissing at h
  refine v_aload_n G dX4_isMissing_0 rfl 0 rfl ?_
  refine v_getr (lay := layC) (k := 3) (k' := 21) (C := RX4) (T := TX4) (N := 12) G (fun _ h => i_X4_isMissing_X4 _ h) rfl rfl 6 (by decide) (by decide +kernel) rfl rfl dX4_isMissing_1 ?_
  refine v_iload_n G dX4_isMissing_4 rfl 1 rfl ?_
  obtain ⟨t1, e2, h⟩ := Option.bind_eq_some_iff.mp h
  refine v_iald (lay := layC) (k := 21) (n := 12) G rfl e2 dX4_isMissing_5 ?_
  refine v_iconst (v := (-1)) G dX4_isMissing_6 (by decide) ?_
  refine v_icmp_ne (tgt := 14) G dX4_isMissing_7 (by decide) (fun c3 => ?_) (fun c3 => ?_)
  · replace h := (if_neg c3).symm.trans h
    refine v_iconst (v := 0) G dX4_isMissing_14 (by decide) ?_
    cases h
    exact v_iret G K (by decide) (by decide) dX4_isMissing_15
  · replace h := (if_pos c3).symm.trans h
    refine v_iconst (v := 1) G dX4_isMissing_10 (by decide) ?_
    refine v_goto (tgt := 15) G dX4_isMissing_11 (by decide) ?_
    cases h
    exact v_iret G K (by decide) (by decide) dX4_isMissing_15
theorem z_X4_isMissing {s : apM} {v1 : Int32} {r : Int32} (h : m_X4_isMissing s v1 = some r) : r = 0 ∨ r = 1 := by
  unfold m_X4_isMissing at h
  obtain ⟨t1, e2, h⟩ := Option.bind_eq_some_iff.mp h
  by_cases c3 : t1 = (-1)
  · replace h := (if_pos c3).symm.trans h
    cases h
    exact Or.inr rfl
  · replace h := (if_neg c3).symm.trans h
    cases h
    exact Or.inl rfl
theorem c_X4_isMissing (l : Launch) {s : apM} {v1 : Int32} {r : Int32} (h : m_X4_isMissing s v1 = some r) : apMi l layC apXC yX4_isMissing wsX4_isMissing 0 (fun q => [.ref (q 3), .int v1]) s r s := apMi_of (cc := cX4_isMissing) (nL := 2) (r := r) (by decide) rfl (by rcases z_X4_isMissing h with e | e <;> rw [e] <;> rfl) (fun _ => Nat.le_of_ble_eq_true rfl) (fun Γ q hl G K => w_X4_isMissing G K h)
theorem i_X4_sourceToVisit_X1 : ∀ w ∈ u_ws RX1 TX1 7, w ∈ wsX4_sourceToVisit := by decide +kernel
theorem i_X4_sourceToVisit_X4 : ∀ w ∈ u_ws RX4 TX4 12, w ∈ wsX4_sourceToVisit := by decide +kernel
def m_X4_sourceToVisit_B98 (s : apM) (v6 : Int32) : Option Int32 := if v6 = (-1) then (some (-1)) else (Option.bind (m_X4_isMissing s v6) (fun t14 => if t14 = 0 then (some (-1)) else (some v6)))
set_option maxHeartbeats 4000000 in
set_option maxRecDepth 100000 in
theorem w_X4_sourceToVisit_B98 {Γ : apC} {q : Nat → Nat} (G : apG Γ cX4_sourceToVisit 7 RX4 wsX4_sourceToVisit (apRm 1 0) apXC) {s : apM} {v6 : Int32} {r : Int32} (K : apR Γ cX4_sourceToVisit 0 0 (some r) (apU layC q (apd Γ) s)) (h : m_X4_sourceToVisit_B98 s v6 = some r) : apV Γ 7 (apU layC q (apd Γ) s) 0 0 98 [(0, .ref (q 3)), (6, .int v6)] [] := by
  unfold m_X4_sourceToVisit_B98 at h
  refine v_iload G dX4_sourceToVisit_98 1 rfl ?_
  refine v_iconst (v := (-1)) G dX4_sourceToVisit_100 (by decide) ?_
  refine v_icmp_eq (tgt := 118) G dX4_sourceToVisit_101 (by decide) (fun c13 => ?_) (fun c13 => ?_)
  · replace h := (if_pos c13).symm.trans h
    refine v_iconst (v := (-1)) G dX4_sourceToVisit_118 (by decide) ?_
    cases h
    exact v_iret G K (by decide) (by decide) dX4_sourceToVisit_119
  · replace h := (if_neg c13).symm.trans h
    refine v_aload_n G dX4_sourceToVisit_104 rfl 0 rfl ?_
    refine v_iload G dX4_sourceToVisit_105 1 rfl ?_
    obtain ⟨t14, e15, h⟩ := Option.bind_eq_some_iff.mp h
    refine v_calliV (lay := layC) (As := [.int v6]) (st := []) (n := 1) (C := RX4) (T := TX4) (k0 := 3) G apXCok (c_X4_isMissing Γ.1.2.1 e15) gX4_sourceToVisit_X4_isMissing rfl (by decide +kernel) (by decide) rfl rfl rfl rfl (Nat.le_of_ble_eq_true rfl) (by decide) rfl dX4_sourceToVisit_107 ?_
    refine v_if_eq (tgt := 118) G dX4_sourceToVisit_110 (by decide) (fun c16 => ?_) (fun c16 => ?_)
    · replace h := (if_pos c16).symm.trans h
      refine v_iconst (v := (-1)) G dX4_sourceToVisit_118 (by decide) ?_
      cases h
      exact v_iret G K (by decide) (by decide) dX4_sourceToVisit_119
    · replace h := (if_neg c16).symm.trans h
      refine v_iload G dX4_sourceToVisit_113 1 rfl ?_
      refine v_goto (tgt := 119) G dX4_sourceToVisit_115 (by decide) ?_
      cases h
      exact v_iret G K (by decide) (by decide) dX4_sourceToVisit_119
def m_X4_sourceToVisit_B78 (s : apM) (v5 : Int32) (k0 : Int32) : Option Int32 := if v5 = (-1) then (m_X4_sourceToVisit_B98 s k0) else (Option.bind (m_X4_isMissing s v5) (fun t17 => if t17 = 0 then (m_X4_sourceToVisit_B98 s k0) else (some v5)))
set_option maxHeartbeats 4000000 in
set_option maxRecDepth 100000 in
theorem w_X4_sourceToVisit_B78 {Γ : apC} {q : Nat → Nat} (G : apG Γ cX4_sourceToVisit 7 RX4 wsX4_sourceToVisit (apRm 1 0) apXC) {s : apM} {v5 k0 : Int32} {r : Int32} (K : apR Γ cX4_sourceToVisit 0 0 (some r) (apU layC q (apd Γ) s)) (h : m_X4_sourceToVisit_B78 s v5 k0 = some r) : apV Γ 7 (apU layC q (apd Γ) s) 0 0 78 [(0, .ref (q 3)), (5, .int v5)] [.int k0] := by
  unfold m_X4_sourceToVisit_B78 at h
  refine v_istore (L' := [(6, .int k0), (0, .ref (q 3)), (5, .int v5)]) G dX4_sourceToVisit_78 (by decide) rfl ?_
  refine v_iload G dX4_sourceToVisit_80 2 rfl ?_
  refine v_iconst (v := (-1)) G dX4_sourceToVisit_82 (by decide) ?_
  refine v_icmp_eq (tgt := 98) G dX4_sourceToVisit_83 (by decide) (fun c12 => ?_) (fun c12 => ?_)
  · replace h := (if_pos c12).symm.trans h
    refine v_locs (L' := [(0, .ref (q 3)), (6, .int k0)]) [1, 0] rfl ?_
    exact w_X4_sourceToVisit_B98 G K h
  · replace h := (if_neg c12).symm.trans h
    refine v_aload_n G dX4_sourceToVisit_86 rfl 1 rfl ?_
    refine v_iload G dX4_sourceToVisit_87 2 rfl ?_
    obtain ⟨t17, e18, h⟩ := Option.bind_eq_some_iff.mp h
    refine v_calliV (lay := layC) (As := [.int v5]) (st := []) (n := 1) (C := RX4) (T := TX4) (k0 := 3) G apXCok (c_X4_isMissing Γ.1.2.1 e18) gX4_sourceToVisit_X4_isMissing rfl (by decide +kernel) (by decide) rfl rfl rfl rfl (Nat.le_of_ble_eq_true rfl) (by decide) rfl dX4_sourceToVisit_89 ?_
    refine v_if_eq (tgt := 98) G dX4_sourceToVisit_92 (by decide) (fun c19 => ?_) (fun c19 => ?_)
    · replace h := (if_pos c19).symm.trans h
      refine v_locs (L' := [(0, .ref (q 3)), (6, .int k0)]) [1, 0] rfl ?_
      exact w_X4_sourceToVisit_B98 G K h
    · replace h := (if_neg c19).symm.trans h
      refine v_iload G dX4_sourceToVisit_95 2 rfl ?_
      cases h
      exact v_iret G K (by decide) (by decide) dX4_sourceToVisit_97
def m_X4_sourceToVisit_B66 (s : apM) (v2 : Int32) (v3 : Int32) (v4 : Int32) (k0 : Int32) : Option Int32 := if v4 = 0 then (m_X4_sourceToVisit_B78 s k0 v3) else (m_X4_sourceToVisit_B78 s k0 v2)
set_option maxHeartbeats 4000000 in
set_option maxRecDepth 100000 in
theorem w_X4_sourceToVisit_B66 {Γ : apC} {q : Nat → Nat} (G : apG Γ cX4_sourceToVisit 7 RX4 wsX4_sourceToVisit (apRm 1 0) apXC) {s : apM} {v2 v3 v4 k0 : Int32} {r : Int32} (K : apR Γ cX4_sourceToVisit 0 0 (some r) (apU layC q (apd Γ) s)) (h : m_X4_sourceToVisit_B66 s v2 v3 v4 k0 = some r) : apV Γ 7 (apU layC q (apd Γ) s) 0 0 66 [(0, .ref (q 3)), (2, .int v2), (3, .int v3), (4, .int v4)] [.int k0] := by
  unfold m_X4_sourceToVisit_B66 at h
  refine v_istore (L' := [(5, .int k0), (0, .ref (q 3)), (2, .int v2), (3, .int v3), (4, .int v4)]) G dX4_sourceToVisit_66 (by decide) rfl ?_
  refine v_iload G dX4_sourceToVisit_68 4 rfl ?_
  refine v_if_eq (tgt := 77) G dX4_sourceToVisit_70 (by decide) (fun c11 => ?_) (fun c11 => ?_)
  · replace h := (if_pos c11).symm.trans h
    refine v_iload_n G dX4_sourceToVisit_77 rfl 3 rfl ?_
    refine v_locs (L' := [(0, .ref (q 3)), (5, .int k0)]) [1, 0] rfl ?_
    exact w_X4_sourceToVisit_B78 G K h
  · replace h := (if_neg c11).symm.trans h
    refine v_iload_n G dX4_sourceToVisit_73 rfl 2 rfl ?_
    refine v_goto (tgt := 78) G dX4_sourceToVisit_74 (by decide) ?_
    refine v_locs (L' := [(0, .ref (q 3)), (5, .int k0)]) [1, 0] rfl ?_
    exact w_X4_sourceToVisit_B78 G K h
def m_X4_sourceToVisit_B54 (s : apM) (v2 : Int32) (v3 : Int32) (k0 : Int32) : Option Int32 := if k0 = 0 then (m_X4_sourceToVisit_B66 s v2 v3 k0 v2) else (m_X4_sourceToVisit_B66 s v2 v3 k0 v3)
set_option maxHeartbeats 4000000 in
set_option maxRecDepth 100000 in
theorem w_X4_sourceToVisit_B54 {Γ : apC} {q : Nat → Nat} (G : apG Γ cX4_sourceToVisit 7 RX4 wsX4_sourceToVisit (apRm 1 0) apXC) {s : apM} {v2 v3 k0 : Int32} {r : Int32} (K : apR Γ cX4_sourceToVisit 0 0 (some r) (apU layC q (apd Γ) s)) (h : m_X4_sourceToVisit_B54 s v2 v3 k0 = some r) : apV Γ 7 (apU layC q (apd Γ) s) 0 0 54 [(0, .ref (q 3)), (2, .int v2), (3, .int v3)] [.int k0] := by
  unfold m_X4_sourceToVisit_B54 at h
  refine v_istore (L' := [(4, .int k0), (0, .ref (q 3)), (2, .int v2), (3, .int v3)]) G dX4_sourceToVisit_54 (by decide) rfl ?_
  refine v_iload G dX4_sourceToVisit_56 0 rfl ?_
  refine v_if_eq (tgt := 65) G dX4_sourceToVisit_58 (by decide) (fun c10 => ?_) (fun c10 => ?_)
  · replace h := (if_pos c10).symm.trans h
    refine v_iload_n G dX4_sourceToVisit_65 rfl 2 rfl ?_
    refine v_locs (L' := [(0, .ref (q 3)), (2, .int v2), (3, .int v3), (4, .int k0)]) [1, 2, 3, 0] rfl ?_
    exact w_X4_sourceToVisit_B66 G K h
  · replace h := (if_neg c10).symm.trans h
    refine v_iload_n G dX4_sourceToVisit_61 rfl 3 rfl ?_
    refine v_goto (tgt := 66) G dX4_sourceToVisit_62 (by decide) ?_
    refine v_locs (L' := [(0, .ref (q 3)), (2, .int v2), (3, .int v3), (4, .int k0)]) [1, 2, 3, 0] rfl ?_
    exact w_X4_sourceToVisit_B66 G K h
def m_X4_sourceToVisit_B53 (s : apM) (v2 : Int32) (v3 : Int32) : Option Int32 := m_X4_sourceToVisit_B54 s v2 v3 0
set_option maxHeartbeats 4000000 in
set_option maxRecDepth 100000 in
theorem w_X4_sourceToVisit_B53 {Γ : apC} {q : Nat → Nat} (G : apG Γ cX4_sourceToVisit 7 RX4 wsX4_sourceToVisit (apRm 1 0) apXC) {s : apM} {v2 v3 : Int32} {r : Int32} (K : apR Γ cX4_sourceToVisit 0 0 (some r) (apU layC q (apd Γ) s)) (h : m_X4_sourceToVisit_B53 s v2 v3 = some r) : apV Γ 7 (apU layC q (apd Γ) s) 0 0 53 [(0, .ref (q 3)), (2, .int v2), (3, .int v3)] [] := by
  unfold m_X4_sourceToVisit_B53 at h
  refine v_iconst (v := 0) G dX4_sourceToVisit_53 (by decide) ?_
  exact w_X4_sourceToVisit_B54 G K h
def m_X4_sourceToVisit (s : apM) (v1 : Int32) : Option Int32 := Option.bind (rix 12 v1) (fun j1 => Option.bind (ald s (41 + j1) 2 0) (fun t3 => Option.bind (rix 12 v1) (fun j5 => Option.bind (ald s (41 + j5) 2 1) (fun t7 => if t3 = (-1) then (m_X4_sourceToVisit_B53 s t3 t7) else (if t7 = (-1) then (m_X4_sourceToVisit_B53 s t3 t7) else (Option.bind (ald s 19 12 t7) (fun t21 => Option.bind (ald s 19 12 t3) (fun t23 => if t21 ≤ t23 then (m_X4_sourceToVisit_B53 s t3 t7) else (m_X4_sourceToVisit_B54 s t3 t7 1)))))))))
set_option maxHeartbeats 4000000 in
set_option maxRecDepth 100000 in
theorem w_X4_sourceToVisit {Γ : apC} {q : Nat → Nat} (G : apG Γ cX4_sourceToVisit 7 RX4 wsX4_sourceToVisit (apRm 1 0) apXC) {s : apM} {v1 : Int32} {r : Int32} (K : apR Γ cX4_sourceToVisit 0 0 (some r) (apU layC q (apd Γ) s)) (h : m_X4_sourceToVisit s v1 = some r) : apV Γ 7 (apU layC q (apd Γ) s) 0 0 0 [(0, .ref (q 3)), (1, .int v1)] [] := by
  unfold m_X4_sourceToVisit at h
  refine v_aload_n G dX4_sourceToVisit_0 rfl 0 rfl ?_
  refine v_getr (lay := layC) (k := 3) (k' := 1) (C := RX4) (T := TX4) (N := 12) G (fun _ h => i_X4_sourceToVisit_X4 _ h) rfl rfl 0 (by decide) (by decide +kernel) rfl rfl dX4_sourceToVisit_1 ?_
  refine v_getr (lay := layC) (k := 1) (k' := 11) (C := RX1) (T := TX1) (N := 7) G (fun _ h => i_X4_sourceToVisit_X1 _ h) rfl rfl 4 (by decide) (by decide +kernel) rfl rfl dX4_sourceToVisit_4 ?_
  refine v_iload_n G dX4_sourceToVisit_7 rfl 1 rfl ?_
  obtain ⟨j1, e2, h⟩ := Option.bind_eq_some_iff.mp h
  refine v_aald (lay := layC) (k := 11) G rfl e2 dX4_sourceToVisit_8 ?_
  refine v_iconst (v := 0) G dX4_sourceToVisit_9 (by decide) ?_
  obtain ⟨t3, e4, h⟩ := Option.bind_eq_some_iff.mp h
  refine v_iald (lay := layC) G (layR_41 e2) e4 dX4_sourceToVisit_10 ?_
  refine v_istore_n (L' := [(2, .int t3), (0, .ref (q 3)), (1, .int v1)]) G dX4_sourceToVisit_11 rfl (by decide) rfl ?_
  refine v_aload_n G dX4_sourceToVisit_12 rfl 1 rfl ?_
  refine v_getr (lay := layC) (k := 3) (k' := 1) (C := RX4) (T := TX4) (N := 12) G (fun _ h => i_X4_sourceToVisit_X4 _ h) rfl rfl 0 (by decide) (by decide +kernel) rfl rfl dX4_sourceToVisit_13 ?_
  refine v_getr (lay := layC) (k := 1) (k' := 11) (C := RX1) (T := TX1) (N := 7) G (fun _ h => i_X4_sourceToVisit_X1 _ h) rfl rfl 4 (by decide) (by decide +kernel) rfl rfl dX4_sourceToVisit_16 ?_
  refine v_iload_n G dX4_sourceToVisit_19 rfl 2 rfl ?_
  obtain ⟨j5, e6, h⟩ := Option.bind_eq_some_iff.mp h
  refine v_aald (lay := layC) (k := 11) G rfl e6 dX4_sourceToVisit_20 ?_
  refine v_iconst (v := 1) G dX4_sourceToVisit_21 (by decide) ?_
  obtain ⟨t7, e8, h⟩ := Option.bind_eq_some_iff.mp h
  refine v_iald (lay := layC) G (layR_41 e6) e8 dX4_sourceToVisit_22 ?_
  refine v_istore_n (L' := [(3, .int t7), (2, .int t3), (0, .ref (q 3)), (1, .int v1)]) G dX4_sourceToVisit_23 rfl (by decide) rfl ?_
  refine v_iload_n G dX4_sourceToVisit_24 rfl 1 rfl ?_
  refine v_iconst (v := (-1)) G dX4_sourceToVisit_25 (by decide) ?_
  refine v_icmp_eq (tgt := 53) G dX4_sourceToVisit_26 (by decide) (fun c9 => ?_) (fun c9 => ?_)
  · replace h := (if_pos c9).symm.trans h
    refine v_locs (L' := [(0, .ref (q 3)), (2, .int t3), (3, .int t7)]) [2, 1, 0] rfl ?_
    exact w_X4_sourceToVisit_B53 G K h
  · replace h := (if_neg c9).symm.trans h
    refine v_iload_n G dX4_sourceToVisit_29 rfl 0 rfl ?_
    refine v_iconst (v := (-1)) G dX4_sourceToVisit_30 (by decide) ?_
    refine v_icmp_eq (tgt := 53) G dX4_sourceToVisit_31 (by decide) (fun c20 => ?_) (fun c20 => ?_)
    · replace h := (if_pos c20).symm.trans h
      refine v_locs (L' := [(0, .ref (q 3)), (2, .int t3), (3, .int t7)]) [2, 1, 0] rfl ?_
      exact w_X4_sourceToVisit_B53 G K h
    · replace h := (if_neg c20).symm.trans h
      refine v_aload_n G dX4_sourceToVisit_34 rfl 2 rfl ?_
      refine v_getr (lay := layC) (k := 3) (k' := 19) (C := RX4) (T := TX4) (N := 12) G (fun _ h => i_X4_sourceToVisit_X4 _ h) rfl rfl 4 (by decide) (by decide +kernel) rfl rfl dX4_sourceToVisit_35 ?_
      refine v_iload_n G dX4_sourceToVisit_38 rfl 0 rfl ?_
      obtain ⟨t21, e22, h⟩ := Option.bind_eq_some_iff.mp h
      refine v_iald (lay := layC) (k := 19) (n := 12) G rfl e22 dX4_sourceToVisit_39 ?_
      refine v_aload_n G dX4_sourceToVisit_40 rfl 2 rfl ?_
      refine v_getr (lay := layC) (k := 3) (k' := 19) (C := RX4) (T := TX4) (N := 12) G (fun _ h => i_X4_sourceToVisit_X4 _ h) rfl rfl 4 (by decide) (by decide +kernel) rfl rfl dX4_sourceToVisit_41 ?_
      refine v_iload_n G dX4_sourceToVisit_44 rfl 1 rfl ?_
      obtain ⟨t23, e24, h⟩ := Option.bind_eq_some_iff.mp h
      refine v_iald (lay := layC) (k := 19) (n := 12) G rfl e24 dX4_sourceToVisit_45 ?_
      refine v_icmp_le (tgt := 53) G dX4_sourceToVisit_46 (by decide) (fun c25 => ?_) (fun c25 => ?_)
      · replace h := (if_pos c25).symm.trans h
        refine v_locs (L' := [(0, .ref (q 3)), (2, .int t3), (3, .int t7)]) [2, 1, 0] rfl ?_
        exact w_X4_sourceToVisit_B53 G K h
      · replace h := (if_neg c25).symm.trans h
        refine v_iconst (v := 1) G dX4_sourceToVisit_49 (by decide) ?_
        refine v_goto (tgt := 54) G dX4_sourceToVisit_50 (by decide) ?_
        refine v_locs (L' := [(0, .ref (q 3)), (2, .int t3), (3, .int t7)]) [2, 1, 0] rfl ?_
        exact w_X4_sourceToVisit_B54 G K h
theorem c_X4_sourceToVisit (l : Launch) {s : apM} {v1 : Int32} {r : Int32} (h : m_X4_sourceToVisit s v1 = some r) : apMi l layC apXC yX4_sourceToVisit wsX4_sourceToVisit 1 (fun q => [.ref (q 3), .int v1]) s r s := apMi_of (cc := cX4_sourceToVisit) (nL := 7) (r := r) (by decide) rfl rfl (fun _ => Nat.le_of_ble_eq_true rfl) (fun Γ q hl G K => w_X4_sourceToVisit G K h)
theorem i_X4_firstDue_X1 : ∀ w ∈ u_ws RX1 TX1 7, w ∈ wsX4_firstDue := by decide +kernel
theorem i_X4_firstDue_X4 : ∀ w ∈ u_ws RX4 TX4 12, w ∈ wsX4_firstDue := by decide +kernel
def m_X4_firstDue_L4 (s : apM)  : (Int32 × Int32) → Option ((Int32 × Int32) ⊕ (Int32 ⊕ (Int32 × Int32))) := fun (v2, v3) => if (s 1 6) ≤ v3 then (some (.inr (.inr (v2, v3)))) else (Option.bind (m_X4_sourceToVisit s v2) (fun t2 => if t2 = (-1) then (some (.inr (.inl v2))) else (some (.inl (t2, v3 + 1)))))
set_option maxHeartbeats 4000000 in
set_option maxRecDepth 100000 in
theorem w_X4_firstDue_L4 {Γ : apC} {q : Nat → Nat} (G : apG Γ cX4_firstDue 5 RX4 wsX4_firstDue (apRm 2 0) apXC) {s : apM} {v2 v3 : Int32} {r : ((Int32 × Int32) ⊕ (Int32 ⊕ (Int32 × Int32)))} (K : match r with | .inl x => apV Γ 5 (apU layC q (apd Γ) s) 0 0 4 [(0, .ref (q 3)), (2, .int x.1), (3, .int x.2)] [] | .inr (.inl r) => apR Γ cX4_firstDue 0 0 (some r) (apU layC q (apd Γ) s) | .inr (.inr x) => apV Γ 5 (apU layC q (apd Γ) s) 0 0 39 [(2, .int x.1)] []) (h : m_X4_firstDue_L4 s (v2, v3) = some r) : apV Γ 5 (apU layC q (apd Γ) s) 0 0 4 [(0, .ref (q 3)), (2, .int v2), (3, .int v3)] [] := by
  unfold m_X4_firstDue_L4 at h
  dsimp only at h
  refine v_iload_n G dX4_firstDue_4 rfl 2 rfl ?_
  refine v_aload_n G dX4_firstDue_5 rfl 0 rfl ?_
  refine v_getr (lay := layC) (k := 3) (k' := 1) (C := RX4) (T := TX4) (N := 12) G (fun _ h => i_X4_firstDue_X4 _ h) rfl rfl 0 (by decide) (by decide +kernel) rfl rfl dX4_firstDue_6 ?_
  refine v_geti (lay := layC) (k := 1) (C := RX1) (T := TX1) (N := 7) G (fun _ h => i_X4_firstDue_X1 _ h) rfl rfl 6 (by decide) (by decide +kernel) rfl rfl dX4_firstDue_9 ?_
  refine v_icmp_ge (tgt := 39) G dX4_firstDue_12 (by decide) (fun c1 => ?_) (fun c1 => ?_)
  · replace h := (if_pos c1).symm.trans h
    cases h
    refine v_locs (L' := [(2, .int v2)]) [1] rfl ?_
    exact K
  · replace h := (if_neg c1).symm.trans h
    refine v_aload_n G dX4_firstDue_15 rfl 0 rfl ?_
    refine v_iload_n G dX4_firstDue_16 rfl 1 rfl ?_
    obtain ⟨t2, e3, h⟩ := Option.bind_eq_some_iff.mp h
    refine v_calliV (lay := layC) (As := [.int v2]) (st := []) (n := 1) (C := RX4) (T := TX4) (k0 := 3) G apXCok (c_X4_sourceToVisit Γ.1.2.1 e3) gX4_firstDue_X4_sourceToVisit rfl (by decide +kernel) (by decide) rfl rfl rfl rfl (Nat.le_of_ble_eq_true rfl) (by decide) rfl dX4_firstDue_17 ?_
    refine v_istore (L' := [(4, .int t2), (0, .ref (q 3)), (2, .int v2), (3, .int v3)]) G dX4_firstDue_20 (by decide) rfl ?_
    refine v_iload G dX4_firstDue_22 0 rfl ?_
    refine v_iconst (v := (-1)) G dX4_firstDue_24 (by decide) ?_
    refine v_icmp_ne (tgt := 30) G dX4_firstDue_25 (by decide) (fun c4 => ?_) (fun c4 => ?_)
    · replace h := (if_neg c4).symm.trans h
      refine v_iload G dX4_firstDue_30 0 rfl ?_
      refine v_istore_n (L' := [(2, .int t2), (4, .int t2), (0, .ref (q 3)), (3, .int v3)]) G dX4_firstDue_32 rfl (by decide) rfl ?_
      refine v_iinc (v := v3 + 1) (L' := [(3, .int (v3 + 1)), (2, .int t2), (4, .int t2), (0, .ref (q 3))]) G dX4_firstDue_33 3 rfl rfl (by decide) rfl ?_
      refine v_goto (tgt := 4) G dX4_firstDue_36 (by decide) ?_
      cases h
      refine v_locs (L' := [(0, .ref (q 3)), (2, .int t2), (3, .int (v3 + 1))]) [3, 1, 0] rfl ?_
      exact K
    · replace h := (if_pos c4).symm.trans h
      refine v_iload_n G dX4_firstDue_28 rfl 2 rfl ?_
      cases h
      exact v_iret G K (by decide) (by decide) dX4_firstDue_29
def m_X4_firstDue (s : apM) (v1 : Int32) : Option Int32 := Option.bind (lp FU (m_X4_firstDue_L4 s) (v1, 0)) (fun x5 => match x5 with | .inl r10 => some r10 | .inr (v7, v8) => some v7)
set_option maxHeartbeats 4000000 in
set_option maxRecDepth 100000 in
theorem w_X4_firstDue {Γ : apC} {q : Nat → Nat} (G : apG Γ cX4_firstDue 5 RX4 wsX4_firstDue (apRm 2 0) apXC) {s : apM} {v1 : Int32} {r : Int32} (K : apR Γ cX4_firstDue 0 0 (some r) (apU layC q (apd Γ) s)) (h : m_X4_firstDue s v1 = some r) : apV Γ 5 (apU layC q (apd Γ) s) 0 0 0 [(0, .ref (q 3)), (1, .int v1)] [] := by
  unfold m_X4_firstDue at h
  refine v_iload_n G dX4_firstDue_0 rfl 1 rfl ?_
  refine v_istore_n (L' := [(2, .int v1), (0, .ref (q 3)), (1, .int v1)]) G dX4_firstDue_1 rfl (by decide) rfl ?_
  refine v_iconst (v := 0) G dX4_firstDue_2 (by decide) ?_
  refine v_istore_n (L' := [(3, .int 0), (2, .int v1), (0, .ref (q 3)), (1, .int v1)]) G dX4_firstDue_3 rfl (by decide) rfl ?_
  obtain ⟨x5, e6, h⟩ := Option.bind_eq_some_iff.mp h
  refine v_locs (L' := [(0, .ref (q 3)), (2, .int v1), (3, .int 0)]) [2, 1, 0] rfl ?_
  have l9 := v_lp (b := m_X4_firstDue_L4 s) (I := fun x => apV Γ 5 (apU layC q (apd Γ) s) 0 0 4 [(0, .ref (q 3)), (2, .int x.1), (3, .int x.2)] []) (O := fun x => match x with | .inl r => apR Γ cX4_firstDue 0 0 (some r) (apU layC q (apd Γ) s) | .inr x => apV Γ 5 (apU layC q (apd Γ) s) 0 0 39 [(2, .int x.1)] []) (fun x r hb hK => by obtain ⟨y2, y3⟩ := x; rcases r with r | r | r <;> exact w_X4_firstDue_L4 G hK hb) FU (v1, 0) x5 e6
  rcases x5 with r10 | x5
  · cases h
    exact l9 K
  · obtain ⟨v7, v8⟩ := x5
    refine l9 ?_
    refine v_iload_n G dX4_firstDue_39 rfl 0 rfl ?_
    cases h
    exact v_iret G K (by decide) (by decide) dX4_firstDue_40
theorem c_X4_firstDue (l : Launch) {s : apM} {v1 : Int32} {r : Int32} (h : m_X4_firstDue s v1 = some r) : apMi l layC apXC yX4_firstDue wsX4_firstDue 2 (fun q => [.ref (q 3), .int v1]) s r s := apMi_of (cc := cX4_firstDue) (nL := 5) (r := r) (by decide) rfl rfl (fun _ => Nat.le_of_ble_eq_true rfl) (fun Γ q hl G K => w_X4_firstDue G K h)
theorem i_X4_visit_X1 : ∀ w ∈ u_ws RX1 TX1 7, w ∈ wsX4_visit := by decide +kernel
theorem i_X4_visit_X4 : ∀ w ∈ u_ws RX4 TX4 12, w ∈ wsX4_visit := by decide +kernel
def m_X4_visit_L2 (v1 : Int32) : (apM × Int32) → Option ((apM × Int32) ⊕ (apM × Int32)) := fun (s0, v2) => if (s0 1 6) ≤ v2 then (some (.inr (s0, v2))) else (Option.bind (m_X4_isMissing s0 v1) (fun t2 => if t2 = 0 then (some (.inr (s0, v2))) else (Option.bind (m_X4_firstDue s0 v1) (fun t5 => Option.bind (m_X4_append s0 t5) (fun s7 => some (.inl (s7, v2 + 1)))))))
set_option maxHeartbeats 4000000 in
set_option maxRecDepth 100000 in
theorem w_X4_visit_L2 {Γ : apC} {q : Nat → Nat} (G : apG Γ cX4_visit 3 RX4 wsX4_visit (apRm 3 0) apXC) {s0 : apM} {v1 v2 : Int32} {r : ((apM × Int32) ⊕ (apM × Int32))} (K : match r with | .inl x => apV Γ 3 (apU layC q (apd Γ) x.1) 0 0 2 [(0, .ref (q 3)), (1, .int v1), (2, .int x.2)] [] | .inr x => apV Γ 3 (apU layC q (apd Γ) x.1) 0 0 36 [] []) (h : m_X4_visit_L2 v1 (s0, v2) = some r) : apV Γ 3 (apU layC q (apd Γ) s0) 0 0 2 [(0, .ref (q 3)), (1, .int v1), (2, .int v2)] [] := by
  unfold m_X4_visit_L2 at h
  dsimp only at h
  refine v_iload_n G dX4_visit_2 rfl 2 rfl ?_
  refine v_aload_n G dX4_visit_3 rfl 0 rfl ?_
  refine v_getr (lay := layC) (k := 3) (k' := 1) (C := RX4) (T := TX4) (N := 12) G (fun _ h => i_X4_visit_X4 _ h) rfl rfl 0 (by decide) (by decide +kernel) rfl rfl dX4_visit_4 ?_
  refine v_geti (lay := layC) (k := 1) (C := RX1) (T := TX1) (N := 7) G (fun _ h => i_X4_visit_X1 _ h) rfl rfl 6 (by decide) (by decide +kernel) rfl rfl dX4_visit_7 ?_
  refine v_icmp_ge (tgt := 36) G dX4_visit_10 (by decide) (fun c1 => ?_) (fun c1 => ?_)
  · replace h := (if_pos c1).symm.trans h
    cases h
    refine v_locs (L' := []) [] rfl ?_
    exact K
  · replace h := (if_neg c1).symm.trans h
    refine v_aload_n G dX4_visit_13 rfl 0 rfl ?_
    refine v_iload_n G dX4_visit_14 rfl 1 rfl ?_
    obtain ⟨t2, e3, h⟩ := Option.bind_eq_some_iff.mp h
    refine v_calliV (lay := layC) (As := [.int v1]) (st := []) (n := 1) (C := RX4) (T := TX4) (k0 := 3) G apXCok (c_X4_isMissing Γ.1.2.1 e3) gX4_visit_X4_isMissing rfl (by decide +kernel) (by decide) rfl rfl rfl rfl (Nat.le_of_ble_eq_true rfl) (by decide) rfl dX4_visit_15 ?_
    refine v_if_eq (tgt := 36) G dX4_visit_18 (by decide) (fun c4 => ?_) (fun c4 => ?_)
    · replace h := (if_pos c4).symm.trans h
      cases h
      refine v_locs (L' := []) [] rfl ?_
      exact K
    · replace h := (if_neg c4).symm.trans h
      refine v_aload_n G dX4_visit_21 rfl 0 rfl ?_
      refine v_aload_n G dX4_visit_22 rfl 0 rfl ?_
      refine v_iload_n G dX4_visit_23 rfl 1 rfl ?_
      obtain ⟨t5, e6, h⟩ := Option.bind_eq_some_iff.mp h
      refine v_calliV (lay := layC) (As := [.int v1]) (st := [.ref (q 3)]) (n := 1) (C := RX4) (T := TX4) (k0 := 3) G apXCok (c_X4_firstDue Γ.1.2.1 e6) gX4_visit_X4_firstDue rfl (by decide +kernel) (by decide) rfl rfl rfl rfl (Nat.le_of_ble_eq_true rfl) (by decide) rfl dX4_visit_24 ?_
      obtain ⟨s7, e8, h⟩ := Option.bind_eq_some_iff.mp h
      refine v_callvV (lay := layC) (As := [.int t5]) (st := []) (n := 1) (C := RX4) (T := TX4) (k0 := 3) G apXCok (c_X4_append Γ.1.2.1 e8) gX4_visit_X4_append rfl (by decide +kernel) (by decide) rfl rfl rfl rfl (Nat.le_of_ble_eq_true rfl) (by decide) rfl dX4_visit_27 ?_
      refine v_iinc (v := v2 + 1) (L' := [(2, .int (v2 + 1)), (0, .ref (q 3)), (1, .int v1)]) G dX4_visit_30 2 rfl rfl (by decide) rfl ?_
      refine v_goto (tgt := 2) G dX4_visit_33 (by decide) ?_
      cases h
      refine v_locs (L' := [(0, .ref (q 3)), (1, .int v1), (2, .int (v2 + 1))]) [1, 2, 0] rfl ?_
      exact K
def m_X4_visit (s : apM) (v1 : Int32) : Option apM := Option.bind (lp FU (m_X4_visit_L2 v1) (s, 0)) (fun x9 => match x9 with | (s12, v11) => some s12)
set_option maxHeartbeats 4000000 in
set_option maxRecDepth 100000 in
theorem w_X4_visit {Γ : apC} {q : Nat → Nat} (G : apG Γ cX4_visit 3 RX4 wsX4_visit (apRm 3 0) apXC) {s : apM} {v1 : Int32} {r : apM} (K : apR Γ cX4_visit 0 0 none (apU layC q (apd Γ) r)) (h : m_X4_visit s v1 = some r) : apV Γ 3 (apU layC q (apd Γ) s) 0 0 0 [(0, .ref (q 3)), (1, .int v1)] [] := by
  unfold m_X4_visit at h
  refine v_iconst (v := 0) G dX4_visit_0 (by decide) ?_
  refine v_istore_n (L' := [(2, .int 0), (0, .ref (q 3)), (1, .int v1)]) G dX4_visit_1 rfl (by decide) rfl ?_
  obtain ⟨x9, e10, h⟩ := Option.bind_eq_some_iff.mp h
  refine v_locs (L' := [(0, .ref (q 3)), (1, .int v1), (2, .int 0)]) [1, 2, 0] rfl ?_
  have l13 := v_lp (b := m_X4_visit_L2 v1) (I := fun x => apV Γ 3 (apU layC q (apd Γ) x.1) 0 0 2 [(0, .ref (q 3)), (1, .int v1), (2, .int x.2)] []) (O := fun x => apV Γ 3 (apU layC q (apd Γ) x.1) 0 0 36 [] []) (fun x r hb hK => by obtain ⟨ys, y2⟩ := x; rcases r with r | r <;> exact w_X4_visit_L2 G hK hb) FU (s, 0) x9 e10
  obtain ⟨s12, v11⟩ := x9
  dsimp only at h
  refine l13 ?_
  cases h
  exact v_vret G K (by decide) (by decide) dX4_visit_36
theorem c_X4_visit (l : Launch) {s : apM} {v1 : Int32} {r : apM} (h : m_X4_visit s v1 = some r) : apMv l layC apXC yX4_visit wsX4_visit 3 (fun q => [.ref (q 3), .int v1]) s r := apMv_of (cc := cX4_visit) (nL := 3) (by decide) rfl (fun _ => Nat.le_of_ble_eq_true rfl) (fun Γ q hl G K => w_X4_visit G K h)
theorem i_X4_orderByLabels_X1 : ∀ w ∈ u_ws RX1 TX1 7, w ∈ wsX4_orderByLabels := by decide +kernel
theorem i_X4_orderByLabels_X4 : ∀ w ∈ u_ws RX4 TX4 12, w ∈ wsX4_orderByLabels := by decide +kernel
def m_X4_orderByLabels_L6  : (apM × Int32) → Option ((apM × Int32) ⊕ (apM × Int32)) := fun (s0, v1) => if (s0 1 6) ≤ v1 then (some (.inr (s0, v1))) else (Option.bind (ald s0 17 12 v1) (fun t4 => if t4 = 0 then (Option.bind (m_X4_visit s0 v1) (fun s7 => some (.inl (s7, v1 + 1)))) else (some (.inl (s0, v1 + 1)))))
set_option maxHeartbeats 4000000 in
set_option maxRecDepth 100000 in
theorem w_X4_orderByLabels_L6 {Γ : apC} {q : Nat → Nat} (G : apG Γ cX4_orderByLabels 2 RX4 wsX4_orderByLabels (apRm 4 0) apXC) {s0 : apM} {v1 : Int32} {r : ((apM × Int32) ⊕ (apM × Int32))} (K : match r with | .inl x => apV Γ 2 (apU layC q (apd Γ) x.1) 0 0 6 [(0, .ref (q 3)), (1, .int x.2)] [] | .inr x => apV Γ 2 (apU layC q (apd Γ) x.1) 0 0 37 [] []) (h : m_X4_orderByLabels_L6 (s0, v1) = some r) : apV Γ 2 (apU layC q (apd Γ) s0) 0 0 6 [(0, .ref (q 3)), (1, .int v1)] [] := by
  unfold m_X4_orderByLabels_L6 at h
  dsimp only at h
  refine v_iload_n G dX4_orderByLabels_6 rfl 1 rfl ?_
  refine v_aload_n G dX4_orderByLabels_7 rfl 0 rfl ?_
  refine v_getr (lay := layC) (k := 3) (k' := 1) (C := RX4) (T := TX4) (N := 12) G (fun _ h => i_X4_orderByLabels_X4 _ h) rfl rfl 0 (by decide) (by decide +kernel) rfl rfl dX4_orderByLabels_8 ?_
  refine v_geti (lay := layC) (k := 1) (C := RX1) (T := TX1) (N := 7) G (fun _ h => i_X4_orderByLabels_X1 _ h) rfl rfl 6 (by decide) (by decide +kernel) rfl rfl dX4_orderByLabels_11 ?_
  refine v_icmp_ge (tgt := 37) G dX4_orderByLabels_14 (by decide) (fun c3 => ?_) (fun c3 => ?_)
  · replace h := (if_pos c3).symm.trans h
    cases h
    refine v_locs (L' := []) [] rfl ?_
    exact K
  · replace h := (if_neg c3).symm.trans h
    refine v_aload_n G dX4_orderByLabels_17 rfl 0 rfl ?_
    refine v_getr (lay := layC) (k := 3) (k' := 17) (C := RX4) (T := TX4) (N := 12) G (fun _ h => i_X4_orderByLabels_X4 _ h) rfl rfl 2 (by decide) (by decide +kernel) rfl rfl dX4_orderByLabels_18 ?_
    refine v_iload_n G dX4_orderByLabels_21 rfl 1 rfl ?_
    obtain ⟨t4, e5, h⟩ := Option.bind_eq_some_iff.mp h
    refine v_iald (lay := layC) (k := 17) (n := 12) G rfl e5 dX4_orderByLabels_22 ?_
    refine v_if_ne (tgt := 31) G dX4_orderByLabels_23 (by decide) (fun c6 => ?_) (fun c6 => ?_)
    · replace h := (if_neg c6).symm.trans h
      refine v_iinc (v := v1 + 1) (L' := [(1, .int (v1 + 1)), (0, .ref (q 3))]) G dX4_orderByLabels_31 1 rfl rfl (by decide) rfl ?_
      refine v_goto (tgt := 6) G dX4_orderByLabels_34 (by decide) ?_
      cases h
      refine v_locs (L' := [(0, .ref (q 3)), (1, .int (v1 + 1))]) [1, 0] rfl ?_
      exact K
    · replace h := (if_pos c6).symm.trans h
      refine v_aload_n G dX4_orderByLabels_26 rfl 0 rfl ?_
      refine v_iload_n G dX4_orderByLabels_27 rfl 1 rfl ?_
      obtain ⟨s7, e8, h⟩ := Option.bind_eq_some_iff.mp h
      refine v_callvV (lay := layC) (As := [.int v1]) (st := []) (n := 1) (C := RX4) (T := TX4) (k0 := 3) G apXCok (c_X4_visit Γ.1.2.1 e8) gX4_orderByLabels_X4_visit rfl (by decide +kernel) (by decide) rfl rfl rfl rfl (Nat.le_of_ble_eq_true rfl) (by decide) rfl dX4_orderByLabels_28 ?_
      refine v_iinc (v := v1 + 1) (L' := [(1, .int (v1 + 1)), (0, .ref (q 3))]) G dX4_orderByLabels_31 1 rfl rfl (by decide) rfl ?_
      refine v_goto (tgt := 6) G dX4_orderByLabels_34 (by decide) ?_
      cases h
      refine v_locs (L' := [(0, .ref (q 3)), (1, .int (v1 + 1))]) [1, 0] rfl ?_
      exact K
def m_X4_orderByLabels (s : apM)  : Option apM := Option.bind (m_X4_beginOrder s) (fun s1 => Option.bind (lp FU (m_X4_orderByLabels_L6) (s1, 0)) (fun x9 => match x9 with | (s12, v11) => some s12))
set_option maxHeartbeats 4000000 in
set_option maxRecDepth 100000 in
theorem w_X4_orderByLabels {Γ : apC} {q : Nat → Nat} (G : apG Γ cX4_orderByLabels 2 RX4 wsX4_orderByLabels (apRm 4 0) apXC) {s : apM} {r : apM} (K : apR Γ cX4_orderByLabels 0 0 none (apU layC q (apd Γ) r)) (h : m_X4_orderByLabels s = some r) : apV Γ 2 (apU layC q (apd Γ) s) 0 0 0 [(0, .ref (q 3))] [] := by
  unfold m_X4_orderByLabels at h
  refine v_aload_n G dX4_orderByLabels_0 rfl 0 rfl ?_
  obtain ⟨s1, e2, h⟩ := Option.bind_eq_some_iff.mp h
  refine v_callvV (lay := layC) (As := []) (st := []) (n := 0) (C := RX4) (T := TX4) (k0 := 3) G apXCok (c_X4_beginOrder Γ.1.2.1 e2) gX4_orderByLabels_X4_beginOrder rfl (by decide +kernel) (by decide) rfl rfl rfl rfl (Nat.le_of_ble_eq_true rfl) (by decide) rfl dX4_orderByLabels_1 ?_
  refine v_iconst (v := 0) G dX4_orderByLabels_4 (by decide) ?_
  refine v_istore_n (L' := [(1, .int 0), (0, .ref (q 3))]) G dX4_orderByLabels_5 rfl (by decide) rfl ?_
  obtain ⟨x9, e10, h⟩ := Option.bind_eq_some_iff.mp h
  refine v_locs (L' := [(0, .ref (q 3)), (1, .int 0)]) [1, 0] rfl ?_
  have l13 := v_lp (b := m_X4_orderByLabels_L6) (I := fun x => apV Γ 2 (apU layC q (apd Γ) x.1) 0 0 6 [(0, .ref (q 3)), (1, .int x.2)] []) (O := fun x => apV Γ 2 (apU layC q (apd Γ) x.1) 0 0 37 [] []) (fun x r hb hK => by obtain ⟨ys, y1⟩ := x; rcases r with r | r <;> exact w_X4_orderByLabels_L6 G hK hb) FU (s1, 0) x9 e10
  obtain ⟨s12, v11⟩ := x9
  dsimp only at h
  refine l13 ?_
  cases h
  exact v_vret G K (by decide) (by decide) dX4_orderByLabels_37
theorem c_X4_orderByLabels (l : Launch) {s : apM} {r : apM} (h : m_X4_orderByLabels s = some r) : apMv l layC apXC yX4_orderByLabels wsX4_orderByLabels 4 (fun q => [.ref (q 3)]) s r := apMv_of (cc := cX4_orderByLabels) (nL := 2) (by decide) rfl (fun _ => Nat.le_of_ble_eq_true rfl) (fun Γ q hl G K => w_X4_orderByLabels G K h)
theorem i_X4_isReady_X4 : ∀ w ∈ u_ws RX4 TX4 12, w ∈ wsX4_isReady := by decide +kernel
def m_X4_isReady (s : apM) (v1 : Int32) : Option Int32 := Option.bind (m_X4_isMissing s v1) (fun t1 => if t1 = 0 then (some 0) else (Option.bind (ald s 16 12 v1) (fun t4 => if (m_X6_isPartOf t4 (s 3 9)) = 0 then (some 0) else (some 1))))
set_option maxHeartbeats 4000000 in
set_option maxRecDepth 100000 in
theorem w_X4_isReady {Γ : apC} {q : Nat → Nat} (G : apG Γ cX4_isReady 2 RX4 wsX4_isReady (apRm 1 0) apXC) {s : apM} {v1 : Int32} {r : Int32} (K : apR Γ cX4_isReady 0 0 (some r) (apU layC q (apd Γ) s)) (h : m_X4_isReady s v1 = some r) : apV Γ 2 (apU layC q (apd Γ) s) 0 0 0 [(0, .ref (q 3)), (1, .int v1)] [] := by
  unfold m_X4_isReady at h
  refine v_aload_n G dX4_isReady_0 rfl 0 rfl ?_
  refine v_iload_n G dX4_isReady_1 rfl 1 rfl ?_
  obtain ⟨t1, e2, h⟩ := Option.bind_eq_some_iff.mp h
  refine v_calliV (lay := layC) (As := [.int v1]) (st := []) (n := 1) (C := RX4) (T := TX4) (k0 := 3) G apXCok (c_X4_isMissing Γ.1.2.1 e2) gX4_isReady_X4_isMissing rfl (by decide +kernel) (by decide) rfl rfl rfl rfl (Nat.le_of_ble_eq_true rfl) (by decide) rfl dX4_isReady_2 ?_
  refine v_if_eq (tgt := 28) G dX4_isReady_5 (by decide) (fun c3 => ?_) (fun c3 => ?_)
  · replace h := (if_pos c3).symm.trans h
    refine v_iconst (v := 0) G dX4_isReady_28 (by decide) ?_
    cases h
    exact v_iret G K (by decide) (by decide) dX4_isReady_29
  · replace h := (if_neg c3).symm.trans h
    refine v_aload_n G dX4_isReady_8 rfl 0 rfl ?_
    refine v_getr (lay := layC) (k := 3) (k' := 16) (C := RX4) (T := TX4) (N := 12) G (fun _ h => i_X4_isReady_X4 _ h) rfl rfl 1 (by decide) (by decide +kernel) rfl rfl dX4_isReady_9 ?_
    refine v_iload_n G dX4_isReady_12 rfl 1 rfl ?_
    obtain ⟨t4, e5, h⟩ := Option.bind_eq_some_iff.mp h
    refine v_iald (lay := layC) (k := 16) (n := 12) G rfl e5 dX4_isReady_13 ?_
    refine v_aload_n G dX4_isReady_14 rfl 0 rfl ?_
    refine v_geti (lay := layC) (k := 3) (C := RX4) (T := TX4) (N := 12) G (fun _ h => i_X4_isReady_X4 _ h) rfl rfl 9 (by decide) (by decide +kernel) rfl rfl dX4_isReady_15 ?_
    refine v_calliN (lay := layC) (As := [.int t4, .int (s 3 9)]) (st := []) (n := 2) G apXCok (c_X6_isPartOf Γ.1.2.1 (s := s) rfl) gX4_isReady_X6_isPartOf_n138 rfl (apNest_in G (by decide)) (by decide +kernel) (by decide +kernel) (by decide +kernel) (by decide) rfl rfl (Nat.le_of_ble_eq_true rfl) (by decide) rfl dX4_isReady_18 ?_
    refine v_if_eq (tgt := 28) G dX4_isReady_21 (by decide) (fun c6 => ?_) (fun c6 => ?_)
    · replace h := (if_pos c6).symm.trans h
      refine v_iconst (v := 0) G dX4_isReady_28 (by decide) ?_
      cases h
      exact v_iret G K (by decide) (by decide) dX4_isReady_29
    · replace h := (if_neg c6).symm.trans h
      refine v_iconst (v := 1) G dX4_isReady_24 (by decide) ?_
      refine v_goto (tgt := 29) G dX4_isReady_25 (by decide) ?_
      cases h
      exact v_iret G K (by decide) (by decide) dX4_isReady_29
theorem z_X4_isReady {s : apM} {v1 : Int32} {r : Int32} (h : m_X4_isReady s v1 = some r) : r = 0 ∨ r = 1 := by
  unfold m_X4_isReady at h
  obtain ⟨t1, e2, h⟩ := Option.bind_eq_some_iff.mp h
  by_cases c3 : t1 = 0
  · replace h := (if_pos c3).symm.trans h
    cases h
    exact Or.inl rfl
  · replace h := (if_neg c3).symm.trans h
    obtain ⟨t4, e5, h⟩ := Option.bind_eq_some_iff.mp h
    by_cases c6 : (m_X6_isPartOf t4 (s 3 9)) = 0
    · replace h := (if_pos c6).symm.trans h
      cases h
      exact Or.inl rfl
    · replace h := (if_neg c6).symm.trans h
      cases h
      exact Or.inr rfl
theorem c_X4_isReady (l : Launch) {s : apM} {v1 : Int32} {r : Int32} (h : m_X4_isReady s v1 = some r) : apMi l layC apXC yX4_isReady wsX4_isReady 1 (fun q => [.ref (q 3), .int v1]) s r s := apMi_of (cc := cX4_isReady) (nL := 2) (r := r) (by decide) rfl (by rcases z_X4_isReady h with e | e <;> rw [e] <;> rfl) (fun _ => Nat.le_of_ble_eq_true rfl) (fun Γ q hl G K => w_X4_isReady G K h)
theorem i_X4_leastReady_X1 : ∀ w ∈ u_ws RX1 TX1 7, w ∈ wsX4_leastReady := by decide +kernel
theorem i_X4_leastReady_X4 : ∀ w ∈ u_ws RX4 TX4 12, w ∈ wsX4_leastReady := by decide +kernel
def m_X4_leastReady_L2 (s : apM)  : Int32 → Option ((Int32) ⊕ (Int32)) := fun v1 => if ((s 1 6) - 1) ≤ v1 then (some (.inr v1)) else (Option.bind (m_X4_isReady s v1) (fun t2 => if t2 = 0 then (some (.inl (v1 + 1))) else (some (.inr v1))))
set_option maxHeartbeats 4000000 in
set_option maxRecDepth 100000 in
theorem w_X4_leastReady_L2 {Γ : apC} {q : Nat → Nat} (G : apG Γ cX4_leastReady 2 RX4 wsX4_leastReady (apRm 2 0) apXC) {s : apM} {v1 : Int32} {r : ((Int32) ⊕ (Int32))} (K : match r with | .inl x => apV Γ 2 (apU layC q (apd Γ) s) 0 0 2 [(0, .ref (q 3)), (1, .int x)] [] | .inr x => apV Γ 2 (apU layC q (apd Γ) s) 0 0 29 [(1, .int x)] []) (h : m_X4_leastReady_L2 s v1 = some r) : apV Γ 2 (apU layC q (apd Γ) s) 0 0 2 [(0, .ref (q 3)), (1, .int v1)] [] := by
  unfold m_X4_leastReady_L2 at h
  refine v_iload_n G dX4_leastReady_2 rfl 1 rfl ?_
  refine v_aload_n G dX4_leastReady_3 rfl 0 rfl ?_
  refine v_getr (lay := layC) (k := 3) (k' := 1) (C := RX4) (T := TX4) (N := 12) G (fun _ h => i_X4_leastReady_X4 _ h) rfl rfl 0 (by decide) (by decide +kernel) rfl rfl dX4_leastReady_4 ?_
  refine v_geti (lay := layC) (k := 1) (C := RX1) (T := TX1) (N := 7) G (fun _ h => i_X4_leastReady_X1 _ h) rfl rfl 6 (by decide) (by decide +kernel) rfl rfl dX4_leastReady_7 ?_
  refine v_iconst (v := 1) G dX4_leastReady_10 (by decide) ?_
  refine v_isub G dX4_leastReady_11 ?_
  refine v_icmp_ge (tgt := 29) G dX4_leastReady_12 (by decide) (fun c1 => ?_) (fun c1 => ?_)
  · replace h := (if_pos c1).symm.trans h
    cases h
    refine v_locs (L' := [(1, .int v1)]) [1] rfl ?_
    exact K
  · replace h := (if_neg c1).symm.trans h
    refine v_aload_n G dX4_leastReady_15 rfl 0 rfl ?_
    refine v_iload_n G dX4_leastReady_16 rfl 1 rfl ?_
    obtain ⟨t2, e3, h⟩ := Option.bind_eq_some_iff.mp h
    refine v_calliV (lay := layC) (As := [.int v1]) (st := []) (n := 1) (C := RX4) (T := TX4) (k0 := 3) G apXCok (c_X4_isReady Γ.1.2.1 e3) gX4_leastReady_X4_isReady rfl (by decide +kernel) (by decide) rfl rfl rfl rfl (Nat.le_of_ble_eq_true rfl) (by decide) rfl dX4_leastReady_17 ?_
    refine v_if_ne (tgt := 29) G dX4_leastReady_20 (by decide) (fun c4 => ?_) (fun c4 => ?_)
    · replace h := (if_neg c4).symm.trans h
      cases h
      refine v_locs (L' := [(1, .int v1)]) [1] rfl ?_
      exact K
    · replace h := (if_pos c4).symm.trans h
      refine v_iinc (v := v1 + 1) (L' := [(1, .int (v1 + 1)), (0, .ref (q 3))]) G dX4_leastReady_23 1 rfl rfl (by decide) rfl ?_
      refine v_goto (tgt := 2) G dX4_leastReady_26 (by decide) ?_
      cases h
      refine v_locs (L' := [(0, .ref (q 3)), (1, .int (v1 + 1))]) [1, 0] rfl ?_
      exact K
def m_X4_leastReady (s : apM)  : Option Int32 := Option.bind (lp FU (m_X4_leastReady_L2 s) 0) (fun v7 => some v7)
set_option maxHeartbeats 4000000 in
set_option maxRecDepth 100000 in
theorem w_X4_leastReady {Γ : apC} {q : Nat → Nat} (G : apG Γ cX4_leastReady 2 RX4 wsX4_leastReady (apRm 2 0) apXC) {s : apM} {r : Int32} (K : apR Γ cX4_leastReady 0 0 (some r) (apU layC q (apd Γ) s)) (h : m_X4_leastReady s = some r) : apV Γ 2 (apU layC q (apd Γ) s) 0 0 0 [(0, .ref (q 3))] [] := by
  unfold m_X4_leastReady at h
  refine v_iconst (v := 0) G dX4_leastReady_0 (by decide) ?_
  refine v_istore_n (L' := [(1, .int 0), (0, .ref (q 3))]) G dX4_leastReady_1 rfl (by decide) rfl ?_
  obtain ⟨x5, e6, h⟩ := Option.bind_eq_some_iff.mp h
  refine v_locs (L' := [(0, .ref (q 3)), (1, .int 0)]) [1, 0] rfl ?_
  have l8 := v_lp (b := m_X4_leastReady_L2 s) (I := fun x => apV Γ 2 (apU layC q (apd Γ) s) 0 0 2 [(0, .ref (q 3)), (1, .int x)] []) (O := fun x => apV Γ 2 (apU layC q (apd Γ) s) 0 0 29 [(1, .int x)] []) (fun x r hb hK => by rcases r with r | r <;> exact w_X4_leastReady_L2 G hK hb) FU 0 x5 e6
  obtain ⟨v7, rfl⟩ : ∃ z, z = x5 := ⟨_, rfl⟩
  refine l8 ?_
  refine v_iload_n G dX4_leastReady_29 rfl 0 rfl ?_
  cases h
  exact v_iret G K (by decide) (by decide) dX4_leastReady_30
theorem c_X4_leastReady (l : Launch) {s : apM} {r : Int32} (h : m_X4_leastReady s = some r) : apMi l layC apXC yX4_leastReady wsX4_leastReady 2 (fun q => [.ref (q 3)]) s r s := apMi_of (cc := cX4_leastReady) (nL := 2) (r := r) (by decide) rfl rfl (fun _ => Nat.le_of_ble_eq_true rfl) (fun Γ q hl G K => w_X4_leastReady G K h)
theorem i_X4_orderByNumbers_X1 : ∀ w ∈ u_ws RX1 TX1 7, w ∈ wsX4_orderByNumbers := by decide +kernel
theorem i_X4_orderByNumbers_X4 : ∀ w ∈ u_ws RX4 TX4 12, w ∈ wsX4_orderByNumbers := by decide +kernel
def m_X4_orderByNumbers_L6  : (apM × Int32) → Option ((apM × Int32) ⊕ (apM × Int32)) := fun (s0, v1) => if (s0 1 6) ≤ v1 then (some (.inr (s0, v1))) else (Option.bind (m_X4_leastReady s0) (fun t4 => Option.bind (m_X4_append s0 t4) (fun s6 => some (.inl (s6, v1 + 1)))))
set_option maxHeartbeats 4000000 in
set_option maxRecDepth 100000 in
theorem w_X4_orderByNumbers_L6 {Γ : apC} {q : Nat → Nat} (G : apG Γ cX4_orderByNumbers 2 RX4 wsX4_orderByNumbers (apRm 3 0) apXC) {s0 : apM} {v1 : Int32} {r : ((apM × Int32) ⊕ (apM × Int32))} (K : match r with | .inl x => apV Γ 2 (apU layC q (apd Γ) x.1) 0 0 6 [(0, .ref (q 3)), (1, .int x.2)] [] | .inr x => apV Γ 2 (apU layC q (apd Γ) x.1) 0 0 31 [] []) (h : m_X4_orderByNumbers_L6 (s0, v1) = some r) : apV Γ 2 (apU layC q (apd Γ) s0) 0 0 6 [(0, .ref (q 3)), (1, .int v1)] [] := by
  unfold m_X4_orderByNumbers_L6 at h
  dsimp only at h
  refine v_iload_n G dX4_orderByNumbers_6 rfl 1 rfl ?_
  refine v_aload_n G dX4_orderByNumbers_7 rfl 0 rfl ?_
  refine v_getr (lay := layC) (k := 3) (k' := 1) (C := RX4) (T := TX4) (N := 12) G (fun _ h => i_X4_orderByNumbers_X4 _ h) rfl rfl 0 (by decide) (by decide +kernel) rfl rfl dX4_orderByNumbers_8 ?_
  refine v_geti (lay := layC) (k := 1) (C := RX1) (T := TX1) (N := 7) G (fun _ h => i_X4_orderByNumbers_X1 _ h) rfl rfl 6 (by decide) (by decide +kernel) rfl rfl dX4_orderByNumbers_11 ?_
  refine v_icmp_ge (tgt := 31) G dX4_orderByNumbers_14 (by decide) (fun c3 => ?_) (fun c3 => ?_)
  · replace h := (if_pos c3).symm.trans h
    cases h
    refine v_locs (L' := []) [] rfl ?_
    exact K
  · replace h := (if_neg c3).symm.trans h
    refine v_aload_n G dX4_orderByNumbers_17 rfl 0 rfl ?_
    refine v_aload_n G dX4_orderByNumbers_18 rfl 0 rfl ?_
    obtain ⟨t4, e5, h⟩ := Option.bind_eq_some_iff.mp h
    refine v_calliV (lay := layC) (As := []) (st := [.ref (q 3)]) (n := 0) (C := RX4) (T := TX4) (k0 := 3) G apXCok (c_X4_leastReady Γ.1.2.1 e5) gX4_orderByNumbers_X4_leastReady rfl (by decide +kernel) (by decide) rfl rfl rfl rfl (Nat.le_of_ble_eq_true rfl) (by decide) rfl dX4_orderByNumbers_19 ?_
    obtain ⟨s6, e7, h⟩ := Option.bind_eq_some_iff.mp h
    refine v_callvV (lay := layC) (As := [.int t4]) (st := []) (n := 1) (C := RX4) (T := TX4) (k0 := 3) G apXCok (c_X4_append Γ.1.2.1 e7) gX4_orderByNumbers_X4_append rfl (by decide +kernel) (by decide) rfl rfl rfl rfl (Nat.le_of_ble_eq_true rfl) (by decide) rfl dX4_orderByNumbers_22 ?_
    refine v_iinc (v := v1 + 1) (L' := [(1, .int (v1 + 1)), (0, .ref (q 3))]) G dX4_orderByNumbers_25 1 rfl rfl (by decide) rfl ?_
    refine v_goto (tgt := 6) G dX4_orderByNumbers_28 (by decide) ?_
    cases h
    refine v_locs (L' := [(0, .ref (q 3)), (1, .int (v1 + 1))]) [1, 0] rfl ?_
    exact K
def m_X4_orderByNumbers (s : apM)  : Option apM := Option.bind (m_X4_beginOrder s) (fun s1 => Option.bind (lp FU (m_X4_orderByNumbers_L6) (s1, 0)) (fun x8 => match x8 with | (s11, v10) => some s11))
set_option maxHeartbeats 4000000 in
set_option maxRecDepth 100000 in
theorem w_X4_orderByNumbers {Γ : apC} {q : Nat → Nat} (G : apG Γ cX4_orderByNumbers 2 RX4 wsX4_orderByNumbers (apRm 3 0) apXC) {s : apM} {r : apM} (K : apR Γ cX4_orderByNumbers 0 0 none (apU layC q (apd Γ) r)) (h : m_X4_orderByNumbers s = some r) : apV Γ 2 (apU layC q (apd Γ) s) 0 0 0 [(0, .ref (q 3))] [] := by
  unfold m_X4_orderByNumbers at h
  refine v_aload_n G dX4_orderByNumbers_0 rfl 0 rfl ?_
  obtain ⟨s1, e2, h⟩ := Option.bind_eq_some_iff.mp h
  refine v_callvV (lay := layC) (As := []) (st := []) (n := 0) (C := RX4) (T := TX4) (k0 := 3) G apXCok (c_X4_beginOrder Γ.1.2.1 e2) gX4_orderByNumbers_X4_beginOrder rfl (by decide +kernel) (by decide) rfl rfl rfl rfl (Nat.le_of_ble_eq_true rfl) (by decide) rfl dX4_orderByNumbers_1 ?_
  refine v_iconst (v := 0) G dX4_orderByNumbers_4 (by decide) ?_
  refine v_istore_n (L' := [(1, .int 0), (0, .ref (q 3))]) G dX4_orderByNumbers_5 rfl (by decide) rfl ?_
  obtain ⟨x8, e9, h⟩ := Option.bind_eq_some_iff.mp h
  refine v_locs (L' := [(0, .ref (q 3)), (1, .int 0)]) [1, 0] rfl ?_
  have l12 := v_lp (b := m_X4_orderByNumbers_L6) (I := fun x => apV Γ 2 (apU layC q (apd Γ) x.1) 0 0 6 [(0, .ref (q 3)), (1, .int x.2)] []) (O := fun x => apV Γ 2 (apU layC q (apd Γ) x.1) 0 0 31 [] []) (fun x r hb hK => by obtain ⟨ys, y1⟩ := x; rcases r with r | r <;> exact w_X4_orderByNumbers_L6 G hK hb) FU (s1, 0) x8 e9
  obtain ⟨s11, v10⟩ := x8
  dsimp only at h
  refine l12 ?_
  cases h
  exact v_vret G K (by decide) (by decide) dX4_orderByNumbers_31
theorem c_X4_orderByNumbers (l : Launch) {s : apM} {r : apM} (h : m_X4_orderByNumbers s = some r) : apMv l layC apXC yX4_orderByNumbers wsX4_orderByNumbers 3 (fun q => [.ref (q 3)]) s r := apMv_of (cc := cX4_orderByNumbers) (nL := 2) (by decide) rfl (fun _ => Nat.le_of_ble_eq_true rfl) (fun Γ q hl G K => w_X4_orderByNumbers G K h)
theorem i_X4_lastStepOf_X1 : ∀ w ∈ u_ws RX1 TX1 7, w ∈ wsX4_lastStepOf := by decide +kernel
theorem i_X4_lastStepOf_X4 : ∀ w ∈ u_ws RX4 TX4 12, w ∈ wsX4_lastStepOf := by decide +kernel
def m_X4_lastStepOf_L31 (s : apM) (v1 : Int32) : (Int32 × Int32) → Option ((Int32 × Int32) ⊕ (Int32 × Int32)) := fun (v2, v3) => if (s 1 6) ≤ v3 then (some (.inr (v2, v3))) else (Option.bind (ald s 17 12 v1) (fun t7 => if (m_X6_contains t7 v3) = 0 then (some (.inl (v2, v3 + 1))) else (Option.bind (ald s 21 12 v3) (fun t10 => some (.inl ((if v2 < t10 then t10 else v2), v3 + 1))))))
set_option maxHeartbeats 4000000 in
set_option maxRecDepth 100000 in
theorem w_X4_lastStepOf_L31 {Γ : apC} {q : Nat → Nat} (G : apG Γ cX4_lastStepOf 4 RX4 wsX4_lastStepOf (apRm 1 0) apXC) {s : apM} {v1 v2 v3 : Int32} {r : ((Int32 × Int32) ⊕ (Int32 × Int32))} (K : match r with | .inl x => apV Γ 4 (apU layC q (apd Γ) s) 0 0 31 [(0, .ref (q 3)), (1, .int v1), (2, .int x.1), (3, .int x.2)] [] | .inr x => apV Γ 4 (apU layC q (apd Γ) s) 0 0 72 [(2, .int x.1)] []) (h : m_X4_lastStepOf_L31 s v1 (v2, v3) = some r) : apV Γ 4 (apU layC q (apd Γ) s) 0 0 31 [(0, .ref (q 3)), (1, .int v1), (2, .int v2), (3, .int v3)] [] := by
  unfold m_X4_lastStepOf_L31 at h
  dsimp only at h
  refine v_iload_n G dX4_lastStepOf_31 rfl 3 rfl ?_
  refine v_aload_n G dX4_lastStepOf_32 rfl 0 rfl ?_
  refine v_getr (lay := layC) (k := 3) (k' := 1) (C := RX4) (T := TX4) (N := 12) G (fun _ h => i_X4_lastStepOf_X4 _ h) rfl rfl 0 (by decide) (by decide +kernel) rfl rfl dX4_lastStepOf_33 ?_
  refine v_geti (lay := layC) (k := 1) (C := RX1) (T := TX1) (N := 7) G (fun _ h => i_X4_lastStepOf_X1 _ h) rfl rfl 6 (by decide) (by decide +kernel) rfl rfl dX4_lastStepOf_36 ?_
  refine v_icmp_ge (tgt := 72) G dX4_lastStepOf_39 (by decide) (fun c6 => ?_) (fun c6 => ?_)
  · replace h := (if_pos c6).symm.trans h
    cases h
    refine v_locs (L' := [(2, .int v2)]) [2] rfl ?_
    exact K
  · replace h := (if_neg c6).symm.trans h
    refine v_aload_n G dX4_lastStepOf_42 rfl 0 rfl ?_
    refine v_getr (lay := layC) (k := 3) (k' := 17) (C := RX4) (T := TX4) (N := 12) G (fun _ h => i_X4_lastStepOf_X4 _ h) rfl rfl 2 (by decide) (by decide +kernel) rfl rfl dX4_lastStepOf_43 ?_
    refine v_iload_n G dX4_lastStepOf_46 rfl 1 rfl ?_
    obtain ⟨t7, e8, h⟩ := Option.bind_eq_some_iff.mp h
    refine v_iald (lay := layC) (k := 17) (n := 12) G rfl e8 dX4_lastStepOf_47 ?_
    refine v_iload_n G dX4_lastStepOf_48 rfl 3 rfl ?_
    refine v_calliN (lay := layC) (As := [.int t7, .int v3]) (st := []) (n := 2) G apXCok (c_X6_contains Γ.1.2.1 (s := s) rfl) gX4_lastStepOf_X6_contains_n83 rfl (apNest_in G (by decide)) (by decide +kernel) (by decide +kernel) (by decide +kernel) (by decide) rfl rfl (Nat.le_of_ble_eq_true rfl) (by decide) rfl dX4_lastStepOf_49 ?_
    refine v_if_eq (tgt := 66) G dX4_lastStepOf_52 (by decide) (fun c9 => ?_) (fun c9 => ?_)
    · replace h := (if_pos c9).symm.trans h
      refine v_iinc (v := v3 + 1) (L' := [(3, .int (v3 + 1)), (0, .ref (q 3)), (1, .int v1), (2, .int v2)]) G dX4_lastStepOf_66 3 rfl rfl (by decide) rfl ?_
      refine v_goto (tgt := 31) G dX4_lastStepOf_69 (by decide) ?_
      cases h
      refine v_locs (L' := [(0, .ref (q 3)), (1, .int v1), (2, .int v2), (3, .int (v3 + 1))]) [1, 2, 3, 0] rfl ?_
      exact K
    · replace h := (if_neg c9).symm.trans h
      refine v_iload_n G dX4_lastStepOf_55 rfl 2 rfl ?_
      refine v_aload_n G dX4_lastStepOf_56 rfl 0 rfl ?_
      refine v_getr (lay := layC) (k := 3) (k' := 21) (C := RX4) (T := TX4) (N := 12) G (fun _ h => i_X4_lastStepOf_X4 _ h) rfl rfl 6 (by decide) (by decide +kernel) rfl rfl dX4_lastStepOf_57 ?_
      refine v_iload_n G dX4_lastStepOf_60 rfl 3 rfl ?_
      obtain ⟨t10, e11, h⟩ := Option.bind_eq_some_iff.mp h
      refine v_iald (lay := layC) (k := 21) (n := 12) G rfl e11 dX4_lastStepOf_61 ?_
      refine v_mmax G (by decide +kernel) (by decide +kernel) (by decide +kernel) (by decide +kernel) (by decide) (Nat.le_of_ble_eq_true rfl) (by decide) dX4_lastStepOf_62 ?_
      refine v_istore_n (L' := [(2, .int (if v2 < t10 then t10 else v2)), (0, .ref (q 3)), (1, .int v1), (3, .int v3)]) G dX4_lastStepOf_65 rfl (by decide) rfl ?_
      refine v_iinc (v := v3 + 1) (L' := [(3, .int (v3 + 1)), (2, .int (if v2 < t10 then t10 else v2)), (0, .ref (q 3)), (1, .int v1)]) G dX4_lastStepOf_66 3 rfl rfl (by decide) rfl ?_
      refine v_goto (tgt := 31) G dX4_lastStepOf_69 (by decide) ?_
      cases h
      refine v_locs (L' := [(0, .ref (q 3)), (1, .int v1), (2, .int (if v2 < t10 then t10 else v2)), (3, .int (v3 + 1))]) [2, 3, 1, 0] rfl ?_
      exact K
def m_X4_lastStepOf (s : apM) (v1 : Int32) : Option Int32 := Option.bind (ald s 12 12 v1) (fun t1 => if t1 = 0 then (Option.bind (ald s 21 12 v1) (fun t4 => Option.bind (lp FU (m_X4_lastStepOf_L31 s v1) (t4, 0)) (fun x12 => match x12 with | (v14, v15) => some v14))) else (some ((s 1 6) - 1)))
set_option maxHeartbeats 4000000 in
set_option maxRecDepth 100000 in
theorem w_X4_lastStepOf {Γ : apC} {q : Nat → Nat} (G : apG Γ cX4_lastStepOf 4 RX4 wsX4_lastStepOf (apRm 1 0) apXC) {s : apM} {v1 : Int32} {r : Int32} (K : apR Γ cX4_lastStepOf 0 0 (some r) (apU layC q (apd Γ) s)) (h : m_X4_lastStepOf s v1 = some r) : apV Γ 4 (apU layC q (apd Γ) s) 0 0 0 [(0, .ref (q 3)), (1, .int v1)] [] := by
  unfold m_X4_lastStepOf at h
  refine v_aload_n G dX4_lastStepOf_0 rfl 0 rfl ?_
  refine v_getr (lay := layC) (k := 3) (k' := 1) (C := RX4) (T := TX4) (N := 12) G (fun _ h => i_X4_lastStepOf_X4 _ h) rfl rfl 0 (by decide) (by decide +kernel) rfl rfl dX4_lastStepOf_1 ?_
  refine v_getr (lay := layC) (k := 1) (k' := 12) (C := RX1) (T := TX1) (N := 7) G (fun _ h => i_X4_lastStepOf_X1 _ h) rfl rfl 5 (by decide) (by decide +kernel) rfl rfl dX4_lastStepOf_4 ?_
  refine v_iload_n G dX4_lastStepOf_7 rfl 1 rfl ?_
  obtain ⟨t1, e2, h⟩ := Option.bind_eq_some_iff.mp h
  refine v_zald (lay := layC) (k := 12) (n := 12) G rfl e2 dX4_lastStepOf_8 ?_
  refine v_if_eq (tgt := 22) G dX4_lastStepOf_9 (by decide) (fun c3 => ?_) (fun c3 => ?_)
  · replace h := (if_pos c3).symm.trans h
    refine v_aload_n G dX4_lastStepOf_22 rfl 0 rfl ?_
    refine v_getr (lay := layC) (k := 3) (k' := 21) (C := RX4) (T := TX4) (N := 12) G (fun _ h => i_X4_lastStepOf_X4 _ h) rfl rfl 6 (by decide) (by decide +kernel) rfl rfl dX4_lastStepOf_23 ?_
    refine v_iload_n G dX4_lastStepOf_26 rfl 1 rfl ?_
    obtain ⟨t4, e5, h⟩ := Option.bind_eq_some_iff.mp h
    refine v_iald (lay := layC) (k := 21) (n := 12) G rfl e5 dX4_lastStepOf_27 ?_
    refine v_istore_n (L' := [(2, .int t4), (0, .ref (q 3)), (1, .int v1)]) G dX4_lastStepOf_28 rfl (by decide) rfl ?_
    refine v_iconst (v := 0) G dX4_lastStepOf_29 (by decide) ?_
    refine v_istore_n (L' := [(3, .int 0), (2, .int t4), (0, .ref (q 3)), (1, .int v1)]) G dX4_lastStepOf_30 rfl (by decide) rfl ?_
    obtain ⟨x12, e13, h⟩ := Option.bind_eq_some_iff.mp h
    refine v_locs (L' := [(0, .ref (q 3)), (1, .int v1), (2, .int t4), (3, .int 0)]) [2, 3, 1, 0] rfl ?_
    have l16 := v_lp (b := m_X4_lastStepOf_L31 s v1) (I := fun x => apV Γ 4 (apU layC q (apd Γ) s) 0 0 31 [(0, .ref (q 3)), (1, .int v1), (2, .int x.1), (3, .int x.2)] []) (O := fun x => apV Γ 4 (apU layC q (apd Γ) s) 0 0 72 [(2, .int x.1)] []) (fun x r hb hK => by obtain ⟨y2, y3⟩ := x; rcases r with r | r <;> exact w_X4_lastStepOf_L31 G hK hb) FU (t4, 0) x12 e13
    obtain ⟨v14, v15⟩ := x12
    dsimp only at h
    refine l16 ?_
    refine v_iload_n G dX4_lastStepOf_72 rfl 0 rfl ?_
    cases h
    exact v_iret G K (by decide) (by decide) dX4_lastStepOf_73
  · replace h := (if_neg c3).symm.trans h
    refine v_aload_n G dX4_lastStepOf_12 rfl 0 rfl ?_
    refine v_getr (lay := layC) (k := 3) (k' := 1) (C := RX4) (T := TX4) (N := 12) G (fun _ h => i_X4_lastStepOf_X4 _ h) rfl rfl 0 (by decide) (by decide +kernel) rfl rfl dX4_lastStepOf_13 ?_
    refine v_geti (lay := layC) (k := 1) (C := RX1) (T := TX1) (N := 7) G (fun _ h => i_X4_lastStepOf_X1 _ h) rfl rfl 6 (by decide) (by decide +kernel) rfl rfl dX4_lastStepOf_16 ?_
    refine v_iconst (v := 1) G dX4_lastStepOf_19 (by decide) ?_
    refine v_isub G dX4_lastStepOf_20 ?_
    cases h
    exact v_iret G K (by decide) (by decide) dX4_lastStepOf_21
theorem c_X4_lastStepOf (l : Launch) {s : apM} {v1 : Int32} {r : Int32} (h : m_X4_lastStepOf s v1 = some r) : apMi l layC apXC yX4_lastStepOf wsX4_lastStepOf 1 (fun q => [.ref (q 3), .int v1]) s r s := apMi_of (cc := cX4_lastStepOf) (nL := 4) (r := r) (by decide) rfl rfl (fun _ => Nat.le_of_ble_eq_true rfl) (fun Γ q hl G K => w_X4_lastStepOf G K h)
theorem i_X4_arrange_X1 : ∀ w ∈ u_ws RX1 TX1 7, w ∈ wsX4_arrange := by decide +kernel
theorem i_X4_arrange_X4 : ∀ w ∈ u_ws RX4 TX4 12, w ∈ wsX4_arrange := by decide +kernel
def m_X4_arrange_L18  : (apM × Int32) → Option ((apM × Int32) ⊕ (apM × Int32)) := fun (s0, v2) => if (s0 1 6) ≤ v2 then (some (.inr (s0, v2))) else (Option.bind (m_X4_lastStepOf s0 v2) (fun t5 => Option.bind (ast s0 22 12 v2 t5) (fun s7 => some (.inl (s7, v2 + 1)))))
set_option maxHeartbeats 4000000 in
set_option maxRecDepth 100000 in
theorem w_X4_arrange_L18 {Γ : apC} {q : Nat → Nat} (G : apG Γ cX4_arrange 3 RX4 wsX4_arrange (apRm 5 0) apXC) {s0 : apM} {v2 : Int32} {r : ((apM × Int32) ⊕ (apM × Int32))} (K : match r with | .inl x => apV Γ 3 (apU layC q (apd Γ) x.1) 0 0 18 [(0, .ref (q 3)), (2, .int x.2)] [] | .inr x => apV Γ 3 (apU layC q (apd Γ) x.1) 0 0 46 [(0, .ref (q 3))] []) (h : m_X4_arrange_L18 (s0, v2) = some r) : apV Γ 3 (apU layC q (apd Γ) s0) 0 0 18 [(0, .ref (q 3)), (2, .int v2)] [] := by
  unfold m_X4_arrange_L18 at h
  dsimp only at h
  refine v_iload_n G dX4_arrange_18 rfl 1 rfl ?_
  refine v_aload_n G dX4_arrange_19 rfl 0 rfl ?_
  refine v_getr (lay := layC) (k := 3) (k' := 1) (C := RX4) (T := TX4) (N := 12) G (fun _ h => i_X4_arrange_X4 _ h) rfl rfl 0 (by decide) (by decide +kernel) rfl rfl dX4_arrange_20 ?_
  refine v_geti (lay := layC) (k := 1) (C := RX1) (T := TX1) (N := 7) G (fun _ h => i_X4_arrange_X1 _ h) rfl rfl 6 (by decide) (by decide +kernel) rfl rfl dX4_arrange_23 ?_
  refine v_icmp_ge (tgt := 46) G dX4_arrange_26 (by decide) (fun c4 => ?_) (fun c4 => ?_)
  · replace h := (if_pos c4).symm.trans h
    cases h
    refine v_locs (L' := [(0, .ref (q 3))]) [0] rfl ?_
    exact K
  · replace h := (if_neg c4).symm.trans h
    refine v_aload_n G dX4_arrange_29 rfl 0 rfl ?_
    refine v_getr (lay := layC) (k := 3) (k' := 22) (C := RX4) (T := TX4) (N := 12) G (fun _ h => i_X4_arrange_X4 _ h) rfl rfl 7 (by decide) (by decide +kernel) rfl rfl dX4_arrange_30 ?_
    refine v_iload_n G dX4_arrange_33 rfl 1 rfl ?_
    refine v_aload_n G dX4_arrange_34 rfl 0 rfl ?_
    refine v_iload_n G dX4_arrange_35 rfl 1 rfl ?_
    obtain ⟨t5, e6, h⟩ := Option.bind_eq_some_iff.mp h
    refine v_calliV (lay := layC) (As := [.int v2]) (st := [.int v2, .ref (q 22)]) (n := 1) (C := RX4) (T := TX4) (k0 := 3) G apXCok (c_X4_lastStepOf Γ.1.2.1 e6) gX4_arrange_X4_lastStepOf rfl (by decide +kernel) (by decide) rfl rfl rfl rfl (Nat.le_of_ble_eq_true rfl) (by decide) rfl dX4_arrange_36 ?_
    obtain ⟨s7, e8, h⟩ := Option.bind_eq_some_iff.mp h
    refine v_iast (lay := layC) (k := 22) (n := 12) G rfl e8 dX4_arrange_39 ?_
    refine v_iinc (v := v2 + 1) (L' := [(2, .int (v2 + 1)), (0, .ref (q 3))]) G dX4_arrange_40 1 rfl rfl (by decide) rfl ?_
    refine v_goto (tgt := 18) G dX4_arrange_43 (by decide) ?_
    cases h
    refine v_locs (L' := [(0, .ref (q 3)), (2, .int (v2 + 1))]) [1, 0] rfl ?_
    exact K
def m_X4_arrange_B16 (s : apM) : Option apM := Option.bind (lp FU (m_X4_arrange_L18) (s, 0)) (fun x9 => match x9 with | (s12, v11) => Option.bind (m_X4_addCosts s12) (fun s13 => some s13))
set_option maxHeartbeats 4000000 in
set_option maxRecDepth 100000 in
theorem w_X4_arrange_B16 {Γ : apC} {q : Nat → Nat} (G : apG Γ cX4_arrange 3 RX4 wsX4_arrange (apRm 5 0) apXC) {s : apM} {r : apM} (K : apR Γ cX4_arrange 0 0 none (apU layC q (apd Γ) r)) (h : m_X4_arrange_B16 s = some r) : apV Γ 3 (apU layC q (apd Γ) s) 0 0 16 [(0, .ref (q 3))] [] := by
  unfold m_X4_arrange_B16 at h
  refine v_iconst (v := 0) G dX4_arrange_16 (by decide) ?_
  refine v_istore_n (L' := [(2, .int 0), (0, .ref (q 3))]) G dX4_arrange_17 rfl (by decide) rfl ?_
  obtain ⟨x9, e10, h⟩ := Option.bind_eq_some_iff.mp h
  refine v_locs (L' := [(0, .ref (q 3)), (2, .int 0)]) [1, 0] rfl ?_
  have l15 := v_lp (b := m_X4_arrange_L18) (I := fun x => apV Γ 3 (apU layC q (apd Γ) x.1) 0 0 18 [(0, .ref (q 3)), (2, .int x.2)] []) (O := fun x => apV Γ 3 (apU layC q (apd Γ) x.1) 0 0 46 [(0, .ref (q 3))] []) (fun x r hb hK => by obtain ⟨ys, y2⟩ := x; rcases r with r | r <;> exact w_X4_arrange_L18 G hK hb) FU (s, 0) x9 e10
  obtain ⟨s12, v11⟩ := x9
  dsimp only at h
  refine l15 ?_
  refine v_aload_n G dX4_arrange_46 rfl 0 rfl ?_
  obtain ⟨s13, e14, h⟩ := Option.bind_eq_some_iff.mp h
  refine v_callvV (lay := layC) (As := []) (st := []) (n := 0) (C := RX4) (T := TX4) (k0 := 3) G apXCok (c_X4_addCosts Γ.1.2.1 e14) gX4_arrange_X4_addCosts rfl (by decide +kernel) (by decide) rfl rfl rfl rfl (Nat.le_of_ble_eq_true rfl) (by decide) rfl dX4_arrange_47 ?_
  cases h
  exact v_vret G K (by decide) (by decide) dX4_arrange_50
def m_X4_arrange (s : apM) (v1 : Int32) : Option apM := if v1 = 1 then (Option.bind (m_X4_orderByLabels s) (fun s2 => m_X4_arrange_B16 s2)) else (Option.bind (m_X4_orderByNumbers s) (fun s16 => m_X4_arrange_B16 s16))
set_option maxHeartbeats 4000000 in
set_option maxRecDepth 100000 in
theorem w_X4_arrange {Γ : apC} {q : Nat → Nat} (G : apG Γ cX4_arrange 3 RX4 wsX4_arrange (apRm 5 0) apXC) {s : apM} {v1 : Int32} {r : apM} (K : apR Γ cX4_arrange 0 0 none (apU layC q (apd Γ) r)) (h : m_X4_arrange s v1 = some r) : apV Γ 3 (apU layC q (apd Γ) s) 0 0 0 [(0, .ref (q 3)), (1, .int v1)] [] := by
  unfold m_X4_arrange at h
  refine v_iload_n G dX4_arrange_0 rfl 1 rfl ?_
  refine v_iconst (v := 1) G dX4_arrange_1 (by decide) ?_
  refine v_icmp_ne (tgt := 12) G dX4_arrange_2 (by decide) (fun c1 => ?_) (fun c1 => ?_)
  · replace h := (if_neg c1).symm.trans h
    refine v_aload_n G dX4_arrange_12 rfl 0 rfl ?_
    obtain ⟨s16, e17, h⟩ := Option.bind_eq_some_iff.mp h
    refine v_callvV (lay := layC) (As := []) (st := []) (n := 0) (C := RX4) (T := TX4) (k0 := 3) G apXCok (c_X4_orderByNumbers Γ.1.2.1 e17) gX4_arrange_X4_orderByNumbers rfl (by decide +kernel) (by decide) rfl rfl rfl rfl (Nat.le_of_ble_eq_true rfl) (by decide) rfl dX4_arrange_13 ?_
    refine v_locs (L' := [(0, .ref (q 3))]) [0] rfl ?_
    exact w_X4_arrange_B16 G K h
  · replace h := (if_pos c1).symm.trans h
    refine v_aload_n G dX4_arrange_5 rfl 0 rfl ?_
    obtain ⟨s2, e3, h⟩ := Option.bind_eq_some_iff.mp h
    refine v_callvV (lay := layC) (As := []) (st := []) (n := 0) (C := RX4) (T := TX4) (k0 := 3) G apXCok (c_X4_orderByLabels Γ.1.2.1 e3) gX4_arrange_X4_orderByLabels rfl (by decide +kernel) (by decide) rfl rfl rfl rfl (Nat.le_of_ble_eq_true rfl) (by decide) rfl dX4_arrange_6 ?_
    refine v_goto (tgt := 16) G dX4_arrange_9 (by decide) ?_
    refine v_locs (L' := [(0, .ref (q 3))]) [0] rfl ?_
    exact w_X4_arrange_B16 G K h
theorem c_X4_arrange (l : Launch) {s : apM} {v1 : Int32} {r : apM} (h : m_X4_arrange s v1 = some r) : apMv l layC apXC yX4_arrange wsX4_arrange 5 (fun q => [.ref (q 3), .int v1]) s r := apMv_of (cc := cX4_arrange) (nL := 3) (by decide) rfl (fun _ => Nat.le_of_ble_eq_true rfl) (fun Γ q hl G K => w_X4_arrange G K h)
theorem i_X4_findNeighbours_X1 : ∀ w ∈ u_ws RX1 TX1 7, w ∈ wsX4_findNeighbours := by decide +kernel
theorem i_X4_findNeighbours_X4 : ∀ w ∈ u_ws RX4 TX4 12, w ∈ wsX4_findNeighbours := by decide +kernel
def m_X4_findNeighbours_L37 (v1 : Int32) : (apM × Int32) → Option ((apM × Int32) ⊕ (apM × Int32)) := fun (s0, v2) => if (s0 1 6) ≤ v2 then (some (.inr (s0, v2))) else (Option.bind (ald s0 16 12 v1) (fun t7 => if (m_X6_contains t7 v2) = 0 then (some (.inl (s0, v2 + 1))) else (Option.bind (ald s0 17 12 v2) (fun t10 => Option.bind (ast s0 17 12 v2 (t10 ||| (m_X6_setOf v1))) (fun s12 => some (.inl (s12, v2 + 1)))))))
set_option maxHeartbeats 4000000 in
set_option maxRecDepth 100000 in
theorem w_X4_findNeighbours_L37 {Γ : apC} {q : Nat → Nat} (G : apG Γ cX4_findNeighbours 3 RX4 wsX4_findNeighbours (apRm 2 0) apXC) {s0 : apM} {v1 v2 : Int32} {r : ((apM × Int32) ⊕ (apM × Int32))} (K : match r with | .inl x => apV Γ 3 (apU layC q (apd Γ) x.1) 0 0 37 [(0, .ref (q 3)), (1, .int v1), (2, .int x.2)] [] | .inr x => apV Γ 3 (apU layC q (apd Γ) x.1) 0 0 80 [(0, .ref (q 3)), (1, .int v1)] []) (h : m_X4_findNeighbours_L37 v1 (s0, v2) = some r) : apV Γ 3 (apU layC q (apd Γ) s0) 0 0 37 [(0, .ref (q 3)), (1, .int v1), (2, .int v2)] [] := by
  unfold m_X4_findNeighbours_L37 at h
  dsimp only at h
  refine v_iload_n G dX4_findNeighbours_37 rfl 2 rfl ?_
  refine v_aload_n G dX4_findNeighbours_38 rfl 0 rfl ?_
  refine v_getr (lay := layC) (k := 3) (k' := 1) (C := RX4) (T := TX4) (N := 12) G (fun _ h => i_X4_findNeighbours_X4 _ h) rfl rfl 0 (by decide) (by decide +kernel) rfl rfl dX4_findNeighbours_39 ?_
  refine v_geti (lay := layC) (k := 1) (C := RX1) (T := TX1) (N := 7) G (fun _ h => i_X4_findNeighbours_X1 _ h) rfl rfl 6 (by decide) (by decide +kernel) rfl rfl dX4_findNeighbours_42 ?_
  refine v_icmp_ge (tgt := 80) G dX4_findNeighbours_45 (by decide) (fun c6 => ?_) (fun c6 => ?_)
  · replace h := (if_pos c6).symm.trans h
    cases h
    refine v_locs (L' := [(0, .ref (q 3)), (1, .int v1)]) [0, 1] rfl ?_
    exact K
  · replace h := (if_neg c6).symm.trans h
    refine v_aload_n G dX4_findNeighbours_48 rfl 0 rfl ?_
    refine v_getr (lay := layC) (k := 3) (k' := 16) (C := RX4) (T := TX4) (N := 12) G (fun _ h => i_X4_findNeighbours_X4 _ h) rfl rfl 1 (by decide) (by decide +kernel) rfl rfl dX4_findNeighbours_49 ?_
    refine v_iload_n G dX4_findNeighbours_52 rfl 1 rfl ?_
    obtain ⟨t7, e8, h⟩ := Option.bind_eq_some_iff.mp h
    refine v_iald (lay := layC) (k := 16) (n := 12) G rfl e8 dX4_findNeighbours_53 ?_
    refine v_iload_n G dX4_findNeighbours_54 rfl 2 rfl ?_
    refine v_calliN (lay := layC) (As := [.int t7, .int v2]) (st := []) (n := 2) G apXCok (c_X6_contains Γ.1.2.1 (s := s0) rfl) gX4_findNeighbours_X6_contains_n83 rfl (apNest_in G (by decide)) (by decide +kernel) (by decide +kernel) (by decide +kernel) (by decide) rfl rfl (Nat.le_of_ble_eq_true rfl) (by decide) rfl dX4_findNeighbours_55 ?_
    refine v_if_eq (tgt := 74) G dX4_findNeighbours_58 (by decide) (fun c9 => ?_) (fun c9 => ?_)
    · replace h := (if_pos c9).symm.trans h
      refine v_iinc (v := v2 + 1) (L' := [(2, .int (v2 + 1)), (0, .ref (q 3)), (1, .int v1)]) G dX4_findNeighbours_74 2 rfl rfl (by decide) rfl ?_
      refine v_goto (tgt := 37) G dX4_findNeighbours_77 (by decide) ?_
      cases h
      refine v_locs (L' := [(0, .ref (q 3)), (1, .int v1), (2, .int (v2 + 1))]) [1, 2, 0] rfl ?_
      exact K
    · replace h := (if_neg c9).symm.trans h
      refine v_aload_n G dX4_findNeighbours_61 rfl 0 rfl ?_
      refine v_getr (lay := layC) (k := 3) (k' := 17) (C := RX4) (T := TX4) (N := 12) G (fun _ h => i_X4_findNeighbours_X4 _ h) rfl rfl 2 (by decide) (by decide +kernel) rfl rfl dX4_findNeighbours_62 ?_
      refine v_iload_n G dX4_findNeighbours_65 rfl 2 rfl ?_
      refine v_dup2 G dX4_findNeighbours_66 rfl rfl ?_
      obtain ⟨t10, e11, h⟩ := Option.bind_eq_some_iff.mp h
      refine v_iald (lay := layC) (k := 17) (n := 12) G rfl e11 dX4_findNeighbours_67 ?_
      refine v_iload_n G dX4_findNeighbours_68 rfl 1 rfl ?_
      refine v_calliN (lay := layC) (As := [.int v1]) (st := [.int t10, .int v2, .ref (q 17)]) (n := 1) G apXCok (c_X6_setOf Γ.1.2.1 (s := s0) rfl) gX4_findNeighbours_X6_setOf_n87 rfl (apNest_in G (by decide)) (by decide +kernel) (by decide +kernel) (by decide +kernel) (by decide) rfl rfl (Nat.le_of_ble_eq_true rfl) (by decide) rfl dX4_findNeighbours_69 ?_
      refine v_ior G dX4_findNeighbours_72 ?_
      obtain ⟨s12, e13, h⟩ := Option.bind_eq_some_iff.mp h
      refine v_iast (lay := layC) (k := 17) (n := 12) G rfl e13 dX4_findNeighbours_73 ?_
      refine v_iinc (v := v2 + 1) (L' := [(2, .int (v2 + 1)), (0, .ref (q 3)), (1, .int v1)]) G dX4_findNeighbours_74 2 rfl rfl (by decide) rfl ?_
      refine v_goto (tgt := 37) G dX4_findNeighbours_77 (by decide) ?_
      cases h
      refine v_locs (L' := [(0, .ref (q 3)), (1, .int v1), (2, .int (v2 + 1))]) [1, 2, 0] rfl ?_
      exact K
def m_X4_findNeighbours_L10  : (apM × Int32) → Option ((apM × Int32) ⊕ (apM × Int32)) := fun (s0, v1) => if (s0 1 6) ≤ v1 then (some (.inr (s0, v1))) else (Option.bind (m_X1_dependencies s0 v1) (fun t2 => Option.bind (ast s0 16 12 v1 t2) (fun s4 => Option.bind (lp FU (m_X4_findNeighbours_L37 v1) (s4, 0)) (fun x14 => match x14 with | (s17, v16) => some (.inl (s17, v1 + 1))))))
set_option maxHeartbeats 4000000 in
set_option maxRecDepth 100000 in
theorem w_X4_findNeighbours_L10 {Γ : apC} {q : Nat → Nat} (G : apG Γ cX4_findNeighbours 3 RX4 wsX4_findNeighbours (apRm 2 0) apXC) {s0 : apM} {v1 : Int32} {r : ((apM × Int32) ⊕ (apM × Int32))} (K : match r with | .inl x => apV Γ 3 (apU layC q (apd Γ) x.1) 0 0 10 [(0, .ref (q 3)), (1, .int x.2)] [] | .inr x => apV Γ 3 (apU layC q (apd Γ) x.1) 0 0 86 [] []) (h : m_X4_findNeighbours_L10 (s0, v1) = some r) : apV Γ 3 (apU layC q (apd Γ) s0) 0 0 10 [(0, .ref (q 3)), (1, .int v1)] [] := by
  unfold m_X4_findNeighbours_L10 at h
  dsimp only at h
  refine v_iload_n G dX4_findNeighbours_10 rfl 1 rfl ?_
  refine v_aload_n G dX4_findNeighbours_11 rfl 0 rfl ?_
  refine v_getr (lay := layC) (k := 3) (k' := 1) (C := RX4) (T := TX4) (N := 12) G (fun _ h => i_X4_findNeighbours_X4 _ h) rfl rfl 0 (by decide) (by decide +kernel) rfl rfl dX4_findNeighbours_12 ?_
  refine v_geti (lay := layC) (k := 1) (C := RX1) (T := TX1) (N := 7) G (fun _ h => i_X4_findNeighbours_X1 _ h) rfl rfl 6 (by decide) (by decide +kernel) rfl rfl dX4_findNeighbours_15 ?_
  refine v_icmp_ge (tgt := 86) G dX4_findNeighbours_18 (by decide) (fun c1 => ?_) (fun c1 => ?_)
  · replace h := (if_pos c1).symm.trans h
    cases h
    refine v_locs (L' := []) [] rfl ?_
    exact K
  · replace h := (if_neg c1).symm.trans h
    refine v_aload_n G dX4_findNeighbours_21 rfl 0 rfl ?_
    refine v_getr (lay := layC) (k := 3) (k' := 16) (C := RX4) (T := TX4) (N := 12) G (fun _ h => i_X4_findNeighbours_X4 _ h) rfl rfl 1 (by decide) (by decide +kernel) rfl rfl dX4_findNeighbours_22 ?_
    refine v_iload_n G dX4_findNeighbours_25 rfl 1 rfl ?_
    refine v_aload_n G dX4_findNeighbours_26 rfl 0 rfl ?_
    refine v_getr (lay := layC) (k := 3) (k' := 1) (C := RX4) (T := TX4) (N := 12) G (fun _ h => i_X4_findNeighbours_X4 _ h) rfl rfl 0 (by decide) (by decide +kernel) rfl rfl dX4_findNeighbours_27 ?_
    refine v_iload_n G dX4_findNeighbours_30 rfl 1 rfl ?_
    obtain ⟨t2, e3, h⟩ := Option.bind_eq_some_iff.mp h
    refine v_calliV (lay := layC) (As := [.int v1]) (st := [.int v1, .ref (q 16)]) (n := 1) (C := RX1) (T := TX1) (k0 := 1) G apXCok (c_X1_dependencies Γ.1.2.1 e3) gX4_findNeighbours_X1_dependencies rfl (by decide +kernel) (by decide) rfl rfl rfl rfl (Nat.le_of_ble_eq_true rfl) (by decide) rfl dX4_findNeighbours_31 ?_
    obtain ⟨s4, e5, h⟩ := Option.bind_eq_some_iff.mp h
    refine v_iast (lay := layC) (k := 16) (n := 12) G rfl e5 dX4_findNeighbours_34 ?_
    refine v_iconst (v := 0) G dX4_findNeighbours_35 (by decide) ?_
    refine v_istore_n (L' := [(2, .int 0), (0, .ref (q 3)), (1, .int v1)]) G dX4_findNeighbours_36 rfl (by decide) rfl ?_
    obtain ⟨x14, e15, h⟩ := Option.bind_eq_some_iff.mp h
    refine v_locs (L' := [(0, .ref (q 3)), (1, .int v1), (2, .int 0)]) [1, 2, 0] rfl ?_
    have l18 := v_lp (b := m_X4_findNeighbours_L37 v1) (I := fun x => apV Γ 3 (apU layC q (apd Γ) x.1) 0 0 37 [(0, .ref (q 3)), (1, .int v1), (2, .int x.2)] []) (O := fun x => apV Γ 3 (apU layC q (apd Γ) x.1) 0 0 80 [(0, .ref (q 3)), (1, .int v1)] []) (fun x r hb hK => by obtain ⟨ys, y2⟩ := x; rcases r with r | r <;> exact w_X4_findNeighbours_L37 G hK hb) FU (s4, 0) x14 e15
    obtain ⟨s17, v16⟩ := x14
    dsimp only at h
    refine l18 ?_
    refine v_iinc (v := v1 + 1) (L' := [(1, .int (v1 + 1)), (0, .ref (q 3))]) G dX4_findNeighbours_80 1 rfl rfl (by decide) rfl ?_
    refine v_goto (tgt := 10) G dX4_findNeighbours_83 (by decide) ?_
    cases h
    refine v_locs (L' := [(0, .ref (q 3)), (1, .int (v1 + 1))]) [1, 0] rfl ?_
    exact K
def m_X4_findNeighbours (s : apM)  : Option apM := Option.bind (lp FU (m_X4_findNeighbours_L10) (mfl s 17 0 12, 0)) (fun x19 => match x19 with | (s22, v21) => some s22)
set_option maxHeartbeats 4000000 in
set_option maxRecDepth 100000 in
theorem w_X4_findNeighbours {Γ : apC} {q : Nat → Nat} (G : apG Γ cX4_findNeighbours 3 RX4 wsX4_findNeighbours (apRm 2 0) apXC) {s : apM} {r : apM} (K : apR Γ cX4_findNeighbours 0 0 none (apU layC q (apd Γ) r)) (h : m_X4_findNeighbours s = some r) : apV Γ 3 (apU layC q (apd Γ) s) 0 0 0 [(0, .ref (q 3))] [] := by
  unfold m_X4_findNeighbours at h
  refine v_aload_n G dX4_findNeighbours_0 rfl 0 rfl ?_
  refine v_getr (lay := layC) (k := 3) (k' := 17) (C := RX4) (T := TX4) (N := 12) G (fun _ h => i_X4_findNeighbours_X4 _ h) rfl rfl 2 (by decide) (by decide +kernel) rfl rfl dX4_findNeighbours_1 ?_
  refine v_iconst (v := 0) G dX4_findNeighbours_4 (by decide) ?_
  refine v_callvS (lay := layC) (As := [.ref (q 17), .int 0]) (st := []) (n := 2) G apXCok (c_fill Γ.1.2.1 rfl (by decide)) gX4_findNeighbours_J7_fill_53178 rfl (by decide) (by decide) rfl rfl (Nat.le_of_ble_eq_true rfl) (by decide) rfl dX4_findNeighbours_5 ?_
  refine v_iconst (v := 0) G dX4_findNeighbours_8 (by decide) ?_
  refine v_istore_n (L' := [(1, .int 0), (0, .ref (q 3))]) G dX4_findNeighbours_9 rfl (by decide) rfl ?_
  obtain ⟨x19, e20, h⟩ := Option.bind_eq_some_iff.mp h
  refine v_locs (L' := [(0, .ref (q 3)), (1, .int 0)]) [1, 0] rfl ?_
  have l23 := v_lp (b := m_X4_findNeighbours_L10) (I := fun x => apV Γ 3 (apU layC q (apd Γ) x.1) 0 0 10 [(0, .ref (q 3)), (1, .int x.2)] []) (O := fun x => apV Γ 3 (apU layC q (apd Γ) x.1) 0 0 86 [] []) (fun x r hb hK => by obtain ⟨ys, y1⟩ := x; rcases r with r | r <;> exact w_X4_findNeighbours_L10 G hK hb) FU (mfl s 17 0 12, 0) x19 e20
  obtain ⟨s22, v21⟩ := x19
  dsimp only at h
  refine l23 ?_
  cases h
  exact v_vret G K (by decide) (by decide) dX4_findNeighbours_86
theorem c_X4_findNeighbours (l : Launch) {s : apM} {r : apM} (h : m_X4_findNeighbours s = some r) : apMv l layC apXC yX4_findNeighbours wsX4_findNeighbours 2 (fun q => [.ref (q 3)]) s r := apMv_of (cc := cX4_findNeighbours) (nL := 3) (by decide) rfl (fun _ => Nat.le_of_ble_eq_true rfl) (fun Γ q hl G K => w_X4_findNeighbours G K h)
theorem i_X4_labelOf_X1 : ∀ w ∈ u_ws RX1 TX1 7, w ∈ wsX4_labelOf := by decide +kernel
theorem i_X4_labelOf_X4 : ∀ w ∈ u_ws RX4 TX4 12, w ∈ wsX4_labelOf := by decide +kernel
def m_X4_labelOf (s : apM) (v1 : Int32) : Option Int32 := Option.bind (m_X1_inputs s v1) (fun t1 => if t1 = 0 then (some 1) else (Option.bind (rix 12 v1) (fun j4 => Option.bind (ald s (41 + j4) 2 0) (fun t6 => Option.bind (ald s 19 12 t6) (fun t8 => if t1 = 1 then (some (if 2 < t8 then t8 else 2)) else (Option.bind (rix 12 v1) (fun j11 => Option.bind (ald s (41 + j11) 2 1) (fun t13 => Option.bind (ald s 19 12 t13) (fun t15 => some (if 3 < (if (if t8 < t15 then t15 else t8) < ((if t15 < t8 then t15 else t8) + 1) then ((if t15 < t8 then t15 else t8) + 1) else (if t8 < t15 then t15 else t8)) then (if (if t8 < t15 then t15 else t8) < ((if t15 < t8 then t15 else t8) + 1) then ((if t15 < t8 then t15 else t8) + 1) else (if t8 < t15 then t15 else t8)) else 3))))))))))
set_option maxHeartbeats 4000000 in
set_option maxRecDepth 100000 in
theorem w_X4_labelOf {Γ : apC} {q : Nat → Nat} (G : apG Γ cX4_labelOf 7 RX4 wsX4_labelOf (apRm 1 0) apXC) {s : apM} {v1 : Int32} {r : Int32} (K : apR Γ cX4_labelOf 0 0 (some r) (apU layC q (apd Γ) s)) (h : m_X4_labelOf s v1 = some r) : apV Γ 7 (apU layC q (apd Γ) s) 0 0 0 [(0, .ref (q 3)), (1, .int v1)] [] := by
  unfold m_X4_labelOf at h
  refine v_aload_n G dX4_labelOf_0 rfl 0 rfl ?_
  refine v_getr (lay := layC) (k := 3) (k' := 1) (C := RX4) (T := TX4) (N := 12) G (fun _ h => i_X4_labelOf_X4 _ h) rfl rfl 0 (by decide) (by decide +kernel) rfl rfl dX4_labelOf_1 ?_
  refine v_iload_n G dX4_labelOf_4 rfl 1 rfl ?_
  obtain ⟨t1, e2, h⟩ := Option.bind_eq_some_iff.mp h
  refine v_calliV (lay := layC) (As := [.int v1]) (st := []) (n := 1) (C := RX1) (T := TX1) (k0 := 1) G apXCok (c_X1_inputs Γ.1.2.1 e2) gX4_labelOf_X1_inputs rfl (by decide +kernel) (by decide) rfl rfl rfl rfl (Nat.le_of_ble_eq_true rfl) (by decide) rfl dX4_labelOf_5 ?_
  refine v_istore_n (L' := [(2, .int t1), (0, .ref (q 3)), (1, .int v1)]) G dX4_labelOf_8 rfl (by decide) rfl ?_
  refine v_iload_n G dX4_labelOf_9 rfl 0 rfl ?_
  refine v_if_ne (tgt := 15) G dX4_labelOf_10 (by decide) (fun c3 => ?_) (fun c3 => ?_)
  · replace h := (if_neg c3).symm.trans h
    refine v_aload_n G dX4_labelOf_15 rfl 1 rfl ?_
    refine v_getr (lay := layC) (k := 3) (k' := 19) (C := RX4) (T := TX4) (N := 12) G (fun _ h => i_X4_labelOf_X4 _ h) rfl rfl 4 (by decide) (by decide +kernel) rfl rfl dX4_labelOf_16 ?_
    refine v_aload_n G dX4_labelOf_19 rfl 1 rfl ?_
    refine v_getr (lay := layC) (k := 3) (k' := 1) (C := RX4) (T := TX4) (N := 12) G (fun _ h => i_X4_labelOf_X4 _ h) rfl rfl 0 (by decide) (by decide +kernel) rfl rfl dX4_labelOf_20 ?_
    refine v_getr (lay := layC) (k := 1) (k' := 11) (C := RX1) (T := TX1) (N := 7) G (fun _ h => i_X4_labelOf_X1 _ h) rfl rfl 4 (by decide) (by decide +kernel) rfl rfl dX4_labelOf_23 ?_
    refine v_iload_n G dX4_labelOf_26 rfl 2 rfl ?_
    obtain ⟨j4, e5, h⟩ := Option.bind_eq_some_iff.mp h
    refine v_aald (lay := layC) (k := 11) G rfl e5 dX4_labelOf_27 ?_
    refine v_iconst (v := 0) G dX4_labelOf_28 (by decide) ?_
    obtain ⟨t6, e7, h⟩ := Option.bind_eq_some_iff.mp h
    refine v_iald (lay := layC) G (layR_41 e5) e7 dX4_labelOf_29 ?_
    obtain ⟨t8, e9, h⟩ := Option.bind_eq_some_iff.mp h
    refine v_iald (lay := layC) (k := 19) (n := 12) G rfl e9 dX4_labelOf_30 ?_
    refine v_istore_n (L' := [(3, .int t8), (2, .int t1), (0, .ref (q 3)), (1, .int v1)]) G dX4_labelOf_31 rfl (by decide) rfl ?_
    refine v_iload_n G dX4_labelOf_32 rfl 1 rfl ?_
    refine v_iconst (v := 1) G dX4_labelOf_33 (by decide) ?_
    refine v_icmp_ne (tgt := 43) G dX4_labelOf_34 (by decide) (fun c10 => ?_) (fun c10 => ?_)
    · replace h := (if_neg c10).symm.trans h
      refine v_aload_n G dX4_labelOf_43 rfl 2 rfl ?_
      refine v_getr (lay := layC) (k := 3) (k' := 19) (C := RX4) (T := TX4) (N := 12) G (fun _ h => i_X4_labelOf_X4 _ h) rfl rfl 4 (by decide) (by decide +kernel) rfl rfl dX4_labelOf_44 ?_
      refine v_aload_n G dX4_labelOf_47 rfl 2 rfl ?_
      refine v_getr (lay := layC) (k := 3) (k' := 1) (C := RX4) (T := TX4) (N := 12) G (fun _ h => i_X4_labelOf_X4 _ h) rfl rfl 0 (by decide) (by decide +kernel) rfl rfl dX4_labelOf_48 ?_
      refine v_getr (lay := layC) (k := 1) (k' := 11) (C := RX1) (T := TX1) (N := 7) G (fun _ h => i_X4_labelOf_X1 _ h) rfl rfl 4 (by decide) (by decide +kernel) rfl rfl dX4_labelOf_51 ?_
      refine v_iload_n G dX4_labelOf_54 rfl 3 rfl ?_
      obtain ⟨j11, e12, h⟩ := Option.bind_eq_some_iff.mp h
      refine v_aald (lay := layC) (k := 11) G rfl e12 dX4_labelOf_55 ?_
      refine v_iconst (v := 1) G dX4_labelOf_56 (by decide) ?_
      obtain ⟨t13, e14, h⟩ := Option.bind_eq_some_iff.mp h
      refine v_iald (lay := layC) G (layR_41 e12) e14 dX4_labelOf_57 ?_
      obtain ⟨t15, e16, h⟩ := Option.bind_eq_some_iff.mp h
      refine v_iald (lay := layC) (k := 19) (n := 12) G rfl e16 dX4_labelOf_58 ?_
      refine v_istore (L' := [(4, .int t15), (3, .int t8), (2, .int t1), (0, .ref (q 3)), (1, .int v1)]) G dX4_labelOf_59 (by decide) rfl ?_
      refine v_iload_n G dX4_labelOf_61 rfl 1 rfl ?_
      refine v_iload G dX4_labelOf_62 0 rfl ?_
      refine v_mmax G (by decide +kernel) (by decide +kernel) (by decide +kernel) (by decide +kernel) (by decide) (Nat.le_of_ble_eq_true rfl) (by decide) dX4_labelOf_64 ?_
      refine v_istore (L' := [(5, .int (if t8 < t15 then t15 else t8)), (4, .int t15), (3, .int t8), (2, .int t1), (0, .ref (q 3)), (1, .int v1)]) G dX4_labelOf_67 (by decide) rfl ?_
      refine v_iload_n G dX4_labelOf_69 rfl 2 rfl ?_
      refine v_iload G dX4_labelOf_70 1 rfl ?_
      refine v_mmin G (by decide +kernel) (by decide +kernel) (by decide +kernel) (by decide +kernel) (by decide) (Nat.le_of_ble_eq_true rfl) (by decide) dX4_labelOf_72 ?_
      refine v_istore (L' := [(6, .int (if t15 < t8 then t15 else t8)), (5, .int (if t8 < t15 then t15 else t8)), (4, .int t15), (3, .int t8), (2, .int t1), (0, .ref (q 3)), (1, .int v1)]) G dX4_labelOf_75 (by decide) rfl ?_
      refine v_iconst (v := 3) G dX4_labelOf_77 (by decide) ?_
      refine v_iload G dX4_labelOf_78 1 rfl ?_
      refine v_iload G dX4_labelOf_80 0 rfl ?_
      refine v_iconst (v := 1) G dX4_labelOf_82 (by decide) ?_
      refine v_iadd G dX4_labelOf_83 ?_
      refine v_mmax G (by decide +kernel) (by decide +kernel) (by decide +kernel) (by decide +kernel) (by decide) (Nat.le_of_ble_eq_true rfl) (by decide) dX4_labelOf_84 ?_
      refine v_mmax G (by decide +kernel) (by decide +kernel) (by decide +kernel) (by decide +kernel) (by decide) (Nat.le_of_ble_eq_true rfl) (by decide) dX4_labelOf_87 ?_
      cases h
      exact v_iret G K (by decide) (by decide) dX4_labelOf_90
    · replace h := (if_pos c10).symm.trans h
      refine v_iconst (v := 2) G dX4_labelOf_37 (by decide) ?_
      refine v_iload_n G dX4_labelOf_38 rfl 0 rfl ?_
      refine v_mmax G (by decide +kernel) (by decide +kernel) (by decide +kernel) (by decide +kernel) (by decide) (Nat.le_of_ble_eq_true rfl) (by decide) dX4_labelOf_39 ?_
      cases h
      exact v_iret G K (by decide) (by decide) dX4_labelOf_42
  · replace h := (if_pos c3).symm.trans h
    refine v_iconst (v := 1) G dX4_labelOf_13 (by decide) ?_
    cases h
    exact v_iret G K (by decide) (by decide) dX4_labelOf_14
theorem c_X4_labelOf (l : Launch) {s : apM} {v1 : Int32} {r : Int32} (h : m_X4_labelOf s v1 = some r) : apMi l layC apXC yX4_labelOf wsX4_labelOf 1 (fun q => [.ref (q 3), .int v1]) s r s := apMi_of (cc := cX4_labelOf) (nL := 7) (r := r) (by decide) rfl rfl (fun _ => Nat.le_of_ble_eq_true rfl) (fun Γ q hl G K => w_X4_labelOf G K h)
theorem i_X4_sizeOfSource_X1 : ∀ w ∈ u_ws RX1 TX1 7, w ∈ wsX4_sizeOfSource := by decide +kernel
theorem i_X4_sizeOfSource_X4 : ∀ w ∈ u_ws RX4 TX4 12, w ∈ wsX4_sizeOfSource := by decide +kernel
def m_X4_sizeOfSource (s : apM) (v1 : Int32) (v2 : Int32) : Option Int32 := Option.bind (rix 12 v1) (fun j1 => Option.bind (ald s (41 + j1) 2 v2) (fun t3 => if t3 = (-1) then (some 0) else (Option.bind (ald s 18 12 t3) (fun t6 => some t6))))
set_option maxHeartbeats 4000000 in
set_option maxRecDepth 100000 in
theorem w_X4_sizeOfSource {Γ : apC} {q : Nat → Nat} (G : apG Γ cX4_sizeOfSource 4 RX4 wsX4_sizeOfSource (apRm 0 0) apXC) {s : apM} {v1 v2 : Int32} {r : Int32} (K : apR Γ cX4_sizeOfSource 0 0 (some r) (apU layC q (apd Γ) s)) (h : m_X4_sizeOfSource s v1 v2 = some r) : apV Γ 4 (apU layC q (apd Γ) s) 0 0 0 [(0, .ref (q 3)), (1, .int v1), (2, .int v2)] [] := by
  unfold m_X4_sizeOfSource at h
  refine v_aload_n G dX4_sizeOfSource_0 rfl 0 rfl ?_
  refine v_getr (lay := layC) (k := 3) (k' := 1) (C := RX4) (T := TX4) (N := 12) G (fun _ h => i_X4_sizeOfSource_X4 _ h) rfl rfl 0 (by decide) (by decide +kernel) rfl rfl dX4_sizeOfSource_1 ?_
  refine v_getr (lay := layC) (k := 1) (k' := 11) (C := RX1) (T := TX1) (N := 7) G (fun _ h => i_X4_sizeOfSource_X1 _ h) rfl rfl 4 (by decide) (by decide +kernel) rfl rfl dX4_sizeOfSource_4 ?_
  refine v_iload_n G dX4_sizeOfSource_7 rfl 1 rfl ?_
  obtain ⟨j1, e2, h⟩ := Option.bind_eq_some_iff.mp h
  refine v_aald (lay := layC) (k := 11) G rfl e2 dX4_sizeOfSource_8 ?_
  refine v_iload_n G dX4_sizeOfSource_9 rfl 2 rfl ?_
  obtain ⟨t3, e4, h⟩ := Option.bind_eq_some_iff.mp h
  refine v_iald (lay := layC) G (layR_41 e2) e4 dX4_sizeOfSource_10 ?_
  refine v_istore_n (L' := [(3, .int t3), (0, .ref (q 3)), (1, .int v1), (2, .int v2)]) G dX4_sizeOfSource_11 rfl (by decide) rfl ?_
  refine v_iload_n G dX4_sizeOfSource_12 rfl 0 rfl ?_
  refine v_iconst (v := (-1)) G dX4_sizeOfSource_13 (by decide) ?_
  refine v_icmp_ne (tgt := 21) G dX4_sizeOfSource_14 (by decide) (fun c5 => ?_) (fun c5 => ?_)
  · replace h := (if_neg c5).symm.trans h
    refine v_aload_n G dX4_sizeOfSource_21 rfl 1 rfl ?_
    refine v_getr (lay := layC) (k := 3) (k' := 18) (C := RX4) (T := TX4) (N := 12) G (fun _ h => i_X4_sizeOfSource_X4 _ h) rfl rfl 3 (by decide) (by decide +kernel) rfl rfl dX4_sizeOfSource_22 ?_
    refine v_iload_n G dX4_sizeOfSource_25 rfl 0 rfl ?_
    obtain ⟨t6, e7, h⟩ := Option.bind_eq_some_iff.mp h
    refine v_iald (lay := layC) (k := 18) (n := 12) G rfl e7 dX4_sizeOfSource_26 ?_
    cases h
    exact v_iret G K (by decide) (by decide) dX4_sizeOfSource_27
  · replace h := (if_pos c5).symm.trans h
    refine v_iconst (v := 0) G dX4_sizeOfSource_17 (by decide) ?_
    refine v_goto (tgt := 27) G dX4_sizeOfSource_18 (by decide) ?_
    cases h
    exact v_iret G K (by decide) (by decide) dX4_sizeOfSource_27
theorem c_X4_sizeOfSource (l : Launch) {s : apM} {v1 v2 : Int32} {r : Int32} (h : m_X4_sizeOfSource s v1 v2 = some r) : apMi l layC apXC yX4_sizeOfSource wsX4_sizeOfSource 0 (fun q => [.ref (q 3), .int v1, .int v2]) s r s := apMi_of (cc := cX4_sizeOfSource) (nL := 4) (r := r) (by decide) rfl rfl (fun _ => Nat.le_of_ble_eq_true rfl) (fun Γ q hl G K => w_X4_sizeOfSource G K h)
theorem i_X4_sizesFit_X1 : ∀ w ∈ u_ws RX1 TX1 7, w ∈ wsX4_sizesFit := by decide +kernel
theorem i_X4_sizesFit_X4 : ∀ w ∈ u_ws RX4 TX4 12, w ∈ wsX4_sizesFit := by decide +kernel
def m_X4_sizesFit_B60 (s : apM) (v2 : Int32) (v3 : Int32) : Option Int32 := if v2 = v3 then (some 1) else (some 0)
set_option maxHeartbeats 4000000 in
set_option maxRecDepth 100000 in
theorem w_X4_sizesFit_B60 {Γ : apC} {q : Nat → Nat} (G : apG Γ cX4_sizesFit 4 RX4 wsX4_sizesFit (apRm 1 0) apXC) {s : apM} {v2 v3 : Int32} {r : Int32} (K : apR Γ cX4_sizesFit 0 0 (some r) (apU layC q (apd Γ) s)) (h : m_X4_sizesFit_B60 s v2 v3 = some r) : apV Γ 4 (apU layC q (apd Γ) s) 0 0 60 [(2, .int v2), (3, .int v3)] [] := by
  unfold m_X4_sizesFit_B60 at h
  refine v_iload_n G dX4_sizesFit_60 rfl 0 rfl ?_
  refine v_iload_n G dX4_sizesFit_61 rfl 1 rfl ?_
  refine v_icmp_ne (tgt := 69) G dX4_sizesFit_62 (by decide) (fun c8 => ?_) (fun c8 => ?_)
  · replace h := (if_neg c8).symm.trans h
    refine v_iconst (v := 0) G dX4_sizesFit_69 (by decide) ?_
    cases h
    exact v_iret G K (by decide) (by decide) dX4_sizesFit_70
  · replace h := (if_pos c8).symm.trans h
    refine v_iconst (v := 1) G dX4_sizesFit_65 (by decide) ?_
    refine v_goto (tgt := 70) G dX4_sizesFit_66 (by decide) ?_
    cases h
    exact v_iret G K (by decide) (by decide) dX4_sizesFit_70
theorem z_X4_sizesFit_B60 {s : apM} {v2 v3 : Int32} {r : Int32} (h : m_X4_sizesFit_B60 s v2 v3 = some r) : r = 0 ∨ r = 1 := by
  unfold m_X4_sizesFit_B60 at h
  by_cases c8 : v2 = v3
  · replace h := (if_pos c8).symm.trans h
    cases h
    exact Or.inr rfl
  · replace h := (if_neg c8).symm.trans h
    cases h
    exact Or.inl rfl
def m_X4_sizesFit (s : apM) (v1 : Int32) : Option Int32 := Option.bind (m_X4_sizeOfSource s v1 0) (fun t1 => Option.bind (m_X4_sizeOfSource s v1 1) (fun t3 => Option.bind (ald s 7 12 v1) (fun t5 => if t5 = 2 then (m_X4_sizesFit_B60 s t1 t3) else (if t5 = 3 then (m_X4_sizesFit_B60 s t1 t3) else (if t5 = 4 then (if 40 < (t1 + t3) then (some 0) else (some 1)) else (if t5 = 5 then (Option.bind (ald s 8 12 v1) (fun t13 => Option.bind (ald s 9 12 v1) (fun t15 => if t1 < (t13 + t15) then (some 0) else (some 1)))) else (if t5 = 7 then (if t1 = 1 then (some 1) else (some 0)) else (if t5 = 6 then (some 1) else (some 1)))))))))
set_option maxHeartbeats 4000000 in
set_option maxRecDepth 100000 in
theorem w_X4_sizesFit {Γ : apC} {q : Nat → Nat} (G : apG Γ cX4_sizesFit 4 RX4 wsX4_sizesFit (apRm 1 0) apXC) {s : apM} {v1 : Int32} {r : Int32} (K : apR Γ cX4_sizesFit 0 0 (some r) (apU layC q (apd Γ) s)) (h : m_X4_sizesFit s v1 = some r) : apV Γ 4 (apU layC q (apd Γ) s) 0 0 0 [(0, .ref (q 3)), (1, .int v1)] [] := by
  unfold m_X4_sizesFit at h
  refine v_aload_n G dX4_sizesFit_0 rfl 0 rfl ?_
  refine v_iload_n G dX4_sizesFit_1 rfl 1 rfl ?_
  refine v_iconst (v := 0) G dX4_sizesFit_2 (by decide) ?_
  obtain ⟨t1, e2, h⟩ := Option.bind_eq_some_iff.mp h
  refine v_calliV (lay := layC) (As := [.int v1, .int 0]) (st := []) (n := 2) (C := RX4) (T := TX4) (k0 := 3) G apXCok (c_X4_sizeOfSource Γ.1.2.1 e2) gX4_sizesFit_X4_sizeOfSource rfl (by decide +kernel) (by decide) rfl rfl rfl rfl (Nat.le_of_ble_eq_true rfl) (by decide) rfl dX4_sizesFit_3 ?_
  refine v_istore_n (L' := [(2, .int t1), (0, .ref (q 3)), (1, .int v1)]) G dX4_sizesFit_6 rfl (by decide) rfl ?_
  refine v_aload_n G dX4_sizesFit_7 rfl 1 rfl ?_
  refine v_iload_n G dX4_sizesFit_8 rfl 2 rfl ?_
  refine v_iconst (v := 1) G dX4_sizesFit_9 (by decide) ?_
  obtain ⟨t3, e4, h⟩ := Option.bind_eq_some_iff.mp h
  refine v_calliV (lay := layC) (As := [.int v1, .int 1]) (st := []) (n := 2) (C := RX4) (T := TX4) (k0 := 3) G apXCok (c_X4_sizeOfSource Γ.1.2.1 e4) gX4_sizesFit_X4_sizeOfSource rfl (by decide +kernel) (by decide) rfl rfl rfl rfl (Nat.le_of_ble_eq_true rfl) (by decide) rfl dX4_sizesFit_10 ?_
  refine v_istore_n (L' := [(3, .int t3), (2, .int t1), (0, .ref (q 3)), (1, .int v1)]) G dX4_sizesFit_13 rfl (by decide) rfl ?_
  refine v_aload_n G dX4_sizesFit_14 rfl 2 rfl ?_
  refine v_getr (lay := layC) (k := 3) (k' := 1) (C := RX4) (T := TX4) (N := 12) G (fun _ h => i_X4_sizesFit_X4 _ h) rfl rfl 0 (by decide) (by decide +kernel) rfl rfl dX4_sizesFit_15 ?_
  refine v_getr (lay := layC) (k := 1) (k' := 7) (C := RX1) (T := TX1) (N := 7) G (fun _ h => i_X4_sizesFit_X1 _ h) rfl rfl 0 (by decide) (by decide +kernel) rfl rfl dX4_sizesFit_18 ?_
  refine v_iload_n G dX4_sizesFit_21 rfl 3 rfl ?_
  obtain ⟨t5, e6, h⟩ := Option.bind_eq_some_iff.mp h
  refine v_iald (lay := layC) (k := 7) (n := 12) G rfl e6 dX4_sizesFit_22 ?_
  by_cases c7 : t5 = 2
  · replace h := (if_pos c7).symm.trans h
    refine v_tableI (c := 2) (tgt := 60) G dX4_sizesFit_23 c7 (by decide) (by decide) rfl (by decide) ?_
    refine v_locs (L' := [(2, .int t1), (3, .int t3)]) [1, 0] rfl ?_
    exact w_X4_sizesFit_B60 G K h
  · replace h := (if_neg c7).symm.trans h
    by_cases c9 : t5 = 3
    · replace h := (if_pos c9).symm.trans h
      refine v_tableI (c := 3) (tgt := 60) G dX4_sizesFit_23 c9 (by decide) (by decide) rfl (by decide) ?_
      refine v_locs (L' := [(2, .int t1), (3, .int t3)]) [1, 0] rfl ?_
      exact w_X4_sizesFit_B60 G K h
    · replace h := (if_neg c9).symm.trans h
      by_cases c10 : t5 = 4
      · replace h := (if_pos c10).symm.trans h
        refine v_tableI (c := 4) (tgt := 71) G dX4_sizesFit_23 c10 (by decide) (by decide) rfl (by decide) ?_
        refine v_iload_n G dX4_sizesFit_71 rfl 1 rfl ?_
        refine v_iload_n G dX4_sizesFit_72 rfl 0 rfl ?_
        refine v_iadd G dX4_sizesFit_73 ?_
        refine v_bipush (v := 40) G dX4_sizesFit_74 (by decide) ?_
        refine v_icmp_gt (tgt := 83) G dX4_sizesFit_76 (by decide) (fun c11 => ?_) (fun c11 => ?_)
        · replace h := (if_pos c11).symm.trans h
          refine v_iconst (v := 0) G dX4_sizesFit_83 (by decide) ?_
          cases h
          exact v_iret G K (by decide) (by decide) dX4_sizesFit_84
        · replace h := (if_neg c11).symm.trans h
          refine v_iconst (v := 1) G dX4_sizesFit_79 (by decide) ?_
          refine v_goto (tgt := 84) G dX4_sizesFit_80 (by decide) ?_
          cases h
          exact v_iret G K (by decide) (by decide) dX4_sizesFit_84
      · replace h := (if_neg c10).symm.trans h
        by_cases c12 : t5 = 5
        · replace h := (if_pos c12).symm.trans h
          refine v_tableI (c := 5) (tgt := 85) G dX4_sizesFit_23 c12 (by decide) (by decide) rfl (by decide) ?_
          refine v_aload_n G dX4_sizesFit_85 rfl 2 rfl ?_
          refine v_getr (lay := layC) (k := 3) (k' := 1) (C := RX4) (T := TX4) (N := 12) G (fun _ h => i_X4_sizesFit_X4 _ h) rfl rfl 0 (by decide) (by decide +kernel) rfl rfl dX4_sizesFit_86 ?_
          refine v_getr (lay := layC) (k := 1) (k' := 8) (C := RX1) (T := TX1) (N := 7) G (fun _ h => i_X4_sizesFit_X1 _ h) rfl rfl 1 (by decide) (by decide +kernel) rfl rfl dX4_sizesFit_89 ?_
          refine v_iload_n G dX4_sizesFit_92 rfl 3 rfl ?_
          obtain ⟨t13, e14, h⟩ := Option.bind_eq_some_iff.mp h
          refine v_iald (lay := layC) (k := 8) (n := 12) G rfl e14 dX4_sizesFit_93 ?_
          refine v_aload_n G dX4_sizesFit_94 rfl 2 rfl ?_
          refine v_getr (lay := layC) (k := 3) (k' := 1) (C := RX4) (T := TX4) (N := 12) G (fun _ h => i_X4_sizesFit_X4 _ h) rfl rfl 0 (by decide) (by decide +kernel) rfl rfl dX4_sizesFit_95 ?_
          refine v_getr (lay := layC) (k := 1) (k' := 9) (C := RX1) (T := TX1) (N := 7) G (fun _ h => i_X4_sizesFit_X1 _ h) rfl rfl 2 (by decide) (by decide +kernel) rfl rfl dX4_sizesFit_98 ?_
          refine v_iload_n G dX4_sizesFit_101 rfl 3 rfl ?_
          obtain ⟨t15, e16, h⟩ := Option.bind_eq_some_iff.mp h
          refine v_iald (lay := layC) (k := 9) (n := 12) G rfl e16 dX4_sizesFit_102 ?_
          refine v_iadd G dX4_sizesFit_103 ?_
          refine v_iload_n G dX4_sizesFit_104 rfl 1 rfl ?_
          refine v_icmp_gt (tgt := 112) G dX4_sizesFit_105 (by decide) (fun c17 => ?_) (fun c17 => ?_)
          · replace h := (if_pos c17).symm.trans h
            refine v_iconst (v := 0) G dX4_sizesFit_112 (by decide) ?_
            cases h
            exact v_iret G K (by decide) (by decide) dX4_sizesFit_113
          · replace h := (if_neg c17).symm.trans h
            refine v_iconst (v := 1) G dX4_sizesFit_108 (by decide) ?_
            refine v_goto (tgt := 113) G dX4_sizesFit_109 (by decide) ?_
            cases h
            exact v_iret G K (by decide) (by decide) dX4_sizesFit_113
        · replace h := (if_neg c12).symm.trans h
          by_cases c18 : t5 = 7
          · replace h := (if_pos c18).symm.trans h
            refine v_tableI (c := 7) (tgt := 114) G dX4_sizesFit_23 c18 (by decide) (by decide) rfl (by decide) ?_
            refine v_iload_n G dX4_sizesFit_114 rfl 1 rfl ?_
            refine v_iconst (v := 1) G dX4_sizesFit_115 (by decide) ?_
            refine v_icmp_ne (tgt := 123) G dX4_sizesFit_116 (by decide) (fun c19 => ?_) (fun c19 => ?_)
            · replace h := (if_neg c19).symm.trans h
              refine v_iconst (v := 0) G dX4_sizesFit_123 (by decide) ?_
              cases h
              exact v_iret G K (by decide) (by decide) dX4_sizesFit_124
            · replace h := (if_pos c19).symm.trans h
              refine v_iconst (v := 1) G dX4_sizesFit_119 (by decide) ?_
              refine v_goto (tgt := 124) G dX4_sizesFit_120 (by decide) ?_
              cases h
              exact v_iret G K (by decide) (by decide) dX4_sizesFit_124
          · replace h := (if_neg c18).symm.trans h
            by_cases c20 : t5 = 6
            · replace h := (if_pos c20).symm.trans h
              refine v_tableI (c := 6) (tgt := 125) G dX4_sizesFit_23 c20 (by decide) (by decide) rfl (by decide) ?_
              refine v_iconst (v := 1) G dX4_sizesFit_125 (by decide) ?_
              cases h
              exact v_iret G K (by decide) (by decide) dX4_sizesFit_126
            · replace h := (if_neg c20).symm.trans h
              refine v_tableOut (tgt := 125) G dX4_sizesFit_23 (by have a0 := lv_neT c7 (show (2 : Int32).toInt = 2 by decide); have a1 := lv_neT c9 (show (3 : Int32).toInt = 3 by decide); have a2 := lv_neT c10 (show (4 : Int32).toInt = 4 by decide); have a3 := lv_neT c12 (show (5 : Int32).toInt = 5 by decide); have a4 := lv_neT c18 (show (7 : Int32).toInt = 7 by decide); have a5 := lv_neT c20 (show (6 : Int32).toInt = 6 by decide); omega) (by decide) ?_
              refine v_iconst (v := 1) G dX4_sizesFit_125 (by decide) ?_
              cases h
              exact v_iret G K (by decide) (by decide) dX4_sizesFit_126
theorem z_X4_sizesFit {s : apM} {v1 : Int32} {r : Int32} (h : m_X4_sizesFit s v1 = some r) : r = 0 ∨ r = 1 := by
  unfold m_X4_sizesFit at h
  obtain ⟨t1, e2, h⟩ := Option.bind_eq_some_iff.mp h
  obtain ⟨t3, e4, h⟩ := Option.bind_eq_some_iff.mp h
  obtain ⟨t5, e6, h⟩ := Option.bind_eq_some_iff.mp h
  by_cases c7 : t5 = 2
  · replace h := (if_pos c7).symm.trans h
    exact z_X4_sizesFit_B60 (s := s) h
  · replace h := (if_neg c7).symm.trans h
    by_cases c9 : t5 = 3
    · replace h := (if_pos c9).symm.trans h
      exact z_X4_sizesFit_B60 (s := s) h
    · replace h := (if_neg c9).symm.trans h
      by_cases c10 : t5 = 4
      · replace h := (if_pos c10).symm.trans h
        by_cases c11 : 40 < (t1 + t3)
        · replace h := (if_pos c11).symm.trans h
          cases h
          exact Or.inl rfl
        · replace h := (if_neg c11).symm.trans h
          cases h
          exact Or.inr rfl
      · replace h := (if_neg c10).symm.trans h
        by_cases c12 : t5 = 5
        · replace h := (if_pos c12).symm.trans h
          obtain ⟨t13, e14, h⟩ := Option.bind_eq_some_iff.mp h
          obtain ⟨t15, e16, h⟩ := Option.bind_eq_some_iff.mp h
          by_cases c17 : t1 < (t13 + t15)
          · replace h := (if_pos c17).symm.trans h
            cases h
            exact Or.inl rfl
          · replace h := (if_neg c17).symm.trans h
            cases h
            exact Or.inr rfl
        · replace h := (if_neg c12).symm.trans h
          by_cases c18 : t5 = 7
          · replace h := (if_pos c18).symm.trans h
            by_cases c19 : t1 = 1
            · replace h := (if_pos c19).symm.trans h
              cases h
              exact Or.inr rfl
            · replace h := (if_neg c19).symm.trans h
              cases h
              exact Or.inl rfl
          · replace h := (if_neg c18).symm.trans h
            by_cases c20 : t5 = 6
            · replace h := (if_pos c20).symm.trans h
              cases h
              exact Or.inr rfl
            · replace h := (if_neg c20).symm.trans h
              cases h
              exact Or.inr rfl
theorem c_X4_sizesFit (l : Launch) {s : apM} {v1 : Int32} {r : Int32} (h : m_X4_sizesFit s v1 = some r) : apMi l layC apXC yX4_sizesFit wsX4_sizesFit 1 (fun q => [.ref (q 3), .int v1]) s r s := apMi_of (cc := cX4_sizesFit) (nL := 4) (r := r) (by decide) rfl (by rcases z_X4_sizesFit h with e | e <;> rw [e] <;> rfl) (fun _ => Nat.le_of_ble_eq_true rfl) (fun Γ q hl G K => w_X4_sizesFit G K h)
theorem i_X4_sizeOf_X1 : ∀ w ∈ u_ws RX1 TX1 7, w ∈ wsX4_sizeOf := by decide +kernel
theorem i_X4_sizeOf_X4 : ∀ w ∈ u_ws RX4 TX4 12, w ∈ wsX4_sizeOf := by decide +kernel
def m_X4_sizeOf_B64 (s : apM) (v1 : Int32) : Option Int32 := Option.bind (ald s 8 12 v1) (fun t6 => some t6)
set_option maxHeartbeats 4000000 in
set_option maxRecDepth 100000 in
theorem w_X4_sizeOf_B64 {Γ : apC} {q : Nat → Nat} (G : apG Γ cX4_sizeOf 3 RX4 wsX4_sizeOf (apRm 1 0) apXC) {s : apM} {v1 : Int32} {r : Int32} (K : apR Γ cX4_sizeOf 0 0 (some r) (apU layC q (apd Γ) s)) (h : m_X4_sizeOf_B64 s v1 = some r) : apV Γ 3 (apU layC q (apd Γ) s) 0 0 64 [(0, .ref (q 3)), (1, .int v1)] [] := by
  unfold m_X4_sizeOf_B64 at h
  refine v_aload_n G dX4_sizeOf_64 rfl 0 rfl ?_
  refine v_getr (lay := layC) (k := 3) (k' := 1) (C := RX4) (T := TX4) (N := 12) G (fun _ h => i_X4_sizeOf_X4 _ h) rfl rfl 0 (by decide) (by decide +kernel) rfl rfl dX4_sizeOf_65 ?_
  refine v_getr (lay := layC) (k := 1) (k' := 8) (C := RX1) (T := TX1) (N := 7) G (fun _ h => i_X4_sizeOf_X1 _ h) rfl rfl 1 (by decide) (by decide +kernel) rfl rfl dX4_sizeOf_68 ?_
  refine v_iload_n G dX4_sizeOf_71 rfl 1 rfl ?_
  obtain ⟨t6, e7, h⟩ := Option.bind_eq_some_iff.mp h
  refine v_iald (lay := layC) (k := 8) (n := 12) G rfl e7 dX4_sizeOf_72 ?_
  cases h
  exact v_iret G K (by decide) (by decide) dX4_sizeOf_73
def m_X4_sizeOf (s : apM) (v1 : Int32) : Option Int32 := Option.bind (m_X4_sizeOfSource s v1 0) (fun t1 => Option.bind (ald s 7 12 v1) (fun t3 => if t3 = 0 then (m_X4_sizeOf_B64 s v1) else (if t3 = 4 then (Option.bind (m_X4_sizeOfSource s v1 1) (fun t9 => some (t1 + t9))) else (if t3 = 5 then (Option.bind (ald s 9 12 v1) (fun t12 => some t12)) else (if t3 = 6 then (some 1) else (if t3 = 7 then (m_X4_sizeOf_B64 s v1) else (if t3 = 1 then (some t1) else (if t3 = 2 then (some t1) else (if t3 = 3 then (some t1) else (some t1))))))))))
set_option maxHeartbeats 4000000 in
set_option maxRecDepth 100000 in
theorem w_X4_sizeOf {Γ : apC} {q : Nat → Nat} (G : apG Γ cX4_sizeOf 3 RX4 wsX4_sizeOf (apRm 1 0) apXC) {s : apM} {v1 : Int32} {r : Int32} (K : apR Γ cX4_sizeOf 0 0 (some r) (apU layC q (apd Γ) s)) (h : m_X4_sizeOf s v1 = some r) : apV Γ 3 (apU layC q (apd Γ) s) 0 0 0 [(0, .ref (q 3)), (1, .int v1)] [] := by
  unfold m_X4_sizeOf at h
  refine v_aload_n G dX4_sizeOf_0 rfl 0 rfl ?_
  refine v_iload_n G dX4_sizeOf_1 rfl 1 rfl ?_
  refine v_iconst (v := 0) G dX4_sizeOf_2 (by decide) ?_
  obtain ⟨t1, e2, h⟩ := Option.bind_eq_some_iff.mp h
  refine v_calliV (lay := layC) (As := [.int v1, .int 0]) (st := []) (n := 2) (C := RX4) (T := TX4) (k0 := 3) G apXCok (c_X4_sizeOfSource Γ.1.2.1 e2) gX4_sizeOf_X4_sizeOfSource rfl (by decide +kernel) (by decide) rfl rfl rfl rfl (Nat.le_of_ble_eq_true rfl) (by decide) rfl dX4_sizeOf_3 ?_
  refine v_istore_n (L' := [(2, .int t1), (0, .ref (q 3)), (1, .int v1)]) G dX4_sizeOf_6 rfl (by decide) rfl ?_
  refine v_aload_n G dX4_sizeOf_7 rfl 1 rfl ?_
  refine v_getr (lay := layC) (k := 3) (k' := 1) (C := RX4) (T := TX4) (N := 12) G (fun _ h => i_X4_sizeOf_X4 _ h) rfl rfl 0 (by decide) (by decide +kernel) rfl rfl dX4_sizeOf_8 ?_
  refine v_getr (lay := layC) (k := 1) (k' := 7) (C := RX1) (T := TX1) (N := 7) G (fun _ h => i_X4_sizeOf_X1 _ h) rfl rfl 0 (by decide) (by decide +kernel) rfl rfl dX4_sizeOf_11 ?_
  refine v_iload_n G dX4_sizeOf_14 rfl 2 rfl ?_
  obtain ⟨t3, e4, h⟩ := Option.bind_eq_some_iff.mp h
  refine v_iald (lay := layC) (k := 7) (n := 12) G rfl e4 dX4_sizeOf_15 ?_
  by_cases c5 : t3 = 0
  · replace h := (if_pos c5).symm.trans h
    refine v_tableI (c := 0) (tgt := 64) G dX4_sizeOf_16 c5 (by decide) (by decide) rfl (by decide) ?_
    refine v_locs (L' := [(0, .ref (q 3)), (1, .int v1)]) [1, 2] rfl ?_
    exact w_X4_sizeOf_B64 G K h
  · replace h := (if_neg c5).symm.trans h
    by_cases c8 : t3 = 4
    · replace h := (if_pos c8).symm.trans h
      refine v_tableI (c := 4) (tgt := 74) G dX4_sizeOf_16 c8 (by decide) (by decide) rfl (by decide) ?_
      refine v_iload_n G dX4_sizeOf_74 rfl 0 rfl ?_
      refine v_aload_n G dX4_sizeOf_75 rfl 1 rfl ?_
      refine v_iload_n G dX4_sizeOf_76 rfl 2 rfl ?_
      refine v_iconst (v := 1) G dX4_sizeOf_77 (by decide) ?_
      obtain ⟨t9, e10, h⟩ := Option.bind_eq_some_iff.mp h
      refine v_calliV (lay := layC) (As := [.int v1, .int 1]) (st := [.int t1]) (n := 2) (C := RX4) (T := TX4) (k0 := 3) G apXCok (c_X4_sizeOfSource Γ.1.2.1 e10) gX4_sizeOf_X4_sizeOfSource rfl (by decide +kernel) (by decide) rfl rfl rfl rfl (Nat.le_of_ble_eq_true rfl) (by decide) rfl dX4_sizeOf_78 ?_
      refine v_iadd G dX4_sizeOf_81 ?_
      cases h
      exact v_iret G K (by decide) (by decide) dX4_sizeOf_82
    · replace h := (if_neg c8).symm.trans h
      by_cases c11 : t3 = 5
      · replace h := (if_pos c11).symm.trans h
        refine v_tableI (c := 5) (tgt := 83) G dX4_sizeOf_16 c11 (by decide) (by decide) rfl (by decide) ?_
        refine v_aload_n G dX4_sizeOf_83 rfl 1 rfl ?_
        refine v_getr (lay := layC) (k := 3) (k' := 1) (C := RX4) (T := TX4) (N := 12) G (fun _ h => i_X4_sizeOf_X4 _ h) rfl rfl 0 (by decide) (by decide +kernel) rfl rfl dX4_sizeOf_84 ?_
        refine v_getr (lay := layC) (k := 1) (k' := 9) (C := RX1) (T := TX1) (N := 7) G (fun _ h => i_X4_sizeOf_X1 _ h) rfl rfl 2 (by decide) (by decide +kernel) rfl rfl dX4_sizeOf_87 ?_
        refine v_iload_n G dX4_sizeOf_90 rfl 2 rfl ?_
        obtain ⟨t12, e13, h⟩ := Option.bind_eq_some_iff.mp h
        refine v_iald (lay := layC) (k := 9) (n := 12) G rfl e13 dX4_sizeOf_91 ?_
        cases h
        exact v_iret G K (by decide) (by decide) dX4_sizeOf_92
      · replace h := (if_neg c11).symm.trans h
        by_cases c14 : t3 = 6
        · replace h := (if_pos c14).symm.trans h
          refine v_tableI (c := 6) (tgt := 93) G dX4_sizeOf_16 c14 (by decide) (by decide) rfl (by decide) ?_
          refine v_iconst (v := 1) G dX4_sizeOf_93 (by decide) ?_
          cases h
          exact v_iret G K (by decide) (by decide) dX4_sizeOf_94
        · replace h := (if_neg c14).symm.trans h
          by_cases c15 : t3 = 7
          · replace h := (if_pos c15).symm.trans h
            refine v_tableI (c := 7) (tgt := 64) G dX4_sizeOf_16 c15 (by decide) (by decide) rfl (by decide) ?_
            refine v_locs (L' := [(0, .ref (q 3)), (1, .int v1)]) [1, 2] rfl ?_
            exact w_X4_sizeOf_B64 G K h
          · replace h := (if_neg c15).symm.trans h
            by_cases c16 : t3 = 1
            · replace h := (if_pos c16).symm.trans h
              refine v_tableI (c := 1) (tgt := 95) G dX4_sizeOf_16 c16 (by decide) (by decide) rfl (by decide) ?_
              refine v_iload_n G dX4_sizeOf_95 rfl 0 rfl ?_
              cases h
              exact v_iret G K (by decide) (by decide) dX4_sizeOf_96
            · replace h := (if_neg c16).symm.trans h
              by_cases c17 : t3 = 2
              · replace h := (if_pos c17).symm.trans h
                refine v_tableI (c := 2) (tgt := 95) G dX4_sizeOf_16 c17 (by decide) (by decide) rfl (by decide) ?_
                refine v_iload_n G dX4_sizeOf_95 rfl 0 rfl ?_
                cases h
                exact v_iret G K (by decide) (by decide) dX4_sizeOf_96
              · replace h := (if_neg c17).symm.trans h
                by_cases c18 : t3 = 3
                · replace h := (if_pos c18).symm.trans h
                  refine v_tableI (c := 3) (tgt := 95) G dX4_sizeOf_16 c18 (by decide) (by decide) rfl (by decide) ?_
                  refine v_iload_n G dX4_sizeOf_95 rfl 0 rfl ?_
                  cases h
                  exact v_iret G K (by decide) (by decide) dX4_sizeOf_96
                · replace h := (if_neg c18).symm.trans h
                  refine v_tableOut (tgt := 95) G dX4_sizeOf_16 (by have a0 := lv_neT c5 (show (0 : Int32).toInt = 0 by decide); have a1 := lv_neT c8 (show (4 : Int32).toInt = 4 by decide); have a2 := lv_neT c11 (show (5 : Int32).toInt = 5 by decide); have a3 := lv_neT c14 (show (6 : Int32).toInt = 6 by decide); have a4 := lv_neT c15 (show (7 : Int32).toInt = 7 by decide); have a5 := lv_neT c16 (show (1 : Int32).toInt = 1 by decide); have a6 := lv_neT c17 (show (2 : Int32).toInt = 2 by decide); have a7 := lv_neT c18 (show (3 : Int32).toInt = 3 by decide); omega) (by decide) ?_
                  refine v_iload_n G dX4_sizeOf_95 rfl 0 rfl ?_
                  cases h
                  exact v_iret G K (by decide) (by decide) dX4_sizeOf_96
theorem c_X4_sizeOf (l : Launch) {s : apM} {v1 : Int32} {r : Int32} (h : m_X4_sizeOf s v1 = some r) : apMi l layC apXC yX4_sizeOf wsX4_sizeOf 1 (fun q => [.ref (q 3), .int v1]) s r s := apMi_of (cc := cX4_sizeOf) (nL := 3) (r := r) (by decide) rfl rfl (fun _ => Nat.le_of_ble_eq_true rfl) (fun Γ q hl G K => w_X4_sizeOf G K h)
theorem i_X4_measure_X4 : ∀ w ∈ u_ws RX4 TX4 12, w ∈ wsX4_measure := by decide +kernel
def m_X4_measure_L10  : (apM × Int32) → Option ((apM × Int32) ⊕ ((Int32 × apM) ⊕ (apM × Int32))) := fun (s0, v1) => if (s0 3 10) ≤ v1 then (some (.inr (.inr (s0, v1)))) else (Option.bind (ald s0 20 12 v1) (fun t6 => Option.bind (m_X4_sizesFit s0 t6) (fun t8 => if t8 = 0 then (some (.inr (.inl (0, s0)))) else (Option.bind (m_X4_sizeOf s0 t6) (fun t11 => Option.bind (ast s0 18 12 t6 t11) (fun s13 => Option.bind (m_X4_labelOf s13 t6) (fun t15 => Option.bind (ast s13 19 12 t6 t15) (fun s17 => some (.inl (s17, v1 + 1))))))))))
set_option maxHeartbeats 4000000 in
set_option maxRecDepth 100000 in
theorem w_X4_measure_L10 {Γ : apC} {q : Nat → Nat} (G : apG Γ cX4_measure 3 RX4 wsX4_measure (apRm 4 0) apXC) {s0 : apM} {v1 : Int32} {r : ((apM × Int32) ⊕ ((Int32 × apM) ⊕ (apM × Int32)))} (K : match r with | .inl x => apV Γ 3 (apU layC q (apd Γ) x.1) 0 0 10 [(0, .ref (q 3)), (1, .int x.2)] [] | .inr (.inl r) => apR Γ cX4_measure 0 0 (some r.1) (apU layC q (apd Γ) r.2) | .inr (.inr x) => apV Γ 3 (apU layC q (apd Γ) x.1) 0 0 63 [] []) (h : m_X4_measure_L10 (s0, v1) = some r) : apV Γ 3 (apU layC q (apd Γ) s0) 0 0 10 [(0, .ref (q 3)), (1, .int v1)] [] := by
  unfold m_X4_measure_L10 at h
  dsimp only at h
  refine v_iload_n G dX4_measure_10 rfl 1 rfl ?_
  refine v_aload_n G dX4_measure_11 rfl 0 rfl ?_
  refine v_geti (lay := layC) (k := 3) (C := RX4) (T := TX4) (N := 12) G (fun _ h => i_X4_measure_X4 _ h) rfl rfl 10 (by decide) (by decide +kernel) rfl rfl dX4_measure_12 ?_
  refine v_icmp_ge (tgt := 63) G dX4_measure_15 (by decide) (fun c5 => ?_) (fun c5 => ?_)
  · replace h := (if_pos c5).symm.trans h
    cases h
    refine v_locs (L' := []) [] rfl ?_
    exact K
  · replace h := (if_neg c5).symm.trans h
    refine v_aload_n G dX4_measure_18 rfl 0 rfl ?_
    refine v_getr (lay := layC) (k := 3) (k' := 20) (C := RX4) (T := TX4) (N := 12) G (fun _ h => i_X4_measure_X4 _ h) rfl rfl 5 (by decide) (by decide +kernel) rfl rfl dX4_measure_19 ?_
    refine v_iload_n G dX4_measure_22 rfl 1 rfl ?_
    obtain ⟨t6, e7, h⟩ := Option.bind_eq_some_iff.mp h
    refine v_iald (lay := layC) (k := 20) (n := 12) G rfl e7 dX4_measure_23 ?_
    refine v_istore_n (L' := [(2, .int t6), (0, .ref (q 3)), (1, .int v1)]) G dX4_measure_24 rfl (by decide) rfl ?_
    refine v_aload_n G dX4_measure_25 rfl 1 rfl ?_
    refine v_iload_n G dX4_measure_26 rfl 0 rfl ?_
    obtain ⟨t8, e9, h⟩ := Option.bind_eq_some_iff.mp h
    refine v_calliV (lay := layC) (As := [.int t6]) (st := []) (n := 1) (C := RX4) (T := TX4) (k0 := 3) G apXCok (c_X4_sizesFit Γ.1.2.1 e9) gX4_measure_X4_sizesFit rfl (by decide +kernel) (by decide) rfl rfl rfl rfl (Nat.le_of_ble_eq_true rfl) (by decide) rfl dX4_measure_27 ?_
    refine v_if_ne (tgt := 35) G dX4_measure_30 (by decide) (fun c10 => ?_) (fun c10 => ?_)
    · replace h := (if_neg c10).symm.trans h
      refine v_aload_n G dX4_measure_35 rfl 1 rfl ?_
      refine v_getr (lay := layC) (k := 3) (k' := 18) (C := RX4) (T := TX4) (N := 12) G (fun _ h => i_X4_measure_X4 _ h) rfl rfl 3 (by decide) (by decide +kernel) rfl rfl dX4_measure_36 ?_
      refine v_iload_n G dX4_measure_39 rfl 0 rfl ?_
      refine v_aload_n G dX4_measure_40 rfl 1 rfl ?_
      refine v_iload_n G dX4_measure_41 rfl 0 rfl ?_
      obtain ⟨t11, e12, h⟩ := Option.bind_eq_some_iff.mp h
      refine v_calliV (lay := layC) (As := [.int t6]) (st := [.int t6, .ref (q 18)]) (n := 1) (C := RX4) (T := TX4) (k0 := 3) G apXCok (c_X4_sizeOf Γ.1.2.1 e12) gX4_measure_X4_sizeOf rfl (by decide +kernel) (by decide) rfl rfl rfl rfl (Nat.le_of_ble_eq_true rfl) (by decide) rfl dX4_measure_42 ?_
      obtain ⟨s13, e14, h⟩ := Option.bind_eq_some_iff.mp h
      refine v_iast (lay := layC) (k := 18) (n := 12) G rfl e14 dX4_measure_45 ?_
      refine v_aload_n G dX4_measure_46 rfl 1 rfl ?_
      refine v_getr (lay := layC) (k := 3) (k' := 19) (C := RX4) (T := TX4) (N := 12) G (fun _ h => i_X4_measure_X4 _ h) rfl rfl 4 (by decide) (by decide +kernel) rfl rfl dX4_measure_47 ?_
      refine v_iload_n G dX4_measure_50 rfl 0 rfl ?_
      refine v_aload_n G dX4_measure_51 rfl 1 rfl ?_
      refine v_iload_n G dX4_measure_52 rfl 0 rfl ?_
      obtain ⟨t15, e16, h⟩ := Option.bind_eq_some_iff.mp h
      refine v_calliV (lay := layC) (As := [.int t6]) (st := [.int t6, .ref (q 19)]) (n := 1) (C := RX4) (T := TX4) (k0 := 3) G apXCok (c_X4_labelOf Γ.1.2.1 e16) gX4_measure_X4_labelOf rfl (by decide +kernel) (by decide) rfl rfl rfl rfl (Nat.le_of_ble_eq_true rfl) (by decide) rfl dX4_measure_53 ?_
      obtain ⟨s17, e18, h⟩ := Option.bind_eq_some_iff.mp h
      refine v_iast (lay := layC) (k := 19) (n := 12) G rfl e18 dX4_measure_56 ?_
      refine v_iinc (v := v1 + 1) (L' := [(1, .int (v1 + 1)), (2, .int t6), (0, .ref (q 3))]) G dX4_measure_57 2 rfl rfl (by decide) rfl ?_
      refine v_goto (tgt := 10) G dX4_measure_60 (by decide) ?_
      cases h
      refine v_locs (L' := [(0, .ref (q 3)), (1, .int (v1 + 1))]) [2, 0] rfl ?_
      exact K
    · replace h := (if_pos c10).symm.trans h
      refine v_iconst (v := 0) G dX4_measure_33 (by decide) ?_
      cases h
      exact v_iret G K (by decide) (by decide) dX4_measure_34
def m_X4_measure (s : apM)  : Option (Int32 × apM) := Option.bind (m_X4_findNeighbours s) (fun s1 => Option.bind (m_X4_orderByNumbers s1) (fun s3 => Option.bind (lp FU (m_X4_measure_L10) (s3, 0)) (fun x19 => match x19 with | .inl r24 => Option.bind (bz r24.1) (fun t25 => some (t25, r24.2)) | .inr (s22, v21) => some (1, s22))))
set_option maxHeartbeats 4000000 in
set_option maxRecDepth 100000 in
theorem w_X4_measure {Γ : apC} {q : Nat → Nat} (G : apG Γ cX4_measure 3 RX4 wsX4_measure (apRm 4 0) apXC) {s : apM} {r : (Int32 × apM)} (K : apR Γ cX4_measure 0 0 (some r.1) (apU layC q (apd Γ) r.2)) (h : m_X4_measure s = some r) : apV Γ 3 (apU layC q (apd Γ) s) 0 0 0 [(0, .ref (q 3))] [] := by
  unfold m_X4_measure at h
  refine v_aload_n G dX4_measure_0 rfl 0 rfl ?_
  obtain ⟨s1, e2, h⟩ := Option.bind_eq_some_iff.mp h
  refine v_callvV (lay := layC) (As := []) (st := []) (n := 0) (C := RX4) (T := TX4) (k0 := 3) G apXCok (c_X4_findNeighbours Γ.1.2.1 e2) gX4_measure_X4_findNeighbours rfl (by decide +kernel) (by decide) rfl rfl rfl rfl (Nat.le_of_ble_eq_true rfl) (by decide) rfl dX4_measure_1 ?_
  refine v_aload_n G dX4_measure_4 rfl 0 rfl ?_
  obtain ⟨s3, e4, h⟩ := Option.bind_eq_some_iff.mp h
  refine v_callvV (lay := layC) (As := []) (st := []) (n := 0) (C := RX4) (T := TX4) (k0 := 3) G apXCok (c_X4_orderByNumbers Γ.1.2.1 e4) gX4_measure_X4_orderByNumbers rfl (by decide +kernel) (by decide) rfl rfl rfl rfl (Nat.le_of_ble_eq_true rfl) (by decide) rfl dX4_measure_5 ?_
  refine v_iconst (v := 0) G dX4_measure_8 (by decide) ?_
  refine v_istore_n (L' := [(1, .int 0), (0, .ref (q 3))]) G dX4_measure_9 rfl (by decide) rfl ?_
  obtain ⟨x19, e20, h⟩ := Option.bind_eq_some_iff.mp h
  refine v_locs (L' := [(0, .ref (q 3)), (1, .int 0)]) [1, 0] rfl ?_
  have l23 := v_lp (b := m_X4_measure_L10) (I := fun x => apV Γ 3 (apU layC q (apd Γ) x.1) 0 0 10 [(0, .ref (q 3)), (1, .int x.2)] []) (O := fun x => match x with | .inl r => apR Γ cX4_measure 0 0 (some r.1) (apU layC q (apd Γ) r.2) | .inr x => apV Γ 3 (apU layC q (apd Γ) x.1) 0 0 63 [] []) (fun x r hb hK => by obtain ⟨ys, y1⟩ := x; rcases r with r | r | r <;> exact w_X4_measure_L10 G hK hb) FU (s3, 0) x19 e20
  rcases x19 with r24 | x19
  · obtain ⟨t25, e26, h⟩ := Option.bind_eq_some_iff.mp h
    obtain ⟨e26, -⟩ := bz_some e26
    cases h
    obtain ⟨u1, u2⟩ := r24
    dsimp only at e26
    subst e26
    exact l23 K
  · obtain ⟨s22, v21⟩ := x19
    refine l23 ?_
    refine v_iconst (v := 1) G dX4_measure_63 (by decide) ?_
    cases h
    exact v_iret G K (by decide) (by decide) dX4_measure_64
theorem z_X4_measure {s : apM} {r : (Int32 × apM)} (h : m_X4_measure s = some r) : r.1 = 0 ∨ r.1 = 1 := by
  unfold m_X4_measure at h
  obtain ⟨s1, e2, h⟩ := Option.bind_eq_some_iff.mp h
  obtain ⟨s3, e4, h⟩ := Option.bind_eq_some_iff.mp h
  obtain ⟨x19, e20, h⟩ := Option.bind_eq_some_iff.mp h
  rcases x19 with r24 | x19
  · obtain ⟨t25, e26, h⟩ := Option.bind_eq_some_iff.mp h
    have e26 := bz_some e26
    cases h
    rw [← e26.1]; exact e26.2
  · obtain ⟨s22, v21⟩ := x19
    cases h
    exact Or.inr rfl
theorem c_X4_measure (l : Launch) {s : apM} {r : (Int32 × apM)} (h : m_X4_measure s = some r) : apMi l layC apXC yX4_measure wsX4_measure 4 (fun q => [.ref (q 3)]) s r.1 r.2 := apMi_of (cc := cX4_measure) (nL := 3) (r := r.1) (by decide) rfl (by rcases z_X4_measure h with e | e <;> rw [e] <;> rfl) (fun _ => Nat.le_of_ble_eq_true rfl) (fun Γ q hl G K => w_X4_measure G K h)
