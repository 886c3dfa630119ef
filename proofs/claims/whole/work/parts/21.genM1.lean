/-! ===== models of methods, and that the bytecode does what they say (by gen.py) ===== -/
theorem i_X7_findPlaces_X7 : ∀ w ∈ u_ws RX7 TX7 30, w ∈ wsX7_findPlaces := by decide +kernel
def m_X7_findPlaces_L7  : (apM × Int32) → Option ((apM × Int32) ⊕ (apM × Int32)) := fun (s0, v1) => if (s0 0 1) ≤ v1 then (some (.inr (s0, v1))) else (Option.bind (ast s0 14 12 v1 (-1)) (fun s2 => some (.inl (s2, v1 + 1))))
set_option maxHeartbeats 4000000 in
set_option maxRecDepth 100000 in
theorem w_X7_findPlaces_L7 {Γ : apC} {q : Nat → Nat} (G : apG Γ cX7_findPlaces 5 RX7 wsX7_findPlaces (apRm 1 0) apXM) {s0 : apM} {v1 : Int32} {r : ((apM × Int32) ⊕ (apM × Int32))} (K : match r with | .inl x => apV Γ 5 (apU layM q (apd Γ) x.1) 0 0 7 [(0, .ref (q 0)), (1, .int x.2)] [] | .inr x => apV Γ 5 (apU layM q (apd Γ) x.1) 0 0 28 [(0, .ref (q 0))] []) (h : m_X7_findPlaces_L7 (s0, v1) = some r) : apV Γ 5 (apU layM q (apd Γ) s0) 0 0 7 [(0, .ref (q 0)), (1, .int v1)] [] := by
  unfold m_X7_findPlaces_L7 at h
  dsimp only at h
  refine v_iload_n G dX7_findPlaces_7 rfl 1 rfl ?_
  refine v_aload_n G dX7_findPlaces_8 rfl 0 rfl ?_
  refine v_geti (lay := layM) (k := 0) (C := RX7) (T := TX7) (N := 30) G (fun _ h => i_X7_findPlaces_X7 _ h) rfl rfl 1 (by decide) (by decide +kernel) rfl rfl dX7_findPlaces_9 ?_
  refine v_icmp_ge (tgt := 28) G dX7_findPlaces_12 (by decide) (fun c1 => ?_) (fun c1 => ?_)
  · replace h := (if_pos c1).symm.trans h
    cases h
    refine v_locs (L' := [(0, .ref (q 0))]) [0] rfl ?_
    exact K
  · replace h := (if_neg c1).symm.trans h
    refine v_aload_n G dX7_findPlaces_15 rfl 0 rfl ?_
    refine v_getr (lay := layM) (k := 0) (k' := 14) (C := RX7) (T := TX7) (N := 30) G (fun _ h => i_X7_findPlaces_X7 _ h) rfl rfl 18 (by decide) (by decide +kernel) rfl rfl dX7_findPlaces_16 ?_
    refine v_iload_n G dX7_findPlaces_19 rfl 1 rfl ?_
    refine v_iconst (v := (-1)) G dX7_findPlaces_20 (by decide) ?_
    obtain ⟨s2, e3, h⟩ := Option.bind_eq_some_iff.mp h
    refine v_iast (lay := layM) (k := 14) (n := 12) G rfl e3 dX7_findPlaces_21 ?_
    refine v_iinc (v := v1 + 1) (L' := [(1, .int (v1 + 1)), (0, .ref (q 0))]) G dX7_findPlaces_22 1 rfl rfl (by decide) rfl ?_
    refine v_goto (tgt := 7) G dX7_findPlaces_25 (by decide) ?_
    cases h
    refine v_locs (L' := [(0, .ref (q 0)), (1, .int (v1 + 1))]) [1, 0] rfl ?_
    exact K
def m_X7_findPlaces_L65 (s : apM) (v1 : Int32) (v2 : Int32) (v3 : Int32) : Int32 → Option ((Int32) ⊕ (Int32)) := fun v4 => Option.bind (m_X7_fits s v3 v4) (fun t15 => if t15 = 0 then (some (.inl (v4 + 1))) else (some (.inr v4)))
set_option maxHeartbeats 4000000 in
set_option maxRecDepth 100000 in
theorem w_X7_findPlaces_L65 {Γ : apC} {q : Nat → Nat} (G : apG Γ cX7_findPlaces 5 RX7 wsX7_findPlaces (apRm 1 0) apXM) {s : apM} {v1 v2 v3 v4 : Int32} {r : ((Int32) ⊕ (Int32))} (K : match r with | .inl x => apV Γ 5 (apU layM q (apd Γ) s) 0 0 65 [(0, .ref (q 0)), (1, .int v1), (2, .int v2), (3, .int v3), (4, .int x)] [] | .inr x => apV Γ 5 (apU layM q (apd Γ) s) 0 0 81 [(0, .ref (q 0)), (1, .int v1), (2, .int v2), (3, .int v3), (4, .int x)] []) (h : m_X7_findPlaces_L65 s v1 v2 v3 v4 = some r) : apV Γ 5 (apU layM q (apd Γ) s) 0 0 65 [(0, .ref (q 0)), (1, .int v1), (2, .int v2), (3, .int v3), (4, .int v4)] [] := by
  unfold m_X7_findPlaces_L65 at h
  refine v_aload_n G dX7_findPlaces_65 rfl 0 rfl ?_
  refine v_iload_n G dX7_findPlaces_66 rfl 3 rfl ?_
  refine v_iload G dX7_findPlaces_67 4 rfl ?_
  obtain ⟨t15, e16, h⟩ := Option.bind_eq_some_iff.mp h
  refine v_calliV (lay := layM) (As := [.int v3, .int v4]) (st := []) (n := 2) (C := RX7) (T := TX7) (k0 := 0) G apXMok (c_X7_fits Γ.1.2.1 e16) gX7_findPlaces_X7_fits rfl (by decide +kernel) (by decide) rfl rfl rfl rfl (Nat.le_of_ble_eq_true rfl) (by decide) rfl dX7_findPlaces_69 ?_
  refine v_if_ne (tgt := 81) G dX7_findPlaces_72 (by decide) (fun c17 => ?_) (fun c17 => ?_)
  · replace h := (if_neg c17).symm.trans h
    cases h
    exact K
  · replace h := (if_pos c17).symm.trans h
    refine v_iinc (v := v4 + 1) (L' := [(4, .int (v4 + 1)), (0, .ref (q 0)), (1, .int v1), (2, .int v2), (3, .int v3)]) G dX7_findPlaces_75 4 rfl rfl (by decide) rfl ?_
    refine v_goto (tgt := 65) G dX7_findPlaces_78 (by decide) ?_
    cases h
    refine v_locs (L' := [(0, .ref (q 0)), (1, .int v1), (2, .int v2), (3, .int v3), (4, .int (v4 + 1))]) [1, 2, 3, 4, 0] rfl ?_
    exact K
def m_X7_findPlaces_B112 (s : apM) (v1 : Int32) (v2 : Int32) (k0 : Int32) : Option ((apM × Int32) ⊕ (apM × Int32)) := some (.inl (mst s 0 20 k0, v2 + 1))
set_option maxHeartbeats 4000000 in
set_option maxRecDepth 100000 in
theorem w_X7_findPlaces_B112 {Γ : apC} {q : Nat → Nat} (G : apG Γ cX7_findPlaces 5 RX7 wsX7_findPlaces (apRm 1 0) apXM) {s : apM} {v1 v2 k0 : Int32} {r : ((apM × Int32) ⊕ (apM × Int32))} (K : match r with | .inl x => apV Γ 5 (apU layM q (apd Γ) x.1) 0 0 37 [(0, .ref (q 0)), (1, .int v1), (2, .int x.2)] [] | .inr x => apV Γ 5 (apU layM q (apd Γ) x.1) 0 0 121 [(0, .ref (q 0)), (1, .int v1)] []) (h : m_X7_findPlaces_B112 s v1 v2 k0 = some r) : apV Γ 5 (apU layM q (apd Γ) s) 0 0 112 [(0, .ref (q 0)), (1, .int v1), (2, .int v2)] [.int k0, .ref (q 0)] := by
  unfold m_X7_findPlaces_B112 at h
  refine v_put (lay := layM) (k := 0) (C := RX7) (T := TX7) (N := 30) G (fun _ h => i_X7_findPlaces_X7 _ h) tyX7 tyX7_ok nmX7 rfl rfl 20 (by decide) (by decide +kernel) rfl rfl (by first | rfl | decide) (by first | rfl | decide) rfl dX7_findPlaces_112 ?_
  refine v_iinc (v := v2 + 1) (L' := [(2, .int (v2 + 1)), (0, .ref (q 0)), (1, .int v1)]) G dX7_findPlaces_115 2 rfl rfl (by decide) rfl ?_
  refine v_goto (tgt := 37) G dX7_findPlaces_118 (by decide) ?_
  cases h
  refine v_locs (L' := [(0, .ref (q 0)), (1, .int v1), (2, .int (v2 + 1))]) [1, 2, 0] rfl ?_
  exact K
def m_X7_findPlaces_L37 (v1 : Int32) : (apM × Int32) → Option ((apM × Int32) ⊕ (apM × Int32)) := fun (s0, v2) => if (s0 0 1) ≤ v2 then (some (.inr (s0, v2))) else (Option.bind (ald s0 11 12 v2) (fun t10 => Option.bind (ald s0 9 12 t10) (fun t12 => if t12 = v1 then (Option.bind (lp FU (m_X7_findPlaces_L65 s0 v1 v2 t10) 0) (fun v20 => Option.bind (ast s0 14 12 t10 v20) (fun s21 => if (v20 + v1) ≤ (s21 0 20) then (m_X7_findPlaces_B112 s21 v1 v2 (s21 0 20)) else (m_X7_findPlaces_B112 s21 v1 v2 (v20 + v1))))) else (some (.inl (s0, v2 + 1))))))
set_option maxHeartbeats 4000000 in
set_option maxRecDepth 100000 in
theorem w_X7_findPlaces_L37 {Γ : apC} {q : Nat → Nat} (G : apG Γ cX7_findPlaces 5 RX7 wsX7_findPlaces (apRm 1 0) apXM) {s0 : apM} {v1 v2 : Int32} {r : ((apM × Int32) ⊕ (apM × Int32))} (K : match r with | .inl x => apV Γ 5 (apU layM q (apd Γ) x.1) 0 0 37 [(0, .ref (q 0)), (1, .int v1), (2, .int x.2)] [] | .inr x => apV Γ 5 (apU layM q (apd Γ) x.1) 0 0 121 [(0, .ref (q 0)), (1, .int v1)] []) (h : m_X7_findPlaces_L37 v1 (s0, v2) = some r) : apV Γ 5 (apU layM q (apd Γ) s0) 0 0 37 [(0, .ref (q 0)), (1, .int v1), (2, .int v2)] [] := by
  unfold m_X7_findPlaces_L37 at h
  dsimp only at h
  refine v_iload_n G dX7_findPlaces_37 rfl 2 rfl ?_
  refine v_aload_n G dX7_findPlaces_38 rfl 0 rfl ?_
  refine v_geti (lay := layM) (k := 0) (C := RX7) (T := TX7) (N := 30) G (fun _ h => i_X7_findPlaces_X7 _ h) rfl rfl 1 (by decide) (by decide +kernel) rfl rfl dX7_findPlaces_39 ?_
  refine v_icmp_ge (tgt := 121) G dX7_findPlaces_42 (by decide) (fun c9 => ?_) (fun c9 => ?_)
  · replace h := (if_pos c9).symm.trans h
    cases h
    refine v_locs (L' := [(0, .ref (q 0)), (1, .int v1)]) [0, 1] rfl ?_
    exact K
  · replace h := (if_neg c9).symm.trans h
    refine v_aload_n G dX7_findPlaces_45 rfl 0 rfl ?_
    refine v_getr (lay := layM) (k := 0) (k' := 11) (C := RX7) (T := TX7) (N := 30) G (fun _ h => i_X7_findPlaces_X7 _ h) rfl rfl 15 (by decide) (by decide +kernel) rfl rfl dX7_findPlaces_46 ?_
    refine v_iload_n G dX7_findPlaces_49 rfl 2 rfl ?_
    obtain ⟨t10, e11, h⟩ := Option.bind_eq_some_iff.mp h
    refine v_iald (lay := layM) (k := 11) (n := 12) G rfl e11 dX7_findPlaces_50 ?_
    refine v_istore_n (L' := [(3, .int t10), (0, .ref (q 0)), (1, .int v1), (2, .int v2)]) G dX7_findPlaces_51 rfl (by decide) rfl ?_
    refine v_aload_n G dX7_findPlaces_52 rfl 1 rfl ?_
    refine v_getr (lay := layM) (k := 0) (k' := 9) (C := RX7) (T := TX7) (N := 30) G (fun _ h => i_X7_findPlaces_X7 _ h) rfl rfl 13 (by decide) (by decide +kernel) rfl rfl dX7_findPlaces_53 ?_
    refine v_iload_n G dX7_findPlaces_56 rfl 0 rfl ?_
    obtain ⟨t12, e13, h⟩ := Option.bind_eq_some_iff.mp h
    refine v_iald (lay := layM) (k := 9) (n := 12) G rfl e13 dX7_findPlaces_57 ?_
    refine v_iload_n G dX7_findPlaces_58 rfl 2 rfl ?_
    refine v_icmp_ne (tgt := 115) G dX7_findPlaces_59 (by decide) (fun c14 => ?_) (fun c14 => ?_)
    · replace h := (if_neg c14).symm.trans h
      refine v_iinc (v := v2 + 1) (L' := [(2, .int (v2 + 1)), (3, .int t10), (0, .ref (q 0)), (1, .int v1)]) G dX7_findPlaces_115 3 rfl rfl (by decide) rfl ?_
      refine v_goto (tgt := 37) G dX7_findPlaces_118 (by decide) ?_
      cases h
      refine v_locs (L' := [(0, .ref (q 0)), (1, .int v1), (2, .int (v2 + 1))]) [2, 3, 0] rfl ?_
      exact K
    · replace h := (if_pos c14).symm.trans h
      refine v_iconst (v := 0) G dX7_findPlaces_62 (by decide) ?_
      refine v_istore (L' := [(4, .int 0), (3, .int t10), (0, .ref (q 0)), (1, .int v1), (2, .int v2)]) G dX7_findPlaces_63 (by decide) rfl ?_
      obtain ⟨x18, e19, h⟩ := Option.bind_eq_some_iff.mp h
      refine v_locs (L' := [(0, .ref (q 0)), (1, .int v1), (2, .int v2), (3, .int t10), (4, .int 0)]) [2, 3, 4, 1, 0] rfl ?_
      have l24 := v_lp (b := m_X7_findPlaces_L65 s0 v1 v2 t10) (I := fun x => apV Γ 5 (apU layM q (apd Γ) s0) 0 0 65 [(0, .ref (q 0)), (1, .int v1), (2, .int v2), (3, .int t10), (4, .int x)] []) (O := fun x => apV Γ 5 (apU layM q (apd Γ) s0) 0 0 81 [(0, .ref (q 0)), (1, .int v1), (2, .int v2), (3, .int t10), (4, .int x)] []) (fun x r hb hK => by rcases r with r | r <;> exact w_X7_findPlaces_L65 G hK hb) FU 0 x18 e19
      obtain ⟨v20, rfl⟩ : ∃ z, z = x18 := ⟨_, rfl⟩
      refine l24 ?_
      refine v_aload_n G dX7_findPlaces_81 rfl 0 rfl ?_
      refine v_getr (lay := layM) (k := 0) (k' := 14) (C := RX7) (T := TX7) (N := 30) G (fun _ h => i_X7_findPlaces_X7 _ h) rfl rfl 18 (by decide) (by decide +kernel) rfl rfl dX7_findPlaces_82 ?_
      refine v_iload_n G dX7_findPlaces_85 rfl 3 rfl ?_
      refine v_iload G dX7_findPlaces_86 4 rfl ?_
      obtain ⟨s21, e22, h⟩ := Option.bind_eq_some_iff.mp h
      refine v_iast (lay := layM) (k := 14) (n := 12) G rfl e22 dX7_findPlaces_88 ?_
      refine v_aload_n G dX7_findPlaces_89 rfl 0 rfl ?_
      refine v_iload G dX7_findPlaces_90 4 rfl ?_
      refine v_iload_n G dX7_findPlaces_92 rfl 1 rfl ?_
      refine v_iadd G dX7_findPlaces_93 ?_
      refine v_aload_n G dX7_findPlaces_94 rfl 0 rfl ?_
      refine v_geti (lay := layM) (k := 0) (C := RX7) (T := TX7) (N := 30) G (fun _ h => i_X7_findPlaces_X7 _ h) rfl rfl 20 (by decide) (by decide +kernel) rfl rfl dX7_findPlaces_95 ?_
      refine v_icmp_le (tgt := 108) G dX7_findPlaces_98 (by decide) (fun c23 => ?_) (fun c23 => ?_)
      · replace h := (if_pos c23).symm.trans h
        refine v_aload_n G dX7_findPlaces_108 rfl 0 rfl ?_
        refine v_geti (lay := layM) (k := 0) (C := RX7) (T := TX7) (N := 30) G (fun _ h => i_X7_findPlaces_X7 _ h) rfl rfl 20 (by decide) (by decide +kernel) rfl rfl dX7_findPlaces_109 ?_
        refine v_locs (L' := [(0, .ref (q 0)), (1, .int v1), (2, .int v2)]) [0, 1, 2] rfl ?_
        exact w_X7_findPlaces_B112 G K h
      · replace h := (if_neg c23).symm.trans h
        refine v_iload G dX7_findPlaces_101 4 rfl ?_
        refine v_iload_n G dX7_findPlaces_103 rfl 1 rfl ?_
        refine v_iadd G dX7_findPlaces_104 ?_
        refine v_goto (tgt := 112) G dX7_findPlaces_105 (by decide) ?_
        refine v_locs (L' := [(0, .ref (q 0)), (1, .int v1), (2, .int v2)]) [0, 1, 2] rfl ?_
        exact w_X7_findPlaces_B112 G K h
def m_X7_findPlaces_L31  : (apM × Int32) → Option ((apM × Int32) ⊕ (apM × Int32)) := fun (s0, v1) => if v1 ≤ 0 then (some (.inr (s0, v1))) else (Option.bind (lp FU (m_X7_findPlaces_L37 v1) (s0, 0)) (fun x25 => match x25 with | (s28, v27) => some (.inl (s28, v1 + (-1)))))
set_option maxHeartbeats 4000000 in
set_option maxRecDepth 100000 in
theorem w_X7_findPlaces_L31 {Γ : apC} {q : Nat → Nat} (G : apG Γ cX7_findPlaces 5 RX7 wsX7_findPlaces (apRm 1 0) apXM) {s0 : apM} {v1 : Int32} {r : ((apM × Int32) ⊕ (apM × Int32))} (K : match r with | .inl x => apV Γ 5 (apU layM q (apd Γ) x.1) 0 0 31 [(0, .ref (q 0)), (1, .int x.2)] [] | .inr x => apV Γ 5 (apU layM q (apd Γ) x.1) 0 0 127 [] []) (h : m_X7_findPlaces_L31 (s0, v1) = some r) : apV Γ 5 (apU layM q (apd Γ) s0) 0 0 31 [(0, .ref (q 0)), (1, .int v1)] [] := by
  unfold m_X7_findPlaces_L31 at h
  dsimp only at h
  refine v_iload_n G dX7_findPlaces_31 rfl 1 rfl ?_
  refine v_if_le (tgt := 127) G dX7_findPlaces_32 (by decide) (fun c8 => ?_) (fun c8 => ?_)
  · replace h := (if_pos c8).symm.trans h
    cases h
    refine v_locs (L' := []) [] rfl ?_
    exact K
  · replace h := (if_neg c8).symm.trans h
    refine v_iconst (v := 0) G dX7_findPlaces_35 (by decide) ?_
    refine v_istore_n (L' := [(2, .int 0), (0, .ref (q 0)), (1, .int v1)]) G dX7_findPlaces_36 rfl (by decide) rfl ?_
    obtain ⟨x25, e26, h⟩ := Option.bind_eq_some_iff.mp h
    refine v_locs (L' := [(0, .ref (q 0)), (1, .int v1), (2, .int 0)]) [1, 2, 0] rfl ?_
    have l29 := v_lp (b := m_X7_findPlaces_L37 v1) (I := fun x => apV Γ 5 (apU layM q (apd Γ) x.1) 0 0 37 [(0, .ref (q 0)), (1, .int v1), (2, .int x.2)] []) (O := fun x => apV Γ 5 (apU layM q (apd Γ) x.1) 0 0 121 [(0, .ref (q 0)), (1, .int v1)] []) (fun x r hb hK => by obtain ⟨ys, y2⟩ := x; rcases r with r | r <;> exact w_X7_findPlaces_L37 G hK hb) FU (s0, 0) x25 e26
    obtain ⟨s28, v27⟩ := x25
    dsimp only at h
    refine l29 ?_
    refine v_iinc (v := v1 + (-1)) (L' := [(1, .int (v1 + (-1))), (0, .ref (q 0))]) G dX7_findPlaces_121 1 rfl rfl (by decide) rfl ?_
    refine v_goto (tgt := 31) G dX7_findPlaces_124 (by decide) ?_
    cases h
    refine v_locs (L' := [(0, .ref (q 0)), (1, .int (v1 + (-1)))]) [1, 0] rfl ?_
    exact K
def m_X7_findPlaces (s : apM)  : Option apM := Option.bind (lp FU (m_X7_findPlaces_L7) (mst s 0 20 0, 0)) (fun x4 => match x4 with | (s7, v6) => Option.bind (lp FU (m_X7_findPlaces_L31) (s7, 40)) (fun x30 => match x30 with | (s33, v32) => some s33))
set_option maxHeartbeats 4000000 in
set_option maxRecDepth 100000 in
theorem w_X7_findPlaces {Γ : apC} {q : Nat → Nat} (G : apG Γ cX7_findPlaces 5 RX7 wsX7_findPlaces (apRm 1 0) apXM) {s : apM} {r : apM} (K : apR Γ cX7_findPlaces 0 0 none (apU layM q (apd Γ) r)) (h : m_X7_findPlaces s = some r) : apV Γ 5 (apU layM q (apd Γ) s) 0 0 0 [(0, .ref (q 0))] [] := by
  unfold m_X7_findPlaces at h
  refine v_aload_n G dX7_findPlaces_0 rfl 0 rfl ?_
  refine v_iconst (v := 0) G dX7_findPlaces_1 (by decide) ?_
  refine v_put (lay := layM) (k := 0) (C := RX7) (T := TX7) (N := 30) G (fun _ h => i_X7_findPlaces_X7 _ h) tyX7 tyX7_ok nmX7 rfl rfl 20 (by decide) (by decide +kernel) rfl rfl (by first | rfl | decide) (by first | rfl | decide) rfl dX7_findPlaces_2 ?_
  refine v_iconst (v := 0) G dX7_findPlaces_5 (by decide) ?_
  refine v_istore_n (L' := [(1, .int 0), (0, .ref (q 0))]) G dX7_findPlaces_6 rfl (by decide) rfl ?_
  obtain ⟨x4, e5, h⟩ := Option.bind_eq_some_iff.mp h
  refine v_locs (L' := [(0, .ref (q 0)), (1, .int 0)]) [1, 0] rfl ?_
  have l35 := v_lp (b := m_X7_findPlaces_L7) (I := fun x => apV Γ 5 (apU layM q (apd Γ) x.1) 0 0 7 [(0, .ref (q 0)), (1, .int x.2)] []) (O := fun x => apV Γ 5 (apU layM q (apd Γ) x.1) 0 0 28 [(0, .ref (q 0))] []) (fun x r hb hK => by obtain ⟨ys, y1⟩ := x; rcases r with r | r <;> exact w_X7_findPlaces_L7 G hK hb) FU (mst s 0 20 0, 0) x4 e5
  obtain ⟨s7, v6⟩ := x4
  dsimp only at h
  refine l35 ?_
  refine v_bipush (v := 40) G dX7_findPlaces_28 (by decide) ?_
  refine v_istore_n (L' := [(1, .int 40), (0, .ref (q 0))]) G dX7_findPlaces_30 rfl (by decide) rfl ?_
  obtain ⟨x30, e31, h⟩ := Option.bind_eq_some_iff.mp h
  refine v_locs (L' := [(0, .ref (q 0)), (1, .int 40)]) [1, 0] rfl ?_
  have l34 := v_lp (b := m_X7_findPlaces_L31) (I := fun x => apV Γ 5 (apU layM q (apd Γ) x.1) 0 0 31 [(0, .ref (q 0)), (1, .int x.2)] []) (O := fun x => apV Γ 5 (apU layM q (apd Γ) x.1) 0 0 127 [] []) (fun x r hb hK => by obtain ⟨ys, y1⟩ := x; rcases r with r | r <;> exact w_X7_findPlaces_L31 G hK hb) FU (s7, 40) x30 e31
  obtain ⟨s33, v32⟩ := x30
  dsimp only at h
  refine l34 ?_
  cases h
  exact v_vret G K (by decide) (by decide) dX7_findPlaces_127
theorem c_X7_findPlaces (l : Launch) {s : apM} {r : apM} (h : m_X7_findPlaces s = some r) : apMv l layM apXM yX7_findPlaces wsX7_findPlaces 1 (fun q => [.ref (q 0)]) s r := apMv_of (cc := cX7_findPlaces) (nL := 5) (by decide) rfl (fun _ => Nat.le_of_ble_eq_true rfl) (fun Γ q hl G K => w_X7_findPlaces G K h)
theorem i_X7_measure_X7 : ∀ w ∈ u_ws RX7 TX7 30, w ∈ wsX7_measure := by decide +kernel
def m_X7_measure_B27 (s : apM) (v1 : Int32) (v2 : Int32) (k0 : Int32) (k1 : Int32) : Option ((apM × Int32) ⊕ (apM × Int32)) := Option.bind (ast s 7 12 k1 k0) (fun s3 => some (.inl (s3, v2 + 1)))
set_option maxHeartbeats 4000000 in
set_option maxRecDepth 100000 in
theorem w_X7_measure_B27 {Γ : apC} {q : Nat → Nat} (G : apG Γ cX7_measure 5 RX7 wsX7_measure (apRm 1 0) apXM) {s : apM} {v1 v2 k0 k1 : Int32} {r : ((apM × Int32) ⊕ (apM × Int32))} (K : match r with | .inl x => apV Γ 5 (apU layM q (apd Γ) x.1) 0 0 2 [(0, .ref (q 0)), (1, .int v1), (2, .int x.2)] [] | .inr x => apV Γ 5 (apU layM q (apd Γ) x.1) 0 0 34 [(0, .ref (q 0))] []) (h : m_X7_measure_B27 s v1 v2 k0 k1 = some r) : apV Γ 5 (apU layM q (apd Γ) s) 0 0 27 [(0, .ref (q 0)), (1, .int v1), (2, .int v2)] [.int k0, .int k1, .ref (q 7)] := by
  unfold m_X7_measure_B27 at h
  obtain ⟨s3, e4, h⟩ := Option.bind_eq_some_iff.mp h
  refine v_iast (lay := layM) (k := 7) (n := 12) G rfl e4 dX7_measure_27 ?_
  refine v_iinc (v := v2 + 1) (L' := [(2, .int (v2 + 1)), (0, .ref (q 0)), (1, .int v1)]) G dX7_measure_28 2 rfl rfl (by decide) rfl ?_
  refine v_goto (tgt := 2) G dX7_measure_31 (by decide) ?_
  cases h
  refine v_locs (L' := [(0, .ref (q 0)), (1, .int v1), (2, .int (v2 + 1))]) [1, 2, 0] rfl ?_
  exact K
def m_X7_measure_L2 (v1 : Int32) : (apM × Int32) → Option ((apM × Int32) ⊕ (apM × Int32)) := fun (s0, v2) => if (s0 0 1) ≤ v2 then (some (.inr (s0, v2))) else (if v2 = v1 then (m_X7_measure_B27 s0 v1 v2 0 v2) else (m_X7_measure_B27 s0 v1 v2 1000 v2))
set_option maxHeartbeats 4000000 in
set_option maxRecDepth 100000 in
theorem w_X7_measure_L2 {Γ : apC} {q : Nat → Nat} (G : apG Γ cX7_measure 5 RX7 wsX7_measure (apRm 1 0) apXM) {s0 : apM} {v1 v2 : Int32} {r : ((apM × Int32) ⊕ (apM × Int32))} (K : match r with | .inl x => apV Γ 5 (apU layM q (apd Γ) x.1) 0 0 2 [(0, .ref (q 0)), (1, .int v1), (2, .int x.2)] [] | .inr x => apV Γ 5 (apU layM q (apd Γ) x.1) 0 0 34 [(0, .ref (q 0))] []) (h : m_X7_measure_L2 v1 (s0, v2) = some r) : apV Γ 5 (apU layM q (apd Γ) s0) 0 0 2 [(0, .ref (q 0)), (1, .int v1), (2, .int v2)] [] := by
  unfold m_X7_measure_L2 at h
  dsimp only at h
  refine v_iload_n G dX7_measure_2 rfl 2 rfl ?_
  refine v_aload_n G dX7_measure_3 rfl 0 rfl ?_
  refine v_geti (lay := layM) (k := 0) (C := RX7) (T := TX7) (N := 30) G (fun _ h => i_X7_measure_X7 _ h) rfl rfl 1 (by decide) (by decide +kernel) rfl rfl dX7_measure_4 ?_
  refine v_icmp_ge (tgt := 34) G dX7_measure_7 (by decide) (fun c1 => ?_) (fun c1 => ?_)
  · replace h := (if_pos c1).symm.trans h
    cases h
    refine v_locs (L' := [(0, .ref (q 0))]) [0] rfl ?_
    exact K
  · replace h := (if_neg c1).symm.trans h
    refine v_aload_n G dX7_measure_10 rfl 0 rfl ?_
    refine v_getr (lay := layM) (k := 0) (k' := 7) (C := RX7) (T := TX7) (N := 30) G (fun _ h => i_X7_measure_X7 _ h) rfl rfl 8 (by decide) (by decide +kernel) rfl rfl dX7_measure_11 ?_
    refine v_iload_n G dX7_measure_14 rfl 2 rfl ?_
    refine v_iload_n G dX7_measure_15 rfl 2 rfl ?_
    refine v_iload_n G dX7_measure_16 rfl 1 rfl ?_
    refine v_icmp_ne (tgt := 24) G dX7_measure_17 (by decide) (fun c2 => ?_) (fun c2 => ?_)
    · replace h := (if_neg c2).symm.trans h
      refine v_sipush (v := 1000) G dX7_measure_24 (by decide) ?_
      exact w_X7_measure_B27 G K h
    · replace h := (if_pos c2).symm.trans h
      refine v_iconst (v := 0) G dX7_measure_20 (by decide) ?_
      refine v_goto (tgt := 27) G dX7_measure_21 (by decide) ?_
      exact w_X7_measure_B27 G K h
def m_X7_measure_B145 (s : apM) (v2 : Int32) (v3 : Int32) (k0 : Int32) (k1 : Int32) : Option ((apM × Int32) ⊕ (apM × Int32)) := Option.bind (ast s 7 12 k1 k0) (fun s29 => some (.inl (s29, v3 + 1)))
set_option maxHeartbeats 4000000 in
set_option maxRecDepth 100000 in
theorem w_X7_measure_B145 {Γ : apC} {q : Nat → Nat} (G : apG Γ cX7_measure 5 RX7 wsX7_measure (apRm 1 0) apXM) {s : apM} {v2 v3 k0 k1 : Int32} {r : ((apM × Int32) ⊕ (apM × Int32))} (K : match r with | .inl x => apV Γ 5 (apU layM q (apd Γ) x.1) 0 0 46 [(0, .ref (q 0)), (2, .int v2), (3, .int x.2)] [] | .inr x => apV Γ 5 (apU layM q (apd Γ) x.1) 0 0 152 [(0, .ref (q 0)), (2, .int v2)] []) (h : m_X7_measure_B145 s v2 v3 k0 k1 = some r) : apV Γ 5 (apU layM q (apd Γ) s) 0 0 145 [(0, .ref (q 0)), (2, .int v2), (3, .int v3)] [.int k0, .int k1, .ref (q 7)] := by
  unfold m_X7_measure_B145 at h
  obtain ⟨s29, e30, h⟩ := Option.bind_eq_some_iff.mp h
  refine v_iast (lay := layM) (k := 7) (n := 12) G rfl e30 dX7_measure_145 ?_
  refine v_iinc (v := v3 + 1) (L' := [(3, .int (v3 + 1)), (0, .ref (q 0)), (2, .int v2)]) G dX7_measure_146 2 rfl rfl (by decide) rfl ?_
  refine v_goto (tgt := 46) G dX7_measure_149 (by decide) ?_
  cases h
  refine v_locs (L' := [(0, .ref (q 0)), (2, .int v2), (3, .int (v3 + 1))]) [1, 2, 0] rfl ?_
  exact K
def m_X7_measure_B112 (s : apM) (v2 : Int32) (v3 : Int32) (k0 : Int32) : Option ((apM × Int32) ⊕ (apM × Int32)) := Option.bind (ald s 7 12 v3) (fun t24 => if t24 ≤ (k0 + 1) then (Option.bind (ald s 7 12 v3) (fun t27 => m_X7_measure_B145 s v2 v3 t27 v3)) else (m_X7_measure_B145 s v2 v3 (k0 + 1) v3))
set_option maxHeartbeats 4000000 in
set_option maxRecDepth 100000 in
theorem w_X7_measure_B112 {Γ : apC} {q : Nat → Nat} (G : apG Γ cX7_measure 5 RX7 wsX7_measure (apRm 1 0) apXM) {s : apM} {v2 v3 k0 : Int32} {r : ((apM × Int32) ⊕ (apM × Int32))} (K : match r with | .inl x => apV Γ 5 (apU layM q (apd Γ) x.1) 0 0 46 [(0, .ref (q 0)), (2, .int v2), (3, .int x.2)] [] | .inr x => apV Γ 5 (apU layM q (apd Γ) x.1) 0 0 152 [(0, .ref (q 0)), (2, .int v2)] []) (h : m_X7_measure_B112 s v2 v3 k0 = some r) : apV Γ 5 (apU layM q (apd Γ) s) 0 0 112 [(0, .ref (q 0)), (2, .int v2), (3, .int v3)] [.int k0] := by
  unfold m_X7_measure_B112 at h
  refine v_istore (L' := [(4, .int k0), (0, .ref (q 0)), (2, .int v2), (3, .int v3)]) G dX7_measure_112 (by decide) rfl ?_
  refine v_aload_n G dX7_measure_114 rfl 1 rfl ?_
  refine v_getr (lay := layM) (k := 0) (k' := 7) (C := RX7) (T := TX7) (N := 30) G (fun _ h => i_X7_measure_X7 _ h) rfl rfl 8 (by decide) (by decide +kernel) rfl rfl dX7_measure_115 ?_
  refine v_iload_n G dX7_measure_118 rfl 3 rfl ?_
  refine v_iload G dX7_measure_119 0 rfl ?_
  refine v_iconst (v := 1) G dX7_measure_121 (by decide) ?_
  refine v_iadd G dX7_measure_122 ?_
  refine v_aload_n G dX7_measure_123 rfl 1 rfl ?_
  refine v_getr (lay := layM) (k := 0) (k' := 7) (C := RX7) (T := TX7) (N := 30) G (fun _ h => i_X7_measure_X7 _ h) rfl rfl 8 (by decide) (by decide +kernel) rfl rfl dX7_measure_124 ?_
  refine v_iload_n G dX7_measure_127 rfl 3 rfl ?_
  obtain ⟨t24, e25, h⟩ := Option.bind_eq_some_iff.mp h
  refine v_iald (lay := layM) (k := 7) (n := 12) G rfl e25 dX7_measure_128 ?_
  refine v_icmp_ge (tgt := 139) G dX7_measure_129 (by decide) (fun c26 => ?_) (fun c26 => ?_)
  · replace h := (if_pos c26).symm.trans h
    refine v_aload_n G dX7_measure_139 rfl 1 rfl ?_
    refine v_getr (lay := layM) (k := 0) (k' := 7) (C := RX7) (T := TX7) (N := 30) G (fun _ h => i_X7_measure_X7 _ h) rfl rfl 8 (by decide) (by decide +kernel) rfl rfl dX7_measure_140 ?_
    refine v_iload_n G dX7_measure_143 rfl 3 rfl ?_
    obtain ⟨t27, e28, h⟩ := Option.bind_eq_some_iff.mp h
    refine v_iald (lay := layM) (k := 7) (n := 12) G rfl e28 dX7_measure_144 ?_
    refine v_locs (L' := [(0, .ref (q 0)), (2, .int v2), (3, .int v3)]) [1, 2, 3] rfl ?_
    exact w_X7_measure_B145 G K h
  · replace h := (if_neg c26).symm.trans h
    refine v_iload G dX7_measure_132 0 rfl ?_
    refine v_iconst (v := 1) G dX7_measure_134 (by decide) ?_
    refine v_iadd G dX7_measure_135 ?_
    refine v_goto (tgt := 145) G dX7_measure_136 (by decide) ?_
    refine v_locs (L' := [(0, .ref (q 0)), (2, .int v2), (3, .int v3)]) [1, 2, 3] rfl ?_
    exact w_X7_measure_B145 G K h
def m_X7_measure_L46 (v2 : Int32) : (apM × Int32) → Option ((apM × Int32) ⊕ (apM × Int32)) := fun (s0, v3) => if (s0 0 1) ≤ v3 then (some (.inr (s0, v3))) else (Option.bind (ald s0 4 24 (2 * v3)) (fun t11 => Option.bind (m_X7_far s0 t11) (fun t13 => Option.bind (ald s0 4 24 ((2 * v3) + 1)) (fun t15 => Option.bind (m_X7_far s0 t15) (fun t17 => if t17 ≤ t13 then (Option.bind (ald s0 4 24 ((2 * v3) + 1)) (fun t20 => Option.bind (m_X7_far s0 t20) (fun t22 => m_X7_measure_B112 s0 v2 v3 t22))) else (Option.bind (ald s0 4 24 (2 * v3)) (fun t31 => Option.bind (m_X7_far s0 t31) (fun t33 => m_X7_measure_B112 s0 v2 v3 t33))))))))
set_option maxHeartbeats 4000000 in
set_option maxRecDepth 100000 in
theorem w_X7_measure_L46 {Γ : apC} {q : Nat → Nat} (G : apG Γ cX7_measure 5 RX7 wsX7_measure (apRm 1 0) apXM) {s0 : apM} {v2 v3 : Int32} {r : ((apM × Int32) ⊕ (apM × Int32))} (K : match r with | .inl x => apV Γ 5 (apU layM q (apd Γ) x.1) 0 0 46 [(0, .ref (q 0)), (2, .int v2), (3, .int x.2)] [] | .inr x => apV Γ 5 (apU layM q (apd Γ) x.1) 0 0 152 [(0, .ref (q 0)), (2, .int v2)] []) (h : m_X7_measure_L46 v2 (s0, v3) = some r) : apV Γ 5 (apU layM q (apd Γ) s0) 0 0 46 [(0, .ref (q 0)), (2, .int v2), (3, .int v3)] [] := by
  unfold m_X7_measure_L46 at h
  dsimp only at h
  refine v_iload_n G dX7_measure_46 rfl 2 rfl ?_
  refine v_aload_n G dX7_measure_47 rfl 0 rfl ?_
  refine v_geti (lay := layM) (k := 0) (C := RX7) (T := TX7) (N := 30) G (fun _ h => i_X7_measure_X7 _ h) rfl rfl 1 (by decide) (by decide +kernel) rfl rfl dX7_measure_48 ?_
  refine v_icmp_ge (tgt := 152) G dX7_measure_51 (by decide) (fun c10 => ?_) (fun c10 => ?_)
  · replace h := (if_pos c10).symm.trans h
    cases h
    refine v_locs (L' := [(0, .ref (q 0)), (2, .int v2)]) [0, 1] rfl ?_
    exact K
  · replace h := (if_neg c10).symm.trans h
    refine v_aload_n G dX7_measure_54 rfl 0 rfl ?_
    refine v_aload_n G dX7_measure_55 rfl 0 rfl ?_
    refine v_getr (lay := layM) (k := 0) (k' := 4) (C := RX7) (T := TX7) (N := 30) G (fun _ h => i_X7_measure_X7 _ h) rfl rfl 5 (by decide) (by decide +kernel) rfl rfl dX7_measure_56 ?_
    refine v_iconst (v := 2) G dX7_measure_59 (by decide) ?_
    refine v_iload_n G dX7_measure_60 rfl 2 rfl ?_
    refine v_imul G dX7_measure_61 ?_
    obtain ⟨t11, e12, h⟩ := Option.bind_eq_some_iff.mp h
    refine v_iald (lay := layM) (k := 4) (n := 24) G rfl e12 dX7_measure_62 ?_
    obtain ⟨t13, e14, h⟩ := Option.bind_eq_some_iff.mp h
    refine v_calliV (lay := layM) (As := [.int t11]) (st := []) (n := 1) (C := RX7) (T := TX7) (k0 := 0) G apXMok (c_X7_far Γ.1.2.1 e14) gX7_measure_X7_far rfl (by decide +kernel) (by decide) rfl rfl rfl rfl (Nat.le_of_ble_eq_true rfl) (by decide) rfl dX7_measure_63 ?_
    refine v_aload_n G dX7_measure_66 rfl 0 rfl ?_
    refine v_aload_n G dX7_measure_67 rfl 0 rfl ?_
    refine v_getr (lay := layM) (k := 0) (k' := 4) (C := RX7) (T := TX7) (N := 30) G (fun _ h => i_X7_measure_X7 _ h) rfl rfl 5 (by decide) (by decide +kernel) rfl rfl dX7_measure_68 ?_
    refine v_iconst (v := 2) G dX7_measure_71 (by decide) ?_
    refine v_iload_n G dX7_measure_72 rfl 2 rfl ?_
    refine v_imul G dX7_measure_73 ?_
    refine v_iconst (v := 1) G dX7_measure_74 (by decide) ?_
    refine v_iadd G dX7_measure_75 ?_
    obtain ⟨t15, e16, h⟩ := Option.bind_eq_some_iff.mp h
    refine v_iald (lay := layM) (k := 4) (n := 24) G rfl e16 dX7_measure_76 ?_
    obtain ⟨t17, e18, h⟩ := Option.bind_eq_some_iff.mp h
    refine v_calliV (lay := layM) (As := [.int t15]) (st := [.int t13]) (n := 1) (C := RX7) (T := TX7) (k0 := 0) G apXMok (c_X7_far Γ.1.2.1 e18) gX7_measure_X7_far rfl (by decide +kernel) (by decide) rfl rfl rfl rfl (Nat.le_of_ble_eq_true rfl) (by decide) rfl dX7_measure_77 ?_
    refine v_icmp_ge (tgt := 98) G dX7_measure_80 (by decide) (fun c19 => ?_) (fun c19 => ?_)
    · replace h := (if_pos c19).symm.trans h
      refine v_aload_n G dX7_measure_98 rfl 0 rfl ?_
      refine v_aload_n G dX7_measure_99 rfl 0 rfl ?_
      refine v_getr (lay := layM) (k := 0) (k' := 4) (C := RX7) (T := TX7) (N := 30) G (fun _ h => i_X7_measure_X7 _ h) rfl rfl 5 (by decide) (by decide +kernel) rfl rfl dX7_measure_100 ?_
      refine v_iconst (v := 2) G dX7_measure_103 (by decide) ?_
      refine v_iload_n G dX7_measure_104 rfl 2 rfl ?_
      refine v_imul G dX7_measure_105 ?_
      refine v_iconst (v := 1) G dX7_measure_106 (by decide) ?_
      refine v_iadd G dX7_measure_107 ?_
      obtain ⟨t20, e21, h⟩ := Option.bind_eq_some_iff.mp h
      refine v_iald (lay := layM) (k := 4) (n := 24) G rfl e21 dX7_measure_108 ?_
      obtain ⟨t22, e23, h⟩ := Option.bind_eq_some_iff.mp h
      refine v_calliV (lay := layM) (As := [.int t20]) (st := []) (n := 1) (C := RX7) (T := TX7) (k0 := 0) G apXMok (c_X7_far Γ.1.2.1 e23) gX7_measure_X7_far rfl (by decide +kernel) (by decide) rfl rfl rfl rfl (Nat.le_of_ble_eq_true rfl) (by decide) rfl dX7_measure_109 ?_
      exact w_X7_measure_B112 G K h
    · replace h := (if_neg c19).symm.trans h
      refine v_aload_n G dX7_measure_83 rfl 0 rfl ?_
      refine v_aload_n G dX7_measure_84 rfl 0 rfl ?_
      refine v_getr (lay := layM) (k := 0) (k' := 4) (C := RX7) (T := TX7) (N := 30) G (fun _ h => i_X7_measure_X7 _ h) rfl rfl 5 (by decide) (by decide +kernel) rfl rfl dX7_measure_85 ?_
      refine v_iconst (v := 2) G dX7_measure_88 (by decide) ?_
      refine v_iload_n G dX7_measure_89 rfl 2 rfl ?_
      refine v_imul G dX7_measure_90 ?_
      obtain ⟨t31, e32, h⟩ := Option.bind_eq_some_iff.mp h
      refine v_iald (lay := layM) (k := 4) (n := 24) G rfl e32 dX7_measure_91 ?_
      obtain ⟨t33, e34, h⟩ := Option.bind_eq_some_iff.mp h
      refine v_calliV (lay := layM) (As := [.int t31]) (st := []) (n := 1) (C := RX7) (T := TX7) (k0 := 0) G apXMok (c_X7_far Γ.1.2.1 e34) gX7_measure_X7_far rfl (by decide +kernel) (by decide) rfl rfl rfl rfl (Nat.le_of_ble_eq_true rfl) (by decide) rfl dX7_measure_92 ?_
      refine v_goto (tgt := 112) G dX7_measure_95 (by decide) ?_
      exact w_X7_measure_B112 G K h
def m_X7_measure_L36  : (apM × Int32) → Option ((apM × Int32) ⊕ (apM × Int32)) := fun (s0, v2) => if (s0 0 1) ≤ v2 then (some (.inr (s0, v2))) else (Option.bind (lp FU (m_X7_measure_L46 v2) (s0, 0)) (fun x35 => match x35 with | (s38, v37) => some (.inl (s38, v2 + 1))))
set_option maxHeartbeats 4000000 in
set_option maxRecDepth 100000 in
theorem w_X7_measure_L36 {Γ : apC} {q : Nat → Nat} (G : apG Γ cX7_measure 5 RX7 wsX7_measure (apRm 1 0) apXM) {s0 : apM} {v2 : Int32} {r : ((apM × Int32) ⊕ (apM × Int32))} (K : match r with | .inl x => apV Γ 5 (apU layM q (apd Γ) x.1) 0 0 36 [(0, .ref (q 0)), (2, .int x.2)] [] | .inr x => apV Γ 5 (apU layM q (apd Γ) x.1) 0 0 158 [] []) (h : m_X7_measure_L36 (s0, v2) = some r) : apV Γ 5 (apU layM q (apd Γ) s0) 0 0 36 [(0, .ref (q 0)), (2, .int v2)] [] := by
  unfold m_X7_measure_L36 at h
  dsimp only at h
  refine v_iload_n G dX7_measure_36 rfl 1 rfl ?_
  refine v_aload_n G dX7_measure_37 rfl 0 rfl ?_
  refine v_geti (lay := layM) (k := 0) (C := RX7) (T := TX7) (N := 30) G (fun _ h => i_X7_measure_X7 _ h) rfl rfl 1 (by decide) (by decide +kernel) rfl rfl dX7_measure_38 ?_
  refine v_icmp_ge (tgt := 158) G dX7_measure_41 (by decide) (fun c9 => ?_) (fun c9 => ?_)
  · replace h := (if_pos c9).symm.trans h
    cases h
    refine v_locs (L' := []) [] rfl ?_
    exact K
  · replace h := (if_neg c9).symm.trans h
    refine v_iconst (v := 0) G dX7_measure_44 (by decide) ?_
    refine v_istore_n (L' := [(3, .int 0), (0, .ref (q 0)), (2, .int v2)]) G dX7_measure_45 rfl (by decide) rfl ?_
    obtain ⟨x35, e36, h⟩ := Option.bind_eq_some_iff.mp h
    refine v_locs (L' := [(0, .ref (q 0)), (2, .int v2), (3, .int 0)]) [1, 2, 0] rfl ?_
    have l39 := v_lp (b := m_X7_measure_L46 v2) (I := fun x => apV Γ 5 (apU layM q (apd Γ) x.1) 0 0 46 [(0, .ref (q 0)), (2, .int v2), (3, .int x.2)] []) (O := fun x => apV Γ 5 (apU layM q (apd Γ) x.1) 0 0 152 [(0, .ref (q 0)), (2, .int v2)] []) (fun x r hb hK => by obtain ⟨ys, y3⟩ := x; rcases r with r | r <;> exact w_X7_measure_L46 G hK hb) FU (s0, 0) x35 e36
    obtain ⟨s38, v37⟩ := x35
    dsimp only at h
    refine l39 ?_
    refine v_iinc (v := v2 + 1) (L' := [(2, .int (v2 + 1)), (0, .ref (q 0))]) G dX7_measure_152 1 rfl rfl (by decide) rfl ?_
    refine v_goto (tgt := 36) G dX7_measure_155 (by decide) ?_
    cases h
    refine v_locs (L' := [(0, .ref (q 0)), (2, .int (v2 + 1))]) [1, 0] rfl ?_
    exact K
def m_X7_measure (s : apM) (v1 : Int32) : Option apM := Option.bind (lp FU (m_X7_measure_L2 v1) (s, 0)) (fun x5 => match x5 with | (s8, v7) => Option.bind (lp FU (m_X7_measure_L36) (s8, 0)) (fun x40 => match x40 with | (s43, v42) => some s43))
set_option maxHeartbeats 4000000 in
set_option maxRecDepth 100000 in
theorem w_X7_measure {Γ : apC} {q : Nat → Nat} (G : apG Γ cX7_measure 5 RX7 wsX7_measure (apRm 1 0) apXM) {s : apM} {v1 : Int32} {r : apM} (K : apR Γ cX7_measure 0 0 none (apU layM q (apd Γ) r)) (h : m_X7_measure s v1 = some r) : apV Γ 5 (apU layM q (apd Γ) s) 0 0 0 [(0, .ref (q 0)), (1, .int v1)] [] := by
  unfold m_X7_measure at h
  refine v_iconst (v := 0) G dX7_measure_0 (by decide) ?_
  refine v_istore_n (L' := [(2, .int 0), (0, .ref (q 0)), (1, .int v1)]) G dX7_measure_1 rfl (by decide) rfl ?_
  obtain ⟨x5, e6, h⟩ := Option.bind_eq_some_iff.mp h
  refine v_locs (L' := [(0, .ref (q 0)), (1, .int v1), (2, .int 0)]) [1, 2, 0] rfl ?_
  have l45 := v_lp (b := m_X7_measure_L2 v1) (I := fun x => apV Γ 5 (apU layM q (apd Γ) x.1) 0 0 2 [(0, .ref (q 0)), (1, .int v1), (2, .int x.2)] []) (O := fun x => apV Γ 5 (apU layM q (apd Γ) x.1) 0 0 34 [(0, .ref (q 0))] []) (fun x r hb hK => by obtain ⟨ys, y2⟩ := x; rcases r with r | r <;> exact w_X7_measure_L2 G hK hb) FU (s, 0) x5 e6
  obtain ⟨s8, v7⟩ := x5
  dsimp only at h
  refine l45 ?_
  refine v_iconst (v := 0) G dX7_measure_34 (by decide) ?_
  refine v_istore_n (L' := [(2, .int 0), (0, .ref (q 0))]) G dX7_measure_35 rfl (by decide) rfl ?_
  obtain ⟨x40, e41, h⟩ := Option.bind_eq_some_iff.mp h
  refine v_locs (L' := [(0, .ref (q 0)), (2, .int 0)]) [1, 0] rfl ?_
  have l44 := v_lp (b := m_X7_measure_L36) (I := fun x => apV Γ 5 (apU layM q (apd Γ) x.1) 0 0 36 [(0, .ref (q 0)), (2, .int x.2)] []) (O := fun x => apV Γ 5 (apU layM q (apd Γ) x.1) 0 0 158 [] []) (fun x r hb hK => by obtain ⟨ys, y2⟩ := x; rcases r with r | r <;> exact w_X7_measure_L36 G hK hb) FU (s8, 0) x40 e41
  obtain ⟨s43, v42⟩ := x40
  dsimp only at h
  refine l44 ?_
  cases h
  exact v_vret G K (by decide) (by decide) dX7_measure_158
theorem c_X7_measure (l : Launch) {s : apM} {v1 : Int32} {r : apM} (h : m_X7_measure s v1 = some r) : apMv l layM apXM yX7_measure wsX7_measure 1 (fun q => [.ref (q 0), .int v1]) s r := apMv_of (cc := cX7_measure) (nL := 5) (by decide) rfl (fun _ => Nat.le_of_ble_eq_true rfl) (fun Γ q hl G K => w_X7_measure G K h)
theorem i_X7_nearest_X7 : ∀ w ∈ u_ws RX7 TX7 30, w ∈ wsX7_nearest := by decide +kernel
def m_X7_nearest_B38 (s : apM) (k0 : Int32) : Option Int32 := Option.bind (m_X7_far s k0) (fun t10 => if 1000 ≤ t10 then (some (-1)) else (some k0))
set_option maxHeartbeats 4000000 in
set_option maxRecDepth 100000 in
theorem w_X7_nearest_B38 {Γ : apC} {q : Nat → Nat} (G : apG Γ cX7_nearest 5 RX7 wsX7_nearest (apRm 1 0) apXM) {s : apM} {k0 : Int32} {r : Int32} (K : apR Γ cX7_nearest 0 0 (some r) (apU layM q (apd Γ) s)) (h : m_X7_nearest_B38 s k0 = some r) : apV Γ 5 (apU layM q (apd Γ) s) 0 0 38 [(0, .ref (q 0))] [.int k0] := by
  unfold m_X7_nearest_B38 at h
  refine v_istore (L' := [(4, .int k0), (0, .ref (q 0))]) G dX7_nearest_38 (by decide) rfl ?_
  refine v_aload_n G dX7_nearest_40 rfl 1 rfl ?_
  refine v_iload G dX7_nearest_41 0 rfl ?_
  obtain ⟨t10, e11, h⟩ := Option.bind_eq_some_iff.mp h
  refine v_calliV (lay := layM) (As := [.int k0]) (st := []) (n := 1) (C := RX7) (T := TX7) (k0 := 0) G apXMok (c_X7_far Γ.1.2.1 e11) gX7_nearest_X7_far rfl (by decide +kernel) (by decide) rfl rfl rfl rfl (Nat.le_of_ble_eq_true rfl) (by decide) rfl dX7_nearest_43 ?_
  refine v_sipush (v := 1000) G dX7_nearest_46 (by decide) ?_
  refine v_icmp_ge (tgt := 57) G dX7_nearest_49 (by decide) (fun c12 => ?_) (fun c12 => ?_)
  · replace h := (if_pos c12).symm.trans h
    refine v_iconst (v := (-1)) G dX7_nearest_57 (by decide) ?_
    cases h
    exact v_iret G K (by decide) (by decide) dX7_nearest_58
  · replace h := (if_neg c12).symm.trans h
    refine v_iload G dX7_nearest_52 0 rfl ?_
    refine v_goto (tgt := 58) G dX7_nearest_54 (by decide) ?_
    cases h
    exact v_iret G K (by decide) (by decide) dX7_nearest_58
def m_X7_nearest (s : apM) (v1 : Int32) : Option Int32 := Option.bind (ald s 4 24 (2 * v1)) (fun t1 => Option.bind (ald s 4 24 ((2 * v1) + 1)) (fun t3 => Option.bind (m_X7_far s t3) (fun t5 => Option.bind (m_X7_far s t1) (fun t7 => if t7 ≤ t5 then (m_X7_nearest_B38 s t1) else (m_X7_nearest_B38 s t3)))))
set_option maxHeartbeats 4000000 in
set_option maxRecDepth 100000 in
theorem w_X7_nearest {Γ : apC} {q : Nat → Nat} (G : apG Γ cX7_nearest 5 RX7 wsX7_nearest (apRm 1 0) apXM) {s : apM} {v1 : Int32} {r : Int32} (K : apR Γ cX7_nearest 0 0 (some r) (apU layM q (apd Γ) s)) (h : m_X7_nearest s v1 = some r) : apV Γ 5 (apU layM q (apd Γ) s) 0 0 0 [(0, .ref (q 0)), (1, .int v1)] [] := by
  unfold m_X7_nearest at h
  refine v_aload_n G dX7_nearest_0 rfl 0 rfl ?_
  refine v_getr (lay := layM) (k := 0) (k' := 4) (C := RX7) (T := TX7) (N := 30) G (fun _ h => i_X7_nearest_X7 _ h) rfl rfl 5 (by decide) (by decide +kernel) rfl rfl dX7_nearest_1 ?_
  refine v_iconst (v := 2) G dX7_nearest_4 (by decide) ?_
  refine v_iload_n G dX7_nearest_5 rfl 1 rfl ?_
  refine v_imul G dX7_nearest_6 ?_
  obtain ⟨t1, e2, h⟩ := Option.bind_eq_some_iff.mp h
  refine v_iald (lay := layM) (k := 4) (n := 24) G rfl e2 dX7_nearest_7 ?_
  refine v_istore_n (L' := [(2, .int t1), (0, .ref (q 0)), (1, .int v1)]) G dX7_nearest_8 rfl (by decide) rfl ?_
  refine v_aload_n G dX7_nearest_9 rfl 1 rfl ?_
  refine v_getr (lay := layM) (k := 0) (k' := 4) (C := RX7) (T := TX7) (N := 30) G (fun _ h => i_X7_nearest_X7 _ h) rfl rfl 5 (by decide) (by decide +kernel) rfl rfl dX7_nearest_10 ?_
  refine v_iconst (v := 2) G dX7_nearest_13 (by decide) ?_
  refine v_iload_n G dX7_nearest_14 rfl 2 rfl ?_
  refine v_imul G dX7_nearest_15 ?_
  refine v_iconst (v := 1) G dX7_nearest_16 (by decide) ?_
  refine v_iadd G dX7_nearest_17 ?_
  obtain ⟨t3, e4, h⟩ := Option.bind_eq_some_iff.mp h
  refine v_iald (lay := layM) (k := 4) (n := 24) G rfl e4 dX7_nearest_18 ?_
  refine v_istore_n (L' := [(3, .int t3), (2, .int t1), (0, .ref (q 0)), (1, .int v1)]) G dX7_nearest_19 rfl (by decide) rfl ?_
  refine v_aload_n G dX7_nearest_20 rfl 2 rfl ?_
  refine v_iload_n G dX7_nearest_21 rfl 0 rfl ?_
  obtain ⟨t5, e6, h⟩ := Option.bind_eq_some_iff.mp h
  refine v_calliV (lay := layM) (As := [.int t3]) (st := []) (n := 1) (C := RX7) (T := TX7) (k0 := 0) G apXMok (c_X7_far Γ.1.2.1 e6) gX7_nearest_X7_far rfl (by decide +kernel) (by decide) rfl rfl rfl rfl (Nat.le_of_ble_eq_true rfl) (by decide) rfl dX7_nearest_22 ?_
  refine v_aload_n G dX7_nearest_25 rfl 2 rfl ?_
  refine v_iload_n G dX7_nearest_26 rfl 1 rfl ?_
  obtain ⟨t7, e8, h⟩ := Option.bind_eq_some_iff.mp h
  refine v_calliV (lay := layM) (As := [.int t1]) (st := [.int t5]) (n := 1) (C := RX7) (T := TX7) (k0 := 0) G apXMok (c_X7_far Γ.1.2.1 e8) gX7_nearest_X7_far rfl (by decide +kernel) (by decide) rfl rfl rfl rfl (Nat.le_of_ble_eq_true rfl) (by decide) rfl dX7_nearest_27 ?_
  refine v_icmp_ge (tgt := 37) G dX7_nearest_30 (by decide) (fun c9 => ?_) (fun c9 => ?_)
  · replace h := (if_pos c9).symm.trans h
    refine v_iload_n G dX7_nearest_37 rfl 1 rfl ?_
    refine v_locs (L' := [(0, .ref (q 0))]) [2] rfl ?_
    exact w_X7_nearest_B38 G K h
  · replace h := (if_neg c9).symm.trans h
    refine v_iload_n G dX7_nearest_33 rfl 0 rfl ?_
    refine v_goto (tgt := 38) G dX7_nearest_34 (by decide) ?_
    refine v_locs (L' := [(0, .ref (q 0))]) [2] rfl ?_
    exact w_X7_nearest_B38 G K h
theorem c_X7_nearest (l : Launch) {s : apM} {v1 : Int32} {r : Int32} (h : m_X7_nearest s v1 = some r) : apMi l layM apXM yX7_nearest wsX7_nearest 1 (fun q => [.ref (q 0), .int v1]) s r s := apMi_of (cc := cX7_nearest) (nL := 5) (r := r) (by decide) rfl rfl (fun _ => Nat.le_of_ble_eq_true rfl) (fun Γ q hl G K => w_X7_nearest G K h)
theorem i_X7_findRing_X7 : ∀ w ∈ u_ws RX7 TX7 30, w ∈ wsX7_findRing := by decide +kernel
def m_X7_findRing_L49 (v1 : Int32) : (apM × Int32) → Option ((apM × Int32) ⊕ (apM × Int32)) := fun (s0, v2) => if v2 = v1 then (some (.inr (s0, v2))) else (Option.bind (ast s0 8 12 (s0 0 9) v2) (fun s11 => Option.bind (m_X7_nearest (mst s11 0 9 ((s11 0 9) + 1)) v2) (fun t13 => some (.inl (mst s11 0 9 ((s11 0 9) + 1), t13)))))
set_option maxHeartbeats 4000000 in
set_option maxRecDepth 100000 in
theorem w_X7_findRing_L49 {Γ : apC} {q : Nat → Nat} (G : apG Γ cX7_findRing 3 RX7 wsX7_findRing (apRm 2 0) apXM) {s0 : apM} {v1 v2 : Int32} {r : ((apM × Int32) ⊕ (apM × Int32))} (K : match r with | .inl x => apV Γ 3 (apU layM q (apd Γ) x.1) 0 0 49 [(0, .ref (q 0)), (1, .int v1), (2, .int x.2)] [] | .inr x => apV Γ 3 (apU layM q (apd Γ) x.1) 0 0 83 [(0, .ref (q 0)), (1, .int v1)] []) (h : m_X7_findRing_L49 v1 (s0, v2) = some r) : apV Γ 3 (apU layM q (apd Γ) s0) 0 0 49 [(0, .ref (q 0)), (1, .int v1), (2, .int v2)] [] := by
  unfold m_X7_findRing_L49 at h
  dsimp only at h
  refine v_iload_n G dX7_findRing_49 rfl 2 rfl ?_
  refine v_iload_n G dX7_findRing_50 rfl 1 rfl ?_
  refine v_icmp_eq (tgt := 83) G dX7_findRing_51 (by decide) (fun c10 => ?_) (fun c10 => ?_)
  · replace h := (if_pos c10).symm.trans h
    cases h
    refine v_locs (L' := [(0, .ref (q 0)), (1, .int v1)]) [0, 1] rfl ?_
    exact K
  · replace h := (if_neg c10).symm.trans h
    refine v_aload_n G dX7_findRing_54 rfl 0 rfl ?_
    refine v_getr (lay := layM) (k := 0) (k' := 8) (C := RX7) (T := TX7) (N := 30) G (fun _ h => i_X7_findRing_X7 _ h) rfl rfl 10 (by decide) (by decide +kernel) rfl rfl dX7_findRing_55 ?_
    refine v_aload_n G dX7_findRing_58 rfl 0 rfl ?_
    refine v_geti (lay := layM) (k := 0) (C := RX7) (T := TX7) (N := 30) G (fun _ h => i_X7_findRing_X7 _ h) rfl rfl 9 (by decide) (by decide +kernel) rfl rfl dX7_findRing_59 ?_
    refine v_iload_n G dX7_findRing_62 rfl 2 rfl ?_
    obtain ⟨s11, e12, h⟩ := Option.bind_eq_some_iff.mp h
    refine v_iast (lay := layM) (k := 8) (n := 12) G rfl e12 dX7_findRing_63 ?_
    refine v_aload_n G dX7_findRing_64 rfl 0 rfl ?_
    refine v_dup G dX7_findRing_65 rfl ?_
    refine v_geti (lay := layM) (k := 0) (C := RX7) (T := TX7) (N := 30) G (fun _ h => i_X7_findRing_X7 _ h) rfl rfl 9 (by decide) (by decide +kernel) rfl rfl dX7_findRing_66 ?_
    refine v_iconst (v := 1) G dX7_findRing_69 (by decide) ?_
    refine v_iadd G dX7_findRing_70 ?_
    refine v_put (lay := layM) (k := 0) (C := RX7) (T := TX7) (N := 30) G (fun _ h => i_X7_findRing_X7 _ h) tyX7 tyX7_ok nmX7 rfl rfl 9 (by decide) (by decide +kernel) rfl rfl (by first | rfl | decide) (by first | rfl | decide) rfl dX7_findRing_71 ?_
    refine v_aload_n G dX7_findRing_74 rfl 0 rfl ?_
    refine v_iload_n G dX7_findRing_75 rfl 2 rfl ?_
    obtain ⟨t13, e14, h⟩ := Option.bind_eq_some_iff.mp h
    refine v_calliV (lay := layM) (As := [.int v2]) (st := []) (n := 1) (C := RX7) (T := TX7) (k0 := 0) G apXMok (c_X7_nearest Γ.1.2.1 e14) gX7_findRing_X7_nearest rfl (by decide +kernel) (by decide) rfl rfl rfl rfl (Nat.le_of_ble_eq_true rfl) (by decide) rfl dX7_findRing_76 ?_
    refine v_istore_n (L' := [(2, .int t13), (0, .ref (q 0)), (1, .int v1)]) G dX7_findRing_79 rfl (by decide) rfl ?_
    refine v_goto (tgt := 49) G dX7_findRing_80 (by decide) ?_
    cases h
    refine v_locs (L' := [(0, .ref (q 0)), (1, .int v1), (2, .int t13)]) [1, 2, 0] rfl ?_
    exact K
def m_X7_findRing_L7  : (apM × Int32) → Option ((apM × Int32) ⊕ (apM × Int32)) := fun (s0, v1) => if (s0 0 1) ≤ v1 then (some (.inr (s0, v1))) else (if (s0 0 9) = 0 then (Option.bind (m_X7_measure s0 v1) (fun s3 => Option.bind (m_X7_nearest s3 v1) (fun t5 => if t5 < 0 then (some (.inl (s3, v1 + 1))) else (Option.bind (ast s3 8 12 0 v1) (fun s8 => Option.bind (lp FU (m_X7_findRing_L49 v1) (mst s8 0 9 1, t5)) (fun x15 => match x15 with | (s18, v17) => some (.inl (s18, v1 + 1)))))))) else (some (.inr (s0, v1))))
set_option maxHeartbeats 4000000 in
set_option maxRecDepth 100000 in
theorem w_X7_findRing_L7 {Γ : apC} {q : Nat → Nat} (G : apG Γ cX7_findRing 3 RX7 wsX7_findRing (apRm 2 0) apXM) {s0 : apM} {v1 : Int32} {r : ((apM × Int32) ⊕ (apM × Int32))} (K : match r with | .inl x => apV Γ 3 (apU layM q (apd Γ) x.1) 0 0 7 [(0, .ref (q 0)), (1, .int x.2)] [] | .inr x => apV Γ 3 (apU layM q (apd Γ) x.1) 0 0 89 [] []) (h : m_X7_findRing_L7 (s0, v1) = some r) : apV Γ 3 (apU layM q (apd Γ) s0) 0 0 7 [(0, .ref (q 0)), (1, .int v1)] [] := by
  unfold m_X7_findRing_L7 at h
  dsimp only at h
  refine v_iload_n G dX7_findRing_7 rfl 1 rfl ?_
  refine v_aload_n G dX7_findRing_8 rfl 0 rfl ?_
  refine v_geti (lay := layM) (k := 0) (C := RX7) (T := TX7) (N := 30) G (fun _ h => i_X7_findRing_X7 _ h) rfl rfl 1 (by decide) (by decide +kernel) rfl rfl dX7_findRing_9 ?_
  refine v_icmp_ge (tgt := 89) G dX7_findRing_12 (by decide) (fun c1 => ?_) (fun c1 => ?_)
  · replace h := (if_pos c1).symm.trans h
    cases h
    refine v_locs (L' := []) [] rfl ?_
    exact K
  · replace h := (if_neg c1).symm.trans h
    refine v_aload_n G dX7_findRing_15 rfl 0 rfl ?_
    refine v_geti (lay := layM) (k := 0) (C := RX7) (T := TX7) (N := 30) G (fun _ h => i_X7_findRing_X7 _ h) rfl rfl 9 (by decide) (by decide +kernel) rfl rfl dX7_findRing_16 ?_
    refine v_if_ne (tgt := 89) G dX7_findRing_19 (by decide) (fun c2 => ?_) (fun c2 => ?_)
    · replace h := (if_neg c2).symm.trans h
      cases h
      refine v_locs (L' := []) [] rfl ?_
      exact K
    · replace h := (if_pos c2).symm.trans h
      refine v_aload_n G dX7_findRing_22 rfl 0 rfl ?_
      refine v_iload_n G dX7_findRing_23 rfl 1 rfl ?_
      obtain ⟨s3, e4, h⟩ := Option.bind_eq_some_iff.mp h
      refine v_callvV (lay := layM) (As := [.int v1]) (st := []) (n := 1) (C := RX7) (T := TX7) (k0 := 0) G apXMok (c_X7_measure Γ.1.2.1 e4) gX7_findRing_X7_measure rfl (by decide +kernel) (by decide) rfl rfl rfl rfl (Nat.le_of_ble_eq_true rfl) (by decide) rfl dX7_findRing_24 ?_
      refine v_aload_n G dX7_findRing_27 rfl 0 rfl ?_
      refine v_iload_n G dX7_findRing_28 rfl 1 rfl ?_
      obtain ⟨t5, e6, h⟩ := Option.bind_eq_some_iff.mp h
      refine v_calliV (lay := layM) (As := [.int v1]) (st := []) (n := 1) (C := RX7) (T := TX7) (k0 := 0) G apXMok (c_X7_nearest Γ.1.2.1 e6) gX7_findRing_X7_nearest rfl (by decide +kernel) (by decide) rfl rfl rfl rfl (Nat.le_of_ble_eq_true rfl) (by decide) rfl dX7_findRing_29 ?_
      refine v_istore_n (L' := [(2, .int t5), (0, .ref (q 0)), (1, .int v1)]) G dX7_findRing_32 rfl (by decide) rfl ?_
      refine v_iload_n G dX7_findRing_33 rfl 0 rfl ?_
      refine v_if_lt (tgt := 83) G dX7_findRing_34 (by decide) (fun c7 => ?_) (fun c7 => ?_)
      · replace h := (if_pos c7).symm.trans h
        refine v_iinc (v := v1 + 1) (L' := [(1, .int (v1 + 1)), (2, .int t5), (0, .ref (q 0))]) G dX7_findRing_83 2 rfl rfl (by decide) rfl ?_
        refine v_goto (tgt := 7) G dX7_findRing_86 (by decide) ?_
        cases h
        refine v_locs (L' := [(0, .ref (q 0)), (1, .int (v1 + 1))]) [2, 0] rfl ?_
        exact K
      · replace h := (if_neg c7).symm.trans h
        refine v_aload_n G dX7_findRing_37 rfl 1 rfl ?_
        refine v_getr (lay := layM) (k := 0) (k' := 8) (C := RX7) (T := TX7) (N := 30) G (fun _ h => i_X7_findRing_X7 _ h) rfl rfl 10 (by decide) (by decide +kernel) rfl rfl dX7_findRing_38 ?_
        refine v_iconst (v := 0) G dX7_findRing_41 (by decide) ?_
        refine v_iload_n G dX7_findRing_42 rfl 2 rfl ?_
        obtain ⟨s8, e9, h⟩ := Option.bind_eq_some_iff.mp h
        refine v_iast (lay := layM) (k := 8) (n := 12) G rfl e9 dX7_findRing_43 ?_
        refine v_aload_n G dX7_findRing_44 rfl 1 rfl ?_
        refine v_iconst (v := 1) G dX7_findRing_45 (by decide) ?_
        refine v_put (lay := layM) (k := 0) (C := RX7) (T := TX7) (N := 30) G (fun _ h => i_X7_findRing_X7 _ h) tyX7 tyX7_ok nmX7 rfl rfl 9 (by decide) (by decide +kernel) rfl rfl (by first | rfl | decide) (by first | rfl | decide) rfl dX7_findRing_46 ?_
        obtain ⟨x15, e16, h⟩ := Option.bind_eq_some_iff.mp h
        refine v_locs (L' := [(0, .ref (q 0)), (1, .int v1), (2, .int t5)]) [1, 2, 0] rfl ?_
        have l19 := v_lp (b := m_X7_findRing_L49 v1) (I := fun x => apV Γ 3 (apU layM q (apd Γ) x.1) 0 0 49 [(0, .ref (q 0)), (1, .int v1), (2, .int x.2)] []) (O := fun x => apV Γ 3 (apU layM q (apd Γ) x.1) 0 0 83 [(0, .ref (q 0)), (1, .int v1)] []) (fun x r hb hK => by obtain ⟨ys, y2⟩ := x; rcases r with r | r <;> exact w_X7_findRing_L49 G hK hb) FU (mst s8 0 9 1, t5) x15 e16
        obtain ⟨s18, v17⟩ := x15
        dsimp only at h
        refine l19 ?_
        refine v_iinc (v := v1 + 1) (L' := [(1, .int (v1 + 1)), (0, .ref (q 0))]) G dX7_findRing_83 1 rfl rfl (by decide) rfl ?_
        refine v_goto (tgt := 7) G dX7_findRing_86 (by decide) ?_
        cases h
        refine v_locs (L' := [(0, .ref (q 0)), (1, .int (v1 + 1))]) [1, 0] rfl ?_
        exact K
def m_X7_findRing (s : apM)  : Option apM := Option.bind (lp FU (m_X7_findRing_L7) (mst s 0 9 0, 0)) (fun x20 => match x20 with | (s23, v22) => some s23)
set_option maxHeartbeats 4000000 in
set_option maxRecDepth 100000 in
theorem w_X7_findRing {Γ : apC} {q : Nat → Nat} (G : apG Γ cX7_findRing 3 RX7 wsX7_findRing (apRm 2 0) apXM) {s : apM} {r : apM} (K : apR Γ cX7_findRing 0 0 none (apU layM q (apd Γ) r)) (h : m_X7_findRing s = some r) : apV Γ 3 (apU layM q (apd Γ) s) 0 0 0 [(0, .ref (q 0))] [] := by
  unfold m_X7_findRing at h
  refine v_aload_n G dX7_findRing_0 rfl 0 rfl ?_
  refine v_iconst (v := 0) G dX7_findRing_1 (by decide) ?_
  refine v_put (lay := layM) (k := 0) (C := RX7) (T := TX7) (N := 30) G (fun _ h => i_X7_findRing_X7 _ h) tyX7 tyX7_ok nmX7 rfl rfl 9 (by decide) (by decide +kernel) rfl rfl (by first | rfl | decide) (by first | rfl | decide) rfl dX7_findRing_2 ?_
  refine v_iconst (v := 0) G dX7_findRing_5 (by decide) ?_
  refine v_istore_n (L' := [(1, .int 0), (0, .ref (q 0))]) G dX7_findRing_6 rfl (by decide) rfl ?_
  obtain ⟨x20, e21, h⟩ := Option.bind_eq_some_iff.mp h
  refine v_locs (L' := [(0, .ref (q 0)), (1, .int 0)]) [1, 0] rfl ?_
  have l24 := v_lp (b := m_X7_findRing_L7) (I := fun x => apV Γ 3 (apU layM q (apd Γ) x.1) 0 0 7 [(0, .ref (q 0)), (1, .int x.2)] []) (O := fun x => apV Γ 3 (apU layM q (apd Γ) x.1) 0 0 89 [] []) (fun x r hb hK => by obtain ⟨ys, y1⟩ := x; rcases r with r | r <;> exact w_X7_findRing_L7 G hK hb) FU (mst s 0 9 0, 0) x20 e21
  obtain ⟨s23, v22⟩ := x20
  dsimp only at h
  refine l24 ?_
  cases h
  exact v_vret G K (by decide) (by decide) dX7_findRing_89
theorem c_X7_findRing (l : Launch) {s : apM} {r : apM} (h : m_X7_findRing s = some r) : apMv l layM apXM yX7_findRing wsX7_findRing 2 (fun q => [.ref (q 0)]) s r := apMv_of (cc := cX7_findRing) (nL := 3) (by decide) rfl (fun _ => Nat.le_of_ble_eq_true rfl) (fun Γ q hl G K => w_X7_findRing G K h)
theorem i_X7_isReady_X7 : ∀ w ∈ u_ws RX7 TX7 30, w ∈ wsX7_isReady := by decide +kernel
def m_X7_isReady_B44 (s : apM) (v1 : Int32) (v3 : Int32) (k0 : Int32) : Option ((Int32 × Int32) ⊕ (Int32 × Int32)) := some (.inl (k0, v3 + 1))
set_option maxHeartbeats 4000000 in
set_option maxRecDepth 100000 in
theorem w_X7_isReady_B44 {Γ : apC} {q : Nat → Nat} (G : apG Γ cX7_isReady 4 RX7 wsX7_isReady (apRm 1 0) apXM) {s : apM} {v1 v3 k0 : Int32} {r : ((Int32 × Int32) ⊕ (Int32 × Int32))} (K : match r with | .inl x => apV Γ 4 (apU layM q (apd Γ) s) 0 0 4 [(0, .ref (q 0)), (1, .int v1), (2, .int x.1), (3, .int x.2)] [] | .inr x => apV Γ 4 (apU layM q (apd Γ) s) 0 0 51 [(2, .int x.1)] []) (h : m_X7_isReady_B44 s v1 v3 k0 = some r) : apV Γ 4 (apU layM q (apd Γ) s) 0 0 44 [(0, .ref (q 0)), (1, .int v1), (3, .int v3)] [.int k0] := by
  unfold m_X7_isReady_B44 at h
  refine v_istore_n (L' := [(2, .int k0), (0, .ref (q 0)), (1, .int v1), (3, .int v3)]) G dX7_isReady_44 rfl (by decide) rfl ?_
  refine v_iinc (v := v3 + 1) (L' := [(3, .int (v3 + 1)), (2, .int k0), (0, .ref (q 0)), (1, .int v1)]) G dX7_isReady_45 3 rfl rfl (by decide) rfl ?_
  refine v_goto (tgt := 4) G dX7_isReady_48 (by decide) ?_
  cases h
  refine v_locs (L' := [(0, .ref (q 0)), (1, .int v1), (2, .int k0), (3, .int (v3 + 1))]) [2, 3, 1, 0] rfl ?_
  exact K
def m_X7_isReady_B43 (s : apM) (v1 : Int32) (v3 : Int32) : Option ((Int32 × Int32) ⊕ (Int32 × Int32)) := m_X7_isReady_B44 s v1 v3 0
set_option maxHeartbeats 4000000 in
set_option maxRecDepth 100000 in
theorem w_X7_isReady_B43 {Γ : apC} {q : Nat → Nat} (G : apG Γ cX7_isReady 4 RX7 wsX7_isReady (apRm 1 0) apXM) {s : apM} {v1 v3 : Int32} {r : ((Int32 × Int32) ⊕ (Int32 × Int32))} (K : match r with | .inl x => apV Γ 4 (apU layM q (apd Γ) s) 0 0 4 [(0, .ref (q 0)), (1, .int v1), (2, .int x.1), (3, .int x.2)] [] | .inr x => apV Γ 4 (apU layM q (apd Γ) s) 0 0 51 [(2, .int x.1)] []) (h : m_X7_isReady_B43 s v1 v3 = some r) : apV Γ 4 (apU layM q (apd Γ) s) 0 0 43 [(0, .ref (q 0)), (1, .int v1), (3, .int v3)] [] := by
  unfold m_X7_isReady_B43 at h
  refine v_iconst (v := 0) G dX7_isReady_43 (by decide) ?_
  exact w_X7_isReady_B44 G K h
def m_X7_isReady_L4 (s : apM) (v1 : Int32) : (Int32 × Int32) → Option ((Int32 × Int32) ⊕ (Int32 × Int32)) := fun (v2, v3) => Option.bind (ald s 1 12 v1) (fun t1 => if (m_X7_inputs t1) ≤ v3 then (some (.inr (v2, v3))) else (if v2 = 0 then (m_X7_isReady_B43 s v1 v3) else (Option.bind (ald s 4 24 ((2 * v1) + v3)) (fun t5 => Option.bind (ald s 16 12 t5) (fun t7 => if t7 = 0 then (m_X7_isReady_B43 s v1 v3) else (m_X7_isReady_B44 s v1 v3 1))))))
set_option maxHeartbeats 4000000 in
set_option maxRecDepth 100000 in
theorem w_X7_isReady_L4 {Γ : apC} {q : Nat → Nat} (G : apG Γ cX7_isReady 4 RX7 wsX7_isReady (apRm 1 0) apXM) {s : apM} {v1 v2 v3 : Int32} {r : ((Int32 × Int32) ⊕ (Int32 × Int32))} (K : match r with | .inl x => apV Γ 4 (apU layM q (apd Γ) s) 0 0 4 [(0, .ref (q 0)), (1, .int v1), (2, .int x.1), (3, .int x.2)] [] | .inr x => apV Γ 4 (apU layM q (apd Γ) s) 0 0 51 [(2, .int x.1)] []) (h : m_X7_isReady_L4 s v1 (v2, v3) = some r) : apV Γ 4 (apU layM q (apd Γ) s) 0 0 4 [(0, .ref (q 0)), (1, .int v1), (2, .int v2), (3, .int v3)] [] := by
  unfold m_X7_isReady_L4 at h
  dsimp only at h
  refine v_iload_n G dX7_isReady_4 rfl 3 rfl ?_
  refine v_aload_n G dX7_isReady_5 rfl 0 rfl ?_
  refine v_getr (lay := layM) (k := 0) (k' := 1) (C := RX7) (T := TX7) (N := 30) G (fun _ h => i_X7_isReady_X7 _ h) rfl rfl 2 (by decide) (by decide +kernel) rfl rfl dX7_isReady_6 ?_
  refine v_iload_n G dX7_isReady_9 rfl 1 rfl ?_
  obtain ⟨t1, e2, h⟩ := Option.bind_eq_some_iff.mp h
  refine v_iald (lay := layM) (k := 1) (n := 12) G rfl e2 dX7_isReady_10 ?_
  refine v_calliS (lay := layM) (As := [.int t1]) (st := [.int v3]) (n := 1) G apXMok (c_X7_inputs Γ.1.2.1 (s := s) rfl) gX7_isReady_X7_inputs rfl (by decide +kernel) (by decide) rfl rfl (Nat.le_of_ble_eq_true rfl) (by decide) rfl dX7_isReady_11 ?_
  refine v_icmp_ge (tgt := 51) G dX7_isReady_14 (by decide) (fun c3 => ?_) (fun c3 => ?_)
  · replace h := (if_pos c3).symm.trans h
    cases h
    refine v_locs (L' := [(2, .int v2)]) [2] rfl ?_
    exact K
  · replace h := (if_neg c3).symm.trans h
    refine v_iload_n G dX7_isReady_17 rfl 2 rfl ?_
    refine v_if_eq (tgt := 43) G dX7_isReady_18 (by decide) (fun c4 => ?_) (fun c4 => ?_)
    · replace h := (if_pos c4).symm.trans h
      refine v_locs (L' := [(0, .ref (q 0)), (1, .int v1), (3, .int v3)]) [0, 1, 3] rfl ?_
      exact w_X7_isReady_B43 G K h
    · replace h := (if_neg c4).symm.trans h
      refine v_aload_n G dX7_isReady_21 rfl 0 rfl ?_
      refine v_getr (lay := layM) (k := 0) (k' := 16) (C := RX7) (T := TX7) (N := 30) G (fun _ h => i_X7_isReady_X7 _ h) rfl rfl 23 (by decide) (by decide +kernel) rfl rfl dX7_isReady_22 ?_
      refine v_aload_n G dX7_isReady_25 rfl 0 rfl ?_
      refine v_getr (lay := layM) (k := 0) (k' := 4) (C := RX7) (T := TX7) (N := 30) G (fun _ h => i_X7_isReady_X7 _ h) rfl rfl 5 (by decide) (by decide +kernel) rfl rfl dX7_isReady_26 ?_
      refine v_iconst (v := 2) G dX7_isReady_29 (by decide) ?_
      refine v_iload_n G dX7_isReady_30 rfl 1 rfl ?_
      refine v_imul G dX7_isReady_31 ?_
      refine v_iload_n G dX7_isReady_32 rfl 3 rfl ?_
      refine v_iadd G dX7_isReady_33 ?_
      obtain ⟨t5, e6, h⟩ := Option.bind_eq_some_iff.mp h
      refine v_iald (lay := layM) (k := 4) (n := 24) G rfl e6 dX7_isReady_34 ?_
      obtain ⟨t7, e8, h⟩ := Option.bind_eq_some_iff.mp h
      refine v_zald (lay := layM) (k := 16) (n := 12) G rfl e8 dX7_isReady_35 ?_
      refine v_if_eq (tgt := 43) G dX7_isReady_36 (by decide) (fun c9 => ?_) (fun c9 => ?_)
      · replace h := (if_pos c9).symm.trans h
        refine v_locs (L' := [(0, .ref (q 0)), (1, .int v1), (3, .int v3)]) [0, 1, 3] rfl ?_
        exact w_X7_isReady_B43 G K h
      · replace h := (if_neg c9).symm.trans h
        refine v_iconst (v := 1) G dX7_isReady_39 (by decide) ?_
        refine v_goto (tgt := 44) G dX7_isReady_40 (by decide) ?_
        refine v_locs (L' := [(0, .ref (q 0)), (1, .int v1), (3, .int v3)]) [0, 1, 3] rfl ?_
        exact w_X7_isReady_B44 G K h
def m_X7_isReady (s : apM) (v1 : Int32) : Option Int32 := Option.bind (lp FU (m_X7_isReady_L4 s v1) (1, 0)) (fun x10 => match x10 with | (v12, v13) => Option.bind (bz v12) (fun t14 => some t14))
set_option maxHeartbeats 4000000 in
set_option maxRecDepth 100000 in
theorem w_X7_isReady {Γ : apC} {q : Nat → Nat} (G : apG Γ cX7_isReady 4 RX7 wsX7_isReady (apRm 1 0) apXM) {s : apM} {v1 : Int32} {r : Int32} (K : apR Γ cX7_isReady 0 0 (some r) (apU layM q (apd Γ) s)) (h : m_X7_isReady s v1 = some r) : apV Γ 4 (apU layM q (apd Γ) s) 0 0 0 [(0, .ref (q 0)), (1, .int v1)] [] := by
  unfold m_X7_isReady at h
  refine v_iconst (v := 1) G dX7_isReady_0 (by decide) ?_
  refine v_istore_n (L' := [(2, .int 1), (0, .ref (q 0)), (1, .int v1)]) G dX7_isReady_1 rfl (by decide) rfl ?_
  refine v_iconst (v := 0) G dX7_isReady_2 (by decide) ?_
  refine v_istore_n (L' := [(3, .int 0), (2, .int 1), (0, .ref (q 0)), (1, .int v1)]) G dX7_isReady_3 rfl (by decide) rfl ?_
  obtain ⟨x10, e11, h⟩ := Option.bind_eq_some_iff.mp h
  refine v_locs (L' := [(0, .ref (q 0)), (1, .int v1), (2, .int 1), (3, .int 0)]) [2, 3, 1, 0] rfl ?_
  have l16 := v_lp (b := m_X7_isReady_L4 s v1) (I := fun x => apV Γ 4 (apU layM q (apd Γ) s) 0 0 4 [(0, .ref (q 0)), (1, .int v1), (2, .int x.1), (3, .int x.2)] []) (O := fun x => apV Γ 4 (apU layM q (apd Γ) s) 0 0 51 [(2, .int x.1)] []) (fun x r hb hK => by obtain ⟨y2, y3⟩ := x; rcases r with r | r <;> exact w_X7_isReady_L4 G hK hb) FU (1, 0) x10 e11
  obtain ⟨v12, v13⟩ := x10
  dsimp only at h
  refine l16 ?_
  refine v_iload_n G dX7_isReady_51 rfl 0 rfl ?_
  obtain ⟨t14, e15, h⟩ := Option.bind_eq_some_iff.mp h
  obtain ⟨e15, -⟩ := bz_some e15
  subst e15
  cases h
  exact v_iret G K (by decide) (by decide) dX7_isReady_52
theorem z_X7_isReady {s : apM} {v1 : Int32} {r : Int32} (h : m_X7_isReady s v1 = some r) : r = 0 ∨ r = 1 := by
  unfold m_X7_isReady at h
  obtain ⟨x10, e11, h⟩ := Option.bind_eq_some_iff.mp h
  obtain ⟨v12, v13⟩ := x10
  dsimp only at h
  obtain ⟨t14, e15, h⟩ := Option.bind_eq_some_iff.mp h
  have e15 := (bz_some e15)
  cases h
  rw [← e15.1]; exact e15.2
theorem c_X7_isReady (l : Launch) {s : apM} {v1 : Int32} {r : Int32} (h : m_X7_isReady s v1 = some r) : apMi l layM apXM yX7_isReady wsX7_isReady 1 (fun q => [.ref (q 0), .int v1]) s r s := apMi_of (cc := cX7_isReady) (nL := 4) (r := r) (by decide) rfl (by rcases z_X7_isReady h with e | e <;> rw [e] <;> rfl) (fun _ => Nat.le_of_ble_eq_true rfl) (fun Γ q hl G K => w_X7_isReady G K h)
theorem i_X7_sizeOf_X7 : ∀ w ∈ u_ws RX7 TX7 30, w ∈ wsX7_sizeOf := by decide +kernel
def m_X7_sizeOf_B113 (s : apM) (v3 : Int32) (v4 : Int32) : Option Int32 := if v3 = v4 then (some v3) else (some (-1))
set_option maxHeartbeats 4000000 in
set_option maxRecDepth 100000 in
theorem w_X7_sizeOf_B113 {Γ : apC} {q : Nat → Nat} (G : apG Γ cX7_sizeOf 5 RX7 wsX7_sizeOf (apRm 1 0) apXM) {s : apM} {v3 v4 : Int32} {r : Int32} (K : apR Γ cX7_sizeOf 0 0 (some r) (apU layM q (apd Γ) s)) (h : m_X7_sizeOf_B113 s v3 v4 = some r) : apV Γ 5 (apU layM q (apd Γ) s) 0 0 113 [(3, .int v3), (4, .int v4)] [] := by
  unfold m_X7_sizeOf_B113 at h
  refine v_iload_n G dX7_sizeOf_113 rfl 0 rfl ?_
  refine v_iload G dX7_sizeOf_114 1 rfl ?_
  refine v_icmp_ne (tgt := 123) G dX7_sizeOf_116 (by decide) (fun c10 => ?_) (fun c10 => ?_)
  · replace h := (if_neg c10).symm.trans h
    refine v_iconst (v := (-1)) G dX7_sizeOf_123 (by decide) ?_
    cases h
    exact v_iret G K (by decide) (by decide) dX7_sizeOf_124
  · replace h := (if_pos c10).symm.trans h
    refine v_iload_n G dX7_sizeOf_119 rfl 0 rfl ?_
    refine v_goto (tgt := 124) G dX7_sizeOf_120 (by decide) ?_
    cases h
    exact v_iret G K (by decide) (by decide) dX7_sizeOf_124
def m_X7_sizeOf_B59 (s : apM) (v1 : Int32) (v2 : Int32) (v3 : Int32) (k0 : Int32) : Option Int32 := if v2 = 0 then (Option.bind (ald s 2 12 v1) (fun t6 => some t6)) else (if v2 = 1 then (some v3) else (if v2 = 2 then (m_X7_sizeOf_B113 s v3 k0) else (if v2 = 3 then (m_X7_sizeOf_B113 s v3 k0) else (if v2 = 4 then (if (v3 + k0) ≤ 40 then (some (v3 + k0)) else (some (-1))) else (if v2 = 5 then (Option.bind (ald s 2 12 v1) (fun t15 => Option.bind (ald s 3 12 v1) (fun t17 => if (t15 + t17) ≤ v3 then (Option.bind (ald s 3 12 v1) (fun t20 => some t20)) else (some (-1))))) else (if v2 = 6 then (some 1) else (if v3 = 1 then (Option.bind (ald s 2 12 v1) (fun t24 => some t24)) else (some (-1)))))))))
set_option maxHeartbeats 4000000 in
set_option maxRecDepth 100000 in
theorem w_X7_sizeOf_B59 {Γ : apC} {q : Nat → Nat} (G : apG Γ cX7_sizeOf 5 RX7 wsX7_sizeOf (apRm 1 0) apXM) {s : apM} {v1 v2 v3 k0 : Int32} {r : Int32} (K : apR Γ cX7_sizeOf 0 0 (some r) (apU layM q (apd Γ) s)) (h : m_X7_sizeOf_B59 s v1 v2 v3 k0 = some r) : apV Γ 5 (apU layM q (apd Γ) s) 0 0 59 [(0, .ref (q 0)), (1, .int v1), (2, .int v2), (3, .int v3)] [.int k0] := by
  unfold m_X7_sizeOf_B59 at h
  refine v_istore (L' := [(4, .int k0), (0, .ref (q 0)), (1, .int v1), (2, .int v2), (3, .int v3)]) G dX7_sizeOf_59 (by decide) rfl ?_
  refine v_iload_n G dX7_sizeOf_61 rfl 3 rfl ?_
  by_cases c5 : v2 = 0
  · replace h := (if_pos c5).symm.trans h
    refine v_tableI (c := 0) (tgt := 104) G dX7_sizeOf_62 c5 (by decide) (by decide) rfl (by decide) ?_
    refine v_aload_n G dX7_sizeOf_104 rfl 1 rfl ?_
    refine v_getr (lay := layM) (k := 0) (k' := 2) (C := RX7) (T := TX7) (N := 30) G (fun _ h => i_X7_sizeOf_X7 _ h) rfl rfl 3 (by decide) (by decide +kernel) rfl rfl dX7_sizeOf_105 ?_
    refine v_iload_n G dX7_sizeOf_108 rfl 2 rfl ?_
    obtain ⟨t6, e7, h⟩ := Option.bind_eq_some_iff.mp h
    refine v_iald (lay := layM) (k := 2) (n := 12) G rfl e7 dX7_sizeOf_109 ?_
    cases h
    exact v_iret G K (by decide) (by decide) dX7_sizeOf_110
  · replace h := (if_neg c5).symm.trans h
    by_cases c8 : v2 = 1
    · replace h := (if_pos c8).symm.trans h
      refine v_tableI (c := 1) (tgt := 111) G dX7_sizeOf_62 c8 (by decide) (by decide) rfl (by decide) ?_
      refine v_iload_n G dX7_sizeOf_111 rfl 4 rfl ?_
      cases h
      exact v_iret G K (by decide) (by decide) dX7_sizeOf_112
    · replace h := (if_neg c8).symm.trans h
      by_cases c9 : v2 = 2
      · replace h := (if_pos c9).symm.trans h
        refine v_tableI (c := 2) (tgt := 113) G dX7_sizeOf_62 c9 (by decide) (by decide) rfl (by decide) ?_
        refine v_locs (L' := [(3, .int v3), (4, .int k0)]) [4, 0] rfl ?_
        exact w_X7_sizeOf_B113 G K h
      · replace h := (if_neg c9).symm.trans h
        by_cases c11 : v2 = 3
        · replace h := (if_pos c11).symm.trans h
          refine v_tableI (c := 3) (tgt := 113) G dX7_sizeOf_62 c11 (by decide) (by decide) rfl (by decide) ?_
          refine v_locs (L' := [(3, .int v3), (4, .int k0)]) [4, 0] rfl ?_
          exact w_X7_sizeOf_B113 G K h
        · replace h := (if_neg c11).symm.trans h
          by_cases c12 : v2 = 4
          · replace h := (if_pos c12).symm.trans h
            refine v_tableI (c := 4) (tgt := 125) G dX7_sizeOf_62 c12 (by decide) (by decide) rfl (by decide) ?_
            refine v_iload_n G dX7_sizeOf_125 rfl 4 rfl ?_
            refine v_iload G dX7_sizeOf_126 0 rfl ?_
            refine v_iadd G dX7_sizeOf_128 ?_
            refine v_bipush (v := 40) G dX7_sizeOf_129 (by decide) ?_
            refine v_icmp_le (tgt := 138) G dX7_sizeOf_131 (by decide) (fun c13 => ?_) (fun c13 => ?_)
            · replace h := (if_pos c13).symm.trans h
              refine v_iload_n G dX7_sizeOf_138 rfl 4 rfl ?_
              refine v_iload G dX7_sizeOf_139 0 rfl ?_
              refine v_iadd G dX7_sizeOf_141 ?_
              cases h
              exact v_iret G K (by decide) (by decide) dX7_sizeOf_142
            · replace h := (if_neg c13).symm.trans h
              refine v_iconst (v := (-1)) G dX7_sizeOf_134 (by decide) ?_
              refine v_goto (tgt := 142) G dX7_sizeOf_135 (by decide) ?_
              cases h
              exact v_iret G K (by decide) (by decide) dX7_sizeOf_142
          · replace h := (if_neg c12).symm.trans h
            by_cases c14 : v2 = 5
            · replace h := (if_pos c14).symm.trans h
              refine v_tableI (c := 5) (tgt := 143) G dX7_sizeOf_62 c14 (by decide) (by decide) rfl (by decide) ?_
              refine v_aload_n G dX7_sizeOf_143 rfl 1 rfl ?_
              refine v_getr (lay := layM) (k := 0) (k' := 2) (C := RX7) (T := TX7) (N := 30) G (fun _ h => i_X7_sizeOf_X7 _ h) rfl rfl 3 (by decide) (by decide +kernel) rfl rfl dX7_sizeOf_144 ?_
              refine v_iload_n G dX7_sizeOf_147 rfl 2 rfl ?_
              obtain ⟨t15, e16, h⟩ := Option.bind_eq_some_iff.mp h
              refine v_iald (lay := layM) (k := 2) (n := 12) G rfl e16 dX7_sizeOf_148 ?_
              refine v_aload_n G dX7_sizeOf_149 rfl 1 rfl ?_
              refine v_getr (lay := layM) (k := 0) (k' := 3) (C := RX7) (T := TX7) (N := 30) G (fun _ h => i_X7_sizeOf_X7 _ h) rfl rfl 4 (by decide) (by decide +kernel) rfl rfl dX7_sizeOf_150 ?_
              refine v_iload_n G dX7_sizeOf_153 rfl 2 rfl ?_
              obtain ⟨t17, e18, h⟩ := Option.bind_eq_some_iff.mp h
              refine v_iald (lay := layM) (k := 3) (n := 12) G rfl e18 dX7_sizeOf_154 ?_
              refine v_iadd G dX7_sizeOf_155 ?_
              refine v_iload_n G dX7_sizeOf_156 rfl 4 rfl ?_
              refine v_icmp_le (tgt := 164) G dX7_sizeOf_157 (by decide) (fun c19 => ?_) (fun c19 => ?_)
              · replace h := (if_pos c19).symm.trans h
                refine v_aload_n G dX7_sizeOf_164 rfl 1 rfl ?_
                refine v_getr (lay := layM) (k := 0) (k' := 3) (C := RX7) (T := TX7) (N := 30) G (fun _ h => i_X7_sizeOf_X7 _ h) rfl rfl 4 (by decide) (by decide +kernel) rfl rfl dX7_sizeOf_165 ?_
                refine v_iload_n G dX7_sizeOf_168 rfl 2 rfl ?_
                obtain ⟨t20, e21, h⟩ := Option.bind_eq_some_iff.mp h
                refine v_iald (lay := layM) (k := 3) (n := 12) G rfl e21 dX7_sizeOf_169 ?_
                cases h
                exact v_iret G K (by decide) (by decide) dX7_sizeOf_170
              · replace h := (if_neg c19).symm.trans h
                refine v_iconst (v := (-1)) G dX7_sizeOf_160 (by decide) ?_
                refine v_goto (tgt := 170) G dX7_sizeOf_161 (by decide) ?_
                cases h
                exact v_iret G K (by decide) (by decide) dX7_sizeOf_170
            · replace h := (if_neg c14).symm.trans h
              by_cases c22 : v2 = 6
              · replace h := (if_pos c22).symm.trans h
                refine v_tableI (c := 6) (tgt := 171) G dX7_sizeOf_62 c22 (by decide) (by decide) rfl (by decide) ?_
                refine v_iconst (v := 1) G dX7_sizeOf_171 (by decide) ?_
                cases h
                exact v_iret G K (by decide) (by decide) dX7_sizeOf_172
              · replace h := (if_neg c22).symm.trans h
                refine v_tableOut (tgt := 173) G dX7_sizeOf_62 (by have a0 := lv_neT c5 (show (0 : Int32).toInt = 0 by decide); have a1 := lv_neT c8 (show (1 : Int32).toInt = 1 by decide); have a2 := lv_neT c9 (show (2 : Int32).toInt = 2 by decide); have a3 := lv_neT c11 (show (3 : Int32).toInt = 3 by decide); have a4 := lv_neT c12 (show (4 : Int32).toInt = 4 by decide); have a5 := lv_neT c14 (show (5 : Int32).toInt = 5 by decide); have a6 := lv_neT c22 (show (6 : Int32).toInt = 6 by decide); omega) (by decide) ?_
                refine v_iload_n G dX7_sizeOf_173 rfl 4 rfl ?_
                refine v_iconst (v := 1) G dX7_sizeOf_174 (by decide) ?_
                refine v_icmp_ne (tgt := 187) G dX7_sizeOf_175 (by decide) (fun c23 => ?_) (fun c23 => ?_)
                · replace h := (if_neg c23).symm.trans h
                  refine v_iconst (v := (-1)) G dX7_sizeOf_187 (by decide) ?_
                  cases h
                  exact v_iret G K (by decide) (by decide) dX7_sizeOf_188
                · replace h := (if_pos c23).symm.trans h
                  refine v_aload_n G dX7_sizeOf_178 rfl 1 rfl ?_
                  refine v_getr (lay := layM) (k := 0) (k' := 2) (C := RX7) (T := TX7) (N := 30) G (fun _ h => i_X7_sizeOf_X7 _ h) rfl rfl 3 (by decide) (by decide +kernel) rfl rfl dX7_sizeOf_179 ?_
                  refine v_iload_n G dX7_sizeOf_182 rfl 2 rfl ?_
                  obtain ⟨t24, e25, h⟩ := Option.bind_eq_some_iff.mp h
                  refine v_iald (lay := layM) (k := 2) (n := 12) G rfl e25 dX7_sizeOf_183 ?_
                  refine v_goto (tgt := 188) G dX7_sizeOf_184 (by decide) ?_
                  cases h
                  exact v_iret G K (by decide) (by decide) dX7_sizeOf_188
def m_X7_sizeOf_B31 (s : apM) (v1 : Int32) (v2 : Int32) (k0 : Int32) : Option Int32 := if (m_X7_inputs v2) ≤ 1 then (m_X7_sizeOf_B59 s v1 v2 k0 0) else (Option.bind (ald s 4 24 ((2 * v1) + 1)) (fun t26 => Option.bind (ald s 15 12 t26) (fun t28 => m_X7_sizeOf_B59 s v1 v2 k0 t28)))
set_option maxHeartbeats 4000000 in
set_option maxRecDepth 100000 in
theorem w_X7_sizeOf_B31 {Γ : apC} {q : Nat → Nat} (G : apG Γ cX7_sizeOf 5 RX7 wsX7_sizeOf (apRm 1 0) apXM) {s : apM} {v1 v2 k0 : Int32} {r : Int32} (K : apR Γ cX7_sizeOf 0 0 (some r) (apU layM q (apd Γ) s)) (h : m_X7_sizeOf_B31 s v1 v2 k0 = some r) : apV Γ 5 (apU layM q (apd Γ) s) 0 0 31 [(0, .ref (q 0)), (1, .int v1), (2, .int v2)] [.int k0] := by
  unfold m_X7_sizeOf_B31 at h
  refine v_istore_n (L' := [(3, .int k0), (0, .ref (q 0)), (1, .int v1), (2, .int v2)]) G dX7_sizeOf_31 rfl (by decide) rfl ?_
  refine v_iload_n G dX7_sizeOf_32 rfl 3 rfl ?_
  refine v_calliS (lay := layM) (As := [.int v2]) (st := []) (n := 1) G apXMok (c_X7_inputs Γ.1.2.1 (s := s) rfl) gX7_sizeOf_X7_inputs rfl (by decide +kernel) (by decide) rfl rfl (Nat.le_of_ble_eq_true rfl) (by decide) rfl dX7_sizeOf_33 ?_
  refine v_iconst (v := 1) G dX7_sizeOf_36 (by decide) ?_
  refine v_icmp_le (tgt := 58) G dX7_sizeOf_37 (by decide) (fun c4 => ?_) (fun c4 => ?_)
  · replace h := (if_pos c4).symm.trans h
    refine v_iconst (v := 0) G dX7_sizeOf_58 (by decide) ?_
    refine v_locs (L' := [(0, .ref (q 0)), (1, .int v1), (2, .int v2), (3, .int k0)]) [1, 2, 3, 0] rfl ?_
    exact w_X7_sizeOf_B59 G K h
  · replace h := (if_neg c4).symm.trans h
    refine v_aload_n G dX7_sizeOf_40 rfl 1 rfl ?_
    refine v_getr (lay := layM) (k := 0) (k' := 15) (C := RX7) (T := TX7) (N := 30) G (fun _ h => i_X7_sizeOf_X7 _ h) rfl rfl 22 (by decide) (by decide +kernel) rfl rfl dX7_sizeOf_41 ?_
    refine v_aload_n G dX7_sizeOf_44 rfl 1 rfl ?_
    refine v_getr (lay := layM) (k := 0) (k' := 4) (C := RX7) (T := TX7) (N := 30) G (fun _ h => i_X7_sizeOf_X7 _ h) rfl rfl 5 (by decide) (by decide +kernel) rfl rfl dX7_sizeOf_45 ?_
    refine v_iconst (v := 2) G dX7_sizeOf_48 (by decide) ?_
    refine v_iload_n G dX7_sizeOf_49 rfl 2 rfl ?_
    refine v_imul G dX7_sizeOf_50 ?_
    refine v_iconst (v := 1) G dX7_sizeOf_51 (by decide) ?_
    refine v_iadd G dX7_sizeOf_52 ?_
    obtain ⟨t26, e27, h⟩ := Option.bind_eq_some_iff.mp h
    refine v_iald (lay := layM) (k := 4) (n := 24) G rfl e27 dX7_sizeOf_53 ?_
    obtain ⟨t28, e29, h⟩ := Option.bind_eq_some_iff.mp h
    refine v_iald (lay := layM) (k := 15) (n := 12) G rfl e29 dX7_sizeOf_54 ?_
    refine v_goto (tgt := 59) G dX7_sizeOf_55 (by decide) ?_
    refine v_locs (L' := [(0, .ref (q 0)), (1, .int v1), (2, .int v2), (3, .int k0)]) [1, 2, 3, 0] rfl ?_
    exact w_X7_sizeOf_B59 G K h
def m_X7_sizeOf (s : apM) (v1 : Int32) : Option Int32 := Option.bind (ald s 1 12 v1) (fun t1 => if (m_X7_inputs t1) ≤ 0 then (m_X7_sizeOf_B31 s v1 t1 0) else (Option.bind (ald s 4 24 (2 * v1)) (fun t30 => Option.bind (ald s 15 12 t30) (fun t32 => m_X7_sizeOf_B31 s v1 t1 t32))))
set_option maxHeartbeats 4000000 in
set_option maxRecDepth 100000 in
theorem w_X7_sizeOf {Γ : apC} {q : Nat → Nat} (G : apG Γ cX7_sizeOf 5 RX7 wsX7_sizeOf (apRm 1 0) apXM) {s : apM} {v1 : Int32} {r : Int32} (K : apR Γ cX7_sizeOf 0 0 (some r) (apU layM q (apd Γ) s)) (h : m_X7_sizeOf s v1 = some r) : apV Γ 5 (apU layM q (apd Γ) s) 0 0 0 [(0, .ref (q 0)), (1, .int v1)] [] := by
  unfold m_X7_sizeOf at h
  refine v_aload_n G dX7_sizeOf_0 rfl 0 rfl ?_
  refine v_getr (lay := layM) (k := 0) (k' := 1) (C := RX7) (T := TX7) (N := 30) G (fun _ h => i_X7_sizeOf_X7 _ h) rfl rfl 2 (by decide) (by decide +kernel) rfl rfl dX7_sizeOf_1 ?_
  refine v_iload_n G dX7_sizeOf_4 rfl 1 rfl ?_
  obtain ⟨t1, e2, h⟩ := Option.bind_eq_some_iff.mp h
  refine v_iald (lay := layM) (k := 1) (n := 12) G rfl e2 dX7_sizeOf_5 ?_
  refine v_istore_n (L' := [(2, .int t1), (0, .ref (q 0)), (1, .int v1)]) G dX7_sizeOf_6 rfl (by decide) rfl ?_
  refine v_iload_n G dX7_sizeOf_7 rfl 0 rfl ?_
  refine v_calliS (lay := layM) (As := [.int t1]) (st := []) (n := 1) G apXMok (c_X7_inputs Γ.1.2.1 (s := s) rfl) gX7_sizeOf_X7_inputs rfl (by decide +kernel) (by decide) rfl rfl (Nat.le_of_ble_eq_true rfl) (by decide) rfl dX7_sizeOf_8 ?_
  refine v_if_le (tgt := 30) G dX7_sizeOf_11 (by decide) (fun c3 => ?_) (fun c3 => ?_)
  · replace h := (if_pos c3).symm.trans h
    refine v_iconst (v := 0) G dX7_sizeOf_30 (by decide) ?_
    refine v_locs (L' := [(0, .ref (q 0)), (1, .int v1), (2, .int t1)]) [1, 2, 0] rfl ?_
    exact w_X7_sizeOf_B31 G K h
  · replace h := (if_neg c3).symm.trans h
    refine v_aload_n G dX7_sizeOf_14 rfl 1 rfl ?_
    refine v_getr (lay := layM) (k := 0) (k' := 15) (C := RX7) (T := TX7) (N := 30) G (fun _ h => i_X7_sizeOf_X7 _ h) rfl rfl 22 (by decide) (by decide +kernel) rfl rfl dX7_sizeOf_15 ?_
    refine v_aload_n G dX7_sizeOf_18 rfl 1 rfl ?_
    refine v_getr (lay := layM) (k := 0) (k' := 4) (C := RX7) (T := TX7) (N := 30) G (fun _ h => i_X7_sizeOf_X7 _ h) rfl rfl 5 (by decide) (by decide +kernel) rfl rfl dX7_sizeOf_19 ?_
    refine v_iconst (v := 2) G dX7_sizeOf_22 (by decide) ?_
    refine v_iload_n G dX7_sizeOf_23 rfl 2 rfl ?_
    refine v_imul G dX7_sizeOf_24 ?_
    obtain ⟨t30, e31, h⟩ := Option.bind_eq_some_iff.mp h
    refine v_iald (lay := layM) (k := 4) (n := 24) G rfl e31 dX7_sizeOf_25 ?_
    obtain ⟨t32, e33, h⟩ := Option.bind_eq_some_iff.mp h
    refine v_iald (lay := layM) (k := 15) (n := 12) G rfl e33 dX7_sizeOf_26 ?_
    refine v_goto (tgt := 31) G dX7_sizeOf_27 (by decide) ?_
    refine v_locs (L' := [(0, .ref (q 0)), (1, .int v1), (2, .int t1)]) [1, 2, 0] rfl ?_
    exact w_X7_sizeOf_B31 G K h
theorem c_X7_sizeOf (l : Launch) {s : apM} {v1 : Int32} {r : Int32} (h : m_X7_sizeOf s v1 = some r) : apMi l layM apXM yX7_sizeOf wsX7_sizeOf 1 (fun q => [.ref (q 0), .int v1]) s r s := apMi_of (cc := cX7_sizeOf) (nL := 5) (r := r) (by decide) rfl rfl (fun _ => Nat.le_of_ble_eq_true rfl) (fun Γ q hl G K => w_X7_sizeOf G K h)
theorem i_X7_findSizes_X7 : ∀ w ∈ u_ws RX7 TX7 30, w ∈ wsX7_findSizes := by decide +kernel
def m_X7_findSizes_L2  : (apM × Int32) → Option ((apM × Int32) ⊕ (apM × Int32)) := fun (s0, v1) => if (s0 0 1) ≤ v1 then (some (.inr (s0, v1))) else (Option.bind (ast s0 16 12 v1 (vp_nar .boolean 0)) (fun s2 => some (.inl (s2, v1 + 1))))
set_option maxHeartbeats 4000000 in
set_option maxRecDepth 100000 in
theorem w_X7_findSizes_L2 {Γ : apC} {q : Nat → Nat} (G : apG Γ cX7_findSizes 3 RX7 wsX7_findSizes (apRm 2 0) apXM) {s0 : apM} {v1 : Int32} {r : ((apM × Int32) ⊕ (apM × Int32))} (K : match r with | .inl x => apV Γ 3 (apU layM q (apd Γ) x.1) 0 0 2 [(0, .ref (q 0)), (1, .int x.2)] [] | .inr x => apV Γ 3 (apU layM q (apd Γ) x.1) 0 0 23 [(0, .ref (q 0))] []) (h : m_X7_findSizes_L2 (s0, v1) = some r) : apV Γ 3 (apU layM q (apd Γ) s0) 0 0 2 [(0, .ref (q 0)), (1, .int v1)] [] := by
  unfold m_X7_findSizes_L2 at h
  dsimp only at h
  refine v_iload_n G dX7_findSizes_2 rfl 1 rfl ?_
  refine v_aload_n G dX7_findSizes_3 rfl 0 rfl ?_
  refine v_geti (lay := layM) (k := 0) (C := RX7) (T := TX7) (N := 30) G (fun _ h => i_X7_findSizes_X7 _ h) rfl rfl 1 (by decide) (by decide +kernel) rfl rfl dX7_findSizes_4 ?_
  refine v_icmp_ge (tgt := 23) G dX7_findSizes_7 (by decide) (fun c1 => ?_) (fun c1 => ?_)
  · replace h := (if_pos c1).symm.trans h
    cases h
    refine v_locs (L' := [(0, .ref (q 0))]) [0] rfl ?_
    exact K
  · replace h := (if_neg c1).symm.trans h
    refine v_aload_n G dX7_findSizes_10 rfl 0 rfl ?_
    refine v_getr (lay := layM) (k := 0) (k' := 16) (C := RX7) (T := TX7) (N := 30) G (fun _ h => i_X7_findSizes_X7 _ h) rfl rfl 23 (by decide) (by decide +kernel) rfl rfl dX7_findSizes_11 ?_
    refine v_iload_n G dX7_findSizes_14 rfl 1 rfl ?_
    refine v_iconst (v := 0) G dX7_findSizes_15 (by decide) ?_
    obtain ⟨s2, e3, h⟩ := Option.bind_eq_some_iff.mp h
    refine v_zast (lay := layM) (k := 16) (n := 12) G rfl e3 dX7_findSizes_16 ?_
    refine v_iinc (v := v1 + 1) (L' := [(1, .int (v1 + 1)), (0, .ref (q 0))]) G dX7_findSizes_17 1 rfl rfl (by decide) rfl ?_
    refine v_goto (tgt := 2) G dX7_findSizes_20 (by decide) ?_
    cases h
    refine v_locs (L' := [(0, .ref (q 0)), (1, .int (v1 + 1))]) [1, 0] rfl ?_
    exact K
def m_X7_findSizes_L35 (v1 : Int32) : (apM × Int32) → Option ((apM × Int32) ⊕ ((Int32 × apM) ⊕ (apM × Int32))) := fun (s0, v2) => if (s0 0 1) ≤ v2 then (some (.inr (.inr (s0, v2)))) else (Option.bind (ald s0 16 12 v2) (fun t10 => if t10 = 0 then (Option.bind (m_X7_isReady s0 v2) (fun t13 => if t13 = 0 then (some (.inl (s0, v2 + 1))) else (Option.bind (m_X7_sizeOf s0 v2) (fun t16 => Option.bind (ast s0 15 12 v2 t16) (fun s18 => Option.bind (ald s18 15 12 v2) (fun t20 => if 0 ≤ t20 then (Option.bind (ast s18 16 12 v2 (vp_nar .boolean 1)) (fun s23 => some (.inl (s23, v2 + 1)))) else (some (.inr (.inl (0, s18)))))))))) else (some (.inl (s0, v2 + 1)))))
set_option maxHeartbeats 4000000 in
set_option maxRecDepth 100000 in
theorem w_X7_findSizes_L35 {Γ : apC} {q : Nat → Nat} (G : apG Γ cX7_findSizes 3 RX7 wsX7_findSizes (apRm 2 0) apXM) {s0 : apM} {v1 v2 : Int32} {r : ((apM × Int32) ⊕ ((Int32 × apM) ⊕ (apM × Int32)))} (K : match r with | .inl x => apV Γ 3 (apU layM q (apd Γ) x.1) 0 0 35 [(0, .ref (q 0)), (1, .int v1), (2, .int x.2)] [] | .inr (.inl r) => apR Γ cX7_findSizes 0 0 (some r.1) (apU layM q (apd Γ) r.2) | .inr (.inr x) => apV Γ 3 (apU layM q (apd Γ) x.1) 0 0 95 [(0, .ref (q 0)), (1, .int v1)] []) (h : m_X7_findSizes_L35 v1 (s0, v2) = some r) : apV Γ 3 (apU layM q (apd Γ) s0) 0 0 35 [(0, .ref (q 0)), (1, .int v1), (2, .int v2)] [] := by
  unfold m_X7_findSizes_L35 at h
  dsimp only at h
  refine v_iload_n G dX7_findSizes_35 rfl 2 rfl ?_
  refine v_aload_n G dX7_findSizes_36 rfl 0 rfl ?_
  refine v_geti (lay := layM) (k := 0) (C := RX7) (T := TX7) (N := 30) G (fun _ h => i_X7_findSizes_X7 _ h) rfl rfl 1 (by decide) (by decide +kernel) rfl rfl dX7_findSizes_37 ?_
  refine v_icmp_ge (tgt := 95) G dX7_findSizes_40 (by decide) (fun c9 => ?_) (fun c9 => ?_)
  · replace h := (if_pos c9).symm.trans h
    cases h
    refine v_locs (L' := [(0, .ref (q 0)), (1, .int v1)]) [0, 1] rfl ?_
    exact K
  · replace h := (if_neg c9).symm.trans h
    refine v_aload_n G dX7_findSizes_43 rfl 0 rfl ?_
    refine v_getr (lay := layM) (k := 0) (k' := 16) (C := RX7) (T := TX7) (N := 30) G (fun _ h => i_X7_findSizes_X7 _ h) rfl rfl 23 (by decide) (by decide +kernel) rfl rfl dX7_findSizes_44 ?_
    refine v_iload_n G dX7_findSizes_47 rfl 2 rfl ?_
    obtain ⟨t10, e11, h⟩ := Option.bind_eq_some_iff.mp h
    refine v_zald (lay := layM) (k := 16) (n := 12) G rfl e11 dX7_findSizes_48 ?_
    refine v_if_ne (tgt := 89) G dX7_findSizes_49 (by decide) (fun c12 => ?_) (fun c12 => ?_)
    · replace h := (if_neg c12).symm.trans h
      refine v_iinc (v := v2 + 1) (L' := [(2, .int (v2 + 1)), (0, .ref (q 0)), (1, .int v1)]) G dX7_findSizes_89 2 rfl rfl (by decide) rfl ?_
      refine v_goto (tgt := 35) G dX7_findSizes_92 (by decide) ?_
      cases h
      refine v_locs (L' := [(0, .ref (q 0)), (1, .int v1), (2, .int (v2 + 1))]) [1, 2, 0] rfl ?_
      exact K
    · replace h := (if_pos c12).symm.trans h
      refine v_aload_n G dX7_findSizes_52 rfl 0 rfl ?_
      refine v_iload_n G dX7_findSizes_53 rfl 2 rfl ?_
      obtain ⟨t13, e14, h⟩ := Option.bind_eq_some_iff.mp h
      refine v_calliV (lay := layM) (As := [.int v2]) (st := []) (n := 1) (C := RX7) (T := TX7) (k0 := 0) G apXMok (c_X7_isReady Γ.1.2.1 e14) gX7_findSizes_X7_isReady rfl (by decide +kernel) (by decide) rfl rfl rfl rfl (Nat.le_of_ble_eq_true rfl) (by decide) rfl dX7_findSizes_54 ?_
      refine v_if_eq (tgt := 89) G dX7_findSizes_57 (by decide) (fun c15 => ?_) (fun c15 => ?_)
      · replace h := (if_pos c15).symm.trans h
        refine v_iinc (v := v2 + 1) (L' := [(2, .int (v2 + 1)), (0, .ref (q 0)), (1, .int v1)]) G dX7_findSizes_89 2 rfl rfl (by decide) rfl ?_
        refine v_goto (tgt := 35) G dX7_findSizes_92 (by decide) ?_
        cases h
        refine v_locs (L' := [(0, .ref (q 0)), (1, .int v1), (2, .int (v2 + 1))]) [1, 2, 0] rfl ?_
        exact K
      · replace h := (if_neg c15).symm.trans h
        refine v_aload_n G dX7_findSizes_60 rfl 0 rfl ?_
        refine v_getr (lay := layM) (k := 0) (k' := 15) (C := RX7) (T := TX7) (N := 30) G (fun _ h => i_X7_findSizes_X7 _ h) rfl rfl 22 (by decide) (by decide +kernel) rfl rfl dX7_findSizes_61 ?_
        refine v_iload_n G dX7_findSizes_64 rfl 2 rfl ?_
        refine v_aload_n G dX7_findSizes_65 rfl 0 rfl ?_
        refine v_iload_n G dX7_findSizes_66 rfl 2 rfl ?_
        obtain ⟨t16, e17, h⟩ := Option.bind_eq_some_iff.mp h
        refine v_calliV (lay := layM) (As := [.int v2]) (st := [.int v2, .ref (q 15)]) (n := 1) (C := RX7) (T := TX7) (k0 := 0) G apXMok (c_X7_sizeOf Γ.1.2.1 e17) gX7_findSizes_X7_sizeOf rfl (by decide +kernel) (by decide) rfl rfl rfl rfl (Nat.le_of_ble_eq_true rfl) (by decide) rfl dX7_findSizes_67 ?_
        obtain ⟨s18, e19, h⟩ := Option.bind_eq_some_iff.mp h
        refine v_iast (lay := layM) (k := 15) (n := 12) G rfl e19 dX7_findSizes_70 ?_
        refine v_aload_n G dX7_findSizes_71 rfl 0 rfl ?_
        refine v_getr (lay := layM) (k := 0) (k' := 15) (C := RX7) (T := TX7) (N := 30) G (fun _ h => i_X7_findSizes_X7 _ h) rfl rfl 22 (by decide) (by decide +kernel) rfl rfl dX7_findSizes_72 ?_
        refine v_iload_n G dX7_findSizes_75 rfl 2 rfl ?_
        obtain ⟨t20, e21, h⟩ := Option.bind_eq_some_iff.mp h
        refine v_iald (lay := layM) (k := 15) (n := 12) G rfl e21 dX7_findSizes_76 ?_
        refine v_if_ge (tgt := 82) G dX7_findSizes_77 (by decide) (fun c22 => ?_) (fun c22 => ?_)
        · replace h := (if_pos c22).symm.trans h
          refine v_aload_n G dX7_findSizes_82 rfl 0 rfl ?_
          refine v_getr (lay := layM) (k := 0) (k' := 16) (C := RX7) (T := TX7) (N := 30) G (fun _ h => i_X7_findSizes_X7 _ h) rfl rfl 23 (by decide) (by decide +kernel) rfl rfl dX7_findSizes_83 ?_
          refine v_iload_n G dX7_findSizes_86 rfl 2 rfl ?_
          refine v_iconst (v := 1) G dX7_findSizes_87 (by decide) ?_
          obtain ⟨s23, e24, h⟩ := Option.bind_eq_some_iff.mp h
          refine v_zast (lay := layM) (k := 16) (n := 12) G rfl e24 dX7_findSizes_88 ?_
          refine v_iinc (v := v2 + 1) (L' := [(2, .int (v2 + 1)), (0, .ref (q 0)), (1, .int v1)]) G dX7_findSizes_89 2 rfl rfl (by decide) rfl ?_
          refine v_goto (tgt := 35) G dX7_findSizes_92 (by decide) ?_
          cases h
          refine v_locs (L' := [(0, .ref (q 0)), (1, .int v1), (2, .int (v2 + 1))]) [1, 2, 0] rfl ?_
          exact K
        · replace h := (if_neg c22).symm.trans h
          refine v_iconst (v := 0) G dX7_findSizes_80 (by decide) ?_
          cases h
          exact v_iret G K (by decide) (by decide) dX7_findSizes_81
def m_X7_findSizes_L25  : (apM × Int32) → Option ((apM × Int32) ⊕ ((Int32 × apM) ⊕ (apM × Int32))) := fun (s0, v1) => if (s0 0 1) ≤ v1 then (some (.inr (.inr (s0, v1)))) else (Option.bind (lp FU (m_X7_findSizes_L35 v1) (s0, 0)) (fun x25 => match x25 with | .inl r30 => some (.inr (.inl r30)) | .inr (s28, v27) => some (.inl (s28, v1 + 1))))
set_option maxHeartbeats 4000000 in
set_option maxRecDepth 100000 in
theorem w_X7_findSizes_L25 {Γ : apC} {q : Nat → Nat} (G : apG Γ cX7_findSizes 3 RX7 wsX7_findSizes (apRm 2 0) apXM) {s0 : apM} {v1 : Int32} {r : ((apM × Int32) ⊕ ((Int32 × apM) ⊕ (apM × Int32)))} (K : match r with | .inl x => apV Γ 3 (apU layM q (apd Γ) x.1) 0 0 25 [(0, .ref (q 0)), (1, .int x.2)] [] | .inr (.inl r) => apR Γ cX7_findSizes 0 0 (some r.1) (apU layM q (apd Γ) r.2) | .inr (.inr x) => apV Γ 3 (apU layM q (apd Γ) x.1) 0 0 101 [] []) (h : m_X7_findSizes_L25 (s0, v1) = some r) : apV Γ 3 (apU layM q (apd Γ) s0) 0 0 25 [(0, .ref (q 0)), (1, .int v1)] [] := by
  unfold m_X7_findSizes_L25 at h
  dsimp only at h
  refine v_iload_n G dX7_findSizes_25 rfl 1 rfl ?_
  refine v_aload_n G dX7_findSizes_26 rfl 0 rfl ?_
  refine v_geti (lay := layM) (k := 0) (C := RX7) (T := TX7) (N := 30) G (fun _ h => i_X7_findSizes_X7 _ h) rfl rfl 1 (by decide) (by decide +kernel) rfl rfl dX7_findSizes_27 ?_
  refine v_icmp_ge (tgt := 101) G dX7_findSizes_30 (by decide) (fun c8 => ?_) (fun c8 => ?_)
  · replace h := (if_pos c8).symm.trans h
    cases h
    refine v_locs (L' := []) [] rfl ?_
    exact K
  · replace h := (if_neg c8).symm.trans h
    refine v_iconst (v := 0) G dX7_findSizes_33 (by decide) ?_
    refine v_istore_n (L' := [(2, .int 0), (0, .ref (q 0)), (1, .int v1)]) G dX7_findSizes_34 rfl (by decide) rfl ?_
    obtain ⟨x25, e26, h⟩ := Option.bind_eq_some_iff.mp h
    refine v_locs (L' := [(0, .ref (q 0)), (1, .int v1), (2, .int 0)]) [1, 2, 0] rfl ?_
    have l29 := v_lp (b := m_X7_findSizes_L35 v1) (I := fun x => apV Γ 3 (apU layM q (apd Γ) x.1) 0 0 35 [(0, .ref (q 0)), (1, .int v1), (2, .int x.2)] []) (O := fun x => match x with | .inl r => apR Γ cX7_findSizes 0 0 (some r.1) (apU layM q (apd Γ) r.2) | .inr x => apV Γ 3 (apU layM q (apd Γ) x.1) 0 0 95 [(0, .ref (q 0)), (1, .int v1)] []) (fun x r hb hK => by obtain ⟨ys, y2⟩ := x; rcases r with r | r | r <;> exact w_X7_findSizes_L35 G hK hb) FU (s0, 0) x25 e26
    rcases x25 with r30 | x25
    · cases h
      exact l29 K
    · obtain ⟨s28, v27⟩ := x25
      refine l29 ?_
      refine v_iinc (v := v1 + 1) (L' := [(1, .int (v1 + 1)), (0, .ref (q 0))]) G dX7_findSizes_95 1 rfl rfl (by decide) rfl ?_
      refine v_goto (tgt := 25) G dX7_findSizes_98 (by decide) ?_
      cases h
      refine v_locs (L' := [(0, .ref (q 0)), (1, .int (v1 + 1))]) [1, 0] rfl ?_
      exact K
def m_X7_findSizes (s : apM)  : Option (Int32 × apM) := Option.bind (lp FU (m_X7_findSizes_L2) (s, 0)) (fun x4 => match x4 with | (s7, v6) => Option.bind (lp FU (m_X7_findSizes_L25) (s7, 0)) (fun x31 => match x31 with | .inl r36 => Option.bind (bz r36.1) (fun t37 => some (t37, r36.2)) | .inr (s34, v33) => some (1, s34)))
set_option maxHeartbeats 4000000 in
set_option maxRecDepth 100000 in
theorem w_X7_findSizes {Γ : apC} {q : Nat → Nat} (G : apG Γ cX7_findSizes 3 RX7 wsX7_findSizes (apRm 2 0) apXM) {s : apM} {r : (Int32 × apM)} (K : apR Γ cX7_findSizes 0 0 (some r.1) (apU layM q (apd Γ) r.2)) (h : m_X7_findSizes s = some r) : apV Γ 3 (apU layM q (apd Γ) s) 0 0 0 [(0, .ref (q 0))] [] := by
  unfold m_X7_findSizes at h
  refine v_iconst (v := 0) G dX7_findSizes_0 (by decide) ?_
  refine v_istore_n (L' := [(1, .int 0), (0, .ref (q 0))]) G dX7_findSizes_1 rfl (by decide) rfl ?_
  obtain ⟨x4, e5, h⟩ := Option.bind_eq_some_iff.mp h
  refine v_locs (L' := [(0, .ref (q 0)), (1, .int 0)]) [1, 0] rfl ?_
  have l39 := v_lp (b := m_X7_findSizes_L2) (I := fun x => apV Γ 3 (apU layM q (apd Γ) x.1) 0 0 2 [(0, .ref (q 0)), (1, .int x.2)] []) (O := fun x => apV Γ 3 (apU layM q (apd Γ) x.1) 0 0 23 [(0, .ref (q 0))] []) (fun x r hb hK => by obtain ⟨ys, y1⟩ := x; rcases r with r | r <;> exact w_X7_findSizes_L2 G hK hb) FU (s, 0) x4 e5
  obtain ⟨s7, v6⟩ := x4
  dsimp only at h
  refine l39 ?_
  refine v_iconst (v := 0) G dX7_findSizes_23 (by decide) ?_
  refine v_istore_n (L' := [(1, .int 0), (0, .ref (q 0))]) G dX7_findSizes_24 rfl (by decide) rfl ?_
  obtain ⟨x31, e32, h⟩ := Option.bind_eq_some_iff.mp h
  refine v_locs (L' := [(0, .ref (q 0)), (1, .int 0)]) [1, 0] rfl ?_
  have l35 := v_lp (b := m_X7_findSizes_L25) (I := fun x => apV Γ 3 (apU layM q (apd Γ) x.1) 0 0 25 [(0, .ref (q 0)), (1, .int x.2)] []) (O := fun x => match x with | .inl r => apR Γ cX7_findSizes 0 0 (some r.1) (apU layM q (apd Γ) r.2) | .inr x => apV Γ 3 (apU layM q (apd Γ) x.1) 0 0 101 [] []) (fun x r hb hK => by obtain ⟨ys, y1⟩ := x; rcases r with r | r | r <;> exact w_X7_findSizes_L25 G hK hb) FU (s7, 0) x31 e32
  rcases x31 with r36 | x31
  · obtain ⟨t37, e38, h⟩ := Option.bind_eq_some_iff.mp h
    obtain ⟨e38, -⟩ := bz_some e38
    cases h
    obtain ⟨u1, u2⟩ := r36
    dsimp only at e38
    subst e38
    exact l35 K
  · obtain ⟨s34, v33⟩ := x31
    refine l35 ?_
    refine v_iconst (v := 1) G dX7_findSizes_101 (by decide) ?_
    cases h
    exact v_iret G K (by decide) (by decide) dX7_findSizes_102
theorem z_X7_findSizes {s : apM} {r : (Int32 × apM)} (h : m_X7_findSizes s = some r) : r.1 = 0 ∨ r.1 = 1 := by
  unfold m_X7_findSizes at h
  obtain ⟨x4, e5, h⟩ := Option.bind_eq_some_iff.mp h
  obtain ⟨s7, v6⟩ := x4
  dsimp only at h
  obtain ⟨x31, e32, h⟩ := Option.bind_eq_some_iff.mp h
  rcases x31 with r36 | x31
  · obtain ⟨t37, e38, h⟩ := Option.bind_eq_some_iff.mp h
    have e38 := bz_some e38
    cases h
    rw [← e38.1]; exact e38.2
  · obtain ⟨s34, v33⟩ := x31
    cases h
    exact Or.inr rfl
theorem c_X7_findSizes (l : Launch) {s : apM} {r : (Int32 × apM)} (h : m_X7_findSizes s = some r) : apMi l layM apXM yX7_findSizes wsX7_findSizes 2 (fun q => [.ref (q 0)]) s r.1 r.2 := apMi_of (cc := cX7_findSizes) (nL := 3) (r := r.1) (by decide) rfl (by rcases z_X7_findSizes h with e | e <;> rw [e] <;> rfl) (fun _ => Nat.le_of_ble_eq_true rfl) (fun Γ q hl G K => w_X7_findSizes G K h)
theorem i_X7_give_X7 : ∀ w ∈ u_ws RX7 TX7 30, w ∈ wsX7_give := by decide +kernel
def m_X7_give (s : apM) (v1 : Int32) (v2 : Int32) (v3 : Int32) : Option (Int32 × apM) := if (m_X7_isNode (mst s 0 0 0) v1) = 0 then (some (0, mst s 0 0 0)) else (Option.bind (ald (mst s 0 0 0) 1 12 v1) (fun t2 => if t2 = 0 then (if v2 < 0 then (some (0, mst s 0 0 0)) else (Option.bind (ald (mst s 0 0 0) 2 12 v1) (fun t6 => if v2 < t6 then (Option.bind (ast (mst s 0 0 0) 6 192 ((16 * v1) + v2) v3) (fun s9 => some (1, s9))) else (some (0, mst s 0 0 0))))) else (some (0, mst s 0 0 0))))
set_option maxHeartbeats 4000000 in
set_option maxRecDepth 100000 in
theorem w_X7_give {Γ : apC} {q : Nat → Nat} (G : apG Γ cX7_give 4 RX7 wsX7_give (apRm 1 0) apXM) {s : apM} {v1 v2 v3 : Int32} {r : (Int32 × apM)} (K : apR Γ cX7_give 0 0 (some r.1) (apU layM q (apd Γ) r.2)) (h : m_X7_give s v1 v2 v3 = some r) : apV Γ 4 (apU layM q (apd Γ) s) 0 0 0 [(0, .ref (q 0)), (1, .int v1), (2, .int v2), (3, .int v3)] [] := by
  unfold m_X7_give at h
  refine v_aload_n G dX7_give_0 rfl 0 rfl ?_
  refine v_iconst (v := 0) G dX7_give_1 (by decide) ?_
  refine v_put (lay := layM) (k := 0) (C := RX7) (T := TX7) (N := 30) G (fun _ h => i_X7_give_X7 _ h) tyX7 tyX7_ok nmX7 rfl rfl 0 (by decide) (by decide +kernel) rfl rfl (by first | rfl | decide) (by first | rfl | decide) rfl dX7_give_2 ?_
  refine v_aload_n G dX7_give_5 rfl 0 rfl ?_
  refine v_iload_n G dX7_give_6 rfl 1 rfl ?_
  refine v_calliV (lay := layM) (As := [.int v1]) (st := []) (n := 1) (C := RX7) (T := TX7) (k0 := 0) G apXMok (c_X7_isNode Γ.1.2.1 (s := mst s 0 0 0) rfl) gX7_give_X7_isNode rfl (by decide +kernel) (by decide) rfl rfl rfl rfl (Nat.le_of_ble_eq_true rfl) (by decide) rfl dX7_give_7 ?_
  refine v_if_eq (tgt := 36) G dX7_give_10 (by decide) (fun c1 => ?_) (fun c1 => ?_)
  · replace h := (if_pos c1).symm.trans h
    refine v_iconst (v := 0) G dX7_give_36 (by decide) ?_
    cases h
    exact v_iret G K (by decide) (by decide) dX7_give_37
  · replace h := (if_neg c1).symm.trans h
    refine v_aload_n G dX7_give_13 rfl 0 rfl ?_
    refine v_getr (lay := layM) (k := 0) (k' := 1) (C := RX7) (T := TX7) (N := 30) G (fun _ h => i_X7_give_X7 _ h) rfl rfl 2 (by decide) (by decide +kernel) rfl rfl dX7_give_14 ?_
    refine v_iload_n G dX7_give_17 rfl 1 rfl ?_
    obtain ⟨t2, e3, h⟩ := Option.bind_eq_some_iff.mp h
    refine v_iald (lay := layM) (k := 1) (n := 12) G rfl e3 dX7_give_18 ?_
    refine v_if_ne (tgt := 36) G dX7_give_19 (by decide) (fun c4 => ?_) (fun c4 => ?_)
    · replace h := (if_neg c4).symm.trans h
      refine v_iconst (v := 0) G dX7_give_36 (by decide) ?_
      cases h
      exact v_iret G K (by decide) (by decide) dX7_give_37
    · replace h := (if_pos c4).symm.trans h
      refine v_iload_n G dX7_give_22 rfl 2 rfl ?_
      refine v_if_lt (tgt := 36) G dX7_give_23 (by decide) (fun c5 => ?_) (fun c5 => ?_)
      · replace h := (if_pos c5).symm.trans h
        refine v_iconst (v := 0) G dX7_give_36 (by decide) ?_
        cases h
        exact v_iret G K (by decide) (by decide) dX7_give_37
      · replace h := (if_neg c5).symm.trans h
        refine v_iload_n G dX7_give_26 rfl 2 rfl ?_
        refine v_aload_n G dX7_give_27 rfl 0 rfl ?_
        refine v_getr (lay := layM) (k := 0) (k' := 2) (C := RX7) (T := TX7) (N := 30) G (fun _ h => i_X7_give_X7 _ h) rfl rfl 3 (by decide) (by decide +kernel) rfl rfl dX7_give_28 ?_
        refine v_iload_n G dX7_give_31 rfl 1 rfl ?_
        obtain ⟨t6, e7, h⟩ := Option.bind_eq_some_iff.mp h
        refine v_iald (lay := layM) (k := 2) (n := 12) G rfl e7 dX7_give_32 ?_
        refine v_icmp_lt (tgt := 38) G dX7_give_33 (by decide) (fun c8 => ?_) (fun c8 => ?_)
        · replace h := (if_pos c8).symm.trans h
          refine v_aload_n G dX7_give_38 rfl 0 rfl ?_
          refine v_getr (lay := layM) (k := 0) (k' := 6) (C := RX7) (T := TX7) (N := 30) G (fun _ h => i_X7_give_X7 _ h) rfl rfl 7 (by decide) (by decide +kernel) rfl rfl dX7_give_39 ?_
          refine v_bipush (v := 16) G dX7_give_42 (by decide) ?_
          refine v_iload_n G dX7_give_44 rfl 1 rfl ?_
          refine v_imul G dX7_give_45 ?_
          refine v_iload_n G dX7_give_46 rfl 2 rfl ?_
          refine v_iadd G dX7_give_47 ?_
          refine v_iload_n G dX7_give_48 rfl 3 rfl ?_
          obtain ⟨s9, e10, h⟩ := Option.bind_eq_some_iff.mp h
          refine v_iast (lay := layM) (k := 6) (n := 192) G rfl e10 dX7_give_49 ?_
          refine v_iconst (v := 1) G dX7_give_50 (by decide) ?_
          cases h
          exact v_iret G K (by decide) (by decide) dX7_give_51
        · replace h := (if_neg c8).symm.trans h
          refine v_iconst (v := 0) G dX7_give_36 (by decide) ?_
          cases h
          exact v_iret G K (by decide) (by decide) dX7_give_37
theorem z_X7_give {s : apM} {v1 v2 v3 : Int32} {r : (Int32 × apM)} (h : m_X7_give s v1 v2 v3 = some r) : r.1 = 0 ∨ r.1 = 1 := by
  unfold m_X7_give at h
  by_cases c1 : (m_X7_isNode (mst s 0 0 0) v1) = 0
  · replace h := (if_pos c1).symm.trans h
    cases h
    exact Or.inl rfl
  · replace h := (if_neg c1).symm.trans h
    obtain ⟨t2, e3, h⟩ := Option.bind_eq_some_iff.mp h
    by_cases c4 : t2 = 0
    · replace h := (if_pos c4).symm.trans h
      by_cases c5 : v2 < 0
      · replace h := (if_pos c5).symm.trans h
        cases h
        exact Or.inl rfl
      · replace h := (if_neg c5).symm.trans h
        obtain ⟨t6, e7, h⟩ := Option.bind_eq_some_iff.mp h
        by_cases c8 : v2 < t6
        · replace h := (if_pos c8).symm.trans h
          obtain ⟨s9, e10, h⟩ := Option.bind_eq_some_iff.mp h
          cases h
          exact Or.inr rfl
        · replace h := (if_neg c8).symm.trans h
          cases h
          exact Or.inl rfl
    · replace h := (if_neg c4).symm.trans h
      cases h
      exact Or.inl rfl
theorem c_X7_give (l : Launch) {s : apM} {v1 v2 v3 : Int32} {r : (Int32 × apM)} (h : m_X7_give s v1 v2 v3 = some r) : apMi l layM apXM yX7_give wsX7_give 1 (fun q => [.ref (q 0), .int v1, .int v2, .int v3]) s r.1 r.2 := apMi_of (cc := cX7_give) (nL := 4) (r := r.1) (by decide) rfl (by rcases z_X7_give h with e | e <;> rw [e] <;> rfl) (fun _ => Nat.le_of_ble_eq_true rfl) (fun Γ q hl G K => w_X7_give G K h)
theorem i_X7_isFree_X7 : ∀ w ∈ u_ws RX7 TX7 30, w ∈ wsX7_isFree := by decide +kernel
def m_X7_isFree_B43 (s : apM) (v1 : Int32) (v3 : Int32) (k0 : Int32) : Option ((Int32 × Int32) ⊕ (Int32 × Int32)) := some (.inl (k0, v3 + 1))
set_option maxHeartbeats 4000000 in
set_option maxRecDepth 100000 in
theorem w_X7_isFree_B43 {Γ : apC} {q : Nat → Nat} (G : apG Γ cX7_isFree 4 RX7 wsX7_isFree (apRm 1 0) apXM) {s : apM} {v1 v3 k0 : Int32} {r : ((Int32 × Int32) ⊕ (Int32 × Int32))} (K : match r with | .inl x => apV Γ 4 (apU layM q (apd Γ) s) 0 0 4 [(0, .ref (q 0)), (1, .int v1), (2, .int x.1), (3, .int x.2)] [] | .inr x => apV Γ 4 (apU layM q (apd Γ) s) 0 0 50 [(2, .int x.1)] []) (h : m_X7_isFree_B43 s v1 v3 k0 = some r) : apV Γ 4 (apU layM q (apd Γ) s) 0 0 43 [(0, .ref (q 0)), (1, .int v1), (3, .int v3)] [.int k0] := by
  unfold m_X7_isFree_B43 at h
  refine v_istore_n (L' := [(2, .int k0), (0, .ref (q 0)), (1, .int v1), (3, .int v3)]) G dX7_isFree_43 rfl (by decide) rfl ?_
  refine v_iinc (v := v3 + 1) (L' := [(3, .int (v3 + 1)), (2, .int k0), (0, .ref (q 0)), (1, .int v1)]) G dX7_isFree_44 3 rfl rfl (by decide) rfl ?_
  refine v_goto (tgt := 4) G dX7_isFree_47 (by decide) ?_
  cases h
  refine v_locs (L' := [(0, .ref (q 0)), (1, .int v1), (2, .int k0), (3, .int (v3 + 1))]) [2, 3, 1, 0] rfl ?_
  exact K
def m_X7_isFree_B42 (s : apM) (v1 : Int32) (v3 : Int32) : Option ((Int32 × Int32) ⊕ (Int32 × Int32)) := m_X7_isFree_B43 s v1 v3 0
set_option maxHeartbeats 4000000 in
set_option maxRecDepth 100000 in
theorem w_X7_isFree_B42 {Γ : apC} {q : Nat → Nat} (G : apG Γ cX7_isFree 4 RX7 wsX7_isFree (apRm 1 0) apXM) {s : apM} {v1 v3 : Int32} {r : ((Int32 × Int32) ⊕ (Int32 × Int32))} (K : match r with | .inl x => apV Γ 4 (apU layM q (apd Γ) s) 0 0 4 [(0, .ref (q 0)), (1, .int v1), (2, .int x.1), (3, .int x.2)] [] | .inr x => apV Γ 4 (apU layM q (apd Γ) s) 0 0 50 [(2, .int x.1)] []) (h : m_X7_isFree_B42 s v1 v3 = some r) : apV Γ 4 (apU layM q (apd Γ) s) 0 0 42 [(0, .ref (q 0)), (1, .int v1), (3, .int v3)] [] := by
  unfold m_X7_isFree_B42 at h
  refine v_iconst (v := 0) G dX7_isFree_42 (by decide) ?_
  exact w_X7_isFree_B43 G K h
def m_X7_isFree_L4 (s : apM) (v1 : Int32) : (Int32 × Int32) → Option ((Int32 × Int32) ⊕ (Int32 × Int32)) := fun (v2, v3) => Option.bind (ald s 1 12 v1) (fun t1 => if (m_X7_inputs t1) ≤ v3 then (some (.inr (v2, v3))) else (if v2 = 0 then (m_X7_isFree_B42 s v1 v3) else (Option.bind (ald s 4 24 ((2 * v1) + v3)) (fun t5 => Option.bind (m_X7_isThere s t5) (fun t7 => if t7 = 0 then (m_X7_isFree_B42 s v1 v3) else (m_X7_isFree_B43 s v1 v3 1))))))
set_option maxHeartbeats 4000000 in
set_option maxRecDepth 100000 in
theorem w_X7_isFree_L4 {Γ : apC} {q : Nat → Nat} (G : apG Γ cX7_isFree 4 RX7 wsX7_isFree (apRm 1 0) apXM) {s : apM} {v1 v2 v3 : Int32} {r : ((Int32 × Int32) ⊕ (Int32 × Int32))} (K : match r with | .inl x => apV Γ 4 (apU layM q (apd Γ) s) 0 0 4 [(0, .ref (q 0)), (1, .int v1), (2, .int x.1), (3, .int x.2)] [] | .inr x => apV Γ 4 (apU layM q (apd Γ) s) 0 0 50 [(2, .int x.1)] []) (h : m_X7_isFree_L4 s v1 (v2, v3) = some r) : apV Γ 4 (apU layM q (apd Γ) s) 0 0 4 [(0, .ref (q 0)), (1, .int v1), (2, .int v2), (3, .int v3)] [] := by
  unfold m_X7_isFree_L4 at h
  dsimp only at h
  refine v_iload_n G dX7_isFree_4 rfl 3 rfl ?_
  refine v_aload_n G dX7_isFree_5 rfl 0 rfl ?_
  refine v_getr (lay := layM) (k := 0) (k' := 1) (C := RX7) (T := TX7) (N := 30) G (fun _ h => i_X7_isFree_X7 _ h) rfl rfl 2 (by decide) (by decide +kernel) rfl rfl dX7_isFree_6 ?_
  refine v_iload_n G dX7_isFree_9 rfl 1 rfl ?_
  obtain ⟨t1, e2, h⟩ := Option.bind_eq_some_iff.mp h
  refine v_iald (lay := layM) (k := 1) (n := 12) G rfl e2 dX7_isFree_10 ?_
  refine v_calliS (lay := layM) (As := [.int t1]) (st := [.int v3]) (n := 1) G apXMok (c_X7_inputs Γ.1.2.1 (s := s) rfl) gX7_isFree_X7_inputs rfl (by decide +kernel) (by decide) rfl rfl (Nat.le_of_ble_eq_true rfl) (by decide) rfl dX7_isFree_11 ?_
  refine v_icmp_ge (tgt := 50) G dX7_isFree_14 (by decide) (fun c3 => ?_) (fun c3 => ?_)
  · replace h := (if_pos c3).symm.trans h
    cases h
    refine v_locs (L' := [(2, .int v2)]) [2] rfl ?_
    exact K
  · replace h := (if_neg c3).symm.trans h
    refine v_iload_n G dX7_isFree_17 rfl 2 rfl ?_
    refine v_if_eq (tgt := 42) G dX7_isFree_18 (by decide) (fun c4 => ?_) (fun c4 => ?_)
    · replace h := (if_pos c4).symm.trans h
      refine v_locs (L' := [(0, .ref (q 0)), (1, .int v1), (3, .int v3)]) [0, 1, 3] rfl ?_
      exact w_X7_isFree_B42 G K h
    · replace h := (if_neg c4).symm.trans h
      refine v_aload_n G dX7_isFree_21 rfl 0 rfl ?_
      refine v_aload_n G dX7_isFree_22 rfl 0 rfl ?_
      refine v_getr (lay := layM) (k := 0) (k' := 4) (C := RX7) (T := TX7) (N := 30) G (fun _ h => i_X7_isFree_X7 _ h) rfl rfl 5 (by decide) (by decide +kernel) rfl rfl dX7_isFree_23 ?_
      refine v_iconst (v := 2) G dX7_isFree_26 (by decide) ?_
      refine v_iload_n G dX7_isFree_27 rfl 1 rfl ?_
      refine v_imul G dX7_isFree_28 ?_
      refine v_iload_n G dX7_isFree_29 rfl 3 rfl ?_
      refine v_iadd G dX7_isFree_30 ?_
      obtain ⟨t5, e6, h⟩ := Option.bind_eq_some_iff.mp h
      refine v_iald (lay := layM) (k := 4) (n := 24) G rfl e6 dX7_isFree_31 ?_
      obtain ⟨t7, e8, h⟩ := Option.bind_eq_some_iff.mp h
      refine v_calliV (lay := layM) (As := [.int t5]) (st := []) (n := 1) (C := RX7) (T := TX7) (k0 := 0) G apXMok (c_X7_isThere Γ.1.2.1 e8) gX7_isFree_X7_isThere rfl (by decide +kernel) (by decide) rfl rfl rfl rfl (Nat.le_of_ble_eq_true rfl) (by decide) rfl dX7_isFree_32 ?_
      refine v_if_eq (tgt := 42) G dX7_isFree_35 (by decide) (fun c9 => ?_) (fun c9 => ?_)
      · replace h := (if_pos c9).symm.trans h
        refine v_locs (L' := [(0, .ref (q 0)), (1, .int v1), (3, .int v3)]) [0, 1, 3] rfl ?_
        exact w_X7_isFree_B42 G K h
      · replace h := (if_neg c9).symm.trans h
        refine v_iconst (v := 1) G dX7_isFree_38 (by decide) ?_
        refine v_goto (tgt := 43) G dX7_isFree_39 (by decide) ?_
        refine v_locs (L' := [(0, .ref (q 0)), (1, .int v1), (3, .int v3)]) [0, 1, 3] rfl ?_
        exact w_X7_isFree_B43 G K h
def m_X7_isFree (s : apM) (v1 : Int32) : Option Int32 := Option.bind (lp FU (m_X7_isFree_L4 s v1) (1, 0)) (fun x10 => match x10 with | (v12, v13) => Option.bind (bz v12) (fun t14 => some t14))
set_option maxHeartbeats 4000000 in
set_option maxRecDepth 100000 in
theorem w_X7_isFree {Γ : apC} {q : Nat → Nat} (G : apG Γ cX7_isFree 4 RX7 wsX7_isFree (apRm 1 0) apXM) {s : apM} {v1 : Int32} {r : Int32} (K : apR Γ cX7_isFree 0 0 (some r) (apU layM q (apd Γ) s)) (h : m_X7_isFree s v1 = some r) : apV Γ 4 (apU layM q (apd Γ) s) 0 0 0 [(0, .ref (q 0)), (1, .int v1)] [] := by
  unfold m_X7_isFree at h
  refine v_iconst (v := 1) G dX7_isFree_0 (by decide) ?_
  refine v_istore_n (L' := [(2, .int 1), (0, .ref (q 0)), (1, .int v1)]) G dX7_isFree_1 rfl (by decide) rfl ?_
  refine v_iconst (v := 0) G dX7_isFree_2 (by decide) ?_
  refine v_istore_n (L' := [(3, .int 0), (2, .int 1), (0, .ref (q 0)), (1, .int v1)]) G dX7_isFree_3 rfl (by decide) rfl ?_
  obtain ⟨x10, e11, h⟩ := Option.bind_eq_some_iff.mp h
  refine v_locs (L' := [(0, .ref (q 0)), (1, .int v1), (2, .int 1), (3, .int 0)]) [2, 3, 1, 0] rfl ?_
  have l16 := v_lp (b := m_X7_isFree_L4 s v1) (I := fun x => apV Γ 4 (apU layM q (apd Γ) s) 0 0 4 [(0, .ref (q 0)), (1, .int v1), (2, .int x.1), (3, .int x.2)] []) (O := fun x => apV Γ 4 (apU layM q (apd Γ) s) 0 0 50 [(2, .int x.1)] []) (fun x r hb hK => by obtain ⟨y2, y3⟩ := x; rcases r with r | r <;> exact w_X7_isFree_L4 G hK hb) FU (1, 0) x10 e11
  obtain ⟨v12, v13⟩ := x10
  dsimp only at h
  refine l16 ?_
  refine v_iload_n G dX7_isFree_50 rfl 0 rfl ?_
  obtain ⟨t14, e15, h⟩ := Option.bind_eq_some_iff.mp h
  obtain ⟨e15, -⟩ := bz_some e15
  subst e15
  cases h
  exact v_iret G K (by decide) (by decide) dX7_isFree_51
theorem z_X7_isFree {s : apM} {v1 : Int32} {r : Int32} (h : m_X7_isFree s v1 = some r) : r = 0 ∨ r = 1 := by
  unfold m_X7_isFree at h
  obtain ⟨x10, e11, h⟩ := Option.bind_eq_some_iff.mp h
  obtain ⟨v12, v13⟩ := x10
  dsimp only at h
  obtain ⟨t14, e15, h⟩ := Option.bind_eq_some_iff.mp h
  have e15 := (bz_some e15)
  cases h
  rw [← e15.1]; exact e15.2
theorem c_X7_isFree (l : Launch) {s : apM} {v1 : Int32} {r : Int32} (h : m_X7_isFree s v1 = some r) : apMi l layM apXM yX7_isFree wsX7_isFree 1 (fun q => [.ref (q 0), .int v1]) s r s := apMi_of (cc := cX7_isFree) (nL := 4) (r := r) (by decide) rfl (by rcases z_X7_isFree h with e | e <;> rw [e] <;> rfl) (fun _ => Nat.le_of_ble_eq_true rfl) (fun Γ q hl G K => w_X7_isFree G K h)
theorem i_X7_isUsed_X7 : ∀ w ∈ u_ws RX7 TX7 30, w ∈ wsX7_isUsed := by decide +kernel
def m_X7_isUsed_B33 (s : apM) (v1 : Int32) (v3 : Int32) (k0 : Int32) : Option ((Int32 × Int32) ⊕ (Int32 × Int32)) := some (.inl (k0, v3 + 1))
set_option maxHeartbeats 4000000 in
set_option maxRecDepth 100000 in
theorem w_X7_isUsed_B33 {Γ : apC} {q : Nat → Nat} (G : apG Γ cX7_isUsed 4 RX7 wsX7_isUsed (apRm 0 0) apXM) {s : apM} {v1 v3 k0 : Int32} {r : ((Int32 × Int32) ⊕ (Int32 × Int32))} (K : match r with | .inl x => apV Γ 4 (apU layM q (apd Γ) s) 0 0 4 [(0, .ref (q 0)), (1, .int v1), (2, .int x.1), (3, .int x.2)] [] | .inr x => apV Γ 4 (apU layM q (apd Γ) s) 0 0 40 [(2, .int x.1)] []) (h : m_X7_isUsed_B33 s v1 v3 k0 = some r) : apV Γ 4 (apU layM q (apd Γ) s) 0 0 33 [(0, .ref (q 0)), (1, .int v1), (3, .int v3)] [.int k0] := by
  unfold m_X7_isUsed_B33 at h
  refine v_istore_n (L' := [(2, .int k0), (0, .ref (q 0)), (1, .int v1), (3, .int v3)]) G dX7_isUsed_33 rfl (by decide) rfl ?_
  refine v_iinc (v := v3 + 1) (L' := [(3, .int (v3 + 1)), (2, .int k0), (0, .ref (q 0)), (1, .int v1)]) G dX7_isUsed_34 3 rfl rfl (by decide) rfl ?_
  refine v_goto (tgt := 4) G dX7_isUsed_37 (by decide) ?_
  cases h
  refine v_locs (L' := [(0, .ref (q 0)), (1, .int v1), (2, .int k0), (3, .int (v3 + 1))]) [2, 3, 1, 0] rfl ?_
  exact K
def m_X7_isUsed_B28 (s : apM) (v1 : Int32) (v3 : Int32) : Option ((Int32 × Int32) ⊕ (Int32 × Int32)) := m_X7_isUsed_B33 s v1 v3 1
set_option maxHeartbeats 4000000 in
set_option maxRecDepth 100000 in
theorem w_X7_isUsed_B28 {Γ : apC} {q : Nat → Nat} (G : apG Γ cX7_isUsed 4 RX7 wsX7_isUsed (apRm 0 0) apXM) {s : apM} {v1 v3 : Int32} {r : ((Int32 × Int32) ⊕ (Int32 × Int32))} (K : match r with | .inl x => apV Γ 4 (apU layM q (apd Γ) s) 0 0 4 [(0, .ref (q 0)), (1, .int v1), (2, .int x.1), (3, .int x.2)] [] | .inr x => apV Γ 4 (apU layM q (apd Γ) s) 0 0 40 [(2, .int x.1)] []) (h : m_X7_isUsed_B28 s v1 v3 = some r) : apV Γ 4 (apU layM q (apd Γ) s) 0 0 28 [(0, .ref (q 0)), (1, .int v1), (3, .int v3)] [] := by
  unfold m_X7_isUsed_B28 at h
  refine v_iconst (v := 1) G dX7_isUsed_28 (by decide) ?_
  refine v_goto (tgt := 33) G dX7_isUsed_29 (by decide) ?_
  exact w_X7_isUsed_B33 G K h
def m_X7_isUsed_L4 (s : apM) (v1 : Int32) : (Int32 × Int32) → Option ((Int32 × Int32) ⊕ (Int32 × Int32)) := fun (v2, v3) => if (2 * (s 0 1)) ≤ v3 then (some (.inr (v2, v3))) else (if v2 = 0 then (Option.bind (ald s 4 24 v3) (fun t3 => if t3 = v1 then (m_X7_isUsed_B28 s v1 v3) else (m_X7_isUsed_B33 s v1 v3 0))) else (m_X7_isUsed_B28 s v1 v3))
set_option maxHeartbeats 4000000 in
set_option maxRecDepth 100000 in
theorem w_X7_isUsed_L4 {Γ : apC} {q : Nat → Nat} (G : apG Γ cX7_isUsed 4 RX7 wsX7_isUsed (apRm 0 0) apXM) {s : apM} {v1 v2 v3 : Int32} {r : ((Int32 × Int32) ⊕ (Int32 × Int32))} (K : match r with | .inl x => apV Γ 4 (apU layM q (apd Γ) s) 0 0 4 [(0, .ref (q 0)), (1, .int v1), (2, .int x.1), (3, .int x.2)] [] | .inr x => apV Γ 4 (apU layM q (apd Γ) s) 0 0 40 [(2, .int x.1)] []) (h : m_X7_isUsed_L4 s v1 (v2, v3) = some r) : apV Γ 4 (apU layM q (apd Γ) s) 0 0 4 [(0, .ref (q 0)), (1, .int v1), (2, .int v2), (3, .int v3)] [] := by
  unfold m_X7_isUsed_L4 at h
  dsimp only at h
  refine v_iload_n G dX7_isUsed_4 rfl 3 rfl ?_
  refine v_iconst (v := 2) G dX7_isUsed_5 (by decide) ?_
  refine v_aload_n G dX7_isUsed_6 rfl 0 rfl ?_
  refine v_geti (lay := layM) (k := 0) (C := RX7) (T := TX7) (N := 30) G (fun _ h => i_X7_isUsed_X7 _ h) rfl rfl 1 (by decide) (by decide +kernel) rfl rfl dX7_isUsed_7 ?_
  refine v_imul G dX7_isUsed_10 ?_
  refine v_icmp_ge (tgt := 40) G dX7_isUsed_11 (by decide) (fun c1 => ?_) (fun c1 => ?_)
  · replace h := (if_pos c1).symm.trans h
    cases h
    refine v_locs (L' := [(2, .int v2)]) [2] rfl ?_
    exact K
  · replace h := (if_neg c1).symm.trans h
    refine v_iload_n G dX7_isUsed_14 rfl 2 rfl ?_
    refine v_if_ne (tgt := 28) G dX7_isUsed_15 (by decide) (fun c2 => ?_) (fun c2 => ?_)
    · replace h := (if_neg c2).symm.trans h
      refine v_locs (L' := [(0, .ref (q 0)), (1, .int v1), (3, .int v3)]) [0, 1, 3] rfl ?_
      exact w_X7_isUsed_B28 G K h
    · replace h := (if_pos c2).symm.trans h
      refine v_aload_n G dX7_isUsed_18 rfl 0 rfl ?_
      refine v_getr (lay := layM) (k := 0) (k' := 4) (C := RX7) (T := TX7) (N := 30) G (fun _ h => i_X7_isUsed_X7 _ h) rfl rfl 5 (by decide) (by decide +kernel) rfl rfl dX7_isUsed_19 ?_
      refine v_iload_n G dX7_isUsed_22 rfl 3 rfl ?_
      obtain ⟨t3, e4, h⟩ := Option.bind_eq_some_iff.mp h
      refine v_iald (lay := layM) (k := 4) (n := 24) G rfl e4 dX7_isUsed_23 ?_
      refine v_iload_n G dX7_isUsed_24 rfl 1 rfl ?_
      refine v_icmp_ne (tgt := 32) G dX7_isUsed_25 (by decide) (fun c5 => ?_) (fun c5 => ?_)
      · replace h := (if_neg c5).symm.trans h
        refine v_iconst (v := 0) G dX7_isUsed_32 (by decide) ?_
        refine v_locs (L' := [(0, .ref (q 0)), (1, .int v1), (3, .int v3)]) [0, 1, 3] rfl ?_
        exact w_X7_isUsed_B33 G K h
      · replace h := (if_pos c5).symm.trans h
        refine v_locs (L' := [(0, .ref (q 0)), (1, .int v1), (3, .int v3)]) [0, 1, 3] rfl ?_
        exact w_X7_isUsed_B28 G K h
def m_X7_isUsed (s : apM) (v1 : Int32) : Option Int32 := Option.bind (lp FU (m_X7_isUsed_L4 s v1) (0, 0)) (fun x6 => match x6 with | (v8, v9) => Option.bind (bz v8) (fun t10 => some t10))
set_option maxHeartbeats 4000000 in
set_option maxRecDepth 100000 in
theorem w_X7_isUsed {Γ : apC} {q : Nat → Nat} (G : apG Γ cX7_isUsed 4 RX7 wsX7_isUsed (apRm 0 0) apXM) {s : apM} {v1 : Int32} {r : Int32} (K : apR Γ cX7_isUsed 0 0 (some r) (apU layM q (apd Γ) s)) (h : m_X7_isUsed s v1 = some r) : apV Γ 4 (apU layM q (apd Γ) s) 0 0 0 [(0, .ref (q 0)), (1, .int v1)] [] := by
  unfold m_X7_isUsed at h
  refine v_iconst (v := 0) G dX7_isUsed_0 (by decide) ?_
  refine v_istore_n (L' := [(2, .int 0), (0, .ref (q 0)), (1, .int v1)]) G dX7_isUsed_1 rfl (by decide) rfl ?_
  refine v_iconst (v := 0) G dX7_isUsed_2 (by decide) ?_
  refine v_istore_n (L' := [(3, .int 0), (2, .int 0), (0, .ref (q 0)), (1, .int v1)]) G dX7_isUsed_3 rfl (by decide) rfl ?_
  obtain ⟨x6, e7, h⟩ := Option.bind_eq_some_iff.mp h
  refine v_locs (L' := [(0, .ref (q 0)), (1, .int v1), (2, .int 0), (3, .int 0)]) [2, 3, 1, 0] rfl ?_
  have l12 := v_lp (b := m_X7_isUsed_L4 s v1) (I := fun x => apV Γ 4 (apU layM q (apd Γ) s) 0 0 4 [(0, .ref (q 0)), (1, .int v1), (2, .int x.1), (3, .int x.2)] []) (O := fun x => apV Γ 4 (apU layM q (apd Γ) s) 0 0 40 [(2, .int x.1)] []) (fun x r hb hK => by obtain ⟨y2, y3⟩ := x; rcases r with r | r <;> exact w_X7_isUsed_L4 G hK hb) FU (0, 0) x6 e7
  obtain ⟨v8, v9⟩ := x6
  dsimp only at h
  refine l12 ?_
  refine v_iload_n G dX7_isUsed_40 rfl 0 rfl ?_
  obtain ⟨t10, e11, h⟩ := Option.bind_eq_some_iff.mp h
  obtain ⟨e11, -⟩ := bz_some e11
  subst e11
  cases h
  exact v_iret G K (by decide) (by decide) dX7_isUsed_41
theorem z_X7_isUsed {s : apM} {v1 : Int32} {r : Int32} (h : m_X7_isUsed s v1 = some r) : r = 0 ∨ r = 1 := by
  unfold m_X7_isUsed at h
  obtain ⟨x6, e7, h⟩ := Option.bind_eq_some_iff.mp h
  obtain ⟨v8, v9⟩ := x6
  dsimp only at h
  obtain ⟨t10, e11, h⟩ := Option.bind_eq_some_iff.mp h
  have e11 := (bz_some e11)
  cases h
  rw [← e11.1]; exact e11.2
theorem c_X7_isUsed (l : Launch) {s : apM} {v1 : Int32} {r : Int32} (h : m_X7_isUsed s v1 = some r) : apMi l layM apXM yX7_isUsed wsX7_isUsed 0 (fun q => [.ref (q 0), .int v1]) s r s := apMi_of (cc := cX7_isUsed) (nL := 4) (r := r) (by decide) rfl (by rcases z_X7_isUsed h with e | e <;> rw [e] <;> rfl) (fun _ => Nat.le_of_ble_eq_true rfl) (fun Γ q hl G K => w_X7_isUsed G K h)
theorem i_X7_isWired_X7 : ∀ w ∈ u_ws RX7 TX7 30, w ∈ wsX7_isWired := by decide +kernel
def m_X7_isWired_B60 (s : apM) (v2 : Int32) (v3 : Int32) (k0 : Int32) : Option ((Int32 × Int32) ⊕ (Int32 × Int32)) := some (.inl (k0, v3 + 1))
set_option maxHeartbeats 4000000 in
set_option maxRecDepth 100000 in
theorem w_X7_isWired_B60 {Γ : apC} {q : Nat → Nat} (G : apG Γ cX7_isWired 4 RX7 wsX7_isWired (apRm 1 0) apXM) {s : apM} {v2 v3 k0 : Int32} {r : ((Int32 × Int32) ⊕ (Int32 × Int32))} (K : match r with | .inl x => apV Γ 4 (apU layM q (apd Γ) s) 0 0 25 [(0, .ref (q 0)), (1, .int x.1), (2, .int v2), (3, .int x.2)] [] | .inr x => apV Γ 4 (apU layM q (apd Γ) s) 0 0 67 [(0, .ref (q 0)), (1, .int x.1), (2, .int v2)] []) (h : m_X7_isWired_B60 s v2 v3 k0 = some r) : apV Γ 4 (apU layM q (apd Γ) s) 0 0 60 [(0, .ref (q 0)), (2, .int v2), (3, .int v3)] [.int k0] := by
  unfold m_X7_isWired_B60 at h
  refine v_istore_n (L' := [(1, .int k0), (0, .ref (q 0)), (2, .int v2), (3, .int v3)]) G dX7_isWired_60 rfl (by decide) rfl ?_
  refine v_iinc (v := v3 + 1) (L' := [(3, .int (v3 + 1)), (1, .int k0), (0, .ref (q 0)), (2, .int v2)]) G dX7_isWired_61 3 rfl rfl (by decide) rfl ?_
  refine v_goto (tgt := 25) G dX7_isWired_64 (by decide) ?_
  cases h
  refine v_locs (L' := [(0, .ref (q 0)), (1, .int k0), (2, .int v2), (3, .int (v3 + 1))]) [2, 1, 3, 0] rfl ?_
  exact K
def m_X7_isWired_B59 (s : apM) (v2 : Int32) (v3 : Int32) : Option ((Int32 × Int32) ⊕ (Int32 × Int32)) := m_X7_isWired_B60 s v2 v3 0
set_option maxHeartbeats 4000000 in
set_option maxRecDepth 100000 in
theorem w_X7_isWired_B59 {Γ : apC} {q : Nat → Nat} (G : apG Γ cX7_isWired 4 RX7 wsX7_isWired (apRm 1 0) apXM) {s : apM} {v2 v3 : Int32} {r : ((Int32 × Int32) ⊕ (Int32 × Int32))} (K : match r with | .inl x => apV Γ 4 (apU layM q (apd Γ) s) 0 0 25 [(0, .ref (q 0)), (1, .int x.1), (2, .int v2), (3, .int x.2)] [] | .inr x => apV Γ 4 (apU layM q (apd Γ) s) 0 0 67 [(0, .ref (q 0)), (1, .int x.1), (2, .int v2)] []) (h : m_X7_isWired_B59 s v2 v3 = some r) : apV Γ 4 (apU layM q (apd Γ) s) 0 0 59 [(0, .ref (q 0)), (2, .int v2), (3, .int v3)] [] := by
  unfold m_X7_isWired_B59 at h
  refine v_iconst (v := 0) G dX7_isWired_59 (by decide) ?_
  exact w_X7_isWired_B60 G K h
def m_X7_isWired_L25 (s : apM) (v2 : Int32) : (Int32 × Int32) → Option ((Int32 × Int32) ⊕ (Int32 × Int32)) := fun (v1, v3) => Option.bind (ald s 1 12 v2) (fun t3 => if (m_X7_inputs t3) ≤ v3 then (some (.inr (v1, v3))) else (if v1 = 0 then (m_X7_isWired_B59 s v2 v3) else (Option.bind (ald s 4 24 ((2 * v2) + v3)) (fun t7 => if t7 < 0 then (m_X7_isWired_B59 s v2 v3) else (m_X7_isWired_B60 s v2 v3 1)))))
set_option maxHeartbeats 4000000 in
set_option maxRecDepth 100000 in
theorem w_X7_isWired_L25 {Γ : apC} {q : Nat → Nat} (G : apG Γ cX7_isWired 4 RX7 wsX7_isWired (apRm 1 0) apXM) {s : apM} {v2 v1 v3 : Int32} {r : ((Int32 × Int32) ⊕ (Int32 × Int32))} (K : match r with | .inl x => apV Γ 4 (apU layM q (apd Γ) s) 0 0 25 [(0, .ref (q 0)), (1, .int x.1), (2, .int v2), (3, .int x.2)] [] | .inr x => apV Γ 4 (apU layM q (apd Γ) s) 0 0 67 [(0, .ref (q 0)), (1, .int x.1), (2, .int v2)] []) (h : m_X7_isWired_L25 s v2 (v1, v3) = some r) : apV Γ 4 (apU layM q (apd Γ) s) 0 0 25 [(0, .ref (q 0)), (1, .int v1), (2, .int v2), (3, .int v3)] [] := by
  unfold m_X7_isWired_L25 at h
  dsimp only at h
  refine v_iload_n G dX7_isWired_25 rfl 3 rfl ?_
  refine v_aload_n G dX7_isWired_26 rfl 0 rfl ?_
  refine v_getr (lay := layM) (k := 0) (k' := 1) (C := RX7) (T := TX7) (N := 30) G (fun _ h => i_X7_isWired_X7 _ h) rfl rfl 2 (by decide) (by decide +kernel) rfl rfl dX7_isWired_27 ?_
  refine v_iload_n G dX7_isWired_30 rfl 2 rfl ?_
  obtain ⟨t3, e4, h⟩ := Option.bind_eq_some_iff.mp h
  refine v_iald (lay := layM) (k := 1) (n := 12) G rfl e4 dX7_isWired_31 ?_
  refine v_calliS (lay := layM) (As := [.int t3]) (st := [.int v3]) (n := 1) G apXMok (c_X7_inputs Γ.1.2.1 (s := s) rfl) gX7_isWired_X7_inputs rfl (by decide +kernel) (by decide) rfl rfl (Nat.le_of_ble_eq_true rfl) (by decide) rfl dX7_isWired_32 ?_
  refine v_icmp_ge (tgt := 67) G dX7_isWired_35 (by decide) (fun c5 => ?_) (fun c5 => ?_)
  · replace h := (if_pos c5).symm.trans h
    cases h
    refine v_locs (L' := [(0, .ref (q 0)), (1, .int v1), (2, .int v2)]) [0, 1, 2] rfl ?_
    exact K
  · replace h := (if_neg c5).symm.trans h
    refine v_iload_n G dX7_isWired_38 rfl 1 rfl ?_
    refine v_if_eq (tgt := 59) G dX7_isWired_39 (by decide) (fun c6 => ?_) (fun c6 => ?_)
    · replace h := (if_pos c6).symm.trans h
      refine v_locs (L' := [(0, .ref (q 0)), (2, .int v2), (3, .int v3)]) [0, 2, 3] rfl ?_
      exact w_X7_isWired_B59 G K h
    · replace h := (if_neg c6).symm.trans h
      refine v_aload_n G dX7_isWired_42 rfl 0 rfl ?_
      refine v_getr (lay := layM) (k := 0) (k' := 4) (C := RX7) (T := TX7) (N := 30) G (fun _ h => i_X7_isWired_X7 _ h) rfl rfl 5 (by decide) (by decide +kernel) rfl rfl dX7_isWired_43 ?_
      refine v_iconst (v := 2) G dX7_isWired_46 (by decide) ?_
      refine v_iload_n G dX7_isWired_47 rfl 2 rfl ?_
      refine v_imul G dX7_isWired_48 ?_
      refine v_iload_n G dX7_isWired_49 rfl 3 rfl ?_
      refine v_iadd G dX7_isWired_50 ?_
      obtain ⟨t7, e8, h⟩ := Option.bind_eq_some_iff.mp h
      refine v_iald (lay := layM) (k := 4) (n := 24) G rfl e8 dX7_isWired_51 ?_
      refine v_if_lt (tgt := 59) G dX7_isWired_52 (by decide) (fun c9 => ?_) (fun c9 => ?_)
      · replace h := (if_pos c9).symm.trans h
        refine v_locs (L' := [(0, .ref (q 0)), (2, .int v2), (3, .int v3)]) [0, 2, 3] rfl ?_
        exact w_X7_isWired_B59 G K h
      · replace h := (if_neg c9).symm.trans h
        refine v_iconst (v := 1) G dX7_isWired_55 (by decide) ?_
        refine v_goto (tgt := 60) G dX7_isWired_56 (by decide) ?_
        refine v_locs (L' := [(0, .ref (q 0)), (2, .int v2), (3, .int v3)]) [0, 2, 3] rfl ?_
        exact w_X7_isWired_B60 G K h
def m_X7_isWired_L15 (s : apM)  : (Int32 × Int32) → Option ((Int32 × Int32) ⊕ (Int32 × Int32)) := fun (v1, v2) => if (s 0 1) ≤ v2 then (some (.inr (v1, v2))) else (Option.bind (lp FU (m_X7_isWired_L25 s v2) (v1, 0)) (fun x10 => match x10 with | (v12, v13) => some (.inl (v12, v2 + 1))))
set_option maxHeartbeats 4000000 in
set_option maxRecDepth 100000 in
theorem w_X7_isWired_L15 {Γ : apC} {q : Nat → Nat} (G : apG Γ cX7_isWired 4 RX7 wsX7_isWired (apRm 1 0) apXM) {s : apM} {v1 v2 : Int32} {r : ((Int32 × Int32) ⊕ (Int32 × Int32))} (K : match r with | .inl x => apV Γ 4 (apU layM q (apd Γ) s) 0 0 15 [(0, .ref (q 0)), (1, .int x.1), (2, .int x.2)] [] | .inr x => apV Γ 4 (apU layM q (apd Γ) s) 0 0 73 [(1, .int x.1)] []) (h : m_X7_isWired_L15 s (v1, v2) = some r) : apV Γ 4 (apU layM q (apd Γ) s) 0 0 15 [(0, .ref (q 0)), (1, .int v1), (2, .int v2)] [] := by
  unfold m_X7_isWired_L15 at h
  dsimp only at h
  refine v_iload_n G dX7_isWired_15 rfl 2 rfl ?_
  refine v_aload_n G dX7_isWired_16 rfl 0 rfl ?_
  refine v_geti (lay := layM) (k := 0) (C := RX7) (T := TX7) (N := 30) G (fun _ h => i_X7_isWired_X7 _ h) rfl rfl 1 (by decide) (by decide +kernel) rfl rfl dX7_isWired_17 ?_
  refine v_icmp_ge (tgt := 73) G dX7_isWired_20 (by decide) (fun c2 => ?_) (fun c2 => ?_)
  · replace h := (if_pos c2).symm.trans h
    cases h
    refine v_locs (L' := [(1, .int v1)]) [1] rfl ?_
    exact K
  · replace h := (if_neg c2).symm.trans h
    refine v_iconst (v := 0) G dX7_isWired_23 (by decide) ?_
    refine v_istore_n (L' := [(3, .int 0), (0, .ref (q 0)), (1, .int v1), (2, .int v2)]) G dX7_isWired_24 rfl (by decide) rfl ?_
    obtain ⟨x10, e11, h⟩ := Option.bind_eq_some_iff.mp h
    refine v_locs (L' := [(0, .ref (q 0)), (1, .int v1), (2, .int v2), (3, .int 0)]) [1, 2, 3, 0] rfl ?_
    have l14 := v_lp (b := m_X7_isWired_L25 s v2) (I := fun x => apV Γ 4 (apU layM q (apd Γ) s) 0 0 25 [(0, .ref (q 0)), (1, .int x.1), (2, .int v2), (3, .int x.2)] []) (O := fun x => apV Γ 4 (apU layM q (apd Γ) s) 0 0 67 [(0, .ref (q 0)), (1, .int x.1), (2, .int v2)] []) (fun x r hb hK => by obtain ⟨y1, y3⟩ := x; rcases r with r | r <;> exact w_X7_isWired_L25 G hK hb) FU (v1, 0) x10 e11
    obtain ⟨v12, v13⟩ := x10
    dsimp only at h
    refine l14 ?_
    refine v_iinc (v := v2 + 1) (L' := [(2, .int (v2 + 1)), (0, .ref (q 0)), (1, .int v12)]) G dX7_isWired_67 2 rfl rfl (by decide) rfl ?_
    refine v_goto (tgt := 15) G dX7_isWired_70 (by decide) ?_
    cases h
    refine v_locs (L' := [(0, .ref (q 0)), (1, .int v12), (2, .int (v2 + 1))]) [1, 2, 0] rfl ?_
    exact K
def m_X7_isWired_B12 (s : apM) (k0 : Int32) : Option Int32 := Option.bind (lp FU (m_X7_isWired_L15 s) (k0, 0)) (fun x15 => match x15 with | (v17, v18) => Option.bind (bz v17) (fun t19 => some t19))
set_option maxHeartbeats 4000000 in
set_option maxRecDepth 100000 in
theorem w_X7_isWired_B12 {Γ : apC} {q : Nat → Nat} (G : apG Γ cX7_isWired 4 RX7 wsX7_isWired (apRm 1 0) apXM) {s : apM} {k0 : Int32} {r : Int32} (K : apR Γ cX7_isWired 0 0 (some r) (apU layM q (apd Γ) s)) (h : m_X7_isWired_B12 s k0 = some r) : apV Γ 4 (apU layM q (apd Γ) s) 0 0 12 [(0, .ref (q 0))] [.int k0] := by
  unfold m_X7_isWired_B12 at h
  refine v_istore_n (L' := [(1, .int k0), (0, .ref (q 0))]) G dX7_isWired_12 rfl (by decide) rfl ?_
  refine v_iconst (v := 0) G dX7_isWired_13 (by decide) ?_
  refine v_istore_n (L' := [(2, .int 0), (1, .int k0), (0, .ref (q 0))]) G dX7_isWired_14 rfl (by decide) rfl ?_
  obtain ⟨x15, e16, h⟩ := Option.bind_eq_some_iff.mp h
  refine v_locs (L' := [(0, .ref (q 0)), (1, .int k0), (2, .int 0)]) [2, 1, 0] rfl ?_
  have l21 := v_lp (b := m_X7_isWired_L15 s) (I := fun x => apV Γ 4 (apU layM q (apd Γ) s) 0 0 15 [(0, .ref (q 0)), (1, .int x.1), (2, .int x.2)] []) (O := fun x => apV Γ 4 (apU layM q (apd Γ) s) 0 0 73 [(1, .int x.1)] []) (fun x r hb hK => by obtain ⟨y1, y2⟩ := x; rcases r with r | r <;> exact w_X7_isWired_L15 G hK hb) FU (k0, 0) x15 e16
  obtain ⟨v17, v18⟩ := x15
  dsimp only at h
  refine l21 ?_
  refine v_iload_n G dX7_isWired_73 rfl 0 rfl ?_
  obtain ⟨t19, e20, h⟩ := Option.bind_eq_some_iff.mp h
  obtain ⟨e20, -⟩ := bz_some e20
  subst e20
  cases h
  exact v_iret G K (by decide) (by decide) dX7_isWired_74
theorem z_X7_isWired_B12 {s : apM} {k0 : Int32} {r : Int32} (h : m_X7_isWired_B12 s k0 = some r) : r = 0 ∨ r = 1 := by
  unfold m_X7_isWired_B12 at h
  obtain ⟨x15, e16, h⟩ := Option.bind_eq_some_iff.mp h
  obtain ⟨v17, v18⟩ := x15
  dsimp only at h
  obtain ⟨t19, e20, h⟩ := Option.bind_eq_some_iff.mp h
  have e20 := (bz_some e20)
  cases h
  rw [← e20.1]; exact e20.2
def m_X7_isWired (s : apM)  : Option Int32 := if (s 0 1) ≤ 0 then (m_X7_isWired_B12 s 0) else (m_X7_isWired_B12 s 1)
set_option maxHeartbeats 4000000 in
set_option maxRecDepth 100000 in
theorem w_X7_isWired {Γ : apC} {q : Nat → Nat} (G : apG Γ cX7_isWired 4 RX7 wsX7_isWired (apRm 1 0) apXM) {s : apM} {r : Int32} (K : apR Γ cX7_isWired 0 0 (some r) (apU layM q (apd Γ) s)) (h : m_X7_isWired s = some r) : apV Γ 4 (apU layM q (apd Γ) s) 0 0 0 [(0, .ref (q 0))] [] := by
  unfold m_X7_isWired at h
  refine v_aload_n G dX7_isWired_0 rfl 0 rfl ?_
  refine v_geti (lay := layM) (k := 0) (C := RX7) (T := TX7) (N := 30) G (fun _ h => i_X7_isWired_X7 _ h) rfl rfl 1 (by decide) (by decide +kernel) rfl rfl dX7_isWired_1 ?_
  refine v_if_le (tgt := 11) G dX7_isWired_4 (by decide) (fun c1 => ?_) (fun c1 => ?_)
  · replace h := (if_pos c1).symm.trans h
    refine v_iconst (v := 0) G dX7_isWired_11 (by decide) ?_
    exact w_X7_isWired_B12 G K h
  · replace h := (if_neg c1).symm.trans h
    refine v_iconst (v := 1) G dX7_isWired_7 (by decide) ?_
    refine v_goto (tgt := 12) G dX7_isWired_8 (by decide) ?_
    exact w_X7_isWired_B12 G K h
theorem z_X7_isWired {s : apM} {r : Int32} (h : m_X7_isWired s = some r) : r = 0 ∨ r = 1 := by
  unfold m_X7_isWired at h
  by_cases c1 : (s 0 1) ≤ 0
  · replace h := (if_pos c1).symm.trans h
    exact z_X7_isWired_B12 (s := s) h
  · replace h := (if_neg c1).symm.trans h
    exact z_X7_isWired_B12 (s := s) h
theorem c_X7_isWired (l : Launch) {s : apM} {r : Int32} (h : m_X7_isWired s = some r) : apMi l layM apXM yX7_isWired wsX7_isWired 1 (fun q => [.ref (q 0)]) s r s := apMi_of (cc := cX7_isWired) (nL := 4) (r := r) (by decide) rfl (by rcases z_X7_isWired h with e | e <;> rw [e] <;> rfl) (fun _ => Nat.le_of_ble_eq_true rfl) (fun Γ q hl G K => w_X7_isWired G K h)
