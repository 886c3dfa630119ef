/-! ===== models of methods, and that the bytecode does what they say (by gen.py) ===== -/
theorem i_X7_keep_X7 : ∀ w ∈ u_ws RX7 TX7 30, w ∈ wsX7_keep := by decide +kernel
def m_X7_keep (s : apM) (v1 : Int32) (v2 : Int32) : Option (Int32 × apM) := if (m_X7_isNode (mst s 0 0 0) v1) = 0 then (some (0, mst s 0 0 0)) else (Option.bind (ald (mst s 0 0 0) 5 12 v1) (fun t2 => if t2 = v2 then (some (0, mst s 0 0 0)) else (Option.bind (ast (mst s 0 0 0) 5 12 v1 (vp_nar .boolean v2)) (fun s5 => some (1, mst s5 0 11 0)))))
set_option maxHeartbeats 4000000 in
set_option maxRecDepth 100000 in
theorem w_X7_keep {Γ : apC} {q : Nat → Nat} (G : apG Γ cX7_keep 3 RX7 wsX7_keep (apRm 1 0) apXM) {s : apM} {v1 v2 : Int32} {r : (Int32 × apM)} (K : apR Γ cX7_keep 0 0 (some r.1) (apU layM q (apd Γ) r.2)) (h : m_X7_keep s v1 v2 = some r) : apV Γ 3 (apU layM q (apd Γ) s) 0 0 0 [(0, .ref (q 0)), (1, .int v1), (2, .int v2)] [] := by
  unfold m_X7_keep at h
  refine v_aload_n G dX7_keep_0 rfl 0 rfl ?_
  refine v_iconst (v := 0) G dX7_keep_1 (by decide) ?_
  refine v_put (lay := layM) (k := 0) (C := RX7) (T := TX7) (N := 30) G (fun _ h => i_X7_keep_X7 _ h) tyX7 tyX7_ok nmX7 rfl rfl 0 (by decide) (by decide +kernel) rfl rfl (by first | rfl | decide) (by first | rfl | decide) rfl dX7_keep_2 ?_
  refine v_aload_n G dX7_keep_5 rfl 0 rfl ?_
  refine v_iload_n G dX7_keep_6 rfl 1 rfl ?_
  refine v_calliV (lay := layM) (As := [.int v1]) (st := []) (n := 1) (C := RX7) (T := TX7) (k0 := 0) G apXMok (c_X7_isNode Γ.1.2.1 (s := mst s 0 0 0) rfl) gX7_keep_X7_isNode rfl (by decide +kernel) (by decide) rfl rfl rfl rfl (Nat.le_of_ble_eq_true rfl) (by decide) rfl dX7_keep_7 ?_
  refine v_if_eq (tgt := 23) G dX7_keep_10 (by decide) (fun c1 => ?_) (fun c1 => ?_)
  · replace h := (if_pos c1).symm.trans h
    refine v_iconst (v := 0) G dX7_keep_23 (by decide) ?_
    cases h
    exact v_iret G K (by decide) (by decide) dX7_keep_24
  · replace h := (if_neg c1).symm.trans h
    refine v_aload_n G dX7_keep_13 rfl 0 rfl ?_
    refine v_getr (lay := layM) (k := 0) (k' := 5) (C := RX7) (T := TX7) (N := 30) G (fun _ h => i_X7_keep_X7 _ h) rfl rfl 6 (by decide) (by decide +kernel) rfl rfl dX7_keep_14 ?_
    refine v_iload_n G dX7_keep_17 rfl 1 rfl ?_
    obtain ⟨t2, e3, h⟩ := Option.bind_eq_some_iff.mp h
    refine v_zald (lay := layM) (k := 5) (n := 12) G rfl e3 dX7_keep_18 ?_
    refine v_iload_n G dX7_keep_19 rfl 2 rfl ?_
    refine v_icmp_ne (tgt := 25) G dX7_keep_20 (by decide) (fun c4 => ?_) (fun c4 => ?_)
    · replace h := (if_neg c4).symm.trans h
      refine v_aload_n G dX7_keep_25 rfl 0 rfl ?_
      refine v_getr (lay := layM) (k := 0) (k' := 5) (C := RX7) (T := TX7) (N := 30) G (fun _ h => i_X7_keep_X7 _ h) rfl rfl 6 (by decide) (by decide +kernel) rfl rfl dX7_keep_26 ?_
      refine v_iload_n G dX7_keep_29 rfl 1 rfl ?_
      refine v_iload_n G dX7_keep_30 rfl 2 rfl ?_
      obtain ⟨s5, e6, h⟩ := Option.bind_eq_some_iff.mp h
      refine v_zast (lay := layM) (k := 5) (n := 12) G rfl e6 dX7_keep_31 ?_
      refine v_aload_n G dX7_keep_32 rfl 0 rfl ?_
      refine v_iconst (v := 0) G dX7_keep_33 (by decide) ?_
      refine v_put (lay := layM) (k := 0) (C := RX7) (T := TX7) (N := 30) G (fun _ h => i_X7_keep_X7 _ h) tyX7 tyX7_ok nmX7 rfl rfl 11 (by decide) (by decide +kernel) rfl rfl (by first | rfl | decide) (by first | rfl | decide) rfl dX7_keep_34 ?_
      refine v_iconst (v := 1) G dX7_keep_37 (by decide) ?_
      cases h
      exact v_iret G K (by decide) (by decide) dX7_keep_38
    · replace h := (if_pos c4).symm.trans h
      refine v_iconst (v := 0) G dX7_keep_23 (by decide) ?_
      cases h
      exact v_iret G K (by decide) (by decide) dX7_keep_24
theorem z_X7_keep {s : apM} {v1 v2 : Int32} {r : (Int32 × apM)} (h : m_X7_keep s v1 v2 = some r) : r.1 = 0 ∨ r.1 = 1 := by
  unfold m_X7_keep at h
  by_cases c1 : (m_X7_isNode (mst s 0 0 0) v1) = 0
  · replace h := (if_pos c1).symm.trans h
    cases h
    exact Or.inl rfl
  · replace h := (if_neg c1).symm.trans h
    obtain ⟨t2, e3, h⟩ := Option.bind_eq_some_iff.mp h
    by_cases c4 : t2 = v2
    · replace h := (if_pos c4).symm.trans h
      cases h
      exact Or.inl rfl
    · replace h := (if_neg c4).symm.trans h
      obtain ⟨s5, e6, h⟩ := Option.bind_eq_some_iff.mp h
      cases h
      exact Or.inr rfl
theorem c_X7_keep (l : Launch) {s : apM} {v1 v2 : Int32} {r : (Int32 × apM)} (h : m_X7_keep s v1 v2 = some r) : apMi l layM apXM yX7_keep wsX7_keep 1 (fun q => [.ref (q 0), .int v1, .int v2]) s r.1 r.2 := apMi_of (cc := cX7_keep) (nL := 3) (r := r.1) (by decide) rfl (by rcases z_X7_keep h with e | e <;> rw [e] <;> rfl) (fun _ => Nat.le_of_ble_eq_true rfl) (fun Γ q hl G K => w_X7_keep G K h)
theorem i_X7_labelOf_X7 : ∀ w ∈ u_ws RX7 TX7 30, w ∈ wsX7_labelOf := by decide +kernel
def m_X7_labelOf_B149 (s : apM) (k0 : Int32) (k1 : Int32) : Option apM := Option.bind (ast s 10 12 k1 k0) (fun s9 => some s9)
set_option maxHeartbeats 4000000 in
set_option maxRecDepth 100000 in
theorem w_X7_labelOf_B149 {Γ : apC} {q : Nat → Nat} (G : apG Γ cX7_labelOf 8 RX7 wsX7_labelOf (apRm 1 0) apXM) {s : apM} {k0 k1 : Int32} {r : apM} (K : apR Γ cX7_labelOf 0 0 none (apU layM q (apd Γ) r)) (h : m_X7_labelOf_B149 s k0 k1 = some r) : apV Γ 8 (apU layM q (apd Γ) s) 0 0 149 [] [.int k0, .int k1, .ref (q 10)] := by
  unfold m_X7_labelOf_B149 at h
  obtain ⟨s9, e10, h⟩ := Option.bind_eq_some_iff.mp h
  refine v_iast (lay := layM) (k := 10) (n := 12) G rfl e10 dX7_labelOf_149 ?_
  cases h
  exact v_vret G K (by decide) (by decide) dX7_labelOf_150
def m_X7_labelOf_B102 (s : apM) (v1 : Int32) (v2 : Int32) (v3 : Int32) (v5 : Int32) (k0 : Int32) : Option apM := if v2 = 0 then (m_X7_labelOf_B149 s 1 v1) else (if v2 = 1 then (if 2 ≤ v3 then (m_X7_labelOf_B149 s v3 v1) else (m_X7_labelOf_B149 s 2 v1)) else (if v5 ≤ k0 then (m_X7_labelOf_B149 s k0 v1) else (m_X7_labelOf_B149 s v5 v1)))
set_option maxHeartbeats 4000000 in
set_option maxRecDepth 100000 in
theorem w_X7_labelOf_B102 {Γ : apC} {q : Nat → Nat} (G : apG Γ cX7_labelOf 8 RX7 wsX7_labelOf (apRm 1 0) apXM) {s : apM} {v1 v2 v3 v5 k0 : Int32} {r : apM} (K : apR Γ cX7_labelOf 0 0 none (apU layM q (apd Γ) r)) (h : m_X7_labelOf_B102 s v1 v2 v3 v5 k0 = some r) : apV Γ 8 (apU layM q (apd Γ) s) 0 0 102 [(0, .ref (q 0)), (1, .int v1), (2, .int v2), (3, .int v3), (5, .int v5)] [.int k0] := by
  unfold m_X7_labelOf_B102 at h
  refine v_istore (L' := [(7, .int k0), (0, .ref (q 0)), (1, .int v1), (2, .int v2), (3, .int v3), (5, .int v5)]) G dX7_labelOf_102 (by decide) rfl ?_
  refine v_aload_n G dX7_labelOf_104 rfl 1 rfl ?_
  refine v_getr (lay := layM) (k := 0) (k' := 10) (C := RX7) (T := TX7) (N := 30) G (fun _ h => i_X7_labelOf_X7 _ h) rfl rfl 14 (by decide) (by decide +kernel) rfl rfl dX7_labelOf_105 ?_
  refine v_iload_n G dX7_labelOf_108 rfl 2 rfl ?_
  refine v_iload_n G dX7_labelOf_109 rfl 3 rfl ?_
  refine v_if_ne (tgt := 117) G dX7_labelOf_110 (by decide) (fun c8 => ?_) (fun c8 => ?_)
  · replace h := (if_neg c8).symm.trans h
    refine v_iload_n G dX7_labelOf_117 rfl 3 rfl ?_
    refine v_iconst (v := 1) G dX7_labelOf_118 (by decide) ?_
    refine v_icmp_ne (tgt := 135) G dX7_labelOf_119 (by decide) (fun c11 => ?_) (fun c11 => ?_)
    · replace h := (if_neg c11).symm.trans h
      refine v_iload G dX7_labelOf_135 5 rfl ?_
      refine v_iload G dX7_labelOf_137 0 rfl ?_
      refine v_icmp_le (tgt := 147) G dX7_labelOf_139 (by decide) (fun c13 => ?_) (fun c13 => ?_)
      · replace h := (if_pos c13).symm.trans h
        refine v_iload G dX7_labelOf_147 0 rfl ?_
        refine v_locs (L' := []) [] rfl ?_
        exact w_X7_labelOf_B149 G K h
      · replace h := (if_neg c13).symm.trans h
        refine v_iload G dX7_labelOf_142 5 rfl ?_
        refine v_goto (tgt := 149) G dX7_labelOf_144 (by decide) ?_
        refine v_locs (L' := []) [] rfl ?_
        exact w_X7_labelOf_B149 G K h
    · replace h := (if_pos c11).symm.trans h
      refine v_iload_n G dX7_labelOf_122 rfl 4 rfl ?_
      refine v_iconst (v := 2) G dX7_labelOf_123 (by decide) ?_
      refine v_icmp_ge (tgt := 131) G dX7_labelOf_124 (by decide) (fun c12 => ?_) (fun c12 => ?_)
      · replace h := (if_pos c12).symm.trans h
        refine v_iload_n G dX7_labelOf_131 rfl 4 rfl ?_
        refine v_goto (tgt := 149) G dX7_labelOf_132 (by decide) ?_
        refine v_locs (L' := []) [] rfl ?_
        exact w_X7_labelOf_B149 G K h
      · replace h := (if_neg c12).symm.trans h
        refine v_iconst (v := 2) G dX7_labelOf_127 (by decide) ?_
        refine v_goto (tgt := 149) G dX7_labelOf_128 (by decide) ?_
        refine v_locs (L' := []) [] rfl ?_
        exact w_X7_labelOf_B149 G K h
  · replace h := (if_pos c8).symm.trans h
    refine v_iconst (v := 1) G dX7_labelOf_113 (by decide) ?_
    refine v_goto (tgt := 149) G dX7_labelOf_114 (by decide) ?_
    refine v_locs (L' := []) [] rfl ?_
    exact w_X7_labelOf_B149 G K h
def m_X7_labelOf_B84 (s : apM) (v1 : Int32) (v2 : Int32) (v3 : Int32) (v5 : Int32) (k0 : Int32) : Option apM := if (k0 + 1) ≤ 3 then (m_X7_labelOf_B102 s v1 v2 v3 v5 3) else (m_X7_labelOf_B102 s v1 v2 v3 v5 (k0 + 1))
set_option maxHeartbeats 4000000 in
set_option maxRecDepth 100000 in
theorem w_X7_labelOf_B84 {Γ : apC} {q : Nat → Nat} (G : apG Γ cX7_labelOf 8 RX7 wsX7_labelOf (apRm 1 0) apXM) {s : apM} {v1 v2 v3 v5 k0 : Int32} {r : apM} (K : apR Γ cX7_labelOf 0 0 none (apU layM q (apd Γ) r)) (h : m_X7_labelOf_B84 s v1 v2 v3 v5 k0 = some r) : apV Γ 8 (apU layM q (apd Γ) s) 0 0 84 [(0, .ref (q 0)), (1, .int v1), (2, .int v2), (3, .int v3), (5, .int v5)] [.int k0] := by
  unfold m_X7_labelOf_B84 at h
  refine v_istore (L' := [(6, .int k0), (0, .ref (q 0)), (1, .int v1), (2, .int v2), (3, .int v3), (5, .int v5)]) G dX7_labelOf_84 (by decide) rfl ?_
  refine v_iload G dX7_labelOf_86 0 rfl ?_
  refine v_iconst (v := 1) G dX7_labelOf_88 (by decide) ?_
  refine v_iadd G dX7_labelOf_89 ?_
  refine v_iconst (v := 3) G dX7_labelOf_90 (by decide) ?_
  refine v_icmp_le (tgt := 101) G dX7_labelOf_91 (by decide) (fun c7 => ?_) (fun c7 => ?_)
  · replace h := (if_pos c7).symm.trans h
    refine v_iconst (v := 3) G dX7_labelOf_101 (by decide) ?_
    refine v_locs (L' := [(0, .ref (q 0)), (1, .int v1), (2, .int v2), (3, .int v3), (5, .int v5)]) [1, 2, 3, 4, 5] rfl ?_
    exact w_X7_labelOf_B102 G K h
  · replace h := (if_neg c7).symm.trans h
    refine v_iload G dX7_labelOf_94 0 rfl ?_
    refine v_iconst (v := 1) G dX7_labelOf_96 (by decide) ?_
    refine v_iadd G dX7_labelOf_97 ?_
    refine v_goto (tgt := 102) G dX7_labelOf_98 (by decide) ?_
    refine v_locs (L' := [(0, .ref (q 0)), (1, .int v1), (2, .int v2), (3, .int v3), (5, .int v5)]) [1, 2, 3, 4, 5] rfl ?_
    exact w_X7_labelOf_B102 G K h
def m_X7_labelOf_B70 (s : apM) (v1 : Int32) (v2 : Int32) (v3 : Int32) (v4 : Int32) (k0 : Int32) : Option apM := if v4 ≤ v3 then (m_X7_labelOf_B84 s v1 v2 v3 k0 v4) else (m_X7_labelOf_B84 s v1 v2 v3 k0 v3)
set_option maxHeartbeats 4000000 in
set_option maxRecDepth 100000 in
theorem w_X7_labelOf_B70 {Γ : apC} {q : Nat → Nat} (G : apG Γ cX7_labelOf 8 RX7 wsX7_labelOf (apRm 1 0) apXM) {s : apM} {v1 v2 v3 v4 k0 : Int32} {r : apM} (K : apR Γ cX7_labelOf 0 0 none (apU layM q (apd Γ) r)) (h : m_X7_labelOf_B70 s v1 v2 v3 v4 k0 = some r) : apV Γ 8 (apU layM q (apd Γ) s) 0 0 70 [(0, .ref (q 0)), (1, .int v1), (2, .int v2), (3, .int v3), (4, .int v4)] [.int k0] := by
  unfold m_X7_labelOf_B70 at h
  refine v_istore (L' := [(5, .int k0), (0, .ref (q 0)), (1, .int v1), (2, .int v2), (3, .int v3), (4, .int v4)]) G dX7_labelOf_70 (by decide) rfl ?_
  refine v_iload_n G dX7_labelOf_72 rfl 4 rfl ?_
  refine v_iload G dX7_labelOf_73 5 rfl ?_
  refine v_icmp_ge (tgt := 82) G dX7_labelOf_75 (by decide) (fun c6 => ?_) (fun c6 => ?_)
  · replace h := (if_pos c6).symm.trans h
    refine v_iload G dX7_labelOf_82 5 rfl ?_
    refine v_locs (L' := [(0, .ref (q 0)), (1, .int v1), (2, .int v2), (3, .int v3), (5, .int k0)]) [1, 2, 3, 4, 0] rfl ?_
    exact w_X7_labelOf_B84 G K h
  · replace h := (if_neg c6).symm.trans h
    refine v_iload_n G dX7_labelOf_78 rfl 4 rfl ?_
    refine v_goto (tgt := 84) G dX7_labelOf_79 (by decide) ?_
    refine v_locs (L' := [(0, .ref (q 0)), (1, .int v1), (2, .int v2), (3, .int v3), (5, .int k0)]) [1, 2, 3, 4, 0] rfl ?_
    exact w_X7_labelOf_B84 G K h
def m_X7_labelOf_B56 (s : apM) (v1 : Int32) (v2 : Int32) (v3 : Int32) (k0 : Int32) : Option apM := if k0 ≤ v3 then (m_X7_labelOf_B70 s v1 v2 v3 k0 v3) else (m_X7_labelOf_B70 s v1 v2 v3 k0 k0)
set_option maxHeartbeats 4000000 in
set_option maxRecDepth 100000 in
theorem w_X7_labelOf_B56 {Γ : apC} {q : Nat → Nat} (G : apG Γ cX7_labelOf 8 RX7 wsX7_labelOf (apRm 1 0) apXM) {s : apM} {v1 v2 v3 k0 : Int32} {r : apM} (K : apR Γ cX7_labelOf 0 0 none (apU layM q (apd Γ) r)) (h : m_X7_labelOf_B56 s v1 v2 v3 k0 = some r) : apV Γ 8 (apU layM q (apd Γ) s) 0 0 56 [(0, .ref (q 0)), (1, .int v1), (2, .int v2), (3, .int v3)] [.int k0] := by
  unfold m_X7_labelOf_B56 at h
  refine v_istore (L' := [(4, .int k0), (0, .ref (q 0)), (1, .int v1), (2, .int v2), (3, .int v3)]) G dX7_labelOf_56 (by decide) rfl ?_
  refine v_iload_n G dX7_labelOf_58 rfl 4 rfl ?_
  refine v_iload G dX7_labelOf_59 0 rfl ?_
  refine v_icmp_ge (tgt := 69) G dX7_labelOf_61 (by decide) (fun c5 => ?_) (fun c5 => ?_)
  · replace h := (if_pos c5).symm.trans h
    refine v_iload_n G dX7_labelOf_69 rfl 4 rfl ?_
    refine v_locs (L' := [(0, .ref (q 0)), (1, .int v1), (2, .int v2), (3, .int v3), (4, .int k0)]) [1, 2, 3, 4, 0] rfl ?_
    exact w_X7_labelOf_B70 G K h
  · replace h := (if_neg c5).symm.trans h
    refine v_iload G dX7_labelOf_64 0 rfl ?_
    refine v_goto (tgt := 70) G dX7_labelOf_66 (by decide) ?_
    refine v_locs (L' := [(0, .ref (q 0)), (1, .int v1), (2, .int v2), (3, .int v3), (4, .int k0)]) [1, 2, 3, 4, 0] rfl ?_
    exact w_X7_labelOf_B70 G K h
def m_X7_labelOf_B31 (s : apM) (v1 : Int32) (v2 : Int32) (k0 : Int32) : Option apM := if v2 ≤ 1 then (m_X7_labelOf_B56 s v1 v2 k0 0) else (Option.bind (ald s 4 24 ((2 * v1) + 1)) (fun t14 => Option.bind (ald s 10 12 t14) (fun t16 => m_X7_labelOf_B56 s v1 v2 k0 t16)))
set_option maxHeartbeats 4000000 in
set_option maxRecDepth 100000 in
theorem w_X7_labelOf_B31 {Γ : apC} {q : Nat → Nat} (G : apG Γ cX7_labelOf 8 RX7 wsX7_labelOf (apRm 1 0) apXM) {s : apM} {v1 v2 k0 : Int32} {r : apM} (K : apR Γ cX7_labelOf 0 0 none (apU layM q (apd Γ) r)) (h : m_X7_labelOf_B31 s v1 v2 k0 = some r) : apV Γ 8 (apU layM q (apd Γ) s) 0 0 31 [(0, .ref (q 0)), (1, .int v1), (2, .int v2)] [.int k0] := by
  unfold m_X7_labelOf_B31 at h
  refine v_istore_n (L' := [(3, .int k0), (0, .ref (q 0)), (1, .int v1), (2, .int v2)]) G dX7_labelOf_31 rfl (by decide) rfl ?_
  refine v_iload_n G dX7_labelOf_32 rfl 3 rfl ?_
  refine v_iconst (v := 1) G dX7_labelOf_33 (by decide) ?_
  refine v_icmp_le (tgt := 55) G dX7_labelOf_34 (by decide) (fun c4 => ?_) (fun c4 => ?_)
  · replace h := (if_pos c4).symm.trans h
    refine v_iconst (v := 0) G dX7_labelOf_55 (by decide) ?_
    refine v_locs (L' := [(0, .ref (q 0)), (1, .int v1), (2, .int v2), (3, .int k0)]) [1, 2, 3, 0] rfl ?_
    exact w_X7_labelOf_B56 G K h
  · replace h := (if_neg c4).symm.trans h
    refine v_aload_n G dX7_labelOf_37 rfl 1 rfl ?_
    refine v_getr (lay := layM) (k := 0) (k' := 10) (C := RX7) (T := TX7) (N := 30) G (fun _ h => i_X7_labelOf_X7 _ h) rfl rfl 14 (by decide) (by decide +kernel) rfl rfl dX7_labelOf_38 ?_
    refine v_aload_n G dX7_labelOf_41 rfl 1 rfl ?_
    refine v_getr (lay := layM) (k := 0) (k' := 4) (C := RX7) (T := TX7) (N := 30) G (fun _ h => i_X7_labelOf_X7 _ h) rfl rfl 5 (by decide) (by decide +kernel) rfl rfl dX7_labelOf_42 ?_
    refine v_iconst (v := 2) G dX7_labelOf_45 (by decide) ?_
    refine v_iload_n G dX7_labelOf_46 rfl 2 rfl ?_
    refine v_imul G dX7_labelOf_47 ?_
    refine v_iconst (v := 1) G dX7_labelOf_48 (by decide) ?_
    refine v_iadd G dX7_labelOf_49 ?_
    obtain ⟨t14, e15, h⟩ := Option.bind_eq_some_iff.mp h
    refine v_iald (lay := layM) (k := 4) (n := 24) G rfl e15 dX7_labelOf_50 ?_
    obtain ⟨t16, e17, h⟩ := Option.bind_eq_some_iff.mp h
    refine v_iald (lay := layM) (k := 10) (n := 12) G rfl e17 dX7_labelOf_51 ?_
    refine v_goto (tgt := 56) G dX7_labelOf_52 (by decide) ?_
    refine v_locs (L' := [(0, .ref (q 0)), (1, .int v1), (2, .int v2), (3, .int k0)]) [1, 2, 3, 0] rfl ?_
    exact w_X7_labelOf_B56 G K h
def m_X7_labelOf (s : apM) (v1 : Int32) : Option apM := Option.bind (ald s 1 12 v1) (fun t1 => if (m_X7_inputs t1) ≤ 0 then (m_X7_labelOf_B31 s v1 (m_X7_inputs t1) 0) else (Option.bind (ald s 4 24 (2 * v1)) (fun t18 => Option.bind (ald s 10 12 t18) (fun t20 => m_X7_labelOf_B31 s v1 (m_X7_inputs t1) t20))))
set_option maxHeartbeats 4000000 in
set_option maxRecDepth 100000 in
theorem w_X7_labelOf {Γ : apC} {q : Nat → Nat} (G : apG Γ cX7_labelOf 8 RX7 wsX7_labelOf (apRm 1 0) apXM) {s : apM} {v1 : Int32} {r : apM} (K : apR Γ cX7_labelOf 0 0 none (apU layM q (apd Γ) r)) (h : m_X7_labelOf s v1 = some r) : apV Γ 8 (apU layM q (apd Γ) s) 0 0 0 [(0, .ref (q 0)), (1, .int v1)] [] := by
  unfold m_X7_labelOf at h
  refine v_aload_n G dX7_labelOf_0 rfl 0 rfl ?_
  refine v_getr (lay := layM) (k := 0) (k' := 1) (C := RX7) (T := TX7) (N := 30) G (fun _ h => i_X7_labelOf_X7 _ h) rfl rfl 2 (by decide) (by decide +kernel) rfl rfl dX7_labelOf_1 ?_
  refine v_iload_n G dX7_labelOf_4 rfl 1 rfl ?_
  obtain ⟨t1, e2, h⟩ := Option.bind_eq_some_iff.mp h
  refine v_iald (lay := layM) (k := 1) (n := 12) G rfl e2 dX7_labelOf_5 ?_
  refine v_calliS (lay := layM) (As := [.int t1]) (st := []) (n := 1) G apXMok (c_X7_inputs Γ.1.2.1 (s := s) rfl) gX7_labelOf_X7_inputs rfl (by decide +kernel) (by decide) rfl rfl (Nat.le_of_ble_eq_true rfl) (by decide) rfl dX7_labelOf_6 ?_
  refine v_istore_n (L' := [(2, .int (m_X7_inputs t1)), (0, .ref (q 0)), (1, .int v1)]) G dX7_labelOf_9 rfl (by decide) rfl ?_
  refine v_iload_n G dX7_labelOf_10 rfl 0 rfl ?_
  refine v_if_le (tgt := 30) G dX7_labelOf_11 (by decide) (fun c3 => ?_) (fun c3 => ?_)
  · replace h := (if_pos c3).symm.trans h
    refine v_iconst (v := 0) G dX7_labelOf_30 (by decide) ?_
    refine v_locs (L' := [(0, .ref (q 0)), (1, .int v1), (2, .int (m_X7_inputs t1))]) [1, 2, 0] rfl ?_
    exact w_X7_labelOf_B31 G K h
  · replace h := (if_neg c3).symm.trans h
    refine v_aload_n G dX7_labelOf_14 rfl 1 rfl ?_
    refine v_getr (lay := layM) (k := 0) (k' := 10) (C := RX7) (T := TX7) (N := 30) G (fun _ h => i_X7_labelOf_X7 _ h) rfl rfl 14 (by decide) (by decide +kernel) rfl rfl dX7_labelOf_15 ?_
    refine v_aload_n G dX7_labelOf_18 rfl 1 rfl ?_
    refine v_getr (lay := layM) (k := 0) (k' := 4) (C := RX7) (T := TX7) (N := 30) G (fun _ h => i_X7_labelOf_X7 _ h) rfl rfl 5 (by decide) (by decide +kernel) rfl rfl dX7_labelOf_19 ?_
    refine v_iconst (v := 2) G dX7_labelOf_22 (by decide) ?_
    refine v_iload_n G dX7_labelOf_23 rfl 2 rfl ?_
    refine v_imul G dX7_labelOf_24 ?_
    obtain ⟨t18, e19, h⟩ := Option.bind_eq_some_iff.mp h
    refine v_iald (lay := layM) (k := 4) (n := 24) G rfl e19 dX7_labelOf_25 ?_
    obtain ⟨t20, e21, h⟩ := Option.bind_eq_some_iff.mp h
    refine v_iald (lay := layM) (k := 10) (n := 12) G rfl e21 dX7_labelOf_26 ?_
    refine v_goto (tgt := 31) G dX7_labelOf_27 (by decide) ?_
    refine v_locs (L' := [(0, .ref (q 0)), (1, .int v1), (2, .int (m_X7_inputs t1))]) [1, 2, 0] rfl ?_
    exact w_X7_labelOf_B31 G K h
theorem c_X7_labelOf (l : Launch) {s : apM} {v1 : Int32} {r : apM} (h : m_X7_labelOf s v1 = some r) : apMv l layM apXM yX7_labelOf wsX7_labelOf 1 (fun q => [.ref (q 0), .int v1]) s r := apMv_of (cc := cX7_labelOf) (nL := 8) (by decide) rfl (fun _ => Nat.le_of_ble_eq_true rfl) (fun Γ q hl G K => w_X7_labelOf G K h)
theorem i_X7_least_X7 : ∀ w ∈ u_ws RX7 TX7 30, w ∈ wsX7_least := by decide +kernel
def m_X7_least_B13 (s : apM) (k0 : Int32) : Option (Int32 × apM) := if ((mst s 0 0 k0) 0 11) = 0 then (some (0, mst s 0 0 k0)) else (if 0 ≤ ((mst s 0 0 k0) 0 21) then (some ((mst s 0 0 k0) 0 21, mst s 0 0 k0)) else (Option.bind (m_X7_findLeast (mst s 0 0 k0)) (fun s4 => some (s4 0 21, s4))))
set_option maxHeartbeats 4000000 in
set_option maxRecDepth 100000 in
theorem w_X7_least_B13 {Γ : apC} {q : Nat → Nat} (G : apG Γ cX7_least 1 RX7 wsX7_least (apRm 3 0) apXM) {s : apM} {k0 : Int32} {r : (Int32 × apM)} (K : apR Γ cX7_least 0 0 (some r.1) (apU layM q (apd Γ) r.2)) (h : m_X7_least_B13 s k0 = some r) : apV Γ 1 (apU layM q (apd Γ) s) 0 0 13 [(0, .ref (q 0))] [.int k0, .ref (q 0)] := by
  unfold m_X7_least_B13 at h
  refine v_put (lay := layM) (k := 0) (C := RX7) (T := TX7) (N := 30) G (fun _ h => i_X7_least_X7 _ h) tyX7 tyX7_ok nmX7 rfl rfl 0 (by decide) (by decide +kernel) rfl rfl (by first | rfl | decide) (by first | rfl | decide) rfl dX7_least_13 ?_
  refine v_aload_n G dX7_least_16 rfl 0 rfl ?_
  refine v_geti (lay := layM) (k := 0) (C := RX7) (T := TX7) (N := 30) G (fun _ h => i_X7_least_X7 _ h) rfl rfl 11 (by decide) (by decide +kernel) rfl rfl dX7_least_17 ?_
  refine v_if_ne (tgt := 25) G dX7_least_20 (by decide) (fun c2 => ?_) (fun c2 => ?_)
  · replace h := (if_neg c2).symm.trans h
    refine v_aload_n G dX7_least_25 rfl 0 rfl ?_
    refine v_geti (lay := layM) (k := 0) (C := RX7) (T := TX7) (N := 30) G (fun _ h => i_X7_least_X7 _ h) rfl rfl 21 (by decide) (by decide +kernel) rfl rfl dX7_least_26 ?_
    refine v_if_ge (tgt := 36) G dX7_least_29 (by decide) (fun c3 => ?_) (fun c3 => ?_)
    · replace h := (if_pos c3).symm.trans h
      refine v_aload_n G dX7_least_36 rfl 0 rfl ?_
      refine v_geti (lay := layM) (k := 0) (C := RX7) (T := TX7) (N := 30) G (fun _ h => i_X7_least_X7 _ h) rfl rfl 21 (by decide) (by decide +kernel) rfl rfl dX7_least_37 ?_
      cases h
      exact v_iret G K (by decide) (by decide) dX7_least_40
    · replace h := (if_neg c3).symm.trans h
      refine v_aload_n G dX7_least_32 rfl 0 rfl ?_
      obtain ⟨s4, e5, h⟩ := Option.bind_eq_some_iff.mp h
      refine v_callvV (lay := layM) (As := []) (st := []) (n := 0) (C := RX7) (T := TX7) (k0 := 0) G apXMok (c_X7_findLeast Γ.1.2.1 e5) gX7_least_X7_findLeast rfl (by decide +kernel) (by decide) rfl rfl rfl rfl (Nat.le_of_ble_eq_true rfl) (by decide) rfl dX7_least_33 ?_
      refine v_aload_n G dX7_least_36 rfl 0 rfl ?_
      refine v_geti (lay := layM) (k := 0) (C := RX7) (T := TX7) (N := 30) G (fun _ h => i_X7_least_X7 _ h) rfl rfl 21 (by decide) (by decide +kernel) rfl rfl dX7_least_37 ?_
      cases h
      exact v_iret G K (by decide) (by decide) dX7_least_40
  · replace h := (if_pos c2).symm.trans h
    refine v_iconst (v := 0) G dX7_least_23 (by decide) ?_
    cases h
    exact v_iret G K (by decide) (by decide) dX7_least_24
def m_X7_least (s : apM)  : Option (Int32 × apM) := if (s 0 11) = 0 then (m_X7_least_B13 s 1) else (m_X7_least_B13 s 0)
set_option maxHeartbeats 4000000 in
set_option maxRecDepth 100000 in
theorem w_X7_least {Γ : apC} {q : Nat → Nat} (G : apG Γ cX7_least 1 RX7 wsX7_least (apRm 3 0) apXM) {s : apM} {r : (Int32 × apM)} (K : apR Γ cX7_least 0 0 (some r.1) (apU layM q (apd Γ) r.2)) (h : m_X7_least s = some r) : apV Γ 1 (apU layM q (apd Γ) s) 0 0 0 [(0, .ref (q 0))] [] := by
  unfold m_X7_least at h
  refine v_aload_n G dX7_least_0 rfl 0 rfl ?_
  refine v_aload_n G dX7_least_1 rfl 0 rfl ?_
  refine v_geti (lay := layM) (k := 0) (C := RX7) (T := TX7) (N := 30) G (fun _ h => i_X7_least_X7 _ h) rfl rfl 11 (by decide) (by decide +kernel) rfl rfl dX7_least_2 ?_
  refine v_if_eq (tgt := 12) G dX7_least_5 (by decide) (fun c1 => ?_) (fun c1 => ?_)
  · replace h := (if_pos c1).symm.trans h
    refine v_iconst (v := 1) G dX7_least_12 (by decide) ?_
    exact w_X7_least_B13 G K h
  · replace h := (if_neg c1).symm.trans h
    refine v_iconst (v := 0) G dX7_least_8 (by decide) ?_
    refine v_goto (tgt := 13) G dX7_least_9 (by decide) ?_
    exact w_X7_least_B13 G K h
theorem c_X7_least (l : Launch) {s : apM} {r : (Int32 × apM)} (h : m_X7_least s = some r) : apMi l layM apXM yX7_least wsX7_least 3 (fun q => [.ref (q 0)]) s r.1 r.2 := apMi_of (cc := cX7_least) (nL := 1) (r := r.1) (by decide) rfl rfl (fun _ => Nat.le_of_ble_eq_true rfl) (fun Γ q hl G K => w_X7_least G K h)
def m_X7_within (v0 : Int32) (v1 : Int32) (v2 : Int32) : Int32 := if v0 < v1 then 0 else (if v2 < v0 then 0 else 1)
set_option maxHeartbeats 4000000 in
set_option maxRecDepth 100000 in
theorem w_X7_within {Γ : apC} {q : Nat → Nat} (G : apG Γ cX7_within 3 RX7 wsX7_within (apRm 0 0) apXM) {s : apM} {v0 v1 v2 : Int32} {r : Int32} (K : apR Γ cX7_within 0 0 (some r) (apU layM q (apd Γ) s)) (h : m_X7_within v0 v1 v2 = r) : apV Γ 3 (apU layM q (apd Γ) s) 0 0 0 [(0, .int v0), (1, .int v1), (2, .int v2)] [] := by
  unfold m_X7_within at h
  refine v_iload_n G dX7_within_0 rfl 0 rfl ?_
  refine v_iload_n G dX7_within_1 rfl 1 rfl ?_
  refine v_icmp_lt (tgt := 14) G dX7_within_2 (by decide) (fun c1 => ?_) (fun c1 => ?_)
  · replace h := (if_pos c1).symm.trans h
    refine v_iconst (v := 0) G dX7_within_14 (by decide) ?_
    subst h
    exact v_iret G K (by decide) (by decide) dX7_within_15
  · replace h := (if_neg c1).symm.trans h
    refine v_iload_n G dX7_within_5 rfl 0 rfl ?_
    refine v_iload_n G dX7_within_6 rfl 2 rfl ?_
    refine v_icmp_gt (tgt := 14) G dX7_within_7 (by decide) (fun c2 => ?_) (fun c2 => ?_)
    · replace h := (if_pos c2).symm.trans h
      refine v_iconst (v := 0) G dX7_within_14 (by decide) ?_
      subst h
      exact v_iret G K (by decide) (by decide) dX7_within_15
    · replace h := (if_neg c2).symm.trans h
      refine v_iconst (v := 1) G dX7_within_10 (by decide) ?_
      refine v_goto (tgt := 15) G dX7_within_11 (by decide) ?_
      subst h
      exact v_iret G K (by decide) (by decide) dX7_within_15
theorem z_X7_within {s : apM} {v0 v1 v2 : Int32} {r : Int32} (h : m_X7_within v0 v1 v2 = r) : r = 0 ∨ r = 1 := by
  unfold m_X7_within at h
  by_cases c1 : v0 < v1
  · replace h := (if_pos c1).symm.trans h
    subst h
    exact Or.inl rfl
  · replace h := (if_neg c1).symm.trans h
    by_cases c2 : v2 < v0
    · replace h := (if_pos c2).symm.trans h
      subst h
      exact Or.inl rfl
    · replace h := (if_neg c2).symm.trans h
      subst h
      exact Or.inr rfl
theorem c_X7_within (l : Launch) {s : apM} {v0 v1 v2 : Int32} {r : Int32} (h : m_X7_within v0 v1 v2 = r) : apMi l layM apXM yX7_within wsX7_within 0 (fun q => [.int v0, .int v1, .int v2]) s r s := apMi_of (cc := cX7_within) (nL := 3) (r := r) (by decide) rfl (by rcases z_X7_within (s := s) h with e | e <;> rw [e] <;> rfl) (fun _ => Nat.le_of_ble_eq_true rfl) (fun Γ q hl G K => w_X7_within G K h)
theorem i_X7_make_X7 : ∀ w ∈ u_ws RX7 TX7 30, w ∈ wsX7_make := by decide +kernel
def m_X7_make_B92 (s : apM) (k0 : Int32) : Option (Int32 × apM) := some ((m_X7_fail s k0).1, (m_X7_fail s k0).2)
set_option maxHeartbeats 4000000 in
set_option maxRecDepth 100000 in
theorem w_X7_make_B92 {Γ : apC} {q : Nat → Nat} (G : apG Γ cX7_make 6 RX7 wsX7_make (apRm 1 0) apXM) {s : apM} {k0 : Int32} {r : (Int32 × apM)} (K : apR Γ cX7_make 0 0 (some r.1) (apU layM q (apd Γ) r.2)) (h : m_X7_make_B92 s k0 = some r) : apV Γ 6 (apU layM q (apd Γ) s) 0 0 92 [] [.int k0, .ref (q 0)] := by
  unfold m_X7_make_B92 at h
  refine v_calliV (lay := layM) (As := [.int k0]) (st := []) (n := 1) (C := RX7) (T := TX7) (k0 := 0) G apXMok (c_X7_fail Γ.1.2.1 (s := s) rfl) gX7_make_X7_fail rfl (by decide +kernel) (by decide) rfl rfl rfl rfl (Nat.le_of_ble_eq_true rfl) (by decide) rfl dX7_make_92 ?_
  cases h
  exact v_iret G K (by decide) (by decide) dX7_make_95
def m_X7_make_B81 (s : apM) (v4 : Int32) : Option (Int32 × apM) := if v4 = 0 then (m_X7_make_B92 s 1) else (m_X7_make_B92 s 2)
set_option maxHeartbeats 4000000 in
set_option maxRecDepth 100000 in
theorem w_X7_make_B81 {Γ : apC} {q : Nat → Nat} (G : apG Γ cX7_make 6 RX7 wsX7_make (apRm 1 0) apXM) {s : apM} {v4 : Int32} {r : (Int32 × apM)} (K : apR Γ cX7_make 0 0 (some r.1) (apU layM q (apd Γ) r.2)) (h : m_X7_make_B81 s v4 = some r) : apV Γ 6 (apU layM q (apd Γ) s) 0 0 81 [(0, .ref (q 0)), (4, .int v4)] [] := by
  unfold m_X7_make_B81 at h
  refine v_aload_n G dX7_make_81 rfl 0 rfl ?_
  refine v_iload G dX7_make_82 1 rfl ?_
  refine v_if_eq (tgt := 91) G dX7_make_84 (by decide) (fun c3 => ?_) (fun c3 => ?_)
  · replace h := (if_pos c3).symm.trans h
    refine v_iconst (v := 1) G dX7_make_91 (by decide) ?_
    refine v_locs (L' := []) [] rfl ?_
    exact w_X7_make_B92 G K h
  · replace h := (if_neg c3).symm.trans h
    refine v_iconst (v := 2) G dX7_make_87 (by decide) ?_
    refine v_goto (tgt := 92) G dX7_make_88 (by decide) ?_
    refine v_locs (L' := []) [] rfl ?_
    exact w_X7_make_B92 G K h
def m_X7_make_L165  : (apM × Int32) → Option ((apM × Int32) ⊕ (apM × Int32)) := fun (s0, v5) => if 16 ≤ v5 then (some (.inr (s0, v5))) else (Option.bind (ast s0 6 192 ((16 * (s0 0 1)) + v5) 0) (fun s18 => some (.inl (s18, v5 + 1))))
set_option maxHeartbeats 4000000 in
set_option maxRecDepth 100000 in
theorem w_X7_make_L165 {Γ : apC} {q : Nat → Nat} (G : apG Γ cX7_make 6 RX7 wsX7_make (apRm 1 0) apXM) {s0 : apM} {v5 : Int32} {r : ((apM × Int32) ⊕ (apM × Int32))} (K : match r with | .inl x => apV Γ 6 (apU layM q (apd Γ) x.1) 0 0 165 [(0, .ref (q 0)), (5, .int x.2)] [] | .inr x => apV Γ 6 (apU layM q (apd Γ) x.1) 0 0 194 [(0, .ref (q 0))] []) (h : m_X7_make_L165 (s0, v5) = some r) : apV Γ 6 (apU layM q (apd Γ) s0) 0 0 165 [(0, .ref (q 0)), (5, .int v5)] [] := by
  unfold m_X7_make_L165 at h
  dsimp only at h
  refine v_iload G dX7_make_165 1 rfl ?_
  refine v_bipush (v := 16) G dX7_make_167 (by decide) ?_
  refine v_icmp_ge (tgt := 194) G dX7_make_169 (by decide) (fun c17 => ?_) (fun c17 => ?_)
  · replace h := (if_pos c17).symm.trans h
    cases h
    refine v_locs (L' := [(0, .ref (q 0))]) [0] rfl ?_
    exact K
  · replace h := (if_neg c17).symm.trans h
    refine v_aload_n G dX7_make_172 rfl 0 rfl ?_
    refine v_getr (lay := layM) (k := 0) (k' := 6) (C := RX7) (T := TX7) (N := 30) G (fun _ h => i_X7_make_X7 _ h) rfl rfl 7 (by decide) (by decide +kernel) rfl rfl dX7_make_173 ?_
    refine v_bipush (v := 16) G dX7_make_176 (by decide) ?_
    refine v_aload_n G dX7_make_178 rfl 0 rfl ?_
    refine v_geti (lay := layM) (k := 0) (C := RX7) (T := TX7) (N := 30) G (fun _ h => i_X7_make_X7 _ h) rfl rfl 1 (by decide) (by decide +kernel) rfl rfl dX7_make_179 ?_
    refine v_imul G dX7_make_182 ?_
    refine v_iload G dX7_make_183 1 rfl ?_
    refine v_iadd G dX7_make_185 ?_
    refine v_iconst (v := 0) G dX7_make_186 (by decide) ?_
    obtain ⟨s18, e19, h⟩ := Option.bind_eq_some_iff.mp h
    refine v_iast (lay := layM) (k := 6) (n := 192) G rfl e19 dX7_make_187 ?_
    refine v_iinc (v := v5 + 1) (L' := [(5, .int (v5 + 1)), (0, .ref (q 0))]) G dX7_make_188 1 rfl rfl (by decide) rfl ?_
    refine v_goto (tgt := 165) G dX7_make_191 (by decide) ?_
    cases h
    refine v_locs (L' := [(0, .ref (q 0)), (5, .int (v5 + 1))]) [1, 0] rfl ?_
    exact K
def m_X7_make_B65 (s : apM) (v1 : Int32) (v2 : Int32) (v3 : Int32) (k0 : Int32) : Option (Int32 × apM) := if k0 = 0 then (m_X7_make_B81 s k0) else (if (s 0 1) = 12 then (m_X7_make_B81 s k0) else (Option.bind (ast s 1 12 (s 0 1) v1) (fun s5 => Option.bind (ast s5 2 12 (s5 0 1) v2) (fun s7 => Option.bind (ast s7 3 12 (s7 0 1) v3) (fun s9 => Option.bind (ast s9 4 24 (2 * (s9 0 1)) (-1)) (fun s11 => Option.bind (ast s11 4 24 ((2 * (s11 0 1)) + 1) (-1)) (fun s13 => Option.bind (ast s13 5 12 (s13 0 1) (vp_nar .boolean 0)) (fun s15 => Option.bind (lp FU (m_X7_make_L165) (s15, 0)) (fun x20 => match x20 with | (s23, v22) => some (((mst (mst s23 0 1 ((s23 0 1) + 1)) 0 11 0) 0 1) - 1, mst (mst s23 0 1 ((s23 0 1) + 1)) 0 11 0))))))))))
set_option maxHeartbeats 4000000 in
set_option maxRecDepth 100000 in
theorem w_X7_make_B65 {Γ : apC} {q : Nat → Nat} (G : apG Γ cX7_make 6 RX7 wsX7_make (apRm 1 0) apXM) {s : apM} {v1 v2 v3 k0 : Int32} {r : (Int32 × apM)} (K : apR Γ cX7_make 0 0 (some r.1) (apU layM q (apd Γ) r.2)) (h : m_X7_make_B65 s v1 v2 v3 k0 = some r) : apV Γ 6 (apU layM q (apd Γ) s) 0 0 65 [(0, .ref (q 0)), (1, .int v1), (2, .int v2), (3, .int v3)] [.int k0] := by
  unfold m_X7_make_B65 at h
  refine v_istore (L' := [(4, .int k0), (0, .ref (q 0)), (1, .int v1), (2, .int v2), (3, .int v3)]) G dX7_make_65 (by decide) rfl ?_
  refine v_iload G dX7_make_67 0 rfl ?_
  refine v_if_eq (tgt := 81) G dX7_make_69 (by decide) (fun c2 => ?_) (fun c2 => ?_)
  · replace h := (if_pos c2).symm.trans h
    refine v_locs (L' := [(0, .ref (q 0)), (4, .int k0)]) [1, 0] rfl ?_
    exact w_X7_make_B81 G K h
  · replace h := (if_neg c2).symm.trans h
    refine v_aload_n G dX7_make_72 rfl 1 rfl ?_
    refine v_geti (lay := layM) (k := 0) (C := RX7) (T := TX7) (N := 30) G (fun _ h => i_X7_make_X7 _ h) rfl rfl 1 (by decide) (by decide +kernel) rfl rfl dX7_make_73 ?_
    refine v_bipush (v := 12) G dX7_make_76 (by decide) ?_
    refine v_icmp_ne (tgt := 96) G dX7_make_78 (by decide) (fun c4 => ?_) (fun c4 => ?_)
    · replace h := (if_neg c4).symm.trans h
      refine v_aload_n G dX7_make_96 rfl 1 rfl ?_
      refine v_getr (lay := layM) (k := 0) (k' := 1) (C := RX7) (T := TX7) (N := 30) G (fun _ h => i_X7_make_X7 _ h) rfl rfl 2 (by decide) (by decide +kernel) rfl rfl dX7_make_97 ?_
      refine v_aload_n G dX7_make_100 rfl 1 rfl ?_
      refine v_geti (lay := layM) (k := 0) (C := RX7) (T := TX7) (N := 30) G (fun _ h => i_X7_make_X7 _ h) rfl rfl 1 (by decide) (by decide +kernel) rfl rfl dX7_make_101 ?_
      refine v_iload_n G dX7_make_104 rfl 2 rfl ?_
      obtain ⟨s5, e6, h⟩ := Option.bind_eq_some_iff.mp h
      refine v_iast (lay := layM) (k := 1) (n := 12) G rfl e6 dX7_make_105 ?_
      refine v_aload_n G dX7_make_106 rfl 1 rfl ?_
      refine v_getr (lay := layM) (k := 0) (k' := 2) (C := RX7) (T := TX7) (N := 30) G (fun _ h => i_X7_make_X7 _ h) rfl rfl 3 (by decide) (by decide +kernel) rfl rfl dX7_make_107 ?_
      refine v_aload_n G dX7_make_110 rfl 1 rfl ?_
      refine v_geti (lay := layM) (k := 0) (C := RX7) (T := TX7) (N := 30) G (fun _ h => i_X7_make_X7 _ h) rfl rfl 1 (by decide) (by decide +kernel) rfl rfl dX7_make_111 ?_
      refine v_iload_n G dX7_make_114 rfl 3 rfl ?_
      obtain ⟨s7, e8, h⟩ := Option.bind_eq_some_iff.mp h
      refine v_iast (lay := layM) (k := 2) (n := 12) G rfl e8 dX7_make_115 ?_
      refine v_aload_n G dX7_make_116 rfl 1 rfl ?_
      refine v_getr (lay := layM) (k := 0) (k' := 3) (C := RX7) (T := TX7) (N := 30) G (fun _ h => i_X7_make_X7 _ h) rfl rfl 4 (by decide) (by decide +kernel) rfl rfl dX7_make_117 ?_
      refine v_aload_n G dX7_make_120 rfl 1 rfl ?_
      refine v_geti (lay := layM) (k := 0) (C := RX7) (T := TX7) (N := 30) G (fun _ h => i_X7_make_X7 _ h) rfl rfl 1 (by decide) (by decide +kernel) rfl rfl dX7_make_121 ?_
      refine v_iload_n G dX7_make_124 rfl 4 rfl ?_
      obtain ⟨s9, e10, h⟩ := Option.bind_eq_some_iff.mp h
      refine v_iast (lay := layM) (k := 3) (n := 12) G rfl e10 dX7_make_125 ?_
      refine v_aload_n G dX7_make_126 rfl 1 rfl ?_
      refine v_getr (lay := layM) (k := 0) (k' := 4) (C := RX7) (T := TX7) (N := 30) G (fun _ h => i_X7_make_X7 _ h) rfl rfl 5 (by decide) (by decide +kernel) rfl rfl dX7_make_127 ?_
      refine v_iconst (v := 2) G dX7_make_130 (by decide) ?_
      refine v_aload_n G dX7_make_131 rfl 1 rfl ?_
      refine v_geti (lay := layM) (k := 0) (C := RX7) (T := TX7) (N := 30) G (fun _ h => i_X7_make_X7 _ h) rfl rfl 1 (by decide) (by decide +kernel) rfl rfl dX7_make_132 ?_
      refine v_imul G dX7_make_135 ?_
      refine v_iconst (v := (-1)) G dX7_make_136 (by decide) ?_
      obtain ⟨s11, e12, h⟩ := Option.bind_eq_some_iff.mp h
      refine v_iast (lay := layM) (k := 4) (n := 24) G rfl e12 dX7_make_137 ?_
      refine v_aload_n G dX7_make_138 rfl 1 rfl ?_
      refine v_getr (lay := layM) (k := 0) (k' := 4) (C := RX7) (T := TX7) (N := 30) G (fun _ h => i_X7_make_X7 _ h) rfl rfl 5 (by decide) (by decide +kernel) rfl rfl dX7_make_139 ?_
      refine v_iconst (v := 2) G dX7_make_142 (by decide) ?_
      refine v_aload_n G dX7_make_143 rfl 1 rfl ?_
      refine v_geti (lay := layM) (k := 0) (C := RX7) (T := TX7) (N := 30) G (fun _ h => i_X7_make_X7 _ h) rfl rfl 1 (by decide) (by decide +kernel) rfl rfl dX7_make_144 ?_
      refine v_imul G dX7_make_147 ?_
      refine v_iconst (v := 1) G dX7_make_148 (by decide) ?_
      refine v_iadd G dX7_make_149 ?_
      refine v_iconst (v := (-1)) G dX7_make_150 (by decide) ?_
      obtain ⟨s13, e14, h⟩ := Option.bind_eq_some_iff.mp h
      refine v_iast (lay := layM) (k := 4) (n := 24) G rfl e14 dX7_make_151 ?_
      refine v_aload_n G dX7_make_152 rfl 1 rfl ?_
      refine v_getr (lay := layM) (k := 0) (k' := 5) (C := RX7) (T := TX7) (N := 30) G (fun _ h => i_X7_make_X7 _ h) rfl rfl 6 (by decide) (by decide +kernel) rfl rfl dX7_make_153 ?_
      refine v_aload_n G dX7_make_156 rfl 1 rfl ?_
      refine v_geti (lay := layM) (k := 0) (C := RX7) (T := TX7) (N := 30) G (fun _ h => i_X7_make_X7 _ h) rfl rfl 1 (by decide) (by decide +kernel) rfl rfl dX7_make_157 ?_
      refine v_iconst (v := 0) G dX7_make_160 (by decide) ?_
      obtain ⟨s15, e16, h⟩ := Option.bind_eq_some_iff.mp h
      refine v_zast (lay := layM) (k := 5) (n := 12) G rfl e16 dX7_make_161 ?_
      refine v_iconst (v := 0) G dX7_make_162 (by decide) ?_
      refine v_istore (L' := [(5, .int 0), (4, .int k0), (0, .ref (q 0)), (1, .int v1), (2, .int v2), (3, .int v3)]) G dX7_make_163 (by decide) rfl ?_
      obtain ⟨x20, e21, h⟩ := Option.bind_eq_some_iff.mp h
      refine v_locs (L' := [(0, .ref (q 0)), (5, .int 0)]) [2, 0] rfl ?_
      have l24 := v_lp (b := m_X7_make_L165) (I := fun x => apV Γ 6 (apU layM q (apd Γ) x.1) 0 0 165 [(0, .ref (q 0)), (5, .int x.2)] []) (O := fun x => apV Γ 6 (apU layM q (apd Γ) x.1) 0 0 194 [(0, .ref (q 0))] []) (fun x r hb hK => by obtain ⟨ys, y5⟩ := x; rcases r with r | r <;> exact w_X7_make_L165 G hK hb) FU (s15, 0) x20 e21
      obtain ⟨s23, v22⟩ := x20
      dsimp only at h
      refine l24 ?_
      refine v_aload_n G dX7_make_194 rfl 0 rfl ?_
      refine v_dup G dX7_make_195 rfl ?_
      refine v_geti (lay := layM) (k := 0) (C := RX7) (T := TX7) (N := 30) G (fun _ h => i_X7_make_X7 _ h) rfl rfl 1 (by decide) (by decide +kernel) rfl rfl dX7_make_196 ?_
      refine v_iconst (v := 1) G dX7_make_199 (by decide) ?_
      refine v_iadd G dX7_make_200 ?_
      refine v_put (lay := layM) (k := 0) (C := RX7) (T := TX7) (N := 30) G (fun _ h => i_X7_make_X7 _ h) tyX7 tyX7_ok nmX7 rfl rfl 1 (by decide) (by decide +kernel) rfl rfl (by first | rfl | decide) (by first | rfl | decide) rfl dX7_make_201 ?_
      refine v_aload_n G dX7_make_204 rfl 0 rfl ?_
      refine v_iconst (v := 0) G dX7_make_205 (by decide) ?_
      refine v_put (lay := layM) (k := 0) (C := RX7) (T := TX7) (N := 30) G (fun _ h => i_X7_make_X7 _ h) tyX7 tyX7_ok nmX7 rfl rfl 11 (by decide) (by decide +kernel) rfl rfl (by first | rfl | decide) (by first | rfl | decide) rfl dX7_make_206 ?_
      refine v_aload_n G dX7_make_209 rfl 0 rfl ?_
      refine v_geti (lay := layM) (k := 0) (C := RX7) (T := TX7) (N := 30) G (fun _ h => i_X7_make_X7 _ h) rfl rfl 1 (by decide) (by decide +kernel) rfl rfl dX7_make_210 ?_
      refine v_iconst (v := 1) G dX7_make_213 (by decide) ?_
      refine v_isub G dX7_make_214 ?_
      cases h
      exact v_iret G K (by decide) (by decide) dX7_make_215
    · replace h := (if_pos c4).symm.trans h
      refine v_locs (L' := [(0, .ref (q 0)), (4, .int k0)]) [1, 0] rfl ?_
      exact w_X7_make_B81 G K h
def m_X7_make_B64 (s : apM) (v1 : Int32) (v2 : Int32) (v3 : Int32) : Option (Int32 × apM) := m_X7_make_B65 s v1 v2 v3 0
set_option maxHeartbeats 4000000 in
set_option maxRecDepth 100000 in
theorem w_X7_make_B64 {Γ : apC} {q : Nat → Nat} (G : apG Γ cX7_make 6 RX7 wsX7_make (apRm 1 0) apXM) {s : apM} {v1 v2 v3 : Int32} {r : (Int32 × apM)} (K : apR Γ cX7_make 0 0 (some r.1) (apU layM q (apd Γ) r.2)) (h : m_X7_make_B64 s v1 v2 v3 = some r) : apV Γ 6 (apU layM q (apd Γ) s) 0 0 64 [(0, .ref (q 0)), (1, .int v1), (2, .int v2), (3, .int v3)] [] := by
  unfold m_X7_make_B64 at h
  refine v_iconst (v := 0) G dX7_make_64 (by decide) ?_
  exact w_X7_make_B65 G K h
def m_X7_make_B60 (s : apM) (v1 : Int32) (v2 : Int32) (v3 : Int32) : Option (Int32 × apM) := m_X7_make_B65 s v1 v2 v3 1
set_option maxHeartbeats 4000000 in
set_option maxRecDepth 100000 in
theorem w_X7_make_B60 {Γ : apC} {q : Nat → Nat} (G : apG Γ cX7_make 6 RX7 wsX7_make (apRm 1 0) apXM) {s : apM} {v1 v2 v3 : Int32} {r : (Int32 × apM)} (K : apR Γ cX7_make 0 0 (some r.1) (apU layM q (apd Γ) r.2)) (h : m_X7_make_B60 s v1 v2 v3 = some r) : apV Γ 6 (apU layM q (apd Γ) s) 0 0 60 [(0, .ref (q 0)), (1, .int v1), (2, .int v2), (3, .int v3)] [] := by
  unfold m_X7_make_B60 at h
  refine v_iconst (v := 1) G dX7_make_60 (by decide) ?_
  refine v_goto (tgt := 65) G dX7_make_61 (by decide) ?_
  exact w_X7_make_B65 G K h
def m_X7_make_B35 (s : apM) (v1 : Int32) (v2 : Int32) (v3 : Int32) : Option (Int32 × apM) := if v1 = 5 then (if (m_X7_within v2 0 39) = 0 then (m_X7_make_B64 s v1 v2 v3) else (if (m_X7_within v3 1 16) = 0 then (m_X7_make_B64 s v1 v2 v3) else (m_X7_make_B60 s v1 v2 v3))) else (m_X7_make_B60 s v1 v2 v3)
set_option maxHeartbeats 4000000 in
set_option maxRecDepth 100000 in
theorem w_X7_make_B35 {Γ : apC} {q : Nat → Nat} (G : apG Γ cX7_make 6 RX7 wsX7_make (apRm 1 0) apXM) {s : apM} {v1 v2 v3 : Int32} {r : (Int32 × apM)} (K : apR Γ cX7_make 0 0 (some r.1) (apU layM q (apd Γ) r.2)) (h : m_X7_make_B35 s v1 v2 v3 = some r) : apV Γ 6 (apU layM q (apd Γ) s) 0 0 35 [(0, .ref (q 0)), (1, .int v1), (2, .int v2), (3, .int v3)] [] := by
  unfold m_X7_make_B35 at h
  refine v_iload_n G dX7_make_35 rfl 1 rfl ?_
  refine v_iconst (v := 5) G dX7_make_36 (by decide) ?_
  refine v_icmp_ne (tgt := 60) G dX7_make_37 (by decide) (fun c27 => ?_) (fun c27 => ?_)
  · replace h := (if_neg c27).symm.trans h
    exact w_X7_make_B60 G K h
  · replace h := (if_pos c27).symm.trans h
    refine v_iload_n G dX7_make_40 rfl 2 rfl ?_
    refine v_iconst (v := 0) G dX7_make_41 (by decide) ?_
    refine v_bipush (v := 39) G dX7_make_42 (by decide) ?_
    refine v_calliS (lay := layM) (As := [.int v2, .int 0, .int 39]) (st := []) (n := 3) G apXMok (c_X7_within Γ.1.2.1 (s := s) rfl) gX7_make_X7_within rfl (by decide +kernel) (by decide) rfl rfl (Nat.le_of_ble_eq_true rfl) (by decide) rfl dX7_make_44 ?_
    refine v_if_eq (tgt := 64) G dX7_make_47 (by decide) (fun c28 => ?_) (fun c28 => ?_)
    · replace h := (if_pos c28).symm.trans h
      exact w_X7_make_B64 G K h
    · replace h := (if_neg c28).symm.trans h
      refine v_iload_n G dX7_make_50 rfl 3 rfl ?_
      refine v_iconst (v := 1) G dX7_make_51 (by decide) ?_
      refine v_bipush (v := 16) G dX7_make_52 (by decide) ?_
      refine v_calliS (lay := layM) (As := [.int v3, .int 1, .int 16]) (st := []) (n := 3) G apXMok (c_X7_within Γ.1.2.1 (s := s) rfl) gX7_make_X7_within rfl (by decide +kernel) (by decide) rfl rfl (Nat.le_of_ble_eq_true rfl) (by decide) rfl dX7_make_54 ?_
      refine v_if_eq (tgt := 64) G dX7_make_57 (by decide) (fun c29 => ?_) (fun c29 => ?_)
      · replace h := (if_pos c29).symm.trans h
        exact w_X7_make_B64 G K h
      · replace h := (if_neg c29).symm.trans h
        exact w_X7_make_B60 G K h
def m_X7_make_B25 (s : apM) (v1 : Int32) (v2 : Int32) (v3 : Int32) : Option (Int32 × apM) := if (m_X7_within v2 1 16) = 0 then (m_X7_make_B64 s v1 v2 v3) else (m_X7_make_B35 s v1 v2 v3)
set_option maxHeartbeats 4000000 in
set_option maxRecDepth 100000 in
theorem w_X7_make_B25 {Γ : apC} {q : Nat → Nat} (G : apG Γ cX7_make 6 RX7 wsX7_make (apRm 1 0) apXM) {s : apM} {v1 v2 v3 : Int32} {r : (Int32 × apM)} (K : apR Γ cX7_make 0 0 (some r.1) (apU layM q (apd Γ) r.2)) (h : m_X7_make_B25 s v1 v2 v3 = some r) : apV Γ 6 (apU layM q (apd Γ) s) 0 0 25 [(0, .ref (q 0)), (1, .int v1), (2, .int v2), (3, .int v3)] [] := by
  unfold m_X7_make_B25 at h
  refine v_iload_n G dX7_make_25 rfl 2 rfl ?_
  refine v_iconst (v := 1) G dX7_make_26 (by decide) ?_
  refine v_bipush (v := 16) G dX7_make_27 (by decide) ?_
  refine v_calliS (lay := layM) (As := [.int v2, .int 1, .int 16]) (st := []) (n := 3) G apXMok (c_X7_within Γ.1.2.1 (s := s) rfl) gX7_make_X7_within rfl (by decide +kernel) (by decide) rfl rfl (Nat.le_of_ble_eq_true rfl) (by decide) rfl dX7_make_29 ?_
  refine v_if_eq (tgt := 64) G dX7_make_32 (by decide) (fun c26 => ?_) (fun c26 => ?_)
  · replace h := (if_pos c26).symm.trans h
    exact w_X7_make_B64 G K h
  · replace h := (if_neg c26).symm.trans h
    exact w_X7_make_B35 G K h
def m_X7_make (s : apM) (v1 : Int32) (v2 : Int32) (v3 : Int32) : Option (Int32 × apM) := if (m_X7_within v1 0 7) = 0 then (m_X7_make_B64 (mst s 0 0 0) v1 v2 v3) else (if v1 = 0 then (m_X7_make_B25 (mst s 0 0 0) v1 v2 v3) else (if v1 = 7 then (m_X7_make_B25 (mst s 0 0 0) v1 v2 v3) else (m_X7_make_B35 (mst s 0 0 0) v1 v2 v3)))
set_option maxHeartbeats 4000000 in
set_option maxRecDepth 100000 in
theorem w_X7_make {Γ : apC} {q : Nat → Nat} (G : apG Γ cX7_make 6 RX7 wsX7_make (apRm 1 0) apXM) {s : apM} {v1 v2 v3 : Int32} {r : (Int32 × apM)} (K : apR Γ cX7_make 0 0 (some r.1) (apU layM q (apd Γ) r.2)) (h : m_X7_make s v1 v2 v3 = some r) : apV Γ 6 (apU layM q (apd Γ) s) 0 0 0 [(0, .ref (q 0)), (1, .int v1), (2, .int v2), (3, .int v3)] [] := by
  unfold m_X7_make at h
  refine v_aload_n G dX7_make_0 rfl 0 rfl ?_
  refine v_iconst (v := 0) G dX7_make_1 (by decide) ?_
  refine v_put (lay := layM) (k := 0) (C := RX7) (T := TX7) (N := 30) G (fun _ h => i_X7_make_X7 _ h) tyX7 tyX7_ok nmX7 rfl rfl 0 (by decide) (by decide +kernel) rfl rfl (by first | rfl | decide) (by first | rfl | decide) rfl dX7_make_2 ?_
  refine v_iload_n G dX7_make_5 rfl 1 rfl ?_
  refine v_iconst (v := 0) G dX7_make_6 (by decide) ?_
  refine v_bipush (v := 7) G dX7_make_7 (by decide) ?_
  refine v_calliS (lay := layM) (As := [.int v1, .int 0, .int 7]) (st := []) (n := 3) G apXMok (c_X7_within Γ.1.2.1 (s := mst s 0 0 0) rfl) gX7_make_X7_within rfl (by decide +kernel) (by decide) rfl rfl (Nat.le_of_ble_eq_true rfl) (by decide) rfl dX7_make_9 ?_
  refine v_if_eq (tgt := 64) G dX7_make_12 (by decide) (fun c1 => ?_) (fun c1 => ?_)
  · replace h := (if_pos c1).symm.trans h
    exact w_X7_make_B64 G K h
  · replace h := (if_neg c1).symm.trans h
    refine v_iload_n G dX7_make_15 rfl 1 rfl ?_
    refine v_if_eq (tgt := 25) G dX7_make_16 (by decide) (fun c25 => ?_) (fun c25 => ?_)
    · replace h := (if_pos c25).symm.trans h
      exact w_X7_make_B25 G K h
    · replace h := (if_neg c25).symm.trans h
      refine v_iload_n G dX7_make_19 rfl 1 rfl ?_
      refine v_bipush (v := 7) G dX7_make_20 (by decide) ?_
      refine v_icmp_ne (tgt := 35) G dX7_make_22 (by decide) (fun c30 => ?_) (fun c30 => ?_)
      · replace h := (if_neg c30).symm.trans h
        exact w_X7_make_B35 G K h
      · replace h := (if_pos c30).symm.trans h
        exact w_X7_make_B25 G K h
theorem c_X7_make (l : Launch) {s : apM} {v1 v2 v3 : Int32} {r : (Int32 × apM)} (h : m_X7_make s v1 v2 v3 = some r) : apMi l layM apXM yX7_make wsX7_make 1 (fun q => [.ref (q 0), .int v1, .int v2, .int v3]) s r.1 r.2 := apMi_of (cc := cX7_make) (nL := 6) (r := r.1) (by decide) rfl rfl (fun _ => Nat.le_of_ble_eq_true rfl) (fun Γ q hl G K => w_X7_make G K h)
theorem i_X7_nodes_X7 : ∀ w ∈ u_ws RX7 TX7 30, w ∈ wsX7_nodes := by decide +kernel
def m_X7_nodes (s : apM)  : (Int32 × apM) := ((mst s 0 0 0) 0 1, mst s 0 0 0)
set_option maxHeartbeats 4000000 in
set_option maxRecDepth 100000 in
theorem w_X7_nodes {Γ : apC} {q : Nat → Nat} (G : apG Γ cX7_nodes 1 RX7 wsX7_nodes (apRm 0 0) apXM) {s : apM} {r : (Int32 × apM)} (K : apR Γ cX7_nodes 0 0 (some r.1) (apU layM q (apd Γ) r.2)) (h : m_X7_nodes s = r) : apV Γ 1 (apU layM q (apd Γ) s) 0 0 0 [(0, .ref (q 0))] [] := by
  unfold m_X7_nodes at h
  refine v_aload_n G dX7_nodes_0 rfl 0 rfl ?_
  refine v_iconst (v := 0) G dX7_nodes_1 (by decide) ?_
  refine v_put (lay := layM) (k := 0) (C := RX7) (T := TX7) (N := 30) G (fun _ h => i_X7_nodes_X7 _ h) tyX7 tyX7_ok nmX7 rfl rfl 0 (by decide) (by decide +kernel) rfl rfl (by first | rfl | decide) (by first | rfl | decide) rfl dX7_nodes_2 ?_
  refine v_aload_n G dX7_nodes_5 rfl 0 rfl ?_
  refine v_geti (lay := layM) (k := 0) (C := RX7) (T := TX7) (N := 30) G (fun _ h => i_X7_nodes_X7 _ h) rfl rfl 1 (by decide) (by decide +kernel) rfl rfl dX7_nodes_6 ?_
  subst h
  exact v_iret G K (by decide) (by decide) dX7_nodes_9
theorem c_X7_nodes (l : Launch) {s : apM} {r : (Int32 × apM)} (h : m_X7_nodes s = r) : apMi l layM apXM yX7_nodes wsX7_nodes 0 (fun q => [.ref (q 0)]) s r.1 r.2 := apMi_of (cc := cX7_nodes) (nL := 1) (r := r.1) (by decide) rfl rfl (fun _ => Nat.le_of_ble_eq_true rfl) (fun Γ q hl G K => w_X7_nodes G K h)
theorem i_X7_order_X7 : ∀ w ∈ u_ws RX7 TX7 30, w ∈ wsX7_order := by decide +kernel
def m_X7_order_B29 (s : apM) (v1 : Int32) (k0 : Int32) : Option (Int32 × apM) := if ((mst s 0 0 k0) 0 0) = 0 then (Option.bind (ald (mst s 0 0 k0) 11 12 v1) (fun t3 => some (t3, mst s 0 0 k0))) else (some (0, mst s 0 0 k0))
set_option maxHeartbeats 4000000 in
set_option maxRecDepth 100000 in
theorem w_X7_order_B29 {Γ : apC} {q : Nat → Nat} (G : apG Γ cX7_order 2 RX7 wsX7_order (apRm 0 0) apXM) {s : apM} {v1 k0 : Int32} {r : (Int32 × apM)} (K : apR Γ cX7_order 0 0 (some r.1) (apU layM q (apd Γ) r.2)) (h : m_X7_order_B29 s v1 k0 = some r) : apV Γ 2 (apU layM q (apd Γ) s) 0 0 29 [(0, .ref (q 0)), (1, .int v1)] [.int k0, .ref (q 0)] := by
  unfold m_X7_order_B29 at h
  refine v_put (lay := layM) (k := 0) (C := RX7) (T := TX7) (N := 30) G (fun _ h => i_X7_order_X7 _ h) tyX7 tyX7_ok nmX7 rfl rfl 0 (by decide) (by decide +kernel) rfl rfl (by first | rfl | decide) (by first | rfl | decide) rfl dX7_order_29 ?_
  refine v_aload_n G dX7_order_32 rfl 0 rfl ?_
  refine v_geti (lay := layM) (k := 0) (C := RX7) (T := TX7) (N := 30) G (fun _ h => i_X7_order_X7 _ h) rfl rfl 0 (by decide) (by decide +kernel) rfl rfl dX7_order_33 ?_
  refine v_if_ne (tgt := 48) G dX7_order_36 (by decide) (fun c2 => ?_) (fun c2 => ?_)
  · replace h := (if_neg c2).symm.trans h
    refine v_iconst (v := 0) G dX7_order_48 (by decide) ?_
    cases h
    exact v_iret G K (by decide) (by decide) dX7_order_49
  · replace h := (if_pos c2).symm.trans h
    refine v_aload_n G dX7_order_39 rfl 0 rfl ?_
    refine v_getr (lay := layM) (k := 0) (k' := 11) (C := RX7) (T := TX7) (N := 30) G (fun _ h => i_X7_order_X7 _ h) rfl rfl 15 (by decide) (by decide +kernel) rfl rfl dX7_order_40 ?_
    refine v_iload_n G dX7_order_43 rfl 1 rfl ?_
    obtain ⟨t3, e4, h⟩ := Option.bind_eq_some_iff.mp h
    refine v_iald (lay := layM) (k := 11) (n := 12) G rfl e4 dX7_order_44 ?_
    refine v_goto (tgt := 49) G dX7_order_45 (by decide) ?_
    cases h
    exact v_iret G K (by decide) (by decide) dX7_order_49
def m_X7_order_B24 (s : apM) (v1 : Int32) : Option (Int32 × apM) := m_X7_order_B29 s v1 2
set_option maxHeartbeats 4000000 in
set_option maxRecDepth 100000 in
theorem w_X7_order_B24 {Γ : apC} {q : Nat → Nat} (G : apG Γ cX7_order 2 RX7 wsX7_order (apRm 0 0) apXM) {s : apM} {v1 : Int32} {r : (Int32 × apM)} (K : apR Γ cX7_order 0 0 (some r.1) (apU layM q (apd Γ) r.2)) (h : m_X7_order_B24 s v1 = some r) : apV Γ 2 (apU layM q (apd Γ) s) 0 0 24 [(0, .ref (q 0)), (1, .int v1)] [.ref (q 0)] := by
  unfold m_X7_order_B24 at h
  refine v_iconst (v := 2) G dX7_order_24 (by decide) ?_
  refine v_goto (tgt := 29) G dX7_order_25 (by decide) ?_
  exact w_X7_order_B29 G K h
def m_X7_order (s : apM) (v1 : Int32) : Option (Int32 × apM) := if (s 0 11) = 0 then (m_X7_order_B29 s v1 1) else (if v1 < 0 then (m_X7_order_B24 s v1) else (if v1 < (s 0 1) then (m_X7_order_B29 s v1 0) else (m_X7_order_B24 s v1)))
set_option maxHeartbeats 4000000 in
set_option maxRecDepth 100000 in
theorem w_X7_order {Γ : apC} {q : Nat → Nat} (G : apG Γ cX7_order 2 RX7 wsX7_order (apRm 0 0) apXM) {s : apM} {v1 : Int32} {r : (Int32 × apM)} (K : apR Γ cX7_order 0 0 (some r.1) (apU layM q (apd Γ) r.2)) (h : m_X7_order s v1 = some r) : apV Γ 2 (apU layM q (apd Γ) s) 0 0 0 [(0, .ref (q 0)), (1, .int v1)] [] := by
  unfold m_X7_order at h
  refine v_aload_n G dX7_order_0 rfl 0 rfl ?_
  refine v_aload_n G dX7_order_1 rfl 0 rfl ?_
  refine v_geti (lay := layM) (k := 0) (C := RX7) (T := TX7) (N := 30) G (fun _ h => i_X7_order_X7 _ h) rfl rfl 11 (by decide) (by decide +kernel) rfl rfl dX7_order_2 ?_
  refine v_if_ne (tgt := 12) G dX7_order_5 (by decide) (fun c1 => ?_) (fun c1 => ?_)
  · replace h := (if_neg c1).symm.trans h
    refine v_iload_n G dX7_order_12 rfl 1 rfl ?_
    refine v_if_lt (tgt := 24) G dX7_order_13 (by decide) (fun c5 => ?_) (fun c5 => ?_)
    · replace h := (if_pos c5).symm.trans h
      exact w_X7_order_B24 G K h
    · replace h := (if_neg c5).symm.trans h
      refine v_iload_n G dX7_order_16 rfl 1 rfl ?_
      refine v_aload_n G dX7_order_17 rfl 0 rfl ?_
      refine v_geti (lay := layM) (k := 0) (C := RX7) (T := TX7) (N := 30) G (fun _ h => i_X7_order_X7 _ h) rfl rfl 1 (by decide) (by decide +kernel) rfl rfl dX7_order_18 ?_
      refine v_icmp_lt (tgt := 28) G dX7_order_21 (by decide) (fun c6 => ?_) (fun c6 => ?_)
      · replace h := (if_pos c6).symm.trans h
        refine v_iconst (v := 0) G dX7_order_28 (by decide) ?_
        exact w_X7_order_B29 G K h
      · replace h := (if_neg c6).symm.trans h
        exact w_X7_order_B24 G K h
  · replace h := (if_pos c1).symm.trans h
    refine v_iconst (v := 1) G dX7_order_8 (by decide) ?_
    refine v_goto (tgt := 29) G dX7_order_9 (by decide) ?_
    exact w_X7_order_B29 G K h
theorem c_X7_order (l : Launch) {s : apM} {v1 : Int32} {r : (Int32 × apM)} (h : m_X7_order s v1 = some r) : apMi l layM apXM yX7_order wsX7_order 0 (fun q => [.ref (q 0), .int v1]) s r.1 r.2 := apMi_of (cc := cX7_order) (nL := 2) (r := r.1) (by decide) rfl rfl (fun _ => Nat.le_of_ble_eq_true rfl) (fun Γ q hl G K => w_X7_order G K h)
theorem i_X7_visit_X7 : ∀ w ∈ u_ws RX7 TX7 30, w ∈ wsX7_visit := by decide +kernel
def m_X7_visit_L12  : apM → Option ((apM) ⊕ (apM)) := fun s0 => if (s0 0 25) ≤ 0 then (some (.inr s0)) else (Option.bind (ald s0 17 24 ((s0 0 25) - 1)) (fun t4 => Option.bind (m_X7_isThere s0 t4) (fun t6 => if t6 = 0 then (Option.bind (m_X7_isFree s0 t4) (fun t9 => if t9 = 0 then (Option.bind (m_X7_due s0 t4) (fun t12 => Option.bind (ast s0 17 24 (s0 0 25) t12) (fun s14 => some (.inl (mst s14 0 25 ((s14 0 25) + 1)))))) else (Option.bind (m_X7_come s0 t4) (fun s16 => some (.inl (mst s16 0 25 ((s16 0 25) - 1))))))) else (some (.inl (mst s0 0 25 ((s0 0 25) - 1)))))))
set_option maxHeartbeats 4000000 in
set_option maxRecDepth 100000 in
theorem w_X7_visit_L12 {Γ : apC} {q : Nat → Nat} (G : apG Γ cX7_visit 3 RX7 wsX7_visit (apRm 2 0) apXM) {s0 : apM} {r : ((apM) ⊕ (apM))} (K : match r with | .inl x => apV Γ 3 (apU layM q (apd Γ) x) 0 0 12 [(0, .ref (q 0))] [] | .inr x => apV Γ 3 (apU layM q (apd Γ) x) 0 0 105 [] []) (h : m_X7_visit_L12 s0 = some r) : apV Γ 3 (apU layM q (apd Γ) s0) 0 0 12 [(0, .ref (q 0))] [] := by
  unfold m_X7_visit_L12 at h
  refine v_aload_n G dX7_visit_12 rfl 0 rfl ?_
  refine v_geti (lay := layM) (k := 0) (C := RX7) (T := TX7) (N := 30) G (fun _ h => i_X7_visit_X7 _ h) rfl rfl 25 (by decide) (by decide +kernel) rfl rfl dX7_visit_13 ?_
  refine v_if_le (tgt := 105) G dX7_visit_16 (by decide) (fun c3 => ?_) (fun c3 => ?_)
  · replace h := (if_pos c3).symm.trans h
    cases h
    refine v_locs (L' := []) [] rfl ?_
    exact K
  · replace h := (if_neg c3).symm.trans h
    refine v_aload_n G dX7_visit_19 rfl 0 rfl ?_
    refine v_getr (lay := layM) (k := 0) (k' := 17) (C := RX7) (T := TX7) (N := 30) G (fun _ h => i_X7_visit_X7 _ h) rfl rfl 24 (by decide) (by decide +kernel) rfl rfl dX7_visit_20 ?_
    refine v_aload_n G dX7_visit_23 rfl 0 rfl ?_
    refine v_geti (lay := layM) (k := 0) (C := RX7) (T := TX7) (N := 30) G (fun _ h => i_X7_visit_X7 _ h) rfl rfl 25 (by decide) (by decide +kernel) rfl rfl dX7_visit_24 ?_
    refine v_iconst (v := 1) G dX7_visit_27 (by decide) ?_
    refine v_isub G dX7_visit_28 ?_
    obtain ⟨t4, e5, h⟩ := Option.bind_eq_some_iff.mp h
    refine v_iald (lay := layM) (k := 17) (n := 24) G rfl e5 dX7_visit_29 ?_
    refine v_istore_n (L' := [(2, .int t4), (0, .ref (q 0))]) G dX7_visit_30 rfl (by decide) rfl ?_
    refine v_aload_n G dX7_visit_31 rfl 1 rfl ?_
    refine v_iload_n G dX7_visit_32 rfl 0 rfl ?_
    obtain ⟨t6, e7, h⟩ := Option.bind_eq_some_iff.mp h
    refine v_calliV (lay := layM) (As := [.int t4]) (st := []) (n := 1) (C := RX7) (T := TX7) (k0 := 0) G apXMok (c_X7_isThere Γ.1.2.1 e7) gX7_visit_X7_isThere rfl (by decide +kernel) (by decide) rfl rfl rfl rfl (Nat.le_of_ble_eq_true rfl) (by decide) rfl dX7_visit_33 ?_
    refine v_if_eq (tgt := 52) G dX7_visit_36 (by decide) (fun c8 => ?_) (fun c8 => ?_)
    · replace h := (if_pos c8).symm.trans h
      refine v_aload_n G dX7_visit_52 rfl 1 rfl ?_
      refine v_iload_n G dX7_visit_53 rfl 0 rfl ?_
      obtain ⟨t9, e10, h⟩ := Option.bind_eq_some_iff.mp h
      refine v_calliV (lay := layM) (As := [.int t4]) (st := []) (n := 1) (C := RX7) (T := TX7) (k0 := 0) G apXMok (c_X7_isFree Γ.1.2.1 e10) gX7_visit_X7_isFree rfl (by decide +kernel) (by decide) rfl rfl rfl rfl (Nat.le_of_ble_eq_true rfl) (by decide) rfl dX7_visit_54 ?_
      refine v_if_eq (tgt := 78) G dX7_visit_57 (by decide) (fun c11 => ?_) (fun c11 => ?_)
      · replace h := (if_pos c11).symm.trans h
        refine v_aload_n G dX7_visit_78 rfl 1 rfl ?_
        refine v_getr (lay := layM) (k := 0) (k' := 17) (C := RX7) (T := TX7) (N := 30) G (fun _ h => i_X7_visit_X7 _ h) rfl rfl 24 (by decide) (by decide +kernel) rfl rfl dX7_visit_79 ?_
        refine v_aload_n G dX7_visit_82 rfl 1 rfl ?_
        refine v_geti (lay := layM) (k := 0) (C := RX7) (T := TX7) (N := 30) G (fun _ h => i_X7_visit_X7 _ h) rfl rfl 25 (by decide) (by decide +kernel) rfl rfl dX7_visit_83 ?_
        refine v_aload_n G dX7_visit_86 rfl 1 rfl ?_
        refine v_iload_n G dX7_visit_87 rfl 0 rfl ?_
        obtain ⟨t12, e13, h⟩ := Option.bind_eq_some_iff.mp h
        refine v_calliV (lay := layM) (As := [.int t4]) (st := [.int (s0 0 25), .ref (q 17)]) (n := 1) (C := RX7) (T := TX7) (k0 := 0) G apXMok (c_X7_due Γ.1.2.1 e13) gX7_visit_X7_due rfl (by decide +kernel) (by decide) rfl rfl rfl rfl (Nat.le_of_ble_eq_true rfl) (by decide) rfl dX7_visit_88 ?_
        obtain ⟨s14, e15, h⟩ := Option.bind_eq_some_iff.mp h
        refine v_iast (lay := layM) (k := 17) (n := 24) G rfl e15 dX7_visit_91 ?_
        refine v_aload_n G dX7_visit_92 rfl 1 rfl ?_
        refine v_dup G dX7_visit_93 rfl ?_
        refine v_geti (lay := layM) (k := 0) (C := RX7) (T := TX7) (N := 30) G (fun _ h => i_X7_visit_X7 _ h) rfl rfl 25 (by decide) (by decide +kernel) rfl rfl dX7_visit_94 ?_
        refine v_iconst (v := 1) G dX7_visit_97 (by decide) ?_
        refine v_iadd G dX7_visit_98 ?_
        refine v_put (lay := layM) (k := 0) (C := RX7) (T := TX7) (N := 30) G (fun _ h => i_X7_visit_X7 _ h) tyX7 tyX7_ok nmX7 rfl rfl 25 (by decide) (by decide +kernel) rfl rfl (by first | rfl | decide) (by first | rfl | decide) rfl dX7_visit_99 ?_
        refine v_goto (tgt := 12) G dX7_visit_102 (by decide) ?_
        cases h
        refine v_locs (L' := [(0, .ref (q 0))]) [1] rfl ?_
        exact K
      · replace h := (if_neg c11).symm.trans h
        refine v_aload_n G dX7_visit_60 rfl 1 rfl ?_
        refine v_iload_n G dX7_visit_61 rfl 0 rfl ?_
        obtain ⟨s16, e17, h⟩ := Option.bind_eq_some_iff.mp h
        refine v_callvV (lay := layM) (As := [.int t4]) (st := []) (n := 1) (C := RX7) (T := TX7) (k0 := 0) G apXMok (c_X7_come Γ.1.2.1 e17) gX7_visit_X7_come rfl (by decide +kernel) (by decide) rfl rfl rfl rfl (Nat.le_of_ble_eq_true rfl) (by decide) rfl dX7_visit_62 ?_
        refine v_aload_n G dX7_visit_65 rfl 1 rfl ?_
        refine v_dup G dX7_visit_66 rfl ?_
        refine v_geti (lay := layM) (k := 0) (C := RX7) (T := TX7) (N := 30) G (fun _ h => i_X7_visit_X7 _ h) rfl rfl 25 (by decide) (by decide +kernel) rfl rfl dX7_visit_67 ?_
        refine v_iconst (v := 1) G dX7_visit_70 (by decide) ?_
        refine v_isub G dX7_visit_71 ?_
        refine v_put (lay := layM) (k := 0) (C := RX7) (T := TX7) (N := 30) G (fun _ h => i_X7_visit_X7 _ h) tyX7 tyX7_ok nmX7 rfl rfl 25 (by decide) (by decide +kernel) rfl rfl (by first | rfl | decide) (by first | rfl | decide) rfl dX7_visit_72 ?_
        refine v_goto (tgt := 102) G dX7_visit_75 (by decide) ?_
        refine v_goto (tgt := 12) G dX7_visit_102 (by decide) ?_
        cases h
        refine v_locs (L' := [(0, .ref (q 0))]) [1] rfl ?_
        exact K
    · replace h := (if_neg c8).symm.trans h
      refine v_aload_n G dX7_visit_39 rfl 1 rfl ?_
      refine v_dup G dX7_visit_40 rfl ?_
      refine v_geti (lay := layM) (k := 0) (C := RX7) (T := TX7) (N := 30) G (fun _ h => i_X7_visit_X7 _ h) rfl rfl 25 (by decide) (by decide +kernel) rfl rfl dX7_visit_41 ?_
      refine v_iconst (v := 1) G dX7_visit_44 (by decide) ?_
      refine v_isub G dX7_visit_45 ?_
      refine v_put (lay := layM) (k := 0) (C := RX7) (T := TX7) (N := 30) G (fun _ h => i_X7_visit_X7 _ h) tyX7 tyX7_ok nmX7 rfl rfl 25 (by decide) (by decide +kernel) rfl rfl (by first | rfl | decide) (by first | rfl | decide) rfl dX7_visit_46 ?_
      refine v_goto (tgt := 102) G dX7_visit_49 (by decide) ?_
      refine v_goto (tgt := 12) G dX7_visit_102 (by decide) ?_
      cases h
      refine v_locs (L' := [(0, .ref (q 0))]) [1] rfl ?_
      exact K
def m_X7_visit (s : apM) (v1 : Int32) : Option apM := Option.bind (ast s 17 24 0 v1) (fun s1 => Option.bind (lp FU (m_X7_visit_L12) (mst s1 0 25 1)) (fun s20 => some s20))
set_option maxHeartbeats 4000000 in
set_option maxRecDepth 100000 in
theorem w_X7_visit {Γ : apC} {q : Nat → Nat} (G : apG Γ cX7_visit 3 RX7 wsX7_visit (apRm 2 0) apXM) {s : apM} {v1 : Int32} {r : apM} (K : apR Γ cX7_visit 0 0 none (apU layM q (apd Γ) r)) (h : m_X7_visit s v1 = some r) : apV Γ 3 (apU layM q (apd Γ) s) 0 0 0 [(0, .ref (q 0)), (1, .int v1)] [] := by
  unfold m_X7_visit at h
  refine v_aload_n G dX7_visit_0 rfl 0 rfl ?_
  refine v_getr (lay := layM) (k := 0) (k' := 17) (C := RX7) (T := TX7) (N := 30) G (fun _ h => i_X7_visit_X7 _ h) rfl rfl 24 (by decide) (by decide +kernel) rfl rfl dX7_visit_1 ?_
  refine v_iconst (v := 0) G dX7_visit_4 (by decide) ?_
  refine v_iload_n G dX7_visit_5 rfl 1 rfl ?_
  obtain ⟨s1, e2, h⟩ := Option.bind_eq_some_iff.mp h
  refine v_iast (lay := layM) (k := 17) (n := 24) G rfl e2 dX7_visit_6 ?_
  refine v_aload_n G dX7_visit_7 rfl 0 rfl ?_
  refine v_iconst (v := 1) G dX7_visit_8 (by decide) ?_
  refine v_put (lay := layM) (k := 0) (C := RX7) (T := TX7) (N := 30) G (fun _ h => i_X7_visit_X7 _ h) tyX7 tyX7_ok nmX7 rfl rfl 25 (by decide) (by decide +kernel) rfl rfl (by first | rfl | decide) (by first | rfl | decide) rfl dX7_visit_9 ?_
  obtain ⟨x18, e19, h⟩ := Option.bind_eq_some_iff.mp h
  refine v_locs (L' := [(0, .ref (q 0))]) [0] rfl ?_
  have l21 := v_lp (b := m_X7_visit_L12) (I := fun x => apV Γ 3 (apU layM q (apd Γ) x) 0 0 12 [(0, .ref (q 0))] []) (O := fun x => apV Γ 3 (apU layM q (apd Γ) x) 0 0 105 [] []) (fun x r hb hK => by rcases r with r | r <;> exact w_X7_visit_L12 G hK hb) FU (mst s1 0 25 1) x18 e19
  obtain ⟨s20, rfl⟩ : ∃ z, z = x18 := ⟨_, rfl⟩
  refine l21 ?_
  cases h
  exact v_vret G K (by decide) (by decide) dX7_visit_105
theorem c_X7_visit (l : Launch) {s : apM} {v1 : Int32} {r : apM} (h : m_X7_visit s v1 = some r) : apMv l layM apXM yX7_visit wsX7_visit 2 (fun q => [.ref (q 0), .int v1]) s r := apMv_of (cc := cX7_visit) (nL := 3) (by decide) rfl (fun _ => Nat.le_of_ble_eq_true rfl) (fun Γ q hl G K => w_X7_visit G K h)
theorem i_X7_orderByLabels_X7 : ∀ w ∈ u_ws RX7 TX7 30, w ∈ wsX7_orderByLabels := by decide +kernel
def m_X7_orderByLabels_L2  : (apM × Int32) → Option ((apM × Int32) ⊕ (apM × Int32)) := fun (s0, v1) => if (s0 0 1) ≤ v1 then (some (.inr (s0, v1))) else (Option.bind (m_X7_isUsed s0 v1) (fun t2 => if t2 = 0 then (Option.bind (m_X7_visit s0 v1) (fun s5 => some (.inl (s5, v1 + 1)))) else (some (.inl (s0, v1 + 1)))))
set_option maxHeartbeats 4000000 in
set_option maxRecDepth 100000 in
theorem w_X7_orderByLabels_L2 {Γ : apC} {q : Nat → Nat} (G : apG Γ cX7_orderByLabels 2 RX7 wsX7_orderByLabels (apRm 3 0) apXM) {s0 : apM} {v1 : Int32} {r : ((apM × Int32) ⊕ (apM × Int32))} (K : match r with | .inl x => apV Γ 2 (apU layM q (apd Γ) x.1) 0 0 2 [(0, .ref (q 0)), (1, .int x.2)] [] | .inr x => apV Γ 2 (apU layM q (apd Γ) x.1) 0 0 29 [] []) (h : m_X7_orderByLabels_L2 (s0, v1) = some r) : apV Γ 2 (apU layM q (apd Γ) s0) 0 0 2 [(0, .ref (q 0)), (1, .int v1)] [] := by
  unfold m_X7_orderByLabels_L2 at h
  dsimp only at h
  refine v_iload_n G dX7_orderByLabels_2 rfl 1 rfl ?_
  refine v_aload_n G dX7_orderByLabels_3 rfl 0 rfl ?_
  refine v_geti (lay := layM) (k := 0) (C := RX7) (T := TX7) (N := 30) G (fun _ h => i_X7_orderByLabels_X7 _ h) rfl rfl 1 (by decide) (by decide +kernel) rfl rfl dX7_orderByLabels_4 ?_
  refine v_icmp_ge (tgt := 29) G dX7_orderByLabels_7 (by decide) (fun c1 => ?_) (fun c1 => ?_)
  · replace h := (if_pos c1).symm.trans h
    cases h
    refine v_locs (L' := []) [] rfl ?_
    exact K
  · replace h := (if_neg c1).symm.trans h
    refine v_aload_n G dX7_orderByLabels_10 rfl 0 rfl ?_
    refine v_iload_n G dX7_orderByLabels_11 rfl 1 rfl ?_
    obtain ⟨t2, e3, h⟩ := Option.bind_eq_some_iff.mp h
    refine v_calliV (lay := layM) (As := [.int v1]) (st := []) (n := 1) (C := RX7) (T := TX7) (k0 := 0) G apXMok (c_X7_isUsed Γ.1.2.1 e3) gX7_orderByLabels_X7_isUsed rfl (by decide +kernel) (by decide) rfl rfl rfl rfl (Nat.le_of_ble_eq_true rfl) (by decide) rfl dX7_orderByLabels_12 ?_
    refine v_if_ne (tgt := 23) G dX7_orderByLabels_15 (by decide) (fun c4 => ?_) (fun c4 => ?_)
    · replace h := (if_neg c4).symm.trans h
      refine v_iinc (v := v1 + 1) (L' := [(1, .int (v1 + 1)), (0, .ref (q 0))]) G dX7_orderByLabels_23 1 rfl rfl (by decide) rfl ?_
      refine v_goto (tgt := 2) G dX7_orderByLabels_26 (by decide) ?_
      cases h
      refine v_locs (L' := [(0, .ref (q 0)), (1, .int (v1 + 1))]) [1, 0] rfl ?_
      exact K
    · replace h := (if_pos c4).symm.trans h
      refine v_aload_n G dX7_orderByLabels_18 rfl 0 rfl ?_
      refine v_iload_n G dX7_orderByLabels_19 rfl 1 rfl ?_
      obtain ⟨s5, e6, h⟩ := Option.bind_eq_some_iff.mp h
      refine v_callvV (lay := layM) (As := [.int v1]) (st := []) (n := 1) (C := RX7) (T := TX7) (k0 := 0) G apXMok (c_X7_visit Γ.1.2.1 e6) gX7_orderByLabels_X7_visit rfl (by decide +kernel) (by decide) rfl rfl rfl rfl (Nat.le_of_ble_eq_true rfl) (by decide) rfl dX7_orderByLabels_20 ?_
      refine v_iinc (v := v1 + 1) (L' := [(1, .int (v1 + 1)), (0, .ref (q 0))]) G dX7_orderByLabels_23 1 rfl rfl (by decide) rfl ?_
      refine v_goto (tgt := 2) G dX7_orderByLabels_26 (by decide) ?_
      cases h
      refine v_locs (L' := [(0, .ref (q 0)), (1, .int (v1 + 1))]) [1, 0] rfl ?_
      exact K
def m_X7_orderByLabels (s : apM)  : Option apM := Option.bind (lp FU (m_X7_orderByLabels_L2) (s, 0)) (fun x7 => match x7 with | (s10, v9) => some s10)
set_option maxHeartbeats 4000000 in
set_option maxRecDepth 100000 in
theorem w_X7_orderByLabels {Γ : apC} {q : Nat → Nat} (G : apG Γ cX7_orderByLabels 2 RX7 wsX7_orderByLabels (apRm 3 0) apXM) {s : apM} {r : apM} (K : apR Γ cX7_orderByLabels 0 0 none (apU layM q (apd Γ) r)) (h : m_X7_orderByLabels s = some r) : apV Γ 2 (apU layM q (apd Γ) s) 0 0 0 [(0, .ref (q 0))] [] := by
  unfold m_X7_orderByLabels at h
  refine v_iconst (v := 0) G dX7_orderByLabels_0 (by decide) ?_
  refine v_istore_n (L' := [(1, .int 0), (0, .ref (q 0))]) G dX7_orderByLabels_1 rfl (by decide) rfl ?_
  obtain ⟨x7, e8, h⟩ := Option.bind_eq_some_iff.mp h
  refine v_locs (L' := [(0, .ref (q 0)), (1, .int 0)]) [1, 0] rfl ?_
  have l11 := v_lp (b := m_X7_orderByLabels_L2) (I := fun x => apV Γ 2 (apU layM q (apd Γ) x.1) 0 0 2 [(0, .ref (q 0)), (1, .int x.2)] []) (O := fun x => apV Γ 2 (apU layM q (apd Γ) x.1) 0 0 29 [] []) (fun x r hb hK => by obtain ⟨ys, y1⟩ := x; rcases r with r | r <;> exact w_X7_orderByLabels_L2 G hK hb) FU (s, 0) x7 e8
  obtain ⟨s10, v9⟩ := x7
  dsimp only at h
  refine l11 ?_
  cases h
  exact v_vret G K (by decide) (by decide) dX7_orderByLabels_29
theorem c_X7_orderByLabels (l : Launch) {s : apM} {r : apM} (h : m_X7_orderByLabels s = some r) : apMv l layM apXM yX7_orderByLabels wsX7_orderByLabels 3 (fun q => [.ref (q 0)]) s r := apMv_of (cc := cX7_orderByLabels) (nL := 2) (by decide) rfl (fun _ => Nat.le_of_ble_eq_true rfl) (fun Γ q hl G K => w_X7_orderByLabels G K h)
theorem i_X7_orderByNumbers_X7 : ∀ w ∈ u_ws RX7 TX7 30, w ∈ wsX7_orderByNumbers := by decide +kernel
def m_X7_orderByNumbers_L13 (s : apM)  : Int32 → Option ((Int32) ⊕ (Int32)) := fun v1 => Option.bind (m_X7_isThere s v1) (fun t2 => if t2 = 0 then (Option.bind (m_X7_isFree s v1) (fun t5 => if t5 = 0 then (some (.inl (v1 + 1))) else (some (.inr v1)))) else (some (.inl (v1 + 1))))
set_option maxHeartbeats 4000000 in
set_option maxRecDepth 100000 in
theorem w_X7_orderByNumbers_L13 {Γ : apC} {q : Nat → Nat} (G : apG Γ cX7_orderByNumbers 2 RX7 wsX7_orderByNumbers (apRm 2 0) apXM) {s : apM} {v1 : Int32} {r : ((Int32) ⊕ (Int32))} (K : match r with | .inl x => apV Γ 2 (apU layM q (apd Γ) s) 0 0 13 [(0, .ref (q 0)), (1, .int x)] [] | .inr x => apV Γ 2 (apU layM q (apd Γ) s) 0 0 35 [(0, .ref (q 0)), (1, .int x)] []) (h : m_X7_orderByNumbers_L13 s v1 = some r) : apV Γ 2 (apU layM q (apd Γ) s) 0 0 13 [(0, .ref (q 0)), (1, .int v1)] [] := by
  unfold m_X7_orderByNumbers_L13 at h
  refine v_aload_n G dX7_orderByNumbers_13 rfl 0 rfl ?_
  refine v_iload_n G dX7_orderByNumbers_14 rfl 1 rfl ?_
  obtain ⟨t2, e3, h⟩ := Option.bind_eq_some_iff.mp h
  refine v_calliV (lay := layM) (As := [.int v1]) (st := []) (n := 1) (C := RX7) (T := TX7) (k0 := 0) G apXMok (c_X7_isThere Γ.1.2.1 e3) gX7_orderByNumbers_X7_isThere rfl (by decide +kernel) (by decide) rfl rfl rfl rfl (Nat.le_of_ble_eq_true rfl) (by decide) rfl dX7_orderByNumbers_15 ?_
  refine v_if_ne (tgt := 29) G dX7_orderByNumbers_18 (by decide) (fun c4 => ?_) (fun c4 => ?_)
  · replace h := (if_neg c4).symm.trans h
    refine v_iinc (v := v1 + 1) (L' := [(1, .int (v1 + 1)), (0, .ref (q 0))]) G dX7_orderByNumbers_29 1 rfl rfl (by decide) rfl ?_
    refine v_goto (tgt := 13) G dX7_orderByNumbers_32 (by decide) ?_
    cases h
    refine v_locs (L' := [(0, .ref (q 0)), (1, .int (v1 + 1))]) [1, 0] rfl ?_
    exact K
  · replace h := (if_pos c4).symm.trans h
    refine v_aload_n G dX7_orderByNumbers_21 rfl 0 rfl ?_
    refine v_iload_n G dX7_orderByNumbers_22 rfl 1 rfl ?_
    obtain ⟨t5, e6, h⟩ := Option.bind_eq_some_iff.mp h
    refine v_calliV (lay := layM) (As := [.int v1]) (st := []) (n := 1) (C := RX7) (T := TX7) (k0 := 0) G apXMok (c_X7_isFree Γ.1.2.1 e6) gX7_orderByNumbers_X7_isFree rfl (by decide +kernel) (by decide) rfl rfl rfl rfl (Nat.le_of_ble_eq_true rfl) (by decide) rfl dX7_orderByNumbers_23 ?_
    refine v_if_ne (tgt := 35) G dX7_orderByNumbers_26 (by decide) (fun c7 => ?_) (fun c7 => ?_)
    · replace h := (if_neg c7).symm.trans h
      cases h
      exact K
    · replace h := (if_pos c7).symm.trans h
      refine v_iinc (v := v1 + 1) (L' := [(1, .int (v1 + 1)), (0, .ref (q 0))]) G dX7_orderByNumbers_29 1 rfl rfl (by decide) rfl ?_
      refine v_goto (tgt := 13) G dX7_orderByNumbers_32 (by decide) ?_
      cases h
      refine v_locs (L' := [(0, .ref (q 0)), (1, .int (v1 + 1))]) [1, 0] rfl ?_
      exact K
def m_X7_orderByNumbers_L0  : apM → Option ((apM) ⊕ (apM)) := fun s0 => if (s0 0 1) ≤ (s0 0 19) then (some (.inr s0)) else (Option.bind (lp FU (m_X7_orderByNumbers_L13 s0) 0) (fun v10 => Option.bind (m_X7_come s0 v10) (fun s11 => some (.inl s11))))
set_option maxHeartbeats 4000000 in
set_option maxRecDepth 100000 in
theorem w_X7_orderByNumbers_L0 {Γ : apC} {q : Nat → Nat} (G : apG Γ cX7_orderByNumbers 2 RX7 wsX7_orderByNumbers (apRm 2 0) apXM) {s0 : apM} {r : ((apM) ⊕ (apM))} (K : match r with | .inl x => apV Γ 2 (apU layM q (apd Γ) x) 0 0 0 [(0, .ref (q 0))] [] | .inr x => apV Γ 2 (apU layM q (apd Γ) x) 0 0 43 [] []) (h : m_X7_orderByNumbers_L0 s0 = some r) : apV Γ 2 (apU layM q (apd Γ) s0) 0 0 0 [(0, .ref (q 0))] [] := by
  unfold m_X7_orderByNumbers_L0 at h
  refine v_aload_n G dX7_orderByNumbers_0 rfl 0 rfl ?_
  refine v_geti (lay := layM) (k := 0) (C := RX7) (T := TX7) (N := 30) G (fun _ h => i_X7_orderByNumbers_X7 _ h) rfl rfl 19 (by decide) (by decide +kernel) rfl rfl dX7_orderByNumbers_1 ?_
  refine v_aload_n G dX7_orderByNumbers_4 rfl 0 rfl ?_
  refine v_geti (lay := layM) (k := 0) (C := RX7) (T := TX7) (N := 30) G (fun _ h => i_X7_orderByNumbers_X7 _ h) rfl rfl 1 (by decide) (by decide +kernel) rfl rfl dX7_orderByNumbers_5 ?_
  refine v_icmp_ge (tgt := 43) G dX7_orderByNumbers_8 (by decide) (fun c1 => ?_) (fun c1 => ?_)
  · replace h := (if_pos c1).symm.trans h
    cases h
    refine v_locs (L' := []) [] rfl ?_
    exact K
  · replace h := (if_neg c1).symm.trans h
    refine v_iconst (v := 0) G dX7_orderByNumbers_11 (by decide) ?_
    refine v_istore_n (L' := [(1, .int 0), (0, .ref (q 0))]) G dX7_orderByNumbers_12 rfl (by decide) rfl ?_
    obtain ⟨x8, e9, h⟩ := Option.bind_eq_some_iff.mp h
    refine v_locs (L' := [(0, .ref (q 0)), (1, .int 0)]) [1, 0] rfl ?_
    have l13 := v_lp (b := m_X7_orderByNumbers_L13 s0) (I := fun x => apV Γ 2 (apU layM q (apd Γ) s0) 0 0 13 [(0, .ref (q 0)), (1, .int x)] []) (O := fun x => apV Γ 2 (apU layM q (apd Γ) s0) 0 0 35 [(0, .ref (q 0)), (1, .int x)] []) (fun x r hb hK => by rcases r with r | r <;> exact w_X7_orderByNumbers_L13 G hK hb) FU 0 x8 e9
    obtain ⟨v10, rfl⟩ : ∃ z, z = x8 := ⟨_, rfl⟩
    refine l13 ?_
    refine v_aload_n G dX7_orderByNumbers_35 rfl 0 rfl ?_
    refine v_iload_n G dX7_orderByNumbers_36 rfl 1 rfl ?_
    obtain ⟨s11, e12, h⟩ := Option.bind_eq_some_iff.mp h
    refine v_callvV (lay := layM) (As := [.int v10]) (st := []) (n := 1) (C := RX7) (T := TX7) (k0 := 0) G apXMok (c_X7_come Γ.1.2.1 e12) gX7_orderByNumbers_X7_come rfl (by decide +kernel) (by decide) rfl rfl rfl rfl (Nat.le_of_ble_eq_true rfl) (by decide) rfl dX7_orderByNumbers_37 ?_
    refine v_goto (tgt := 0) G dX7_orderByNumbers_40 (by decide) ?_
    cases h
    refine v_locs (L' := [(0, .ref (q 0))]) [0] rfl ?_
    exact K
def m_X7_orderByNumbers (s : apM)  : Option apM := Option.bind (lp FU (m_X7_orderByNumbers_L0) s) (fun s16 => some s16)
set_option maxHeartbeats 4000000 in
set_option maxRecDepth 100000 in
theorem w_X7_orderByNumbers {Γ : apC} {q : Nat → Nat} (G : apG Γ cX7_orderByNumbers 2 RX7 wsX7_orderByNumbers (apRm 2 0) apXM) {s : apM} {r : apM} (K : apR Γ cX7_orderByNumbers 0 0 none (apU layM q (apd Γ) r)) (h : m_X7_orderByNumbers s = some r) : apV Γ 2 (apU layM q (apd Γ) s) 0 0 0 [(0, .ref (q 0))] [] := by
  unfold m_X7_orderByNumbers at h
  obtain ⟨x14, e15, h⟩ := Option.bind_eq_some_iff.mp h
  have l17 := v_lp (b := m_X7_orderByNumbers_L0) (I := fun x => apV Γ 2 (apU layM q (apd Γ) x) 0 0 0 [(0, .ref (q 0))] []) (O := fun x => apV Γ 2 (apU layM q (apd Γ) x) 0 0 43 [] []) (fun x r hb hK => by rcases r with r | r <;> exact w_X7_orderByNumbers_L0 G hK hb) FU s x14 e15
  obtain ⟨s16, rfl⟩ : ∃ z, z = x14 := ⟨_, rfl⟩
  refine l17 ?_
  cases h
  exact v_vret G K (by decide) (by decide) dX7_orderByNumbers_43
theorem c_X7_orderByNumbers (l : Launch) {s : apM} {r : apM} (h : m_X7_orderByNumbers s = some r) : apMv l layM apXM yX7_orderByNumbers wsX7_orderByNumbers 2 (fun q => [.ref (q 0)]) s r := apMv_of (cc := cX7_orderByNumbers) (nL := 2) (by decide) rfl (fun _ => Nat.le_of_ble_eq_true rfl) (fun Γ q hl G K => w_X7_orderByNumbers G K h)
theorem i_X7_peak_X7 : ∀ w ∈ u_ws RX7 TX7 30, w ∈ wsX7_peak := by decide +kernel
def m_X7_peak_B53 (s : apM) (v2 : Int32) (k0 : Int32) : Option ((Int32 × Int32) ⊕ (Int32 × Int32)) := some (.inl (k0, v2 + 1))
set_option maxHeartbeats 4000000 in
set_option maxRecDepth 100000 in
theorem w_X7_peak_B53 {Γ : apC} {q : Nat → Nat} (G : apG Γ cX7_peak 3 RX7 wsX7_peak (apRm 1 0) apXM) {s : apM} {v2 k0 : Int32} {r : ((Int32 × Int32) ⊕ (Int32 × Int32))} (K : match r with | .inl x => apV Γ 3 (apU layM q (apd Γ) s) 0 0 20 [(0, .ref (q 0)), (1, .int x.1), (2, .int x.2)] [] | .inr x => apV Γ 3 (apU layM q (apd Γ) s) 0 0 60 [(1, .int x.1)] []) (h : m_X7_peak_B53 s v2 k0 = some r) : apV Γ 3 (apU layM q (apd Γ) s) 0 0 53 [(0, .ref (q 0)), (2, .int v2)] [.int k0] := by
  unfold m_X7_peak_B53 at h
  refine v_istore_n (L' := [(1, .int k0), (0, .ref (q 0)), (2, .int v2)]) G dX7_peak_53 rfl (by decide) rfl ?_
  refine v_iinc (v := v2 + 1) (L' := [(2, .int (v2 + 1)), (1, .int k0), (0, .ref (q 0))]) G dX7_peak_54 2 rfl rfl (by decide) rfl ?_
  refine v_goto (tgt := 20) G dX7_peak_57 (by decide) ?_
  cases h
  refine v_locs (L' := [(0, .ref (q 0)), (1, .int k0), (2, .int (v2 + 1))]) [2, 1, 0] rfl ?_
  exact K
def m_X7_peak_L20 (s : apM)  : (Int32 × Int32) → Option ((Int32 × Int32) ⊕ (Int32 × Int32)) := fun (v1, v2) => if (s 0 1) ≤ v2 then (some (.inr (v1, v2))) else (if (s 0 11) = 0 then (some (.inr (v1, v2))) else (Option.bind (m_X7_costOf s v2) (fun t4 => if t4 ≤ v1 then (m_X7_peak_B53 s v2 v1) else (Option.bind (m_X7_costOf s v2) (fun t7 => m_X7_peak_B53 s v2 t7)))))
set_option maxHeartbeats 4000000 in
set_option maxRecDepth 100000 in
theorem w_X7_peak_L20 {Γ : apC} {q : Nat → Nat} (G : apG Γ cX7_peak 3 RX7 wsX7_peak (apRm 1 0) apXM) {s : apM} {v1 v2 : Int32} {r : ((Int32 × Int32) ⊕ (Int32 × Int32))} (K : match r with | .inl x => apV Γ 3 (apU layM q (apd Γ) s) 0 0 20 [(0, .ref (q 0)), (1, .int x.1), (2, .int x.2)] [] | .inr x => apV Γ 3 (apU layM q (apd Γ) s) 0 0 60 [(1, .int x.1)] []) (h : m_X7_peak_L20 s (v1, v2) = some r) : apV Γ 3 (apU layM q (apd Γ) s) 0 0 20 [(0, .ref (q 0)), (1, .int v1), (2, .int v2)] [] := by
  unfold m_X7_peak_L20 at h
  dsimp only at h
  refine v_iload_n G dX7_peak_20 rfl 2 rfl ?_
  refine v_aload_n G dX7_peak_21 rfl 0 rfl ?_
  refine v_geti (lay := layM) (k := 0) (C := RX7) (T := TX7) (N := 30) G (fun _ h => i_X7_peak_X7 _ h) rfl rfl 1 (by decide) (by decide +kernel) rfl rfl dX7_peak_22 ?_
  refine v_icmp_ge (tgt := 60) G dX7_peak_25 (by decide) (fun c2 => ?_) (fun c2 => ?_)
  · replace h := (if_pos c2).symm.trans h
    cases h
    refine v_locs (L' := [(1, .int v1)]) [1] rfl ?_
    exact K
  · replace h := (if_neg c2).symm.trans h
    refine v_aload_n G dX7_peak_28 rfl 0 rfl ?_
    refine v_geti (lay := layM) (k := 0) (C := RX7) (T := TX7) (N := 30) G (fun _ h => i_X7_peak_X7 _ h) rfl rfl 11 (by decide) (by decide +kernel) rfl rfl dX7_peak_29 ?_
    refine v_if_eq (tgt := 60) G dX7_peak_32 (by decide) (fun c3 => ?_) (fun c3 => ?_)
    · replace h := (if_pos c3).symm.trans h
      cases h
      refine v_locs (L' := [(1, .int v1)]) [1] rfl ?_
      exact K
    · replace h := (if_neg c3).symm.trans h
      refine v_aload_n G dX7_peak_35 rfl 0 rfl ?_
      refine v_iload_n G dX7_peak_36 rfl 2 rfl ?_
      obtain ⟨t4, e5, h⟩ := Option.bind_eq_some_iff.mp h
      refine v_calliV (lay := layM) (As := [.int v2]) (st := []) (n := 1) (C := RX7) (T := TX7) (k0 := 0) G apXMok (c_X7_costOf Γ.1.2.1 e5) gX7_peak_X7_costOf rfl (by decide +kernel) (by decide) rfl rfl rfl rfl (Nat.le_of_ble_eq_true rfl) (by decide) rfl dX7_peak_37 ?_
      refine v_iload_n G dX7_peak_40 rfl 1 rfl ?_
      refine v_icmp_le (tgt := 52) G dX7_peak_41 (by decide) (fun c6 => ?_) (fun c6 => ?_)
      · replace h := (if_pos c6).symm.trans h
        refine v_iload_n G dX7_peak_52 rfl 1 rfl ?_
        refine v_locs (L' := [(0, .ref (q 0)), (2, .int v2)]) [0, 2] rfl ?_
        exact w_X7_peak_B53 G K h
      · replace h := (if_neg c6).symm.trans h
        refine v_aload_n G dX7_peak_44 rfl 0 rfl ?_
        refine v_iload_n G dX7_peak_45 rfl 2 rfl ?_
        obtain ⟨t7, e8, h⟩ := Option.bind_eq_some_iff.mp h
        refine v_calliV (lay := layM) (As := [.int v2]) (st := []) (n := 1) (C := RX7) (T := TX7) (k0 := 0) G apXMok (c_X7_costOf Γ.1.2.1 e8) gX7_peak_X7_costOf rfl (by decide +kernel) (by decide) rfl rfl rfl rfl (Nat.le_of_ble_eq_true rfl) (by decide) rfl dX7_peak_46 ?_
        refine v_goto (tgt := 53) G dX7_peak_49 (by decide) ?_
        refine v_locs (L' := [(0, .ref (q 0)), (2, .int v2)]) [0, 2] rfl ?_
        exact w_X7_peak_B53 G K h
def m_X7_peak_B13 (s : apM) (k0 : Int32) : Option (Int32 × apM) := Option.bind (lp FU (m_X7_peak_L20 (mst s 0 0 k0)) (0, 0)) (fun x9 => match x9 with | (v11, v12) => some (v11, mst s 0 0 k0))
set_option maxHeartbeats 4000000 in
set_option maxRecDepth 100000 in
theorem w_X7_peak_B13 {Γ : apC} {q : Nat → Nat} (G : apG Γ cX7_peak 3 RX7 wsX7_peak (apRm 1 0) apXM) {s : apM} {k0 : Int32} {r : (Int32 × apM)} (K : apR Γ cX7_peak 0 0 (some r.1) (apU layM q (apd Γ) r.2)) (h : m_X7_peak_B13 s k0 = some r) : apV Γ 3 (apU layM q (apd Γ) s) 0 0 13 [(0, .ref (q 0))] [.int k0, .ref (q 0)] := by
  unfold m_X7_peak_B13 at h
  refine v_put (lay := layM) (k := 0) (C := RX7) (T := TX7) (N := 30) G (fun _ h => i_X7_peak_X7 _ h) tyX7 tyX7_ok nmX7 rfl rfl 0 (by decide) (by decide +kernel) rfl rfl (by first | rfl | decide) (by first | rfl | decide) rfl dX7_peak_13 ?_
  refine v_iconst (v := 0) G dX7_peak_16 (by decide) ?_
  refine v_istore_n (L' := [(1, .int 0), (0, .ref (q 0))]) G dX7_peak_17 rfl (by decide) rfl ?_
  refine v_iconst (v := 0) G dX7_peak_18 (by decide) ?_
  refine v_istore_n (L' := [(2, .int 0), (1, .int 0), (0, .ref (q 0))]) G dX7_peak_19 rfl (by decide) rfl ?_
  obtain ⟨x9, e10, h⟩ := Option.bind_eq_some_iff.mp h
  refine v_locs (L' := [(0, .ref (q 0)), (1, .int 0), (2, .int 0)]) [2, 1, 0] rfl ?_
  have l13 := v_lp (b := m_X7_peak_L20 (mst s 0 0 k0)) (I := fun x => apV Γ 3 (apU layM q (apd Γ) (mst s 0 0 k0)) 0 0 20 [(0, .ref (q 0)), (1, .int x.1), (2, .int x.2)] []) (O := fun x => apV Γ 3 (apU layM q (apd Γ) (mst s 0 0 k0)) 0 0 60 [(1, .int x.1)] []) (fun x r hb hK => by obtain ⟨y1, y2⟩ := x; rcases r with r | r <;> exact w_X7_peak_L20 G hK hb) FU (0, 0) x9 e10
  obtain ⟨v11, v12⟩ := x9
  dsimp only at h
  refine l13 ?_
  refine v_iload_n G dX7_peak_60 rfl 0 rfl ?_
  cases h
  exact v_iret G K (by decide) (by decide) dX7_peak_61
def m_X7_peak (s : apM)  : Option (Int32 × apM) := if (s 0 11) = 0 then (m_X7_peak_B13 s 1) else (m_X7_peak_B13 s 0)
set_option maxHeartbeats 4000000 in
set_option maxRecDepth 100000 in
theorem w_X7_peak {Γ : apC} {q : Nat → Nat} (G : apG Γ cX7_peak 3 RX7 wsX7_peak (apRm 1 0) apXM) {s : apM} {r : (Int32 × apM)} (K : apR Γ cX7_peak 0 0 (some r.1) (apU layM q (apd Γ) r.2)) (h : m_X7_peak s = some r) : apV Γ 3 (apU layM q (apd Γ) s) 0 0 0 [(0, .ref (q 0))] [] := by
  unfold m_X7_peak at h
  refine v_aload_n G dX7_peak_0 rfl 0 rfl ?_
  refine v_aload_n G dX7_peak_1 rfl 0 rfl ?_
  refine v_geti (lay := layM) (k := 0) (C := RX7) (T := TX7) (N := 30) G (fun _ h => i_X7_peak_X7 _ h) rfl rfl 11 (by decide) (by decide +kernel) rfl rfl dX7_peak_2 ?_
  refine v_if_eq (tgt := 12) G dX7_peak_5 (by decide) (fun c1 => ?_) (fun c1 => ?_)
  · replace h := (if_pos c1).symm.trans h
    refine v_iconst (v := 1) G dX7_peak_12 (by decide) ?_
    exact w_X7_peak_B13 G K h
  · replace h := (if_neg c1).symm.trans h
    refine v_iconst (v := 0) G dX7_peak_8 (by decide) ?_
    refine v_goto (tgt := 13) G dX7_peak_9 (by decide) ?_
    exact w_X7_peak_B13 G K h
theorem c_X7_peak (l : Launch) {s : apM} {r : (Int32 × apM)} (h : m_X7_peak s = some r) : apMi l layM apXM yX7_peak wsX7_peak 1 (fun q => [.ref (q 0)]) s r.1 r.2 := apMi_of (cc := cX7_peak) (nL := 3) (r := r.1) (by decide) rfl rfl (fun _ => Nat.le_of_ble_eq_true rfl) (fun Γ q hl G K => w_X7_peak G K h)
theorem i_X7_plan_X7 : ∀ w ∈ u_ws RX7 TX7 30, w ∈ wsX7_plan := by decide +kernel
def m_X7_plan_L75  : (apM × Int32) → Option ((apM × Int32) ⊕ (apM × Int32)) := fun (s0, v2) => if (s0 0 1) ≤ v2 then (some (.inr (s0, v2))) else (Option.bind (ald s0 15 12 v2) (fun t13 => Option.bind (ast s0 9 12 v2 t13) (fun s15 => Option.bind (ast s15 12 12 v2 (-1)) (fun s17 => some (.inl (s17, v2 + 1))))))
set_option maxHeartbeats 4000000 in
set_option maxRecDepth 100000 in
theorem w_X7_plan_L75 {Γ : apC} {q : Nat → Nat} (G : apG Γ cX7_plan 3 RX7 wsX7_plan (apRm 4 0) apXM) {s0 : apM} {v2 : Int32} {r : ((apM × Int32) ⊕ (apM × Int32))} (K : match r with | .inl x => apV Γ 3 (apU layM q (apd Γ) x.1) 0 0 75 [(0, .ref (q 0)), (2, .int x.2)] [] | .inr x => apV Γ 3 (apU layM q (apd Γ) x.1) 0 0 108 [(0, .ref (q 0))] []) (h : m_X7_plan_L75 (s0, v2) = some r) : apV Γ 3 (apU layM q (apd Γ) s0) 0 0 75 [(0, .ref (q 0)), (2, .int v2)] [] := by
  unfold m_X7_plan_L75 at h
  dsimp only at h
  refine v_iload_n G dX7_plan_75 rfl 1 rfl ?_
  refine v_aload_n G dX7_plan_76 rfl 0 rfl ?_
  refine v_geti (lay := layM) (k := 0) (C := RX7) (T := TX7) (N := 30) G (fun _ h => i_X7_plan_X7 _ h) rfl rfl 1 (by decide) (by decide +kernel) rfl rfl dX7_plan_77 ?_
  refine v_icmp_ge (tgt := 108) G dX7_plan_80 (by decide) (fun c12 => ?_) (fun c12 => ?_)
  · replace h := (if_pos c12).symm.trans h
    cases h
    refine v_locs (L' := [(0, .ref (q 0))]) [0] rfl ?_
    exact K
  · replace h := (if_neg c12).symm.trans h
    refine v_aload_n G dX7_plan_83 rfl 0 rfl ?_
    refine v_getr (lay := layM) (k := 0) (k' := 9) (C := RX7) (T := TX7) (N := 30) G (fun _ h => i_X7_plan_X7 _ h) rfl rfl 13 (by decide) (by decide +kernel) rfl rfl dX7_plan_84 ?_
    refine v_iload_n G dX7_plan_87 rfl 1 rfl ?_
    refine v_aload_n G dX7_plan_88 rfl 0 rfl ?_
    refine v_getr (lay := layM) (k := 0) (k' := 15) (C := RX7) (T := TX7) (N := 30) G (fun _ h => i_X7_plan_X7 _ h) rfl rfl 22 (by decide) (by decide +kernel) rfl rfl dX7_plan_89 ?_
    refine v_iload_n G dX7_plan_92 rfl 1 rfl ?_
    obtain ⟨t13, e14, h⟩ := Option.bind_eq_some_iff.mp h
    refine v_iald (lay := layM) (k := 15) (n := 12) G rfl e14 dX7_plan_93 ?_
    obtain ⟨s15, e16, h⟩ := Option.bind_eq_some_iff.mp h
    refine v_iast (lay := layM) (k := 9) (n := 12) G rfl e16 dX7_plan_94 ?_
    refine v_aload_n G dX7_plan_95 rfl 0 rfl ?_
    refine v_getr (lay := layM) (k := 0) (k' := 12) (C := RX7) (T := TX7) (N := 30) G (fun _ h => i_X7_plan_X7 _ h) rfl rfl 16 (by decide) (by decide +kernel) rfl rfl dX7_plan_96 ?_
    refine v_iload_n G dX7_plan_99 rfl 1 rfl ?_
    refine v_iconst (v := (-1)) G dX7_plan_100 (by decide) ?_
    obtain ⟨s17, e18, h⟩ := Option.bind_eq_some_iff.mp h
    refine v_iast (lay := layM) (k := 12) (n := 12) G rfl e18 dX7_plan_101 ?_
    refine v_iinc (v := v2 + 1) (L' := [(2, .int (v2 + 1)), (0, .ref (q 0))]) G dX7_plan_102 1 rfl rfl (by decide) rfl ?_
    refine v_goto (tgt := 75) G dX7_plan_105 (by decide) ?_
    cases h
    refine v_locs (L' := [(0, .ref (q 0)), (2, .int (v2 + 1))]) [1, 0] rfl ?_
    exact K
def m_X7_plan_L114  : (apM × Int32) → Option ((apM × Int32) ⊕ (apM × Int32)) := fun (s0, v2) => if (s0 0 1) ≤ v2 then (some (.inr (s0, v2))) else (Option.bind (ald s0 11 12 v2) (fun t26 => Option.bind (m_X7_labelOf s0 t26) (fun s28 => some (.inl (s28, v2 + 1)))))
set_option maxHeartbeats 4000000 in
set_option maxRecDepth 100000 in
theorem w_X7_plan_L114 {Γ : apC} {q : Nat → Nat} (G : apG Γ cX7_plan 3 RX7 wsX7_plan (apRm 4 0) apXM) {s0 : apM} {v2 : Int32} {r : ((apM × Int32) ⊕ (apM × Int32))} (K : match r with | .inl x => apV Γ 3 (apU layM q (apd Γ) x.1) 0 0 114 [(0, .ref (q 0)), (2, .int x.2)] [] | .inr x => apV Γ 3 (apU layM q (apd Γ) x.1) 0 0 138 [(0, .ref (q 0))] []) (h : m_X7_plan_L114 (s0, v2) = some r) : apV Γ 3 (apU layM q (apd Γ) s0) 0 0 114 [(0, .ref (q 0)), (2, .int v2)] [] := by
  unfold m_X7_plan_L114 at h
  dsimp only at h
  refine v_iload_n G dX7_plan_114 rfl 1 rfl ?_
  refine v_aload_n G dX7_plan_115 rfl 0 rfl ?_
  refine v_geti (lay := layM) (k := 0) (C := RX7) (T := TX7) (N := 30) G (fun _ h => i_X7_plan_X7 _ h) rfl rfl 1 (by decide) (by decide +kernel) rfl rfl dX7_plan_116 ?_
  refine v_icmp_ge (tgt := 138) G dX7_plan_119 (by decide) (fun c25 => ?_) (fun c25 => ?_)
  · replace h := (if_pos c25).symm.trans h
    cases h
    refine v_locs (L' := [(0, .ref (q 0))]) [0] rfl ?_
    exact K
  · replace h := (if_neg c25).symm.trans h
    refine v_aload_n G dX7_plan_122 rfl 0 rfl ?_
    refine v_aload_n G dX7_plan_123 rfl 0 rfl ?_
    refine v_getr (lay := layM) (k := 0) (k' := 11) (C := RX7) (T := TX7) (N := 30) G (fun _ h => i_X7_plan_X7 _ h) rfl rfl 15 (by decide) (by decide +kernel) rfl rfl dX7_plan_124 ?_
    refine v_iload_n G dX7_plan_127 rfl 1 rfl ?_
    obtain ⟨t26, e27, h⟩ := Option.bind_eq_some_iff.mp h
    refine v_iald (lay := layM) (k := 11) (n := 12) G rfl e27 dX7_plan_128 ?_
    obtain ⟨s28, e29, h⟩ := Option.bind_eq_some_iff.mp h
    refine v_callvV (lay := layM) (As := [.int t26]) (st := []) (n := 1) (C := RX7) (T := TX7) (k0 := 0) G apXMok (c_X7_labelOf Γ.1.2.1 e29) gX7_plan_X7_labelOf rfl (by decide +kernel) (by decide) rfl rfl rfl rfl (Nat.le_of_ble_eq_true rfl) (by decide) rfl dX7_plan_129 ?_
    refine v_iinc (v := v2 + 1) (L' := [(2, .int (v2 + 1)), (0, .ref (q 0))]) G dX7_plan_132 1 rfl rfl (by decide) rfl ?_
    refine v_goto (tgt := 114) G dX7_plan_135 (by decide) ?_
    cases h
    refine v_locs (L' := [(0, .ref (q 0)), (2, .int (v2 + 1))]) [1, 0] rfl ?_
    exact K
def m_X7_plan_L153  : (apM × Int32) → Option ((apM × Int32) ⊕ (apM × Int32)) := fun (s0, v2) => if (s0 0 1) ≤ v2 then (some (.inr (s0, v2))) else (Option.bind (ast s0 12 12 v2 (-1)) (fun s36 => some (.inl (s36, v2 + 1))))
set_option maxHeartbeats 4000000 in
set_option maxRecDepth 100000 in
theorem w_X7_plan_L153 {Γ : apC} {q : Nat → Nat} (G : apG Γ cX7_plan 3 RX7 wsX7_plan (apRm 4 0) apXM) {s0 : apM} {v2 : Int32} {r : ((apM × Int32) ⊕ (apM × Int32))} (K : match r with | .inl x => apV Γ 3 (apU layM q (apd Γ) x.1) 0 0 153 [(0, .ref (q 0)), (2, .int x.2)] [] | .inr x => apV Γ 3 (apU layM q (apd Γ) x.1) 0 0 174 [(0, .ref (q 0))] []) (h : m_X7_plan_L153 (s0, v2) = some r) : apV Γ 3 (apU layM q (apd Γ) s0) 0 0 153 [(0, .ref (q 0)), (2, .int v2)] [] := by
  unfold m_X7_plan_L153 at h
  dsimp only at h
  refine v_iload_n G dX7_plan_153 rfl 1 rfl ?_
  refine v_aload_n G dX7_plan_154 rfl 0 rfl ?_
  refine v_geti (lay := layM) (k := 0) (C := RX7) (T := TX7) (N := 30) G (fun _ h => i_X7_plan_X7 _ h) rfl rfl 1 (by decide) (by decide +kernel) rfl rfl dX7_plan_155 ?_
  refine v_icmp_ge (tgt := 174) G dX7_plan_158 (by decide) (fun c35 => ?_) (fun c35 => ?_)
  · replace h := (if_pos c35).symm.trans h
    cases h
    refine v_locs (L' := [(0, .ref (q 0))]) [0] rfl ?_
    exact K
  · replace h := (if_neg c35).symm.trans h
    refine v_aload_n G dX7_plan_161 rfl 0 rfl ?_
    refine v_getr (lay := layM) (k := 0) (k' := 12) (C := RX7) (T := TX7) (N := 30) G (fun _ h => i_X7_plan_X7 _ h) rfl rfl 16 (by decide) (by decide +kernel) rfl rfl dX7_plan_162 ?_
    refine v_iload_n G dX7_plan_165 rfl 1 rfl ?_
    refine v_iconst (v := (-1)) G dX7_plan_166 (by decide) ?_
    obtain ⟨s36, e37, h⟩ := Option.bind_eq_some_iff.mp h
    refine v_iast (lay := layM) (k := 12) (n := 12) G rfl e37 dX7_plan_167 ?_
    refine v_iinc (v := v2 + 1) (L' := [(2, .int (v2 + 1)), (0, .ref (q 0))]) G dX7_plan_168 1 rfl rfl (by decide) rfl ?_
    refine v_goto (tgt := 153) G dX7_plan_171 (by decide) ?_
    cases h
    refine v_locs (L' := [(0, .ref (q 0)), (2, .int (v2 + 1))]) [1, 0] rfl ?_
    exact K
def m_X7_plan_B178 (s : apM) : Option (Int32 × apM) := Option.bind (m_X7_findLives s) (fun s44 => Option.bind (m_X7_findPlaces s44) (fun s46 => some ((mst (mst (mst s46 0 11 1) 0 27 0) 0 21 (-1)) 0 20, mst (mst (mst s46 0 11 1) 0 27 0) 0 21 (-1))))
set_option maxHeartbeats 4000000 in
set_option maxRecDepth 100000 in
theorem w_X7_plan_B178 {Γ : apC} {q : Nat → Nat} (G : apG Γ cX7_plan 3 RX7 wsX7_plan (apRm 4 0) apXM) {s : apM} {r : (Int32 × apM)} (K : apR Γ cX7_plan 0 0 (some r.1) (apU layM q (apd Γ) r.2)) (h : m_X7_plan_B178 s = some r) : apV Γ 3 (apU layM q (apd Γ) s) 0 0 178 [(0, .ref (q 0))] [] := by
  unfold m_X7_plan_B178 at h
  refine v_aload_n G dX7_plan_178 rfl 0 rfl ?_
  obtain ⟨s44, e45, h⟩ := Option.bind_eq_some_iff.mp h
  refine v_callvV (lay := layM) (As := []) (st := []) (n := 0) (C := RX7) (T := TX7) (k0 := 0) G apXMok (c_X7_findLives Γ.1.2.1 e45) gX7_plan_X7_findLives rfl (by decide +kernel) (by decide) rfl rfl rfl rfl (Nat.le_of_ble_eq_true rfl) (by decide) rfl dX7_plan_179 ?_
  refine v_aload_n G dX7_plan_182 rfl 0 rfl ?_
  obtain ⟨s46, e47, h⟩ := Option.bind_eq_some_iff.mp h
  refine v_callvV (lay := layM) (As := []) (st := []) (n := 0) (C := RX7) (T := TX7) (k0 := 0) G apXMok (c_X7_findPlaces Γ.1.2.1 e47) gX7_plan_X7_findPlaces rfl (by decide +kernel) (by decide) rfl rfl rfl rfl (Nat.le_of_ble_eq_true rfl) (by decide) rfl dX7_plan_183 ?_
  refine v_aload_n G dX7_plan_186 rfl 0 rfl ?_
  refine v_iconst (v := 1) G dX7_plan_187 (by decide) ?_
  refine v_put (lay := layM) (k := 0) (C := RX7) (T := TX7) (N := 30) G (fun _ h => i_X7_plan_X7 _ h) tyX7 tyX7_ok nmX7 rfl rfl 11 (by decide) (by decide +kernel) rfl rfl (by first | rfl | decide) (by first | rfl | decide) rfl dX7_plan_188 ?_
  refine v_aload_n G dX7_plan_191 rfl 0 rfl ?_
  refine v_iconst (v := 0) G dX7_plan_192 (by decide) ?_
  refine v_put (lay := layM) (k := 0) (C := RX7) (T := TX7) (N := 30) G (fun _ h => i_X7_plan_X7 _ h) tyX7 tyX7_ok nmX7 rfl rfl 27 (by decide) (by decide +kernel) rfl rfl (by first | rfl | decide) (by first | rfl | decide) rfl dX7_plan_193 ?_
  refine v_aload_n G dX7_plan_196 rfl 0 rfl ?_
  refine v_iconst (v := (-1)) G dX7_plan_197 (by decide) ?_
  refine v_put (lay := layM) (k := 0) (C := RX7) (T := TX7) (N := 30) G (fun _ h => i_X7_plan_X7 _ h) tyX7 tyX7_ok nmX7 rfl rfl 21 (by decide) (by decide +kernel) rfl rfl (by first | rfl | decide) (by first | rfl | decide) rfl dX7_plan_198 ?_
  refine v_aload_n G dX7_plan_201 rfl 0 rfl ?_
  refine v_geti (lay := layM) (k := 0) (C := RX7) (T := TX7) (N := 30) G (fun _ h => i_X7_plan_X7 _ h) rfl rfl 20 (by decide) (by decide +kernel) rfl rfl dX7_plan_202 ?_
  cases h
  exact v_iret G K (by decide) (by decide) dX7_plan_205
def m_X7_plan_B20 (s : apM) (v1 : Int32) : Option (Int32 × apM) := Option.bind (m_X7_isWired s) (fun t2 => if t2 = 0 then (some ((m_X7_fail s 2).1, (m_X7_fail s 2).2)) else (Option.bind (m_X7_findRing s) (fun s5 => if (s5 0 9) ≤ 0 then (Option.bind (m_X7_findSizes s5) (fun p9 => if p9.1 = 0 then (some ((m_X7_fail p9.2 4).1, (m_X7_fail p9.2 4).2)) else (Option.bind (lp FU (m_X7_plan_L75) (mst (mst p9.2 0 12 v1) 0 19 0, 0)) (fun x19 => match x19 with | (s22, v21) => Option.bind (m_X7_orderByNumbers s22) (fun s23 => Option.bind (lp FU (m_X7_plan_L114) (s23, 0)) (fun x30 => match x30 with | (s33, v32) => if (s33 0 12) = 1 then (Option.bind (lp FU (m_X7_plan_L153) (mst s33 0 19 0, 0)) (fun x38 => match x38 with | (s41, v40) => Option.bind (m_X7_orderByLabels s41) (fun s42 => m_X7_plan_B178 s42))) else (m_X7_plan_B178 s33))))))) else (some ((m_X7_fail s5 3).1, (m_X7_fail s5 3).2)))))
set_option maxHeartbeats 4000000 in
set_option maxRecDepth 100000 in
theorem w_X7_plan_B20 {Γ : apC} {q : Nat → Nat} (G : apG Γ cX7_plan 3 RX7 wsX7_plan (apRm 4 0) apXM) {s : apM} {v1 : Int32} {r : (Int32 × apM)} (K : apR Γ cX7_plan 0 0 (some r.1) (apU layM q (apd Γ) r.2)) (h : m_X7_plan_B20 s v1 = some r) : apV Γ 3 (apU layM q (apd Γ) s) 0 0 20 [(0, .ref (q 0)), (1, .int v1)] [] := by
  unfold m_X7_plan_B20 at h
  refine v_aload_n G dX7_plan_20 rfl 0 rfl ?_
  obtain ⟨t2, e3, h⟩ := Option.bind_eq_some_iff.mp h
  refine v_calliV (lay := layM) (As := []) (st := []) (n := 0) (C := RX7) (T := TX7) (k0 := 0) G apXMok (c_X7_isWired Γ.1.2.1 e3) gX7_plan_X7_isWired rfl (by decide +kernel) (by decide) rfl rfl rfl rfl (Nat.le_of_ble_eq_true rfl) (by decide) rfl dX7_plan_21 ?_
  refine v_if_ne (tgt := 33) G dX7_plan_24 (by decide) (fun c4 => ?_) (fun c4 => ?_)
  · replace h := (if_neg c4).symm.trans h
    refine v_aload_n G dX7_plan_33 rfl 0 rfl ?_
    obtain ⟨s5, e6, h⟩ := Option.bind_eq_some_iff.mp h
    refine v_callvV (lay := layM) (As := []) (st := []) (n := 0) (C := RX7) (T := TX7) (k0 := 0) G apXMok (c_X7_findRing Γ.1.2.1 e6) gX7_plan_X7_findRing rfl (by decide +kernel) (by decide) rfl rfl rfl rfl (Nat.le_of_ble_eq_true rfl) (by decide) rfl dX7_plan_34 ?_
    refine v_aload_n G dX7_plan_37 rfl 0 rfl ?_
    refine v_geti (lay := layM) (k := 0) (C := RX7) (T := TX7) (N := 30) G (fun _ h => i_X7_plan_X7 _ h) rfl rfl 9 (by decide) (by decide +kernel) rfl rfl dX7_plan_38 ?_
    refine v_if_le (tgt := 50) G dX7_plan_41 (by decide) (fun c7 => ?_) (fun c7 => ?_)
    · replace h := (if_pos c7).symm.trans h
      refine v_aload_n G dX7_plan_50 rfl 0 rfl ?_
      obtain ⟨p9, e10, h⟩ := Option.bind_eq_some_iff.mp h
      refine v_calliV (lay := layM) (As := []) (st := []) (n := 0) (C := RX7) (T := TX7) (k0 := 0) G apXMok (c_X7_findSizes Γ.1.2.1 e10) gX7_plan_X7_findSizes rfl (by decide +kernel) (by decide) rfl rfl rfl rfl (Nat.le_of_ble_eq_true rfl) (by decide) rfl dX7_plan_51 ?_
      refine v_if_ne (tgt := 63) G dX7_plan_54 (by decide) (fun c11 => ?_) (fun c11 => ?_)
      · replace h := (if_neg c11).symm.trans h
        refine v_aload_n G dX7_plan_63 rfl 0 rfl ?_
        refine v_iload_n G dX7_plan_64 rfl 1 rfl ?_
        refine v_put (lay := layM) (k := 0) (C := RX7) (T := TX7) (N := 30) G (fun _ h => i_X7_plan_X7 _ h) tyX7 tyX7_ok nmX7 rfl rfl 12 (by decide) (by decide +kernel) rfl rfl (by first | rfl | decide) (by first | rfl | decide) rfl dX7_plan_65 ?_
        refine v_aload_n G dX7_plan_68 rfl 0 rfl ?_
        refine v_iconst (v := 0) G dX7_plan_69 (by decide) ?_
        refine v_put (lay := layM) (k := 0) (C := RX7) (T := TX7) (N := 30) G (fun _ h => i_X7_plan_X7 _ h) tyX7 tyX7_ok nmX7 rfl rfl 19 (by decide) (by decide +kernel) rfl rfl (by first | rfl | decide) (by first | rfl | decide) rfl dX7_plan_70 ?_
        refine v_iconst (v := 0) G dX7_plan_73 (by decide) ?_
        refine v_istore_n (L' := [(2, .int 0), (0, .ref (q 0)), (1, .int v1)]) G dX7_plan_74 rfl (by decide) rfl ?_
        obtain ⟨x19, e20, h⟩ := Option.bind_eq_some_iff.mp h
        refine v_locs (L' := [(0, .ref (q 0)), (2, .int 0)]) [1, 0] rfl ?_
        have l50 := v_lp (b := m_X7_plan_L75) (I := fun x => apV Γ 3 (apU layM q (apd Γ) x.1) 0 0 75 [(0, .ref (q 0)), (2, .int x.2)] []) (O := fun x => apV Γ 3 (apU layM q (apd Γ) x.1) 0 0 108 [(0, .ref (q 0))] []) (fun x r hb hK => by obtain ⟨ys, y2⟩ := x; rcases r with r | r <;> exact w_X7_plan_L75 G hK hb) FU (mst (mst p9.2 0 12 v1) 0 19 0, 0) x19 e20
        obtain ⟨s22, v21⟩ := x19
        dsimp only at h
        refine l50 ?_
        refine v_aload_n G dX7_plan_108 rfl 0 rfl ?_
        obtain ⟨s23, e24, h⟩ := Option.bind_eq_some_iff.mp h
        refine v_callvV (lay := layM) (As := []) (st := []) (n := 0) (C := RX7) (T := TX7) (k0 := 0) G apXMok (c_X7_orderByNumbers Γ.1.2.1 e24) gX7_plan_X7_orderByNumbers rfl (by decide +kernel) (by decide) rfl rfl rfl rfl (Nat.le_of_ble_eq_true rfl) (by decide) rfl dX7_plan_109 ?_
        refine v_iconst (v := 0) G dX7_plan_112 (by decide) ?_
        refine v_istore_n (L' := [(2, .int 0), (0, .ref (q 0))]) G dX7_plan_113 rfl (by decide) rfl ?_
        obtain ⟨x30, e31, h⟩ := Option.bind_eq_some_iff.mp h
        refine v_locs (L' := [(0, .ref (q 0)), (2, .int 0)]) [1, 0] rfl ?_
        have l49 := v_lp (b := m_X7_plan_L114) (I := fun x => apV Γ 3 (apU layM q (apd Γ) x.1) 0 0 114 [(0, .ref (q 0)), (2, .int x.2)] []) (O := fun x => apV Γ 3 (apU layM q (apd Γ) x.1) 0 0 138 [(0, .ref (q 0))] []) (fun x r hb hK => by obtain ⟨ys, y2⟩ := x; rcases r with r | r <;> exact w_X7_plan_L114 G hK hb) FU (s23, 0) x30 e31
        obtain ⟨s33, v32⟩ := x30
        dsimp only at h
        refine l49 ?_
        refine v_aload_n G dX7_plan_138 rfl 0 rfl ?_
        refine v_geti (lay := layM) (k := 0) (C := RX7) (T := TX7) (N := 30) G (fun _ h => i_X7_plan_X7 _ h) rfl rfl 12 (by decide) (by decide +kernel) rfl rfl dX7_plan_139 ?_
        refine v_iconst (v := 1) G dX7_plan_142 (by decide) ?_
        refine v_icmp_ne (tgt := 178) G dX7_plan_143 (by decide) (fun c34 => ?_) (fun c34 => ?_)
        · replace h := (if_neg c34).symm.trans h
          exact w_X7_plan_B178 G K h
        · replace h := (if_pos c34).symm.trans h
          refine v_aload_n G dX7_plan_146 rfl 0 rfl ?_
          refine v_iconst (v := 0) G dX7_plan_147 (by decide) ?_
          refine v_put (lay := layM) (k := 0) (C := RX7) (T := TX7) (N := 30) G (fun _ h => i_X7_plan_X7 _ h) tyX7 tyX7_ok nmX7 rfl rfl 19 (by decide) (by decide +kernel) rfl rfl (by first | rfl | decide) (by first | rfl | decide) rfl dX7_plan_148 ?_
          refine v_iconst (v := 0) G dX7_plan_151 (by decide) ?_
          refine v_istore_n (L' := [(2, .int 0), (0, .ref (q 0))]) G dX7_plan_152 rfl (by decide) rfl ?_
          obtain ⟨x38, e39, h⟩ := Option.bind_eq_some_iff.mp h
          refine v_locs (L' := [(0, .ref (q 0)), (2, .int 0)]) [1, 0] rfl ?_
          have l48 := v_lp (b := m_X7_plan_L153) (I := fun x => apV Γ 3 (apU layM q (apd Γ) x.1) 0 0 153 [(0, .ref (q 0)), (2, .int x.2)] []) (O := fun x => apV Γ 3 (apU layM q (apd Γ) x.1) 0 0 174 [(0, .ref (q 0))] []) (fun x r hb hK => by obtain ⟨ys, y2⟩ := x; rcases r with r | r <;> exact w_X7_plan_L153 G hK hb) FU (mst s33 0 19 0, 0) x38 e39
          obtain ⟨s41, v40⟩ := x38
          dsimp only at h
          refine l48 ?_
          refine v_aload_n G dX7_plan_174 rfl 0 rfl ?_
          obtain ⟨s42, e43, h⟩ := Option.bind_eq_some_iff.mp h
          refine v_callvV (lay := layM) (As := []) (st := []) (n := 0) (C := RX7) (T := TX7) (k0 := 0) G apXMok (c_X7_orderByLabels Γ.1.2.1 e43) gX7_plan_X7_orderByLabels rfl (by decide +kernel) (by decide) rfl rfl rfl rfl (Nat.le_of_ble_eq_true rfl) (by decide) rfl dX7_plan_175 ?_
          exact w_X7_plan_B178 G K h
      · replace h := (if_pos c11).symm.trans h
        refine v_aload_n G dX7_plan_57 rfl 0 rfl ?_
        refine v_iconst (v := 4) G dX7_plan_58 (by decide) ?_
        refine v_calliV (lay := layM) (As := [.int 4]) (st := []) (n := 1) (C := RX7) (T := TX7) (k0 := 0) G apXMok (c_X7_fail Γ.1.2.1 (s := p9.2) rfl) gX7_plan_X7_fail rfl (by decide +kernel) (by decide) rfl rfl rfl rfl (Nat.le_of_ble_eq_true rfl) (by decide) rfl dX7_plan_59 ?_
        cases h
        exact v_iret G K (by decide) (by decide) dX7_plan_62
    · replace h := (if_neg c7).symm.trans h
      refine v_aload_n G dX7_plan_44 rfl 0 rfl ?_
      refine v_iconst (v := 3) G dX7_plan_45 (by decide) ?_
      refine v_calliV (lay := layM) (As := [.int 3]) (st := []) (n := 1) (C := RX7) (T := TX7) (k0 := 0) G apXMok (c_X7_fail Γ.1.2.1 (s := s5) rfl) gX7_plan_X7_fail rfl (by decide +kernel) (by decide) rfl rfl rfl rfl (Nat.le_of_ble_eq_true rfl) (by decide) rfl dX7_plan_46 ?_
      cases h
      exact v_iret G K (by decide) (by decide) dX7_plan_49
  · replace h := (if_pos c4).symm.trans h
    refine v_aload_n G dX7_plan_27 rfl 0 rfl ?_
    refine v_iconst (v := 2) G dX7_plan_28 (by decide) ?_
    refine v_calliV (lay := layM) (As := [.int 2]) (st := []) (n := 1) (C := RX7) (T := TX7) (k0 := 0) G apXMok (c_X7_fail Γ.1.2.1 (s := s) rfl) gX7_plan_X7_fail rfl (by decide +kernel) (by decide) rfl rfl rfl rfl (Nat.le_of_ble_eq_true rfl) (by decide) rfl dX7_plan_29 ?_
    cases h
    exact v_iret G K (by decide) (by decide) dX7_plan_32
def m_X7_plan (s : apM) (v1 : Int32) : Option (Int32 × apM) := if v1 = 0 then (m_X7_plan_B20 (mst s 0 0 0) v1) else (if v1 = 1 then (m_X7_plan_B20 (mst s 0 0 0) v1) else (some ((m_X7_fail (mst s 0 0 0) 1).1, (m_X7_fail (mst s 0 0 0) 1).2)))
set_option maxHeartbeats 4000000 in
set_option maxRecDepth 100000 in
theorem w_X7_plan {Γ : apC} {q : Nat → Nat} (G : apG Γ cX7_plan 3 RX7 wsX7_plan (apRm 4 0) apXM) {s : apM} {v1 : Int32} {r : (Int32 × apM)} (K : apR Γ cX7_plan 0 0 (some r.1) (apU layM q (apd Γ) r.2)) (h : m_X7_plan s v1 = some r) : apV Γ 3 (apU layM q (apd Γ) s) 0 0 0 [(0, .ref (q 0)), (1, .int v1)] [] := by
  unfold m_X7_plan at h
  refine v_aload_n G dX7_plan_0 rfl 0 rfl ?_
  refine v_iconst (v := 0) G dX7_plan_1 (by decide) ?_
  refine v_put (lay := layM) (k := 0) (C := RX7) (T := TX7) (N := 30) G (fun _ h => i_X7_plan_X7 _ h) tyX7 tyX7_ok nmX7 rfl rfl 0 (by decide) (by decide +kernel) rfl rfl (by first | rfl | decide) (by first | rfl | decide) rfl dX7_plan_2 ?_
  refine v_iload_n G dX7_plan_5 rfl 1 rfl ?_
  refine v_if_eq (tgt := 20) G dX7_plan_6 (by decide) (fun c1 => ?_) (fun c1 => ?_)
  · replace h := (if_pos c1).symm.trans h
    exact w_X7_plan_B20 G K h
  · replace h := (if_neg c1).symm.trans h
    refine v_iload_n G dX7_plan_9 rfl 1 rfl ?_
    refine v_iconst (v := 1) G dX7_plan_10 (by decide) ?_
    refine v_icmp_eq (tgt := 20) G dX7_plan_11 (by decide) (fun c51 => ?_) (fun c51 => ?_)
    · replace h := (if_pos c51).symm.trans h
      exact w_X7_plan_B20 G K h
    · replace h := (if_neg c51).symm.trans h
      refine v_aload_n G dX7_plan_14 rfl 0 rfl ?_
      refine v_iconst (v := 1) G dX7_plan_15 (by decide) ?_
      refine v_calliV (lay := layM) (As := [.int 1]) (st := []) (n := 1) (C := RX7) (T := TX7) (k0 := 0) G apXMok (c_X7_fail Γ.1.2.1 (s := mst s 0 0 0) rfl) gX7_plan_X7_fail rfl (by decide +kernel) (by decide) rfl rfl rfl rfl (Nat.le_of_ble_eq_true rfl) (by decide) rfl dX7_plan_16 ?_
      cases h
      exact v_iret G K (by decide) (by decide) dX7_plan_19
theorem c_X7_plan (l : Launch) {s : apM} {v1 : Int32} {r : (Int32 × apM)} (h : m_X7_plan s v1 = some r) : apMi l layM apXM yX7_plan wsX7_plan 4 (fun q => [.ref (q 0), .int v1]) s r.1 r.2 := apMi_of (cc := cX7_plan) (nL := 3) (r := r.1) (by decide) rfl rfl (fun _ => Nat.le_of_ble_eq_true rfl) (fun Γ q hl G K => w_X7_plan G K h)
theorem i_X7_result_X7 : ∀ w ∈ u_ws RX7 TX7 30, w ∈ wsX7_result := by decide +kernel
def m_X7_result_B59 (s : apM) (v1 : Int32) (v2 : Int32) (k0 : Int32) : Option (Int32 × apM) := if ((mst s 0 0 k0) 0 0) = 0 then (Option.bind (ald (mst s 0 0 k0) 20 480 ((40 * v1) + v2)) (fun t3 => some (t3, mst s 0 0 k0))) else (some (0, mst s 0 0 k0))
set_option maxHeartbeats 4000000 in
set_option maxRecDepth 100000 in
theorem w_X7_result_B59 {Γ : apC} {q : Nat → Nat} (G : apG Γ cX7_result 3 RX7 wsX7_result (apRm 1 0) apXM) {s : apM} {v1 v2 k0 : Int32} {r : (Int32 × apM)} (K : apR Γ cX7_result 0 0 (some r.1) (apU layM q (apd Γ) r.2)) (h : m_X7_result_B59 s v1 v2 k0 = some r) : apV Γ 3 (apU layM q (apd Γ) s) 0 0 59 [(0, .ref (q 0)), (1, .int v1), (2, .int v2)] [.int k0, .ref (q 0)] := by
  unfold m_X7_result_B59 at h
  refine v_put (lay := layM) (k := 0) (C := RX7) (T := TX7) (N := 30) G (fun _ h => i_X7_result_X7 _ h) tyX7 tyX7_ok nmX7 rfl rfl 0 (by decide) (by decide +kernel) rfl rfl (by first | rfl | decide) (by first | rfl | decide) rfl dX7_result_59 ?_
  refine v_aload_n G dX7_result_62 rfl 0 rfl ?_
  refine v_geti (lay := layM) (k := 0) (C := RX7) (T := TX7) (N := 30) G (fun _ h => i_X7_result_X7 _ h) rfl rfl 0 (by decide) (by decide +kernel) rfl rfl dX7_result_63 ?_
  refine v_if_ne (tgt := 83) G dX7_result_66 (by decide) (fun c2 => ?_) (fun c2 => ?_)
  · replace h := (if_neg c2).symm.trans h
    refine v_iconst (v := 0) G dX7_result_83 (by decide) ?_
    cases h
    exact v_iret G K (by decide) (by decide) dX7_result_84
  · replace h := (if_pos c2).symm.trans h
    refine v_aload_n G dX7_result_69 rfl 0 rfl ?_
    refine v_getr (lay := layM) (k := 0) (k' := 20) (C := RX7) (T := TX7) (N := 30) G (fun _ h => i_X7_result_X7 _ h) rfl rfl 29 (by decide) (by decide +kernel) rfl rfl dX7_result_70 ?_
    refine v_bipush (v := 40) G dX7_result_73 (by decide) ?_
    refine v_iload_n G dX7_result_75 rfl 1 rfl ?_
    refine v_imul G dX7_result_76 ?_
    refine v_iload_n G dX7_result_77 rfl 2 rfl ?_
    refine v_iadd G dX7_result_78 ?_
    obtain ⟨t3, e4, h⟩ := Option.bind_eq_some_iff.mp h
    refine v_iald (lay := layM) (k := 20) (n := 480) G rfl e4 dX7_result_79 ?_
    refine v_goto (tgt := 84) G dX7_result_80 (by decide) ?_
    cases h
    exact v_iret G K (by decide) (by decide) dX7_result_84
def m_X7_result_B15 (s : apM) (v1 : Int32) (v2 : Int32) : Option (Int32 × apM) := m_X7_result_B59 s v1 v2 1
set_option maxHeartbeats 4000000 in
set_option maxRecDepth 100000 in
theorem w_X7_result_B15 {Γ : apC} {q : Nat → Nat} (G : apG Γ cX7_result 3 RX7 wsX7_result (apRm 1 0) apXM) {s : apM} {v1 v2 : Int32} {r : (Int32 × apM)} (K : apR Γ cX7_result 0 0 (some r.1) (apU layM q (apd Γ) r.2)) (h : m_X7_result_B15 s v1 v2 = some r) : apV Γ 3 (apU layM q (apd Γ) s) 0 0 15 [(0, .ref (q 0)), (1, .int v1), (2, .int v2)] [.ref (q 0)] := by
  unfold m_X7_result_B15 at h
  refine v_iconst (v := 1) G dX7_result_15 (by decide) ?_
  refine v_goto (tgt := 59) G dX7_result_16 (by decide) ?_
  exact w_X7_result_B59 G K h
def m_X7_result_B36 (s : apM) (v1 : Int32) (v2 : Int32) : Option (Int32 × apM) := m_X7_result_B59 s v1 v2 2
set_option maxHeartbeats 4000000 in
set_option maxRecDepth 100000 in
theorem w_X7_result_B36 {Γ : apC} {q : Nat → Nat} (G : apG Γ cX7_result 3 RX7 wsX7_result (apRm 1 0) apXM) {s : apM} {v1 v2 : Int32} {r : (Int32 × apM)} (K : apR Γ cX7_result 0 0 (some r.1) (apU layM q (apd Γ) r.2)) (h : m_X7_result_B36 s v1 v2 = some r) : apV Γ 3 (apU layM q (apd Γ) s) 0 0 36 [(0, .ref (q 0)), (1, .int v1), (2, .int v2)] [.ref (q 0)] := by
  unfold m_X7_result_B36 at h
  refine v_iconst (v := 2) G dX7_result_36 (by decide) ?_
  refine v_goto (tgt := 59) G dX7_result_37 (by decide) ?_
  exact w_X7_result_B59 G K h
def m_X7_result_B54 (s : apM) (v1 : Int32) (v2 : Int32) : Option (Int32 × apM) := m_X7_result_B59 s v1 v2 3
set_option maxHeartbeats 4000000 in
set_option maxRecDepth 100000 in
theorem w_X7_result_B54 {Γ : apC} {q : Nat → Nat} (G : apG Γ cX7_result 3 RX7 wsX7_result (apRm 1 0) apXM) {s : apM} {v1 v2 : Int32} {r : (Int32 × apM)} (K : apR Γ cX7_result 0 0 (some r.1) (apU layM q (apd Γ) r.2)) (h : m_X7_result_B54 s v1 v2 = some r) : apV Γ 3 (apU layM q (apd Γ) s) 0 0 54 [(0, .ref (q 0)), (1, .int v1), (2, .int v2)] [.ref (q 0)] := by
  unfold m_X7_result_B54 at h
  refine v_iconst (v := 3) G dX7_result_54 (by decide) ?_
  refine v_goto (tgt := 59) G dX7_result_55 (by decide) ?_
  exact w_X7_result_B59 G K h
def m_X7_result (s : apM) (v1 : Int32) (v2 : Int32) : Option (Int32 × apM) := if (s 0 11) = 0 then (m_X7_result_B15 s v1 v2) else (if (s 0 27) = 0 then (m_X7_result_B15 s v1 v2) else (if (m_X7_isNode s v1) = 0 then (m_X7_result_B36 s v1 v2) else (Option.bind (ald s 5 12 v1) (fun t7 => if t7 = 0 then (m_X7_result_B36 s v1 v2) else (if v2 < 0 then (m_X7_result_B54 s v1 v2) else (Option.bind (ald s 9 12 v1) (fun t11 => if v2 < t11 then (m_X7_result_B59 s v1 v2 0) else (m_X7_result_B54 s v1 v2))))))))
set_option maxHeartbeats 4000000 in
set_option maxRecDepth 100000 in
theorem w_X7_result {Γ : apC} {q : Nat → Nat} (G : apG Γ cX7_result 3 RX7 wsX7_result (apRm 1 0) apXM) {s : apM} {v1 v2 : Int32} {r : (Int32 × apM)} (K : apR Γ cX7_result 0 0 (some r.1) (apU layM q (apd Γ) r.2)) (h : m_X7_result s v1 v2 = some r) : apV Γ 3 (apU layM q (apd Γ) s) 0 0 0 [(0, .ref (q 0)), (1, .int v1), (2, .int v2)] [] := by
  unfold m_X7_result at h
  refine v_aload_n G dX7_result_0 rfl 0 rfl ?_
  refine v_aload_n G dX7_result_1 rfl 0 rfl ?_
  refine v_geti (lay := layM) (k := 0) (C := RX7) (T := TX7) (N := 30) G (fun _ h => i_X7_result_X7 _ h) rfl rfl 11 (by decide) (by decide +kernel) rfl rfl dX7_result_2 ?_
  refine v_if_eq (tgt := 15) G dX7_result_5 (by decide) (fun c1 => ?_) (fun c1 => ?_)
  · replace h := (if_pos c1).symm.trans h
    exact w_X7_result_B15 G K h
  · replace h := (if_neg c1).symm.trans h
    refine v_aload_n G dX7_result_8 rfl 0 rfl ?_
    refine v_geti (lay := layM) (k := 0) (C := RX7) (T := TX7) (N := 30) G (fun _ h => i_X7_result_X7 _ h) rfl rfl 27 (by decide) (by decide +kernel) rfl rfl dX7_result_9 ?_
    refine v_if_ne (tgt := 19) G dX7_result_12 (by decide) (fun c5 => ?_) (fun c5 => ?_)
    · replace h := (if_neg c5).symm.trans h
      refine v_aload_n G dX7_result_19 rfl 0 rfl ?_
      refine v_iload_n G dX7_result_20 rfl 1 rfl ?_
      refine v_calliV (lay := layM) (As := [.int v1]) (st := [.ref (q 0)]) (n := 1) (C := RX7) (T := TX7) (k0 := 0) G apXMok (c_X7_isNode Γ.1.2.1 (s := s) rfl) gX7_result_X7_isNode rfl (by decide +kernel) (by decide) rfl rfl rfl rfl (Nat.le_of_ble_eq_true rfl) (by decide) rfl dX7_result_21 ?_
      refine v_if_eq (tgt := 36) G dX7_result_24 (by decide) (fun c6 => ?_) (fun c6 => ?_)
      · replace h := (if_pos c6).symm.trans h
        exact w_X7_result_B36 G K h
      · replace h := (if_neg c6).symm.trans h
        refine v_aload_n G dX7_result_27 rfl 0 rfl ?_
        refine v_getr (lay := layM) (k := 0) (k' := 5) (C := RX7) (T := TX7) (N := 30) G (fun _ h => i_X7_result_X7 _ h) rfl rfl 6 (by decide) (by decide +kernel) rfl rfl dX7_result_28 ?_
        refine v_iload_n G dX7_result_31 rfl 1 rfl ?_
        obtain ⟨t7, e8, h⟩ := Option.bind_eq_some_iff.mp h
        refine v_zald (lay := layM) (k := 5) (n := 12) G rfl e8 dX7_result_32 ?_
        refine v_if_ne (tgt := 40) G dX7_result_33 (by decide) (fun c9 => ?_) (fun c9 => ?_)
        · replace h := (if_neg c9).symm.trans h
          refine v_iload_n G dX7_result_40 rfl 2 rfl ?_
          refine v_if_lt (tgt := 54) G dX7_result_41 (by decide) (fun c10 => ?_) (fun c10 => ?_)
          · replace h := (if_pos c10).symm.trans h
            exact w_X7_result_B54 G K h
          · replace h := (if_neg c10).symm.trans h
            refine v_iload_n G dX7_result_44 rfl 2 rfl ?_
            refine v_aload_n G dX7_result_45 rfl 0 rfl ?_
            refine v_getr (lay := layM) (k := 0) (k' := 9) (C := RX7) (T := TX7) (N := 30) G (fun _ h => i_X7_result_X7 _ h) rfl rfl 13 (by decide) (by decide +kernel) rfl rfl dX7_result_46 ?_
            refine v_iload_n G dX7_result_49 rfl 1 rfl ?_
            obtain ⟨t11, e12, h⟩ := Option.bind_eq_some_iff.mp h
            refine v_iald (lay := layM) (k := 9) (n := 12) G rfl e12 dX7_result_50 ?_
            refine v_icmp_lt (tgt := 58) G dX7_result_51 (by decide) (fun c13 => ?_) (fun c13 => ?_)
            · replace h := (if_pos c13).symm.trans h
              refine v_iconst (v := 0) G dX7_result_58 (by decide) ?_
              exact w_X7_result_B59 G K h
            · replace h := (if_neg c13).symm.trans h
              exact w_X7_result_B54 G K h
        · replace h := (if_pos c9).symm.trans h
          exact w_X7_result_B36 G K h
    · replace h := (if_pos c5).symm.trans h
      exact w_X7_result_B15 G K h
theorem c_X7_result (l : Launch) {s : apM} {v1 v2 : Int32} {r : (Int32 × apM)} (h : m_X7_result s v1 v2 = some r) : apMi l layM apXM yX7_result wsX7_result 1 (fun q => [.ref (q 0), .int v1, .int v2]) s r.1 r.2 := apMi_of (cc := cX7_result) (nL := 3) (r := r.1) (by decide) rfl rfl (fun _ => Nat.le_of_ble_eq_true rfl) (fun Γ q hl G K => w_X7_result G K h)
theorem i_X7_ring_X7 : ∀ w ∈ u_ws RX7 TX7 30, w ∈ wsX7_ring := by decide +kernel
def m_X7_ring_B21 (s : apM) : Option (Int32 × apM) := some ((m_X7_fail s 1).1, (m_X7_fail s 1).2)
set_option maxHeartbeats 4000000 in
set_option maxRecDepth 100000 in
theorem w_X7_ring_B21 {Γ : apC} {q : Nat → Nat} (G : apG Γ cX7_ring 2 RX7 wsX7_ring (apRm 3 0) apXM) {s : apM} {r : (Int32 × apM)} (K : apR Γ cX7_ring 0 0 (some r.1) (apU layM q (apd Γ) r.2)) (h : m_X7_ring_B21 s = some r) : apV Γ 2 (apU layM q (apd Γ) s) 0 0 21 [(0, .ref (q 0))] [] := by
  unfold m_X7_ring_B21 at h
  refine v_aload_n G dX7_ring_21 rfl 0 rfl ?_
  refine v_iconst (v := 1) G dX7_ring_22 (by decide) ?_
  refine v_calliV (lay := layM) (As := [.int 1]) (st := []) (n := 1) (C := RX7) (T := TX7) (k0 := 0) G apXMok (c_X7_fail Γ.1.2.1 (s := s) rfl) gX7_ring_X7_fail rfl (by decide +kernel) (by decide) rfl rfl rfl rfl (Nat.le_of_ble_eq_true rfl) (by decide) rfl dX7_ring_23 ?_
  refine v_goto (tgt := 35) G dX7_ring_26 (by decide) ?_
  cases h
  exact v_iret G K (by decide) (by decide) dX7_ring_35
def m_X7_ring (s : apM) (v1 : Int32) : Option (Int32 × apM) := Option.bind (m_X7_findRing (mst s 0 0 0)) (fun s1 => if v1 < 0 then (m_X7_ring_B21 s1) else (if v1 < (s1 0 9) then (Option.bind (ald s1 8 12 v1) (fun t5 => some (t5, s1))) else (m_X7_ring_B21 s1)))
set_option maxHeartbeats 4000000 in
set_option maxRecDepth 100000 in
theorem w_X7_ring {Γ : apC} {q : Nat → Nat} (G : apG Γ cX7_ring 2 RX7 wsX7_ring (apRm 3 0) apXM) {s : apM} {v1 : Int32} {r : (Int32 × apM)} (K : apR Γ cX7_ring 0 0 (some r.1) (apU layM q (apd Γ) r.2)) (h : m_X7_ring s v1 = some r) : apV Γ 2 (apU layM q (apd Γ) s) 0 0 0 [(0, .ref (q 0)), (1, .int v1)] [] := by
  unfold m_X7_ring at h
  refine v_aload_n G dX7_ring_0 rfl 0 rfl ?_
  refine v_iconst (v := 0) G dX7_ring_1 (by decide) ?_
  refine v_put (lay := layM) (k := 0) (C := RX7) (T := TX7) (N := 30) G (fun _ h => i_X7_ring_X7 _ h) tyX7 tyX7_ok nmX7 rfl rfl 0 (by decide) (by decide +kernel) rfl rfl (by first | rfl | decide) (by first | rfl | decide) rfl dX7_ring_2 ?_
  refine v_aload_n G dX7_ring_5 rfl 0 rfl ?_
  obtain ⟨s1, e2, h⟩ := Option.bind_eq_some_iff.mp h
  refine v_callvV (lay := layM) (As := []) (st := []) (n := 0) (C := RX7) (T := TX7) (k0 := 0) G apXMok (c_X7_findRing Γ.1.2.1 e2) gX7_ring_X7_findRing rfl (by decide +kernel) (by decide) rfl rfl rfl rfl (Nat.le_of_ble_eq_true rfl) (by decide) rfl dX7_ring_6 ?_
  refine v_iload_n G dX7_ring_9 rfl 1 rfl ?_
  refine v_if_lt (tgt := 21) G dX7_ring_10 (by decide) (fun c3 => ?_) (fun c3 => ?_)
  · replace h := (if_pos c3).symm.trans h
    refine v_locs (L' := [(0, .ref (q 0))]) [0] rfl ?_
    exact w_X7_ring_B21 G K h
  · replace h := (if_neg c3).symm.trans h
    refine v_iload_n G dX7_ring_13 rfl 1 rfl ?_
    refine v_aload_n G dX7_ring_14 rfl 0 rfl ?_
    refine v_geti (lay := layM) (k := 0) (C := RX7) (T := TX7) (N := 30) G (fun _ h => i_X7_ring_X7 _ h) rfl rfl 9 (by decide) (by decide +kernel) rfl rfl dX7_ring_15 ?_
    refine v_icmp_lt (tgt := 29) G dX7_ring_18 (by decide) (fun c4 => ?_) (fun c4 => ?_)
    · replace h := (if_pos c4).symm.trans h
      refine v_aload_n G dX7_ring_29 rfl 0 rfl ?_
      refine v_getr (lay := layM) (k := 0) (k' := 8) (C := RX7) (T := TX7) (N := 30) G (fun _ h => i_X7_ring_X7 _ h) rfl rfl 10 (by decide) (by decide +kernel) rfl rfl dX7_ring_30 ?_
      refine v_iload_n G dX7_ring_33 rfl 1 rfl ?_
      obtain ⟨t5, e6, h⟩ := Option.bind_eq_some_iff.mp h
      refine v_iald (lay := layM) (k := 8) (n := 12) G rfl e6 dX7_ring_34 ?_
      cases h
      exact v_iret G K (by decide) (by decide) dX7_ring_35
    · replace h := (if_neg c4).symm.trans h
      refine v_locs (L' := [(0, .ref (q 0))]) [0] rfl ?_
      exact w_X7_ring_B21 G K h
theorem c_X7_ring (l : Launch) {s : apM} {v1 : Int32} {r : (Int32 × apM)} (h : m_X7_ring s v1 = some r) : apMi l layM apXM yX7_ring wsX7_ring 3 (fun q => [.ref (q 0), .int v1]) s r.1 r.2 := apMi_of (cc := cX7_ring) (nL := 2) (r := r.1) (by decide) rfl rfl (fun _ => Nat.le_of_ble_eq_true rfl) (fun Γ q hl G K => w_X7_ring G K h)
