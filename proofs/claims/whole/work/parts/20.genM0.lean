/-! ===== models of methods, and that the bytecode does what they say (by gen.py) ===== -/
theorem i_X7_isNode_X7 : ∀ w ∈ u_ws RX7 TX7 30, w ∈ wsX7_isNode := by decide +kernel
def m_X7_isNode (s : apM) (v1 : Int32) : Int32 := if v1 < 0 then 0 else (if (s 0 1) ≤ v1 then 0 else 1)
set_option maxHeartbeats 4000000 in
set_option maxRecDepth 100000 in
theorem w_X7_isNode {Γ : apC} {q : Nat → Nat} (G : apG Γ cX7_isNode 2 RX7 wsX7_isNode (apRm 0 0) apXM) {s : apM} {v1 : Int32} {r : Int32} (K : apR Γ cX7_isNode 0 0 (some r) (apU layM q (apd Γ) s)) (h : m_X7_isNode s v1 = r) : apV Γ 2 (apU layM q (apd Γ) s) 0 0 0 [(0, .ref (q 0)), (1, .int v1)] [] := by
  unfold m_X7_isNode at h
  refine v_iload_n G dX7_isNode_0 rfl 1 rfl ?_
  refine v_if_lt (tgt := 16) G dX7_isNode_1 (by decide) (fun c1 => ?_) (fun c1 => ?_)
  · replace h := (if_pos c1).symm.trans h
    refine v_iconst (v := 0) G dX7_isNode_16 (by decide) ?_
    subst h
    exact v_iret G K (by decide) (by decide) dX7_isNode_17
  · replace h := (if_neg c1).symm.trans h
    refine v_iload_n G dX7_isNode_4 rfl 1 rfl ?_
    refine v_aload_n G dX7_isNode_5 rfl 0 rfl ?_
    refine v_geti (lay := layM) (k := 0) (C := RX7) (T := TX7) (N := 30) G (fun _ h => i_X7_isNode_X7 _ h) rfl rfl 1 (by decide) (by decide +kernel) rfl rfl dX7_isNode_6 ?_
    refine v_icmp_ge (tgt := 16) G dX7_isNode_9 (by decide) (fun c2 => ?_) (fun c2 => ?_)
    · replace h := (if_pos c2).symm.trans h
      refine v_iconst (v := 0) G dX7_isNode_16 (by decide) ?_
      subst h
      exact v_iret G K (by decide) (by decide) dX7_isNode_17
    · replace h := (if_neg c2).symm.trans h
      refine v_iconst (v := 1) G dX7_isNode_12 (by decide) ?_
      refine v_goto (tgt := 17) G dX7_isNode_13 (by decide) ?_
      subst h
      exact v_iret G K (by decide) (by decide) dX7_isNode_17
theorem z_X7_isNode {s : apM} {v1 : Int32} {r : Int32} (h : m_X7_isNode s v1 = r) : r = 0 ∨ r = 1 := by
  unfold m_X7_isNode at h
  by_cases c1 : v1 < 0
  · replace h := (if_pos c1).symm.trans h
    subst h
    exact Or.inl rfl
  · replace h := (if_neg c1).symm.trans h
    by_cases c2 : (s 0 1) ≤ v1
    · replace h := (if_pos c2).symm.trans h
      subst h
      exact Or.inl rfl
    · replace h := (if_neg c2).symm.trans h
      subst h
      exact Or.inr rfl
theorem c_X7_isNode (l : Launch) {s : apM} {v1 : Int32} {r : Int32} (h : m_X7_isNode s v1 = r) : apMi l layM apXM yX7_isNode wsX7_isNode 0 (fun q => [.ref (q 0), .int v1]) s r s := apMi_of (cc := cX7_isNode) (nL := 2) (r := r) (by decide) rfl (by rcases z_X7_isNode h with e | e <;> rw [e] <;> rfl) (fun _ => Nat.le_of_ble_eq_true rfl) (fun Γ q hl G K => w_X7_isNode G K h)
theorem i_X7_about_X7 : ∀ w ∈ u_ws RX7 TX7 30, w ∈ wsX7_about := by decide +kernel
def m_X7_about_B34 (s : apM) (v1 : Int32) (v2 : Int32) (k0 : Int32) : Option (Int32 × apM) := if ((mst s 0 0 k0) 0 0) ≤ 0 then (if v2 = 0 then (Option.bind (ald (mst s 0 0 k0) 9 12 v1) (fun t4 => some (t4, mst s 0 0 k0))) else (if v2 = 1 then (Option.bind (ald (mst s 0 0 k0) 12 12 v1) (fun t7 => some (t7, mst s 0 0 k0))) else (if v2 = 2 then (Option.bind (ald (mst s 0 0 k0) 13 12 v1) (fun t10 => some (t10, mst s 0 0 k0))) else (if v2 = 3 then (Option.bind (ald (mst s 0 0 k0) 14 12 v1) (fun t13 => some (t13, mst s 0 0 k0))) else (Option.bind (ald (mst s 0 0 k0) 10 12 v1) (fun t15 => some (t15, mst s 0 0 k0))))))) else (some (0, mst s 0 0 k0))
set_option maxHeartbeats 4000000 in
set_option maxRecDepth 100000 in
theorem w_X7_about_B34 {Γ : apC} {q : Nat → Nat} (G : apG Γ cX7_about 3 RX7 wsX7_about (apRm 1 0) apXM) {s : apM} {v1 v2 k0 : Int32} {r : (Int32 × apM)} (K : apR Γ cX7_about 0 0 (some r.1) (apU layM q (apd Γ) r.2)) (h : m_X7_about_B34 s v1 v2 k0 = some r) : apV Γ 3 (apU layM q (apd Γ) s) 0 0 34 [(0, .ref (q 0)), (1, .int v1), (2, .int v2)] [.int k0, .ref (q 0)] := by
  unfold m_X7_about_B34 at h
  refine v_put (lay := layM) (k := 0) (C := RX7) (T := TX7) (N := 30) G (fun _ h => i_X7_about_X7 _ h) tyX7 tyX7_ok nmX7 rfl rfl 0 (by decide) (by decide +kernel) rfl rfl (by first | rfl | decide) (by first | rfl | decide) rfl dX7_about_34 ?_
  refine v_aload_n G dX7_about_37 rfl 0 rfl ?_
  refine v_geti (lay := layM) (k := 0) (C := RX7) (T := TX7) (N := 30) G (fun _ h => i_X7_about_X7 _ h) rfl rfl 0 (by decide) (by decide +kernel) rfl rfl dX7_about_38 ?_
  refine v_if_le (tgt := 46) G dX7_about_41 (by decide) (fun c2 => ?_) (fun c2 => ?_)
  · replace h := (if_pos c2).symm.trans h
    refine v_iload_n G dX7_about_46 rfl 2 rfl ?_
    refine v_if_ne (tgt := 59) G dX7_about_47 (by decide) (fun c3 => ?_) (fun c3 => ?_)
    · replace h := (if_neg c3).symm.trans h
      refine v_iload_n G dX7_about_59 rfl 2 rfl ?_
      refine v_iconst (v := 1) G dX7_about_60 (by decide) ?_
      refine v_icmp_ne (tgt := 73) G dX7_about_61 (by decide) (fun c6 => ?_) (fun c6 => ?_)
      · replace h := (if_neg c6).symm.trans h
        refine v_iload_n G dX7_about_73 rfl 2 rfl ?_
        refine v_iconst (v := 2) G dX7_about_74 (by decide) ?_
        refine v_icmp_ne (tgt := 87) G dX7_about_75 (by decide) (fun c9 => ?_) (fun c9 => ?_)
        · replace h := (if_neg c9).symm.trans h
          refine v_iload_n G dX7_about_87 rfl 2 rfl ?_
          refine v_iconst (v := 3) G dX7_about_88 (by decide) ?_
          refine v_icmp_ne (tgt := 101) G dX7_about_89 (by decide) (fun c12 => ?_) (fun c12 => ?_)
          · replace h := (if_neg c12).symm.trans h
            refine v_aload_n G dX7_about_101 rfl 0 rfl ?_
            refine v_getr (lay := layM) (k := 0) (k' := 10) (C := RX7) (T := TX7) (N := 30) G (fun _ h => i_X7_about_X7 _ h) rfl rfl 14 (by decide) (by decide +kernel) rfl rfl dX7_about_102 ?_
            refine v_iload_n G dX7_about_105 rfl 1 rfl ?_
            obtain ⟨t15, e16, h⟩ := Option.bind_eq_some_iff.mp h
            refine v_iald (lay := layM) (k := 10) (n := 12) G rfl e16 dX7_about_106 ?_
            cases h
            exact v_iret G K (by decide) (by decide) dX7_about_107
          · replace h := (if_pos c12).symm.trans h
            refine v_aload_n G dX7_about_92 rfl 0 rfl ?_
            refine v_getr (lay := layM) (k := 0) (k' := 14) (C := RX7) (T := TX7) (N := 30) G (fun _ h => i_X7_about_X7 _ h) rfl rfl 18 (by decide) (by decide +kernel) rfl rfl dX7_about_93 ?_
            refine v_iload_n G dX7_about_96 rfl 1 rfl ?_
            obtain ⟨t13, e14, h⟩ := Option.bind_eq_some_iff.mp h
            refine v_iald (lay := layM) (k := 14) (n := 12) G rfl e14 dX7_about_97 ?_
            refine v_goto (tgt := 107) G dX7_about_98 (by decide) ?_
            cases h
            exact v_iret G K (by decide) (by decide) dX7_about_107
        · replace h := (if_pos c9).symm.trans h
          refine v_aload_n G dX7_about_78 rfl 0 rfl ?_
          refine v_getr (lay := layM) (k := 0) (k' := 13) (C := RX7) (T := TX7) (N := 30) G (fun _ h => i_X7_about_X7 _ h) rfl rfl 17 (by decide) (by decide +kernel) rfl rfl dX7_about_79 ?_
          refine v_iload_n G dX7_about_82 rfl 1 rfl ?_
          obtain ⟨t10, e11, h⟩ := Option.bind_eq_some_iff.mp h
          refine v_iald (lay := layM) (k := 13) (n := 12) G rfl e11 dX7_about_83 ?_
          refine v_goto (tgt := 107) G dX7_about_84 (by decide) ?_
          cases h
          exact v_iret G K (by decide) (by decide) dX7_about_107
      · replace h := (if_pos c6).symm.trans h
        refine v_aload_n G dX7_about_64 rfl 0 rfl ?_
        refine v_getr (lay := layM) (k := 0) (k' := 12) (C := RX7) (T := TX7) (N := 30) G (fun _ h => i_X7_about_X7 _ h) rfl rfl 16 (by decide) (by decide +kernel) rfl rfl dX7_about_65 ?_
        refine v_iload_n G dX7_about_68 rfl 1 rfl ?_
        obtain ⟨t7, e8, h⟩ := Option.bind_eq_some_iff.mp h
        refine v_iald (lay := layM) (k := 12) (n := 12) G rfl e8 dX7_about_69 ?_
        refine v_goto (tgt := 107) G dX7_about_70 (by decide) ?_
        cases h
        exact v_iret G K (by decide) (by decide) dX7_about_107
    · replace h := (if_pos c3).symm.trans h
      refine v_aload_n G dX7_about_50 rfl 0 rfl ?_
      refine v_getr (lay := layM) (k := 0) (k' := 9) (C := RX7) (T := TX7) (N := 30) G (fun _ h => i_X7_about_X7 _ h) rfl rfl 13 (by decide) (by decide +kernel) rfl rfl dX7_about_51 ?_
      refine v_iload_n G dX7_about_54 rfl 1 rfl ?_
      obtain ⟨t4, e5, h⟩ := Option.bind_eq_some_iff.mp h
      refine v_iald (lay := layM) (k := 9) (n := 12) G rfl e5 dX7_about_55 ?_
      refine v_goto (tgt := 107) G dX7_about_56 (by decide) ?_
      cases h
      exact v_iret G K (by decide) (by decide) dX7_about_107
  · replace h := (if_neg c2).symm.trans h
    refine v_iconst (v := 0) G dX7_about_44 (by decide) ?_
    cases h
    exact v_iret G K (by decide) (by decide) dX7_about_45
def m_X7_about_B29 (s : apM) (v1 : Int32) (v2 : Int32) : Option (Int32 × apM) := m_X7_about_B34 s v1 v2 2
set_option maxHeartbeats 4000000 in
set_option maxRecDepth 100000 in
theorem w_X7_about_B29 {Γ : apC} {q : Nat → Nat} (G : apG Γ cX7_about 3 RX7 wsX7_about (apRm 1 0) apXM) {s : apM} {v1 v2 : Int32} {r : (Int32 × apM)} (K : apR Γ cX7_about 0 0 (some r.1) (apU layM q (apd Γ) r.2)) (h : m_X7_about_B29 s v1 v2 = some r) : apV Γ 3 (apU layM q (apd Γ) s) 0 0 29 [(0, .ref (q 0)), (1, .int v1), (2, .int v2)] [.ref (q 0)] := by
  unfold m_X7_about_B29 at h
  refine v_iconst (v := 2) G dX7_about_29 (by decide) ?_
  refine v_goto (tgt := 34) G dX7_about_30 (by decide) ?_
  exact w_X7_about_B34 G K h
def m_X7_about (s : apM) (v1 : Int32) (v2 : Int32) : Option (Int32 × apM) := if (s 0 11) = 0 then (m_X7_about_B34 s v1 v2 1) else (if (m_X7_isNode s v1) = 0 then (m_X7_about_B29 s v1 v2) else (if v2 < 0 then (m_X7_about_B29 s v1 v2) else (if v2 ≤ 4 then (m_X7_about_B34 s v1 v2 0) else (m_X7_about_B29 s v1 v2))))
set_option maxHeartbeats 4000000 in
set_option maxRecDepth 100000 in
theorem w_X7_about {Γ : apC} {q : Nat → Nat} (G : apG Γ cX7_about 3 RX7 wsX7_about (apRm 1 0) apXM) {s : apM} {v1 v2 : Int32} {r : (Int32 × apM)} (K : apR Γ cX7_about 0 0 (some r.1) (apU layM q (apd Γ) r.2)) (h : m_X7_about s v1 v2 = some r) : apV Γ 3 (apU layM q (apd Γ) s) 0 0 0 [(0, .ref (q 0)), (1, .int v1), (2, .int v2)] [] := by
  unfold m_X7_about at h
  refine v_aload_n G dX7_about_0 rfl 0 rfl ?_
  refine v_aload_n G dX7_about_1 rfl 0 rfl ?_
  refine v_geti (lay := layM) (k := 0) (C := RX7) (T := TX7) (N := 30) G (fun _ h => i_X7_about_X7 _ h) rfl rfl 11 (by decide) (by decide +kernel) rfl rfl dX7_about_2 ?_
  refine v_if_ne (tgt := 12) G dX7_about_5 (by decide) (fun c1 => ?_) (fun c1 => ?_)
  · replace h := (if_neg c1).symm.trans h
    refine v_aload_n G dX7_about_12 rfl 0 rfl ?_
    refine v_iload_n G dX7_about_13 rfl 1 rfl ?_
    refine v_calliV (lay := layM) (As := [.int v1]) (st := [.ref (q 0)]) (n := 1) (C := RX7) (T := TX7) (k0 := 0) G apXMok (c_X7_isNode Γ.1.2.1 (s := s) rfl) gX7_about_X7_isNode rfl (by decide +kernel) (by decide) rfl rfl rfl rfl (Nat.le_of_ble_eq_true rfl) (by decide) rfl dX7_about_14 ?_
    refine v_if_eq (tgt := 29) G dX7_about_17 (by decide) (fun c17 => ?_) (fun c17 => ?_)
    · replace h := (if_pos c17).symm.trans h
      exact w_X7_about_B29 G K h
    · replace h := (if_neg c17).symm.trans h
      refine v_iload_n G dX7_about_20 rfl 2 rfl ?_
      refine v_if_lt (tgt := 29) G dX7_about_21 (by decide) (fun c18 => ?_) (fun c18 => ?_)
      · replace h := (if_pos c18).symm.trans h
        exact w_X7_about_B29 G K h
      · replace h := (if_neg c18).symm.trans h
        refine v_iload_n G dX7_about_24 rfl 2 rfl ?_
        refine v_iconst (v := 4) G dX7_about_25 (by decide) ?_
        refine v_icmp_le (tgt := 33) G dX7_about_26 (by decide) (fun c19 => ?_) (fun c19 => ?_)
        · replace h := (if_pos c19).symm.trans h
          refine v_iconst (v := 0) G dX7_about_33 (by decide) ?_
          exact w_X7_about_B34 G K h
        · replace h := (if_neg c19).symm.trans h
          exact w_X7_about_B29 G K h
  · replace h := (if_pos c1).symm.trans h
    refine v_iconst (v := 1) G dX7_about_8 (by decide) ?_
    refine v_goto (tgt := 34) G dX7_about_9 (by decide) ?_
    exact w_X7_about_B34 G K h
theorem c_X7_about (l : Launch) {s : apM} {v1 v2 : Int32} {r : (Int32 × apM)} (h : m_X7_about s v1 v2 = some r) : apMi l layM apXM yX7_about wsX7_about 1 (fun q => [.ref (q 0), .int v1, .int v2]) s r.1 r.2 := apMi_of (cc := cX7_about) (nL := 3) (r := r.1) (by decide) rfl rfl (fun _ => Nat.le_of_ble_eq_true rfl) (fun Γ q hl G K => w_X7_about G K h)
theorem i_X7_cell_X7 : ∀ w ∈ u_ws RX7 TX7 30, w ∈ wsX7_cell := by decide +kernel
def m_X7_cell_B36 (s : apM) (v1 : Int32) (k0 : Int32) : Option (Int32 × apM) := if ((mst s 0 0 k0) 0 0) = 0 then (Option.bind (ald (mst s 0 0 k0) 19 480 v1) (fun t3 => some (t3, mst s 0 0 k0))) else (some (0, mst s 0 0 k0))
set_option maxHeartbeats 4000000 in
set_option maxRecDepth 100000 in
theorem w_X7_cell_B36 {Γ : apC} {q : Nat → Nat} (G : apG Γ cX7_cell 2 RX7 wsX7_cell (apRm 0 0) apXM) {s : apM} {v1 k0 : Int32} {r : (Int32 × apM)} (K : apR Γ cX7_cell 0 0 (some r.1) (apU layM q (apd Γ) r.2)) (h : m_X7_cell_B36 s v1 k0 = some r) : apV Γ 2 (apU layM q (apd Γ) s) 0 0 36 [(0, .ref (q 0)), (1, .int v1)] [.int k0, .ref (q 0)] := by
  unfold m_X7_cell_B36 at h
  refine v_put (lay := layM) (k := 0) (C := RX7) (T := TX7) (N := 30) G (fun _ h => i_X7_cell_X7 _ h) tyX7 tyX7_ok nmX7 rfl rfl 0 (by decide) (by decide +kernel) rfl rfl (by first | rfl | decide) (by first | rfl | decide) rfl dX7_cell_36 ?_
  refine v_aload_n G dX7_cell_39 rfl 0 rfl ?_
  refine v_geti (lay := layM) (k := 0) (C := RX7) (T := TX7) (N := 30) G (fun _ h => i_X7_cell_X7 _ h) rfl rfl 0 (by decide) (by decide +kernel) rfl rfl dX7_cell_40 ?_
  refine v_if_ne (tgt := 55) G dX7_cell_43 (by decide) (fun c2 => ?_) (fun c2 => ?_)
  · replace h := (if_neg c2).symm.trans h
    refine v_iconst (v := 0) G dX7_cell_55 (by decide) ?_
    cases h
    exact v_iret G K (by decide) (by decide) dX7_cell_56
  · replace h := (if_pos c2).symm.trans h
    refine v_aload_n G dX7_cell_46 rfl 0 rfl ?_
    refine v_getr (lay := layM) (k := 0) (k' := 19) (C := RX7) (T := TX7) (N := 30) G (fun _ h => i_X7_cell_X7 _ h) rfl rfl 28 (by decide) (by decide +kernel) rfl rfl dX7_cell_47 ?_
    refine v_iload_n G dX7_cell_50 rfl 1 rfl ?_
    obtain ⟨t3, e4, h⟩ := Option.bind_eq_some_iff.mp h
    refine v_iald (lay := layM) (k := 19) (n := 480) G rfl e4 dX7_cell_51 ?_
    refine v_goto (tgt := 56) G dX7_cell_52 (by decide) ?_
    cases h
    exact v_iret G K (by decide) (by decide) dX7_cell_56
def m_X7_cell_B15 (s : apM) (v1 : Int32) : Option (Int32 × apM) := m_X7_cell_B36 s v1 1
set_option maxHeartbeats 4000000 in
set_option maxRecDepth 100000 in
theorem w_X7_cell_B15 {Γ : apC} {q : Nat → Nat} (G : apG Γ cX7_cell 2 RX7 wsX7_cell (apRm 0 0) apXM) {s : apM} {v1 : Int32} {r : (Int32 × apM)} (K : apR Γ cX7_cell 0 0 (some r.1) (apU layM q (apd Γ) r.2)) (h : m_X7_cell_B15 s v1 = some r) : apV Γ 2 (apU layM q (apd Γ) s) 0 0 15 [(0, .ref (q 0)), (1, .int v1)] [.ref (q 0)] := by
  unfold m_X7_cell_B15 at h
  refine v_iconst (v := 1) G dX7_cell_15 (by decide) ?_
  refine v_goto (tgt := 36) G dX7_cell_16 (by decide) ?_
  exact w_X7_cell_B36 G K h
def m_X7_cell_B31 (s : apM) (v1 : Int32) : Option (Int32 × apM) := m_X7_cell_B36 s v1 2
set_option maxHeartbeats 4000000 in
set_option maxRecDepth 100000 in
theorem w_X7_cell_B31 {Γ : apC} {q : Nat → Nat} (G : apG Γ cX7_cell 2 RX7 wsX7_cell (apRm 0 0) apXM) {s : apM} {v1 : Int32} {r : (Int32 × apM)} (K : apR Γ cX7_cell 0 0 (some r.1) (apU layM q (apd Γ) r.2)) (h : m_X7_cell_B31 s v1 = some r) : apV Γ 2 (apU layM q (apd Γ) s) 0 0 31 [(0, .ref (q 0)), (1, .int v1)] [.ref (q 0)] := by
  unfold m_X7_cell_B31 at h
  refine v_iconst (v := 2) G dX7_cell_31 (by decide) ?_
  refine v_goto (tgt := 36) G dX7_cell_32 (by decide) ?_
  exact w_X7_cell_B36 G K h
def m_X7_cell (s : apM) (v1 : Int32) : Option (Int32 × apM) := if (s 0 11) = 0 then (m_X7_cell_B15 s v1) else (if (s 0 27) = 0 then (m_X7_cell_B15 s v1) else (if v1 < 0 then (m_X7_cell_B31 s v1) else (if v1 < (s 0 20) then (m_X7_cell_B36 s v1 0) else (m_X7_cell_B31 s v1))))
set_option maxHeartbeats 4000000 in
set_option maxRecDepth 100000 in
theorem w_X7_cell {Γ : apC} {q : Nat → Nat} (G : apG Γ cX7_cell 2 RX7 wsX7_cell (apRm 0 0) apXM) {s : apM} {v1 : Int32} {r : (Int32 × apM)} (K : apR Γ cX7_cell 0 0 (some r.1) (apU layM q (apd Γ) r.2)) (h : m_X7_cell s v1 = some r) : apV Γ 2 (apU layM q (apd Γ) s) 0 0 0 [(0, .ref (q 0)), (1, .int v1)] [] := by
  unfold m_X7_cell at h
  refine v_aload_n G dX7_cell_0 rfl 0 rfl ?_
  refine v_aload_n G dX7_cell_1 rfl 0 rfl ?_
  refine v_geti (lay := layM) (k := 0) (C := RX7) (T := TX7) (N := 30) G (fun _ h => i_X7_cell_X7 _ h) rfl rfl 11 (by decide) (by decide +kernel) rfl rfl dX7_cell_2 ?_
  refine v_if_eq (tgt := 15) G dX7_cell_5 (by decide) (fun c1 => ?_) (fun c1 => ?_)
  · replace h := (if_pos c1).symm.trans h
    exact w_X7_cell_B15 G K h
  · replace h := (if_neg c1).symm.trans h
    refine v_aload_n G dX7_cell_8 rfl 0 rfl ?_
    refine v_geti (lay := layM) (k := 0) (C := RX7) (T := TX7) (N := 30) G (fun _ h => i_X7_cell_X7 _ h) rfl rfl 27 (by decide) (by decide +kernel) rfl rfl dX7_cell_9 ?_
    refine v_if_ne (tgt := 19) G dX7_cell_12 (by decide) (fun c5 => ?_) (fun c5 => ?_)
    · replace h := (if_neg c5).symm.trans h
      refine v_iload_n G dX7_cell_19 rfl 1 rfl ?_
      refine v_if_lt (tgt := 31) G dX7_cell_20 (by decide) (fun c6 => ?_) (fun c6 => ?_)
      · replace h := (if_pos c6).symm.trans h
        exact w_X7_cell_B31 G K h
      · replace h := (if_neg c6).symm.trans h
        refine v_iload_n G dX7_cell_23 rfl 1 rfl ?_
        refine v_aload_n G dX7_cell_24 rfl 0 rfl ?_
        refine v_geti (lay := layM) (k := 0) (C := RX7) (T := TX7) (N := 30) G (fun _ h => i_X7_cell_X7 _ h) rfl rfl 20 (by decide) (by decide +kernel) rfl rfl dX7_cell_25 ?_
        refine v_icmp_lt (tgt := 35) G dX7_cell_28 (by decide) (fun c7 => ?_) (fun c7 => ?_)
        · replace h := (if_pos c7).symm.trans h
          refine v_iconst (v := 0) G dX7_cell_35 (by decide) ?_
          exact w_X7_cell_B36 G K h
        · replace h := (if_neg c7).symm.trans h
          exact w_X7_cell_B31 G K h
    · replace h := (if_pos c5).symm.trans h
      exact w_X7_cell_B15 G K h
theorem c_X7_cell (l : Launch) {s : apM} {v1 : Int32} {r : (Int32 × apM)} (h : m_X7_cell s v1 = some r) : apMi l layM apXM yX7_cell wsX7_cell 0 (fun q => [.ref (q 0), .int v1]) s r.1 r.2 := apMi_of (cc := cX7_cell) (nL := 2) (r := r.1) (by decide) rfl rfl (fun _ => Nat.le_of_ble_eq_true rfl) (fun Γ q hl G K => w_X7_cell G K h)
theorem i_X7_come_X7 : ∀ w ∈ u_ws RX7 TX7 30, w ∈ wsX7_come := by decide +kernel
def m_X7_come (s : apM) (v1 : Int32) : Option apM := Option.bind (ast s 12 12 v1 (s 0 19)) (fun s1 => Option.bind (ast s1 11 12 (s1 0 19) v1) (fun s3 => some (mst s3 0 19 ((s3 0 19) + 1))))
set_option maxHeartbeats 4000000 in
set_option maxRecDepth 100000 in
theorem w_X7_come {Γ : apC} {q : Nat → Nat} (G : apG Γ cX7_come 2 RX7 wsX7_come (apRm 0 0) apXM) {s : apM} {v1 : Int32} {r : apM} (K : apR Γ cX7_come 0 0 none (apU layM q (apd Γ) r)) (h : m_X7_come s v1 = some r) : apV Γ 2 (apU layM q (apd Γ) s) 0 0 0 [(0, .ref (q 0)), (1, .int v1)] [] := by
  unfold m_X7_come at h
  refine v_aload_n G dX7_come_0 rfl 0 rfl ?_
  refine v_getr (lay := layM) (k := 0) (k' := 12) (C := RX7) (T := TX7) (N := 30) G (fun _ h => i_X7_come_X7 _ h) rfl rfl 16 (by decide) (by decide +kernel) rfl rfl dX7_come_1 ?_
  refine v_iload_n G dX7_come_4 rfl 1 rfl ?_
  refine v_aload_n G dX7_come_5 rfl 0 rfl ?_
  refine v_geti (lay := layM) (k := 0) (C := RX7) (T := TX7) (N := 30) G (fun _ h => i_X7_come_X7 _ h) rfl rfl 19 (by decide) (by decide +kernel) rfl rfl dX7_come_6 ?_
  obtain ⟨s1, e2, h⟩ := Option.bind_eq_some_iff.mp h
  refine v_iast (lay := layM) (k := 12) (n := 12) G rfl e2 dX7_come_9 ?_
  refine v_aload_n G dX7_come_10 rfl 0 rfl ?_
  refine v_getr (lay := layM) (k := 0) (k' := 11) (C := RX7) (T := TX7) (N := 30) G (fun _ h => i_X7_come_X7 _ h) rfl rfl 15 (by decide) (by decide +kernel) rfl rfl dX7_come_11 ?_
  refine v_aload_n G dX7_come_14 rfl 0 rfl ?_
  refine v_geti (lay := layM) (k := 0) (C := RX7) (T := TX7) (N := 30) G (fun _ h => i_X7_come_X7 _ h) rfl rfl 19 (by decide) (by decide +kernel) rfl rfl dX7_come_15 ?_
  refine v_iload_n G dX7_come_18 rfl 1 rfl ?_
  obtain ⟨s3, e4, h⟩ := Option.bind_eq_some_iff.mp h
  refine v_iast (lay := layM) (k := 11) (n := 12) G rfl e4 dX7_come_19 ?_
  refine v_aload_n G dX7_come_20 rfl 0 rfl ?_
  refine v_dup G dX7_come_21 rfl ?_
  refine v_geti (lay := layM) (k := 0) (C := RX7) (T := TX7) (N := 30) G (fun _ h => i_X7_come_X7 _ h) rfl rfl 19 (by decide) (by decide +kernel) rfl rfl dX7_come_22 ?_
  refine v_iconst (v := 1) G dX7_come_25 (by decide) ?_
  refine v_iadd G dX7_come_26 ?_
  refine v_put (lay := layM) (k := 0) (C := RX7) (T := TX7) (N := 30) G (fun _ h => i_X7_come_X7 _ h) tyX7 tyX7_ok nmX7 rfl rfl 19 (by decide) (by decide +kernel) rfl rfl (by first | rfl | decide) (by first | rfl | decide) rfl dX7_come_27 ?_
  cases h
  exact v_vret G K (by decide) (by decide) dX7_come_30
theorem c_X7_come (l : Launch) {s : apM} {v1 : Int32} {r : apM} (h : m_X7_come s v1 = some r) : apMv l layM apXM yX7_come wsX7_come 0 (fun q => [.ref (q 0), .int v1]) s r := apMv_of (cc := cX7_come) (nL := 2) (by decide) rfl (fun _ => Nat.le_of_ble_eq_true rfl) (fun Γ q hl G K => w_X7_come G K h)
theorem i_X7_costOf_X7 : ∀ w ∈ u_ws RX7 TX7 30, w ∈ wsX7_costOf := by decide +kernel
def m_X7_costOf_B44 (s : apM) (v1 : Int32) (v3 : Int32) (k0 : Int32) : Option ((Int32 × Int32) ⊕ (Int32 × Int32)) := some (.inl (k0, v3 + 1))
set_option maxHeartbeats 4000000 in
set_option maxRecDepth 100000 in
theorem w_X7_costOf_B44 {Γ : apC} {q : Nat → Nat} (G : apG Γ cX7_costOf 4 RX7 wsX7_costOf (apRm 0 0) apXM) {s : apM} {v1 v3 k0 : Int32} {r : ((Int32 × Int32) ⊕ (Int32 × Int32))} (K : match r with | .inl x => apV Γ 4 (apU layM q (apd Γ) s) 0 0 4 [(0, .ref (q 0)), (1, .int v1), (2, .int x.1), (3, .int x.2)] [] | .inr x => apV Γ 4 (apU layM q (apd Γ) s) 0 0 51 [(2, .int x.1)] []) (h : m_X7_costOf_B44 s v1 v3 k0 = some r) : apV Γ 4 (apU layM q (apd Γ) s) 0 0 44 [(0, .ref (q 0)), (1, .int v1), (3, .int v3)] [.int k0] := by
  unfold m_X7_costOf_B44 at h
  refine v_istore_n (L' := [(2, .int k0), (0, .ref (q 0)), (1, .int v1), (3, .int v3)]) G dX7_costOf_44 rfl (by decide) rfl ?_
  refine v_iinc (v := v3 + 1) (L' := [(3, .int (v3 + 1)), (2, .int k0), (0, .ref (q 0)), (1, .int v1)]) G dX7_costOf_45 3 rfl rfl (by decide) rfl ?_
  refine v_goto (tgt := 4) G dX7_costOf_48 (by decide) ?_
  cases h
  refine v_locs (L' := [(0, .ref (q 0)), (1, .int v1), (2, .int k0), (3, .int (v3 + 1))]) [2, 3, 1, 0] rfl ?_
  exact K
def m_X7_costOf_B43 (s : apM) (v1 : Int32) (v2 : Int32) (v3 : Int32) : Option ((Int32 × Int32) ⊕ (Int32 × Int32)) := m_X7_costOf_B44 s v1 v3 v2
set_option maxHeartbeats 4000000 in
set_option maxRecDepth 100000 in
theorem w_X7_costOf_B43 {Γ : apC} {q : Nat → Nat} (G : apG Γ cX7_costOf 4 RX7 wsX7_costOf (apRm 0 0) apXM) {s : apM} {v1 v2 v3 : Int32} {r : ((Int32 × Int32) ⊕ (Int32 × Int32))} (K : match r with | .inl x => apV Γ 4 (apU layM q (apd Γ) s) 0 0 4 [(0, .ref (q 0)), (1, .int v1), (2, .int x.1), (3, .int x.2)] [] | .inr x => apV Γ 4 (apU layM q (apd Γ) s) 0 0 51 [(2, .int x.1)] []) (h : m_X7_costOf_B43 s v1 v2 v3 = some r) : apV Γ 4 (apU layM q (apd Γ) s) 0 0 43 [(0, .ref (q 0)), (1, .int v1), (2, .int v2), (3, .int v3)] [] := by
  unfold m_X7_costOf_B43 at h
  refine v_iload_n G dX7_costOf_43 rfl 2 rfl ?_
  refine v_locs (L' := [(0, .ref (q 0)), (1, .int v1), (3, .int v3)]) [0, 1, 3] rfl ?_
  exact w_X7_costOf_B44 G K h
def m_X7_costOf_L4 (s : apM) (v1 : Int32) : (Int32 × Int32) → Option ((Int32 × Int32) ⊕ (Int32 × Int32)) := fun (v2, v3) => if (s 0 1) ≤ v3 then (some (.inr (v2, v3))) else (Option.bind (ald s 12 12 v3) (fun t2 => if v1 < t2 then (m_X7_costOf_B43 s v1 v2 v3) else (Option.bind (ald s 13 12 v3) (fun t5 => if t5 < v1 then (m_X7_costOf_B43 s v1 v2 v3) else (Option.bind (ald s 9 12 v3) (fun t8 => m_X7_costOf_B44 s v1 v3 (v2 + t8)))))))
set_option maxHeartbeats 4000000 in
set_option maxRecDepth 100000 in
theorem w_X7_costOf_L4 {Γ : apC} {q : Nat → Nat} (G : apG Γ cX7_costOf 4 RX7 wsX7_costOf (apRm 0 0) apXM) {s : apM} {v1 v2 v3 : Int32} {r : ((Int32 × Int32) ⊕ (Int32 × Int32))} (K : match r with | .inl x => apV Γ 4 (apU layM q (apd Γ) s) 0 0 4 [(0, .ref (q 0)), (1, .int v1), (2, .int x.1), (3, .int x.2)] [] | .inr x => apV Γ 4 (apU layM q (apd Γ) s) 0 0 51 [(2, .int x.1)] []) (h : m_X7_costOf_L4 s v1 (v2, v3) = some r) : apV Γ 4 (apU layM q (apd Γ) s) 0 0 4 [(0, .ref (q 0)), (1, .int v1), (2, .int v2), (3, .int v3)] [] := by
  unfold m_X7_costOf_L4 at h
  dsimp only at h
  refine v_iload_n G dX7_costOf_4 rfl 3 rfl ?_
  refine v_aload_n G dX7_costOf_5 rfl 0 rfl ?_
  refine v_geti (lay := layM) (k := 0) (C := RX7) (T := TX7) (N := 30) G (fun _ h => i_X7_costOf_X7 _ h) rfl rfl 1 (by decide) (by decide +kernel) rfl rfl dX7_costOf_6 ?_
  refine v_icmp_ge (tgt := 51) G dX7_costOf_9 (by decide) (fun c1 => ?_) (fun c1 => ?_)
  · replace h := (if_pos c1).symm.trans h
    cases h
    refine v_locs (L' := [(2, .int v2)]) [2] rfl ?_
    exact K
  · replace h := (if_neg c1).symm.trans h
    refine v_aload_n G dX7_costOf_12 rfl 0 rfl ?_
    refine v_getr (lay := layM) (k := 0) (k' := 12) (C := RX7) (T := TX7) (N := 30) G (fun _ h => i_X7_costOf_X7 _ h) rfl rfl 16 (by decide) (by decide +kernel) rfl rfl dX7_costOf_13 ?_
    refine v_iload_n G dX7_costOf_16 rfl 3 rfl ?_
    obtain ⟨t2, e3, h⟩ := Option.bind_eq_some_iff.mp h
    refine v_iald (lay := layM) (k := 12) (n := 12) G rfl e3 dX7_costOf_17 ?_
    refine v_iload_n G dX7_costOf_18 rfl 1 rfl ?_
    refine v_icmp_gt (tgt := 43) G dX7_costOf_19 (by decide) (fun c4 => ?_) (fun c4 => ?_)
    · replace h := (if_pos c4).symm.trans h
      exact w_X7_costOf_B43 G K h
    · replace h := (if_neg c4).symm.trans h
      refine v_iload_n G dX7_costOf_22 rfl 1 rfl ?_
      refine v_aload_n G dX7_costOf_23 rfl 0 rfl ?_
      refine v_getr (lay := layM) (k := 0) (k' := 13) (C := RX7) (T := TX7) (N := 30) G (fun _ h => i_X7_costOf_X7 _ h) rfl rfl 17 (by decide) (by decide +kernel) rfl rfl dX7_costOf_24 ?_
      refine v_iload_n G dX7_costOf_27 rfl 3 rfl ?_
      obtain ⟨t5, e6, h⟩ := Option.bind_eq_some_iff.mp h
      refine v_iald (lay := layM) (k := 13) (n := 12) G rfl e6 dX7_costOf_28 ?_
      refine v_icmp_gt (tgt := 43) G dX7_costOf_29 (by decide) (fun c7 => ?_) (fun c7 => ?_)
      · replace h := (if_pos c7).symm.trans h
        exact w_X7_costOf_B43 G K h
      · replace h := (if_neg c7).symm.trans h
        refine v_iload_n G dX7_costOf_32 rfl 2 rfl ?_
        refine v_aload_n G dX7_costOf_33 rfl 0 rfl ?_
        refine v_getr (lay := layM) (k := 0) (k' := 9) (C := RX7) (T := TX7) (N := 30) G (fun _ h => i_X7_costOf_X7 _ h) rfl rfl 13 (by decide) (by decide +kernel) rfl rfl dX7_costOf_34 ?_
        refine v_iload_n G dX7_costOf_37 rfl 3 rfl ?_
        obtain ⟨t8, e9, h⟩ := Option.bind_eq_some_iff.mp h
        refine v_iald (lay := layM) (k := 9) (n := 12) G rfl e9 dX7_costOf_38 ?_
        refine v_iadd G dX7_costOf_39 ?_
        refine v_goto (tgt := 44) G dX7_costOf_40 (by decide) ?_
        refine v_locs (L' := [(0, .ref (q 0)), (1, .int v1), (3, .int v3)]) [0, 1, 3] rfl ?_
        exact w_X7_costOf_B44 G K h
def m_X7_costOf (s : apM) (v1 : Int32) : Option Int32 := Option.bind (lp FU (m_X7_costOf_L4 s v1) (0, 0)) (fun x10 => match x10 with | (v12, v13) => some v12)
set_option maxHeartbeats 4000000 in
set_option maxRecDepth 100000 in
theorem w_X7_costOf {Γ : apC} {q : Nat → Nat} (G : apG Γ cX7_costOf 4 RX7 wsX7_costOf (apRm 0 0) apXM) {s : apM} {v1 : Int32} {r : Int32} (K : apR Γ cX7_costOf 0 0 (some r) (apU layM q (apd Γ) s)) (h : m_X7_costOf s v1 = some r) : apV Γ 4 (apU layM q (apd Γ) s) 0 0 0 [(0, .ref (q 0)), (1, .int v1)] [] := by
  unfold m_X7_costOf at h
  refine v_iconst (v := 0) G dX7_costOf_0 (by decide) ?_
  refine v_istore_n (L' := [(2, .int 0), (0, .ref (q 0)), (1, .int v1)]) G dX7_costOf_1 rfl (by decide) rfl ?_
  refine v_iconst (v := 0) G dX7_costOf_2 (by decide) ?_
  refine v_istore_n (L' := [(3, .int 0), (2, .int 0), (0, .ref (q 0)), (1, .int v1)]) G dX7_costOf_3 rfl (by decide) rfl ?_
  obtain ⟨x10, e11, h⟩ := Option.bind_eq_some_iff.mp h
  refine v_locs (L' := [(0, .ref (q 0)), (1, .int v1), (2, .int 0), (3, .int 0)]) [2, 3, 1, 0] rfl ?_
  have l14 := v_lp (b := m_X7_costOf_L4 s v1) (I := fun x => apV Γ 4 (apU layM q (apd Γ) s) 0 0 4 [(0, .ref (q 0)), (1, .int v1), (2, .int x.1), (3, .int x.2)] []) (O := fun x => apV Γ 4 (apU layM q (apd Γ) s) 0 0 51 [(2, .int x.1)] []) (fun x r hb hK => by obtain ⟨y2, y3⟩ := x; rcases r with r | r <;> exact w_X7_costOf_L4 G hK hb) FU (0, 0) x10 e11
  obtain ⟨v12, v13⟩ := x10
  dsimp only at h
  refine l14 ?_
  refine v_iload_n G dX7_costOf_51 rfl 0 rfl ?_
  cases h
  exact v_iret G K (by decide) (by decide) dX7_costOf_52
theorem c_X7_costOf (l : Launch) {s : apM} {v1 : Int32} {r : Int32} (h : m_X7_costOf s v1 = some r) : apMi l layM apXM yX7_costOf wsX7_costOf 0 (fun q => [.ref (q 0), .int v1]) s r s := apMi_of (cc := cX7_costOf) (nL := 4) (r := r) (by decide) rfl rfl (fun _ => Nat.le_of_ble_eq_true rfl) (fun Γ q hl G K => w_X7_costOf G K h)
theorem i_X7_cost_X7 : ∀ w ∈ u_ws RX7 TX7 30, w ∈ wsX7_cost := by decide +kernel
def m_X7_cost_B29 (s : apM) (v1 : Int32) (k0 : Int32) : Option (Int32 × apM) := if ((mst s 0 0 k0) 0 0) = 0 then (Option.bind (m_X7_costOf (mst s 0 0 k0) v1) (fun t3 => some (t3, mst s 0 0 k0))) else (some (0, mst s 0 0 k0))
set_option maxHeartbeats 4000000 in
set_option maxRecDepth 100000 in
theorem w_X7_cost_B29 {Γ : apC} {q : Nat → Nat} (G : apG Γ cX7_cost 2 RX7 wsX7_cost (apRm 1 0) apXM) {s : apM} {v1 k0 : Int32} {r : (Int32 × apM)} (K : apR Γ cX7_cost 0 0 (some r.1) (apU layM q (apd Γ) r.2)) (h : m_X7_cost_B29 s v1 k0 = some r) : apV Γ 2 (apU layM q (apd Γ) s) 0 0 29 [(0, .ref (q 0)), (1, .int v1)] [.int k0, .ref (q 0)] := by
  unfold m_X7_cost_B29 at h
  refine v_put (lay := layM) (k := 0) (C := RX7) (T := TX7) (N := 30) G (fun _ h => i_X7_cost_X7 _ h) tyX7 tyX7_ok nmX7 rfl rfl 0 (by decide) (by decide +kernel) rfl rfl (by first | rfl | decide) (by first | rfl | decide) rfl dX7_cost_29 ?_
  refine v_aload_n G dX7_cost_32 rfl 0 rfl ?_
  refine v_geti (lay := layM) (k := 0) (C := RX7) (T := TX7) (N := 30) G (fun _ h => i_X7_cost_X7 _ h) rfl rfl 0 (by decide) (by decide +kernel) rfl rfl dX7_cost_33 ?_
  refine v_if_ne (tgt := 47) G dX7_cost_36 (by decide) (fun c2 => ?_) (fun c2 => ?_)
  · replace h := (if_neg c2).symm.trans h
    refine v_iconst (v := 0) G dX7_cost_47 (by decide) ?_
    cases h
    exact v_iret G K (by decide) (by decide) dX7_cost_48
  · replace h := (if_pos c2).symm.trans h
    refine v_aload_n G dX7_cost_39 rfl 0 rfl ?_
    refine v_iload_n G dX7_cost_40 rfl 1 rfl ?_
    obtain ⟨t3, e4, h⟩ := Option.bind_eq_some_iff.mp h
    refine v_calliV (lay := layM) (As := [.int v1]) (st := []) (n := 1) (C := RX7) (T := TX7) (k0 := 0) G apXMok (c_X7_costOf Γ.1.2.1 e4) gX7_cost_X7_costOf rfl (by decide +kernel) (by decide) rfl rfl rfl rfl (Nat.le_of_ble_eq_true rfl) (by decide) rfl dX7_cost_41 ?_
    refine v_goto (tgt := 48) G dX7_cost_44 (by decide) ?_
    cases h
    exact v_iret G K (by decide) (by decide) dX7_cost_48
def m_X7_cost_B24 (s : apM) (v1 : Int32) : Option (Int32 × apM) := m_X7_cost_B29 s v1 2
set_option maxHeartbeats 4000000 in
set_option maxRecDepth 100000 in
theorem w_X7_cost_B24 {Γ : apC} {q : Nat → Nat} (G : apG Γ cX7_cost 2 RX7 wsX7_cost (apRm 1 0) apXM) {s : apM} {v1 : Int32} {r : (Int32 × apM)} (K : apR Γ cX7_cost 0 0 (some r.1) (apU layM q (apd Γ) r.2)) (h : m_X7_cost_B24 s v1 = some r) : apV Γ 2 (apU layM q (apd Γ) s) 0 0 24 [(0, .ref (q 0)), (1, .int v1)] [.ref (q 0)] := by
  unfold m_X7_cost_B24 at h
  refine v_iconst (v := 2) G dX7_cost_24 (by decide) ?_
  refine v_goto (tgt := 29) G dX7_cost_25 (by decide) ?_
  exact w_X7_cost_B29 G K h
def m_X7_cost (s : apM) (v1 : Int32) : Option (Int32 × apM) := if (s 0 11) = 0 then (m_X7_cost_B29 s v1 1) else (if v1 < 0 then (m_X7_cost_B24 s v1) else (if v1 < (s 0 1) then (m_X7_cost_B29 s v1 0) else (m_X7_cost_B24 s v1)))
set_option maxHeartbeats 4000000 in
set_option maxRecDepth 100000 in
theorem w_X7_cost {Γ : apC} {q : Nat → Nat} (G : apG Γ cX7_cost 2 RX7 wsX7_cost (apRm 1 0) apXM) {s : apM} {v1 : Int32} {r : (Int32 × apM)} (K : apR Γ cX7_cost 0 0 (some r.1) (apU layM q (apd Γ) r.2)) (h : m_X7_cost s v1 = some r) : apV Γ 2 (apU layM q (apd Γ) s) 0 0 0 [(0, .ref (q 0)), (1, .int v1)] [] := by
  unfold m_X7_cost at h
  refine v_aload_n G dX7_cost_0 rfl 0 rfl ?_
  refine v_aload_n G dX7_cost_1 rfl 0 rfl ?_
  refine v_geti (lay := layM) (k := 0) (C := RX7) (T := TX7) (N := 30) G (fun _ h => i_X7_cost_X7 _ h) rfl rfl 11 (by decide) (by decide +kernel) rfl rfl dX7_cost_2 ?_
  refine v_if_ne (tgt := 12) G dX7_cost_5 (by decide) (fun c1 => ?_) (fun c1 => ?_)
  · replace h := (if_neg c1).symm.trans h
    refine v_iload_n G dX7_cost_12 rfl 1 rfl ?_
    refine v_if_lt (tgt := 24) G dX7_cost_13 (by decide) (fun c5 => ?_) (fun c5 => ?_)
    · replace h := (if_pos c5).symm.trans h
      exact w_X7_cost_B24 G K h
    · replace h := (if_neg c5).symm.trans h
      refine v_iload_n G dX7_cost_16 rfl 1 rfl ?_
      refine v_aload_n G dX7_cost_17 rfl 0 rfl ?_
      refine v_geti (lay := layM) (k := 0) (C := RX7) (T := TX7) (N := 30) G (fun _ h => i_X7_cost_X7 _ h) rfl rfl 1 (by decide) (by decide +kernel) rfl rfl dX7_cost_18 ?_
      refine v_icmp_lt (tgt := 28) G dX7_cost_21 (by decide) (fun c6 => ?_) (fun c6 => ?_)
      · replace h := (if_pos c6).symm.trans h
        refine v_iconst (v := 0) G dX7_cost_28 (by decide) ?_
        exact w_X7_cost_B29 G K h
      · replace h := (if_neg c6).symm.trans h
        exact w_X7_cost_B24 G K h
  · replace h := (if_pos c1).symm.trans h
    refine v_iconst (v := 1) G dX7_cost_8 (by decide) ?_
    refine v_goto (tgt := 29) G dX7_cost_9 (by decide) ?_
    exact w_X7_cost_B29 G K h
theorem c_X7_cost (l : Launch) {s : apM} {v1 : Int32} {r : (Int32 × apM)} (h : m_X7_cost s v1 = some r) : apMi l layM apXM yX7_cost wsX7_cost 1 (fun q => [.ref (q 0), .int v1]) s r.1 r.2 := apMi_of (cc := cX7_cost) (nL := 2) (r := r.1) (by decide) rfl rfl (fun _ => Nat.le_of_ble_eq_true rfl) (fun Γ q hl G K => w_X7_cost G K h)
def m_X7_inputs_B23 : Int32 := 2
set_option maxHeartbeats 4000000 in
set_option maxRecDepth 100000 in
theorem w_X7_inputs_B23 {Γ : apC} {q : Nat → Nat} (G : apG Γ cX7_inputs 1 RX7 wsX7_inputs (apRm 0 0) apXM) {s : apM} {r : Int32} (K : apR Γ cX7_inputs 0 0 (some r) (apU layM q (apd Γ) s)) (h : m_X7_inputs_B23 = r) : apV Γ 1 (apU layM q (apd Γ) s) 0 0 23 [] [] := by
  unfold m_X7_inputs_B23 at h
  refine v_iconst (v := 2) G dX7_inputs_23 (by decide) ?_
  refine v_goto (tgt := 28) G dX7_inputs_24 (by decide) ?_
  subst h
  exact v_iret G K (by decide) (by decide) dX7_inputs_28
def m_X7_inputs (v0 : Int32) : Int32 := if v0 = 0 then 0 else (if v0 = 2 then m_X7_inputs_B23 else (if v0 = 3 then m_X7_inputs_B23 else (if v0 = 4 then m_X7_inputs_B23 else 1)))
set_option maxHeartbeats 4000000 in
set_option maxRecDepth 100000 in
theorem w_X7_inputs {Γ : apC} {q : Nat → Nat} (G : apG Γ cX7_inputs 1 RX7 wsX7_inputs (apRm 0 0) apXM) {s : apM} {v0 : Int32} {r : Int32} (K : apR Γ cX7_inputs 0 0 (some r) (apU layM q (apd Γ) s)) (h : m_X7_inputs v0 = r) : apV Γ 1 (apU layM q (apd Γ) s) 0 0 0 [(0, .int v0)] [] := by
  unfold m_X7_inputs at h
  refine v_iload_n G dX7_inputs_0 rfl 0 rfl ?_
  refine v_if_ne (tgt := 8) G dX7_inputs_1 (by decide) (fun c1 => ?_) (fun c1 => ?_)
  · replace h := (if_neg c1).symm.trans h
    refine v_iload_n G dX7_inputs_8 rfl 0 rfl ?_
    refine v_iconst (v := 2) G dX7_inputs_9 (by decide) ?_
    refine v_icmp_eq (tgt := 23) G dX7_inputs_10 (by decide) (fun c2 => ?_) (fun c2 => ?_)
    · replace h := (if_pos c2).symm.trans h
      refine v_locs (L' := []) [] rfl ?_
      exact w_X7_inputs_B23 G K h
    · replace h := (if_neg c2).symm.trans h
      refine v_iload_n G dX7_inputs_13 rfl 0 rfl ?_
      refine v_iconst (v := 3) G dX7_inputs_14 (by decide) ?_
      refine v_icmp_eq (tgt := 23) G dX7_inputs_15 (by decide) (fun c3 => ?_) (fun c3 => ?_)
      · replace h := (if_pos c3).symm.trans h
        refine v_locs (L' := []) [] rfl ?_
        exact w_X7_inputs_B23 G K h
      · replace h := (if_neg c3).symm.trans h
        refine v_iload_n G dX7_inputs_18 rfl 0 rfl ?_
        refine v_iconst (v := 4) G dX7_inputs_19 (by decide) ?_
        refine v_icmp_ne (tgt := 27) G dX7_inputs_20 (by decide) (fun c4 => ?_) (fun c4 => ?_)
        · replace h := (if_neg c4).symm.trans h
          refine v_iconst (v := 1) G dX7_inputs_27 (by decide) ?_
          subst h
          exact v_iret G K (by decide) (by decide) dX7_inputs_28
        · replace h := (if_pos c4).symm.trans h
          refine v_locs (L' := []) [] rfl ?_
          exact w_X7_inputs_B23 G K h
  · replace h := (if_pos c1).symm.trans h
    refine v_iconst (v := 0) G dX7_inputs_4 (by decide) ?_
    refine v_goto (tgt := 28) G dX7_inputs_5 (by decide) ?_
    subst h
    exact v_iret G K (by decide) (by decide) dX7_inputs_28
theorem c_X7_inputs (l : Launch) {s : apM} {v0 : Int32} {r : Int32} (h : m_X7_inputs v0 = r) : apMi l layM apXM yX7_inputs wsX7_inputs 0 (fun q => [.int v0]) s r s := apMi_of (cc := cX7_inputs) (nL := 1) (r := r) (by decide) rfl rfl (fun _ => Nat.le_of_ble_eq_true rfl) (fun Γ q hl G K => w_X7_inputs G K h)
theorem i_X7_isThere_X7 : ∀ w ∈ u_ws RX7 TX7 30, w ∈ wsX7_isThere := by decide +kernel
def m_X7_isThere (s : apM) (v1 : Int32) : Option Int32 := Option.bind (ald s 12 12 v1) (fun t1 => if t1 < 0 then (some 0) else (some 1))
set_option maxHeartbeats 4000000 in
set_option maxRecDepth 100000 in
theorem w_X7_isThere {Γ : apC} {q : Nat → Nat} (G : apG Γ cX7_isThere 2 RX7 wsX7_isThere (apRm 0 0) apXM) {s : apM} {v1 : Int32} {r : Int32} (K : apR Γ cX7_isThere 0 0 (some r) (apU layM q (apd Γ) s)) (h : m_X7_isThere s v1 = some r) : apV Γ 2 (apU layM q (apd Γ) s) 0 0 0 [(0, .ref (q 0)), (1, .int v1)] [] := by
  unfold m_X7_isThere at h
  refine v_aload_n G dX7_isThere_0 rfl 0 rfl ?_
  refine v_getr (lay := layM) (k := 0) (k' := 12) (C := RX7) (T := TX7) (N := 30) G (fun _ h => i_X7_isThere_X7 _ h) rfl rfl 16 (by decide) (by decide +kernel) rfl rfl dX7_isThere_1 ?_
  refine v_iload_n G dX7_isThere_4 rfl 1 rfl ?_
  obtain ⟨t1, e2, h⟩ := Option.bind_eq_some_iff.mp h
  refine v_iald (lay := layM) (k := 12) (n := 12) G rfl e2 dX7_isThere_5 ?_
  refine v_if_lt (tgt := 13) G dX7_isThere_6 (by decide) (fun c3 => ?_) (fun c3 => ?_)
  · replace h := (if_pos c3).symm.trans h
    refine v_iconst (v := 0) G dX7_isThere_13 (by decide) ?_
    cases h
    exact v_iret G K (by decide) (by decide) dX7_isThere_14
  · replace h := (if_neg c3).symm.trans h
    refine v_iconst (v := 1) G dX7_isThere_9 (by decide) ?_
    refine v_goto (tgt := 14) G dX7_isThere_10 (by decide) ?_
    cases h
    exact v_iret G K (by decide) (by decide) dX7_isThere_14
theorem z_X7_isThere {s : apM} {v1 : Int32} {r : Int32} (h : m_X7_isThere s v1 = some r) : r = 0 ∨ r = 1 := by
  unfold m_X7_isThere at h
  obtain ⟨t1, e2, h⟩ := Option.bind_eq_some_iff.mp h
  by_cases c3 : t1 < 0
  · replace h := (if_pos c3).symm.trans h
    cases h
    exact Or.inl rfl
  · replace h := (if_neg c3).symm.trans h
    cases h
    exact Or.inr rfl
theorem c_X7_isThere (l : Launch) {s : apM} {v1 : Int32} {r : Int32} (h : m_X7_isThere s v1 = some r) : apMi l layM apXM yX7_isThere wsX7_isThere 0 (fun q => [.ref (q 0), .int v1]) s r s := apMi_of (cc := cX7_isThere) (nL := 2) (r := r) (by decide) rfl (by rcases z_X7_isThere h with e | e <;> rw [e] <;> rfl) (fun _ => Nat.le_of_ble_eq_true rfl) (fun Γ q hl G K => w_X7_isThere G K h)
theorem i_X7_due_X7 : ∀ w ∈ u_ws RX7 TX7 30, w ∈ wsX7_due := by decide +kernel
def m_X7_due_B81 (s : apM) (v5 : Int32) (k0 : Int32) : Option Int32 := Option.bind (m_X7_isThere s v5) (fun t13 => if t13 = 0 then (some v5) else (some k0))
set_option maxHeartbeats 4000000 in
set_option maxRecDepth 100000 in
theorem w_X7_due_B81 {Γ : apC} {q : Nat → Nat} (G : apG Γ cX7_due 7 RX7 wsX7_due (apRm 1 0) apXM) {s : apM} {v5 k0 : Int32} {r : Int32} (K : apR Γ cX7_due 0 0 (some r) (apU layM q (apd Γ) s)) (h : m_X7_due_B81 s v5 k0 = some r) : apV Γ 7 (apU layM q (apd Γ) s) 0 0 81 [(0, .ref (q 0)), (5, .int v5)] [.int k0] := by
  unfold m_X7_due_B81 at h
  refine v_istore (L' := [(6, .int k0), (0, .ref (q 0)), (5, .int v5)]) G dX7_due_81 (by decide) rfl ?_
  refine v_aload_n G dX7_due_83 rfl 1 rfl ?_
  refine v_iload G dX7_due_84 2 rfl ?_
  obtain ⟨t13, e14, h⟩ := Option.bind_eq_some_iff.mp h
  refine v_calliV (lay := layM) (As := [.int v5]) (st := []) (n := 1) (C := RX7) (T := TX7) (k0 := 0) G apXMok (c_X7_isThere Γ.1.2.1 e14) gX7_due_X7_isThere rfl (by decide +kernel) (by decide) rfl rfl rfl rfl (Nat.le_of_ble_eq_true rfl) (by decide) rfl dX7_due_86 ?_
  refine v_if_eq (tgt := 97) G dX7_due_89 (by decide) (fun c15 => ?_) (fun c15 => ?_)
  · replace h := (if_pos c15).symm.trans h
    refine v_iload G dX7_due_97 2 rfl ?_
    cases h
    exact v_iret G K (by decide) (by decide) dX7_due_99
  · replace h := (if_neg c15).symm.trans h
    refine v_iload G dX7_due_92 0 rfl ?_
    refine v_goto (tgt := 99) G dX7_due_94 (by decide) ?_
    cases h
    exact v_iret G K (by decide) (by decide) dX7_due_99
def m_X7_due_B69 (s : apM) (v2 : Int32) (v3 : Int32) (v4 : Int32) (k0 : Int32) : Option Int32 := if v4 = 0 then (m_X7_due_B81 s k0 v3) else (m_X7_due_B81 s k0 v2)
set_option maxHeartbeats 4000000 in
set_option maxRecDepth 100000 in
theorem w_X7_due_B69 {Γ : apC} {q : Nat → Nat} (G : apG Γ cX7_due 7 RX7 wsX7_due (apRm 1 0) apXM) {s : apM} {v2 v3 v4 k0 : Int32} {r : Int32} (K : apR Γ cX7_due 0 0 (some r) (apU layM q (apd Γ) s)) (h : m_X7_due_B69 s v2 v3 v4 k0 = some r) : apV Γ 7 (apU layM q (apd Γ) s) 0 0 69 [(0, .ref (q 0)), (2, .int v2), (3, .int v3), (4, .int v4)] [.int k0] := by
  unfold m_X7_due_B69 at h
  refine v_istore (L' := [(5, .int k0), (0, .ref (q 0)), (2, .int v2), (3, .int v3), (4, .int v4)]) G dX7_due_69 (by decide) rfl ?_
  refine v_iload G dX7_due_71 4 rfl ?_
  refine v_if_eq (tgt := 80) G dX7_due_73 (by decide) (fun c12 => ?_) (fun c12 => ?_)
  · replace h := (if_pos c12).symm.trans h
    refine v_iload_n G dX7_due_80 rfl 3 rfl ?_
    refine v_locs (L' := [(0, .ref (q 0)), (5, .int k0)]) [1, 0] rfl ?_
    exact w_X7_due_B81 G K h
  · replace h := (if_neg c12).symm.trans h
    refine v_iload_n G dX7_due_76 rfl 2 rfl ?_
    refine v_goto (tgt := 81) G dX7_due_77 (by decide) ?_
    refine v_locs (L' := [(0, .ref (q 0)), (5, .int k0)]) [1, 0] rfl ?_
    exact w_X7_due_B81 G K h
def m_X7_due_B57 (s : apM) (v2 : Int32) (v3 : Int32) (k0 : Int32) : Option Int32 := if k0 = 0 then (m_X7_due_B69 s v2 v3 k0 v2) else (m_X7_due_B69 s v2 v3 k0 v3)
set_option maxHeartbeats 4000000 in
set_option maxRecDepth 100000 in
theorem w_X7_due_B57 {Γ : apC} {q : Nat → Nat} (G : apG Γ cX7_due 7 RX7 wsX7_due (apRm 1 0) apXM) {s : apM} {v2 v3 k0 : Int32} {r : Int32} (K : apR Γ cX7_due 0 0 (some r) (apU layM q (apd Γ) s)) (h : m_X7_due_B57 s v2 v3 k0 = some r) : apV Γ 7 (apU layM q (apd Γ) s) 0 0 57 [(0, .ref (q 0)), (2, .int v2), (3, .int v3)] [.int k0] := by
  unfold m_X7_due_B57 at h
  refine v_istore (L' := [(4, .int k0), (0, .ref (q 0)), (2, .int v2), (3, .int v3)]) G dX7_due_57 (by decide) rfl ?_
  refine v_iload G dX7_due_59 0 rfl ?_
  refine v_if_eq (tgt := 68) G dX7_due_61 (by decide) (fun c11 => ?_) (fun c11 => ?_)
  · replace h := (if_pos c11).symm.trans h
    refine v_iload_n G dX7_due_68 rfl 2 rfl ?_
    refine v_locs (L' := [(0, .ref (q 0)), (2, .int v2), (3, .int v3), (4, .int k0)]) [1, 2, 3, 0] rfl ?_
    exact w_X7_due_B69 G K h
  · replace h := (if_neg c11).symm.trans h
    refine v_iload_n G dX7_due_64 rfl 3 rfl ?_
    refine v_goto (tgt := 69) G dX7_due_65 (by decide) ?_
    refine v_locs (L' := [(0, .ref (q 0)), (2, .int v2), (3, .int v3), (4, .int k0)]) [1, 2, 3, 0] rfl ?_
    exact w_X7_due_B69 G K h
def m_X7_due_B36 (s : apM) (v2 : Int32) (k0 : Int32) : Option Int32 := Option.bind (ald s 10 12 k0) (fun t6 => Option.bind (ald s 10 12 v2) (fun t8 => if t6 ≤ t8 then (m_X7_due_B57 s v2 k0 0) else (m_X7_due_B57 s v2 k0 1)))
set_option maxHeartbeats 4000000 in
set_option maxRecDepth 100000 in
theorem w_X7_due_B36 {Γ : apC} {q : Nat → Nat} (G : apG Γ cX7_due 7 RX7 wsX7_due (apRm 1 0) apXM) {s : apM} {v2 k0 : Int32} {r : Int32} (K : apR Γ cX7_due 0 0 (some r) (apU layM q (apd Γ) s)) (h : m_X7_due_B36 s v2 k0 = some r) : apV Γ 7 (apU layM q (apd Γ) s) 0 0 36 [(0, .ref (q 0)), (2, .int v2)] [.int k0] := by
  unfold m_X7_due_B36 at h
  refine v_istore_n (L' := [(3, .int k0), (0, .ref (q 0)), (2, .int v2)]) G dX7_due_36 rfl (by decide) rfl ?_
  refine v_aload_n G dX7_due_37 rfl 1 rfl ?_
  refine v_getr (lay := layM) (k := 0) (k' := 10) (C := RX7) (T := TX7) (N := 30) G (fun _ h => i_X7_due_X7 _ h) rfl rfl 14 (by decide) (by decide +kernel) rfl rfl dX7_due_38 ?_
  refine v_iload_n G dX7_due_41 rfl 0 rfl ?_
  obtain ⟨t6, e7, h⟩ := Option.bind_eq_some_iff.mp h
  refine v_iald (lay := layM) (k := 10) (n := 12) G rfl e7 dX7_due_42 ?_
  refine v_aload_n G dX7_due_43 rfl 1 rfl ?_
  refine v_getr (lay := layM) (k := 0) (k' := 10) (C := RX7) (T := TX7) (N := 30) G (fun _ h => i_X7_due_X7 _ h) rfl rfl 14 (by decide) (by decide +kernel) rfl rfl dX7_due_44 ?_
  refine v_iload_n G dX7_due_47 rfl 2 rfl ?_
  obtain ⟨t8, e9, h⟩ := Option.bind_eq_some_iff.mp h
  refine v_iald (lay := layM) (k := 10) (n := 12) G rfl e9 dX7_due_48 ?_
  refine v_icmp_le (tgt := 56) G dX7_due_49 (by decide) (fun c10 => ?_) (fun c10 => ?_)
  · replace h := (if_pos c10).symm.trans h
    refine v_iconst (v := 0) G dX7_due_56 (by decide) ?_
    refine v_locs (L' := [(0, .ref (q 0)), (2, .int v2), (3, .int k0)]) [1, 2, 0] rfl ?_
    exact w_X7_due_B57 G K h
  · replace h := (if_neg c10).symm.trans h
    refine v_iconst (v := 1) G dX7_due_52 (by decide) ?_
    refine v_goto (tgt := 57) G dX7_due_53 (by decide) ?_
    refine v_locs (L' := [(0, .ref (q 0)), (2, .int v2), (3, .int k0)]) [1, 2, 0] rfl ?_
    exact w_X7_due_B57 G K h
def m_X7_due (s : apM) (v1 : Int32) : Option Int32 := Option.bind (ald s 4 24 (2 * v1)) (fun t1 => Option.bind (ald s 1 12 v1) (fun t3 => if (m_X7_inputs t3) ≤ 1 then (m_X7_due_B36 s t1 t1) else (Option.bind (ald s 4 24 ((2 * v1) + 1)) (fun t16 => m_X7_due_B36 s t1 t16))))
set_option maxHeartbeats 4000000 in
set_option maxRecDepth 100000 in
theorem w_X7_due {Γ : apC} {q : Nat → Nat} (G : apG Γ cX7_due 7 RX7 wsX7_due (apRm 1 0) apXM) {s : apM} {v1 : Int32} {r : Int32} (K : apR Γ cX7_due 0 0 (some r) (apU layM q (apd Γ) s)) (h : m_X7_due s v1 = some r) : apV Γ 7 (apU layM q (apd Γ) s) 0 0 0 [(0, .ref (q 0)), (1, .int v1)] [] := by
  unfold m_X7_due at h
  refine v_aload_n G dX7_due_0 rfl 0 rfl ?_
  refine v_getr (lay := layM) (k := 0) (k' := 4) (C := RX7) (T := TX7) (N := 30) G (fun _ h => i_X7_due_X7 _ h) rfl rfl 5 (by decide) (by decide +kernel) rfl rfl dX7_due_1 ?_
  refine v_iconst (v := 2) G dX7_due_4 (by decide) ?_
  refine v_iload_n G dX7_due_5 rfl 1 rfl ?_
  refine v_imul G dX7_due_6 ?_
  obtain ⟨t1, e2, h⟩ := Option.bind_eq_some_iff.mp h
  refine v_iald (lay := layM) (k := 4) (n := 24) G rfl e2 dX7_due_7 ?_
  refine v_istore_n (L' := [(2, .int t1), (0, .ref (q 0)), (1, .int v1)]) G dX7_due_8 rfl (by decide) rfl ?_
  refine v_aload_n G dX7_due_9 rfl 1 rfl ?_
  refine v_getr (lay := layM) (k := 0) (k' := 1) (C := RX7) (T := TX7) (N := 30) G (fun _ h => i_X7_due_X7 _ h) rfl rfl 2 (by decide) (by decide +kernel) rfl rfl dX7_due_10 ?_
  refine v_iload_n G dX7_due_13 rfl 2 rfl ?_
  obtain ⟨t3, e4, h⟩ := Option.bind_eq_some_iff.mp h
  refine v_iald (lay := layM) (k := 1) (n := 12) G rfl e4 dX7_due_14 ?_
  refine v_calliS (lay := layM) (As := [.int t3]) (st := []) (n := 1) G apXMok (c_X7_inputs Γ.1.2.1 (s := s) rfl) gX7_due_X7_inputs rfl (by decide +kernel) (by decide) rfl rfl (Nat.le_of_ble_eq_true rfl) (by decide) rfl dX7_due_15 ?_
  refine v_iconst (v := 1) G dX7_due_18 (by decide) ?_
  refine v_icmp_le (tgt := 35) G dX7_due_19 (by decide) (fun c5 => ?_) (fun c5 => ?_)
  · replace h := (if_pos c5).symm.trans h
    refine v_iload_n G dX7_due_35 rfl 0 rfl ?_
    refine v_locs (L' := [(0, .ref (q 0)), (2, .int t1)]) [1, 0] rfl ?_
    exact w_X7_due_B36 G K h
  · replace h := (if_neg c5).symm.trans h
    refine v_aload_n G dX7_due_22 rfl 1 rfl ?_
    refine v_getr (lay := layM) (k := 0) (k' := 4) (C := RX7) (T := TX7) (N := 30) G (fun _ h => i_X7_due_X7 _ h) rfl rfl 5 (by decide) (by decide +kernel) rfl rfl dX7_due_23 ?_
    refine v_iconst (v := 2) G dX7_due_26 (by decide) ?_
    refine v_iload_n G dX7_due_27 rfl 2 rfl ?_
    refine v_imul G dX7_due_28 ?_
    refine v_iconst (v := 1) G dX7_due_29 (by decide) ?_
    refine v_iadd G dX7_due_30 ?_
    obtain ⟨t16, e17, h⟩ := Option.bind_eq_some_iff.mp h
    refine v_iald (lay := layM) (k := 4) (n := 24) G rfl e17 dX7_due_31 ?_
    refine v_goto (tgt := 36) G dX7_due_32 (by decide) ?_
    refine v_locs (L' := [(0, .ref (q 0)), (2, .int t1)]) [1, 0] rfl ?_
    exact w_X7_due_B36 G K h
theorem c_X7_due (l : Launch) {s : apM} {v1 : Int32} {r : Int32} (h : m_X7_due s v1 = some r) : apMi l layM apXM yX7_due wsX7_due 1 (fun q => [.ref (q 0), .int v1]) s r s := apMi_of (cc := cX7_due) (nL := 7) (r := r) (by decide) rfl rfl (fun _ => Nat.le_of_ble_eq_true rfl) (fun Γ q hl G K => w_X7_due G K h)
theorem i_X7_fail_X7 : ∀ w ∈ u_ws RX7 TX7 30, w ∈ wsX7_fail := by decide +kernel
def m_X7_fail (s : apM) (v1 : Int32) : (Int32 × apM) := (0, mst s 0 0 v1)
set_option maxHeartbeats 4000000 in
set_option maxRecDepth 100000 in
theorem w_X7_fail {Γ : apC} {q : Nat → Nat} (G : apG Γ cX7_fail 2 RX7 wsX7_fail (apRm 0 0) apXM) {s : apM} {v1 : Int32} {r : (Int32 × apM)} (K : apR Γ cX7_fail 0 0 (some r.1) (apU layM q (apd Γ) r.2)) (h : m_X7_fail s v1 = r) : apV Γ 2 (apU layM q (apd Γ) s) 0 0 0 [(0, .ref (q 0)), (1, .int v1)] [] := by
  unfold m_X7_fail at h
  refine v_aload_n G dX7_fail_0 rfl 0 rfl ?_
  refine v_iload_n G dX7_fail_1 rfl 1 rfl ?_
  refine v_put (lay := layM) (k := 0) (C := RX7) (T := TX7) (N := 30) G (fun _ h => i_X7_fail_X7 _ h) tyX7 tyX7_ok nmX7 rfl rfl 0 (by decide) (by decide +kernel) rfl rfl (by first | rfl | decide) (by first | rfl | decide) rfl dX7_fail_2 ?_
  refine v_iconst (v := 0) G dX7_fail_5 (by decide) ?_
  subst h
  exact v_iret G K (by decide) (by decide) dX7_fail_6
theorem c_X7_fail (l : Launch) {s : apM} {v1 : Int32} {r : (Int32 × apM)} (h : m_X7_fail s v1 = r) : apMi l layM apXM yX7_fail wsX7_fail 0 (fun q => [.ref (q 0), .int v1]) s r.1 r.2 := apMi_of (cc := cX7_fail) (nL := 2) (r := r.1) (by decide) rfl rfl (fun _ => Nat.le_of_ble_eq_true rfl) (fun Γ q hl G K => w_X7_fail G K h)
theorem i_X7_far_X7 : ∀ w ∈ u_ws RX7 TX7 30, w ∈ wsX7_far := by decide +kernel
def m_X7_far (s : apM) (v1 : Int32) : Option Int32 := if 0 ≤ v1 then (Option.bind (ald s 7 12 v1) (fun t2 => some t2)) else (some 1000)
set_option maxHeartbeats 4000000 in
set_option maxRecDepth 100000 in
theorem w_X7_far {Γ : apC} {q : Nat → Nat} (G : apG Γ cX7_far 2 RX7 wsX7_far (apRm 0 0) apXM) {s : apM} {v1 : Int32} {r : Int32} (K : apR Γ cX7_far 0 0 (some r) (apU layM q (apd Γ) s)) (h : m_X7_far s v1 = some r) : apV Γ 2 (apU layM q (apd Γ) s) 0 0 0 [(0, .ref (q 0)), (1, .int v1)] [] := by
  unfold m_X7_far at h
  refine v_iload_n G dX7_far_0 rfl 1 rfl ?_
  refine v_if_ge (tgt := 10) G dX7_far_1 (by decide) (fun c1 => ?_) (fun c1 => ?_)
  · replace h := (if_pos c1).symm.trans h
    refine v_aload_n G dX7_far_10 rfl 0 rfl ?_
    refine v_getr (lay := layM) (k := 0) (k' := 7) (C := RX7) (T := TX7) (N := 30) G (fun _ h => i_X7_far_X7 _ h) rfl rfl 8 (by decide) (by decide +kernel) rfl rfl dX7_far_11 ?_
    refine v_iload_n G dX7_far_14 rfl 1 rfl ?_
    obtain ⟨t2, e3, h⟩ := Option.bind_eq_some_iff.mp h
    refine v_iald (lay := layM) (k := 7) (n := 12) G rfl e3 dX7_far_15 ?_
    cases h
    exact v_iret G K (by decide) (by decide) dX7_far_16
  · replace h := (if_neg c1).symm.trans h
    refine v_sipush (v := 1000) G dX7_far_4 (by decide) ?_
    refine v_goto (tgt := 16) G dX7_far_7 (by decide) ?_
    cases h
    exact v_iret G K (by decide) (by decide) dX7_far_16
theorem c_X7_far (l : Launch) {s : apM} {v1 : Int32} {r : Int32} (h : m_X7_far s v1 = some r) : apMi l layM apXM yX7_far wsX7_far 0 (fun q => [.ref (q 0), .int v1]) s r s := apMi_of (cc := cX7_far) (nL := 2) (r := r) (by decide) rfl rfl (fun _ => Nat.le_of_ble_eq_true rfl) (fun Γ q hl G K => w_X7_far G K h)
theorem i_X7_users_X7 : ∀ w ∈ u_ws RX7 TX7 30, w ∈ wsX7_users := by decide +kernel
def m_X7_users_B35 (s : apM) (v1 : Int32) (v3 : Int32) (k0 : Int32) : Option ((Int32 × Int32) ⊕ (Int32 × Int32)) := some (.inl (k0, v3 + 1))
set_option maxHeartbeats 4000000 in
set_option maxRecDepth 100000 in
theorem w_X7_users_B35 {Γ : apC} {q : Nat → Nat} (G : apG Γ cX7_users 4 RX7 wsX7_users (apRm 0 0) apXM) {s : apM} {v1 v3 k0 : Int32} {r : ((Int32 × Int32) ⊕ (Int32 × Int32))} (K : match r with | .inl x => apV Γ 4 (apU layM q (apd Γ) s) 0 0 4 [(0, .ref (q 0)), (1, .int v1), (2, .int x.1), (3, .int x.2)] [] | .inr x => apV Γ 4 (apU layM q (apd Γ) s) 0 0 42 [(2, .int x.1)] []) (h : m_X7_users_B35 s v1 v3 k0 = some r) : apV Γ 4 (apU layM q (apd Γ) s) 0 0 35 [(0, .ref (q 0)), (1, .int v1), (3, .int v3)] [.int k0] := by
  unfold m_X7_users_B35 at h
  refine v_istore_n (L' := [(2, .int k0), (0, .ref (q 0)), (1, .int v1), (3, .int v3)]) G dX7_users_35 rfl (by decide) rfl ?_
  refine v_iinc (v := v3 + 1) (L' := [(3, .int (v3 + 1)), (2, .int k0), (0, .ref (q 0)), (1, .int v1)]) G dX7_users_36 3 rfl rfl (by decide) rfl ?_
  refine v_goto (tgt := 4) G dX7_users_39 (by decide) ?_
  cases h
  refine v_locs (L' := [(0, .ref (q 0)), (1, .int v1), (2, .int k0), (3, .int (v3 + 1))]) [2, 3, 1, 0] rfl ?_
  exact K
def m_X7_users_L4 (s : apM) (v1 : Int32) : (Int32 × Int32) → Option ((Int32 × Int32) ⊕ (Int32 × Int32)) := fun (v2, v3) => if (2 * (s 0 1)) ≤ v3 then (some (.inr (v2, v3))) else (Option.bind (ald s 4 24 v3) (fun t2 => if t2 = v1 then (m_X7_users_B35 s v1 v3 (v2 ||| (1 <<< ((v3 / 2) &&& 31)))) else (m_X7_users_B35 s v1 v3 v2)))
set_option maxHeartbeats 4000000 in
set_option maxRecDepth 100000 in
theorem w_X7_users_L4 {Γ : apC} {q : Nat → Nat} (G : apG Γ cX7_users 4 RX7 wsX7_users (apRm 0 0) apXM) {s : apM} {v1 v2 v3 : Int32} {r : ((Int32 × Int32) ⊕ (Int32 × Int32))} (K : match r with | .inl x => apV Γ 4 (apU layM q (apd Γ) s) 0 0 4 [(0, .ref (q 0)), (1, .int v1), (2, .int x.1), (3, .int x.2)] [] | .inr x => apV Γ 4 (apU layM q (apd Γ) s) 0 0 42 [(2, .int x.1)] []) (h : m_X7_users_L4 s v1 (v2, v3) = some r) : apV Γ 4 (apU layM q (apd Γ) s) 0 0 4 [(0, .ref (q 0)), (1, .int v1), (2, .int v2), (3, .int v3)] [] := by
  unfold m_X7_users_L4 at h
  dsimp only at h
  refine v_iload_n G dX7_users_4 rfl 3 rfl ?_
  refine v_iconst (v := 2) G dX7_users_5 (by decide) ?_
  refine v_aload_n G dX7_users_6 rfl 0 rfl ?_
  refine v_geti (lay := layM) (k := 0) (C := RX7) (T := TX7) (N := 30) G (fun _ h => i_X7_users_X7 _ h) rfl rfl 1 (by decide) (by decide +kernel) rfl rfl dX7_users_7 ?_
  refine v_imul G dX7_users_10 ?_
  refine v_icmp_ge (tgt := 42) G dX7_users_11 (by decide) (fun c1 => ?_) (fun c1 => ?_)
  · replace h := (if_pos c1).symm.trans h
    cases h
    refine v_locs (L' := [(2, .int v2)]) [2] rfl ?_
    exact K
  · replace h := (if_neg c1).symm.trans h
    refine v_aload_n G dX7_users_14 rfl 0 rfl ?_
    refine v_getr (lay := layM) (k := 0) (k' := 4) (C := RX7) (T := TX7) (N := 30) G (fun _ h => i_X7_users_X7 _ h) rfl rfl 5 (by decide) (by decide +kernel) rfl rfl dX7_users_15 ?_
    refine v_iload_n G dX7_users_18 rfl 3 rfl ?_
    obtain ⟨t2, e3, h⟩ := Option.bind_eq_some_iff.mp h
    refine v_iald (lay := layM) (k := 4) (n := 24) G rfl e3 dX7_users_19 ?_
    refine v_iload_n G dX7_users_20 rfl 1 rfl ?_
    refine v_icmp_ne (tgt := 34) G dX7_users_21 (by decide) (fun c4 => ?_) (fun c4 => ?_)
    · replace h := (if_neg c4).symm.trans h
      refine v_iload_n G dX7_users_34 rfl 2 rfl ?_
      refine v_locs (L' := [(0, .ref (q 0)), (1, .int v1), (3, .int v3)]) [0, 1, 3] rfl ?_
      exact w_X7_users_B35 G K h
    · replace h := (if_pos c4).symm.trans h
      refine v_iload_n G dX7_users_24 rfl 2 rfl ?_
      refine v_iconst (v := 1) G dX7_users_25 (by decide) ?_
      refine v_iload_n G dX7_users_26 rfl 3 rfl ?_
      refine v_iconst (v := 2) G dX7_users_27 (by decide) ?_
      refine v_idiv G dX7_users_28 (by decide) ?_
      refine v_ishl G dX7_users_29 ?_
      refine v_ior G dX7_users_30 ?_
      refine v_goto (tgt := 35) G dX7_users_31 (by decide) ?_
      refine v_locs (L' := [(0, .ref (q 0)), (1, .int v1), (3, .int v3)]) [0, 1, 3] rfl ?_
      exact w_X7_users_B35 G K h
def m_X7_users (s : apM) (v1 : Int32) : Option Int32 := Option.bind (lp FU (m_X7_users_L4 s v1) (0, 0)) (fun x5 => match x5 with | (v7, v8) => some v7)
set_option maxHeartbeats 4000000 in
set_option maxRecDepth 100000 in
theorem w_X7_users {Γ : apC} {q : Nat → Nat} (G : apG Γ cX7_users 4 RX7 wsX7_users (apRm 0 0) apXM) {s : apM} {v1 : Int32} {r : Int32} (K : apR Γ cX7_users 0 0 (some r) (apU layM q (apd Γ) s)) (h : m_X7_users s v1 = some r) : apV Γ 4 (apU layM q (apd Γ) s) 0 0 0 [(0, .ref (q 0)), (1, .int v1)] [] := by
  unfold m_X7_users at h
  refine v_iconst (v := 0) G dX7_users_0 (by decide) ?_
  refine v_istore_n (L' := [(2, .int 0), (0, .ref (q 0)), (1, .int v1)]) G dX7_users_1 rfl (by decide) rfl ?_
  refine v_iconst (v := 0) G dX7_users_2 (by decide) ?_
  refine v_istore_n (L' := [(3, .int 0), (2, .int 0), (0, .ref (q 0)), (1, .int v1)]) G dX7_users_3 rfl (by decide) rfl ?_
  obtain ⟨x5, e6, h⟩ := Option.bind_eq_some_iff.mp h
  refine v_locs (L' := [(0, .ref (q 0)), (1, .int v1), (2, .int 0), (3, .int 0)]) [2, 3, 1, 0] rfl ?_
  have l9 := v_lp (b := m_X7_users_L4 s v1) (I := fun x => apV Γ 4 (apU layM q (apd Γ) s) 0 0 4 [(0, .ref (q 0)), (1, .int v1), (2, .int x.1), (3, .int x.2)] []) (O := fun x => apV Γ 4 (apU layM q (apd Γ) s) 0 0 42 [(2, .int x.1)] []) (fun x r hb hK => by obtain ⟨y2, y3⟩ := x; rcases r with r | r <;> exact w_X7_users_L4 G hK hb) FU (0, 0) x5 e6
  obtain ⟨v7, v8⟩ := x5
  dsimp only at h
  refine l9 ?_
  refine v_iload_n G dX7_users_42 rfl 0 rfl ?_
  cases h
  exact v_iret G K (by decide) (by decide) dX7_users_43
theorem c_X7_users (l : Launch) {s : apM} {v1 : Int32} {r : Int32} (h : m_X7_users s v1 = some r) : apMi l layM apXM yX7_users wsX7_users 0 (fun q => [.ref (q 0), .int v1]) s r s := apMi_of (cc := cX7_users) (nL := 4) (r := r) (by decide) rfl rfl (fun _ => Nat.le_of_ble_eq_true rfl) (fun Γ q hl G K => w_X7_users G K h)
theorem i_X7_stays_X7 : ∀ w ∈ u_ws RX7 TX7 30, w ∈ wsX7_stays := by decide +kernel
def m_X7_stays_B66 (s : apM) (v1 : Int32) (v3 : Int32) (k0 : Int32) : Option ((Int32 × Int32) ⊕ (Int32 × Int32)) := some (.inl (k0, v3 + 1))
set_option maxHeartbeats 4000000 in
set_option maxRecDepth 100000 in
theorem w_X7_stays_B66 {Γ : apC} {q : Nat → Nat} (G : apG Γ cX7_stays 5 RX7 wsX7_stays (apRm 1 0) apXM) {s : apM} {v1 v3 k0 : Int32} {r : ((Int32 × Int32) ⊕ (Int32 × Int32))} (K : match r with | .inl x => apV Γ 5 (apU layM q (apd Γ) s) 0 0 4 [(0, .ref (q 0)), (1, .int v1), (2, .int x.1), (3, .int x.2)] [] | .inr x => apV Γ 5 (apU layM q (apd Γ) s) 0 0 73 [(2, .int x.1)] []) (h : m_X7_stays_B66 s v1 v3 k0 = some r) : apV Γ 5 (apU layM q (apd Γ) s) 0 0 66 [(0, .ref (q 0)), (1, .int v1), (3, .int v3)] [.int k0] := by
  unfold m_X7_stays_B66 at h
  refine v_istore_n (L' := [(2, .int k0), (0, .ref (q 0)), (1, .int v1), (3, .int v3)]) G dX7_stays_66 rfl (by decide) rfl ?_
  refine v_iinc (v := v3 + 1) (L' := [(3, .int (v3 + 1)), (2, .int k0), (0, .ref (q 0)), (1, .int v1)]) G dX7_stays_67 3 rfl rfl (by decide) rfl ?_
  refine v_goto (tgt := 4) G dX7_stays_70 (by decide) ?_
  cases h
  refine v_locs (L' := [(0, .ref (q 0)), (1, .int v1), (2, .int k0), (3, .int (v3 + 1))]) [2, 3, 1, 0] rfl ?_
  exact K
def m_X7_stays_B47 (s : apM) (v1 : Int32) (v2 : Int32) (v3 : Int32) (k0 : Int32) : Option ((Int32 × Int32) ⊕ (Int32 × Int32)) := if k0 = 0 then (m_X7_stays_B66 s v1 v3 v2) else (Option.bind (ald s 9 12 v3) (fun t10 => m_X7_stays_B66 s v1 v3 (v2 + t10)))
set_option maxHeartbeats 4000000 in
set_option maxRecDepth 100000 in
theorem w_X7_stays_B47 {Γ : apC} {q : Nat → Nat} (G : apG Γ cX7_stays 5 RX7 wsX7_stays (apRm 1 0) apXM) {s : apM} {v1 v2 v3 k0 : Int32} {r : ((Int32 × Int32) ⊕ (Int32 × Int32))} (K : match r with | .inl x => apV Γ 5 (apU layM q (apd Γ) s) 0 0 4 [(0, .ref (q 0)), (1, .int v1), (2, .int x.1), (3, .int x.2)] [] | .inr x => apV Γ 5 (apU layM q (apd Γ) s) 0 0 73 [(2, .int x.1)] []) (h : m_X7_stays_B47 s v1 v2 v3 k0 = some r) : apV Γ 5 (apU layM q (apd Γ) s) 0 0 47 [(0, .ref (q 0)), (1, .int v1), (2, .int v2), (3, .int v3)] [.int k0] := by
  unfold m_X7_stays_B47 at h
  refine v_istore (L' := [(4, .int k0), (0, .ref (q 0)), (1, .int v1), (2, .int v2), (3, .int v3)]) G dX7_stays_47 (by decide) rfl ?_
  refine v_iload G dX7_stays_49 0 rfl ?_
  refine v_if_eq (tgt := 65) G dX7_stays_51 (by decide) (fun c9 => ?_) (fun c9 => ?_)
  · replace h := (if_pos c9).symm.trans h
    refine v_iload_n G dX7_stays_65 rfl 3 rfl ?_
    refine v_locs (L' := [(0, .ref (q 0)), (1, .int v1), (3, .int v3)]) [1, 2, 4] rfl ?_
    exact w_X7_stays_B66 G K h
  · replace h := (if_neg c9).symm.trans h
    refine v_iload_n G dX7_stays_54 rfl 3 rfl ?_
    refine v_aload_n G dX7_stays_55 rfl 1 rfl ?_
    refine v_getr (lay := layM) (k := 0) (k' := 9) (C := RX7) (T := TX7) (N := 30) G (fun _ h => i_X7_stays_X7 _ h) rfl rfl 13 (by decide) (by decide +kernel) rfl rfl dX7_stays_56 ?_
    refine v_iload_n G dX7_stays_59 rfl 4 rfl ?_
    obtain ⟨t10, e11, h⟩ := Option.bind_eq_some_iff.mp h
    refine v_iald (lay := layM) (k := 9) (n := 12) G rfl e11 dX7_stays_60 ?_
    refine v_iadd G dX7_stays_61 ?_
    refine v_goto (tgt := 66) G dX7_stays_62 (by decide) ?_
    refine v_locs (L' := [(0, .ref (q 0)), (1, .int v1), (3, .int v3)]) [1, 2, 4] rfl ?_
    exact w_X7_stays_B66 G K h
def m_X7_stays_B46 (s : apM) (v1 : Int32) (v2 : Int32) (v3 : Int32) : Option ((Int32 × Int32) ⊕ (Int32 × Int32)) := m_X7_stays_B47 s v1 v2 v3 0
set_option maxHeartbeats 4000000 in
set_option maxRecDepth 100000 in
theorem w_X7_stays_B46 {Γ : apC} {q : Nat → Nat} (G : apG Γ cX7_stays 5 RX7 wsX7_stays (apRm 1 0) apXM) {s : apM} {v1 v2 v3 : Int32} {r : ((Int32 × Int32) ⊕ (Int32 × Int32))} (K : match r with | .inl x => apV Γ 5 (apU layM q (apd Γ) s) 0 0 4 [(0, .ref (q 0)), (1, .int v1), (2, .int x.1), (3, .int x.2)] [] | .inr x => apV Γ 5 (apU layM q (apd Γ) s) 0 0 73 [(2, .int x.1)] []) (h : m_X7_stays_B46 s v1 v2 v3 = some r) : apV Γ 5 (apU layM q (apd Γ) s) 0 0 46 [(0, .ref (q 0)), (1, .int v1), (2, .int v2), (3, .int v3)] [] := by
  unfold m_X7_stays_B46 at h
  refine v_iconst (v := 0) G dX7_stays_46 (by decide) ?_
  exact w_X7_stays_B47 G K h
def m_X7_stays_B42 (s : apM) (v1 : Int32) (v2 : Int32) (v3 : Int32) : Option ((Int32 × Int32) ⊕ (Int32 × Int32)) := m_X7_stays_B47 s v1 v2 v3 1
set_option maxHeartbeats 4000000 in
set_option maxRecDepth 100000 in
theorem w_X7_stays_B42 {Γ : apC} {q : Nat → Nat} (G : apG Γ cX7_stays 5 RX7 wsX7_stays (apRm 1 0) apXM) {s : apM} {v1 v2 v3 : Int32} {r : ((Int32 × Int32) ⊕ (Int32 × Int32))} (K : match r with | .inl x => apV Γ 5 (apU layM q (apd Γ) s) 0 0 4 [(0, .ref (q 0)), (1, .int v1), (2, .int x.1), (3, .int x.2)] [] | .inr x => apV Γ 5 (apU layM q (apd Γ) s) 0 0 73 [(2, .int x.1)] []) (h : m_X7_stays_B42 s v1 v2 v3 = some r) : apV Γ 5 (apU layM q (apd Γ) s) 0 0 42 [(0, .ref (q 0)), (1, .int v1), (2, .int v2), (3, .int v3)] [] := by
  unfold m_X7_stays_B42 at h
  refine v_iconst (v := 1) G dX7_stays_42 (by decide) ?_
  refine v_goto (tgt := 47) G dX7_stays_43 (by decide) ?_
  exact w_X7_stays_B47 G K h
def m_X7_stays_L4 (s : apM) (v1 : Int32) : (Int32 × Int32) → Option ((Int32 × Int32) ⊕ (Int32 × Int32)) := fun (v2, v3) => if (s 0 1) ≤ v3 then (some (.inr (v2, v3))) else (if ((v1 >>> (v3 &&& 31)) &&& 1) = 1 then (Option.bind (ald s 5 12 v3) (fun t3 => if t3 = 0 then (Option.bind (m_X7_users s v3) (fun t6 => if (t6 &&& (v1 ^^^ (-1))) = 0 then (m_X7_stays_B46 s v1 v2 v3) else (m_X7_stays_B42 s v1 v2 v3))) else (m_X7_stays_B42 s v1 v2 v3))) else (m_X7_stays_B46 s v1 v2 v3))
set_option maxHeartbeats 4000000 in
set_option maxRecDepth 100000 in
theorem w_X7_stays_L4 {Γ : apC} {q : Nat → Nat} (G : apG Γ cX7_stays 5 RX7 wsX7_stays (apRm 1 0) apXM) {s : apM} {v1 v2 v3 : Int32} {r : ((Int32 × Int32) ⊕ (Int32 × Int32))} (K : match r with | .inl x => apV Γ 5 (apU layM q (apd Γ) s) 0 0 4 [(0, .ref (q 0)), (1, .int v1), (2, .int x.1), (3, .int x.2)] [] | .inr x => apV Γ 5 (apU layM q (apd Γ) s) 0 0 73 [(2, .int x.1)] []) (h : m_X7_stays_L4 s v1 (v2, v3) = some r) : apV Γ 5 (apU layM q (apd Γ) s) 0 0 4 [(0, .ref (q 0)), (1, .int v1), (2, .int v2), (3, .int v3)] [] := by
  unfold m_X7_stays_L4 at h
  dsimp only at h
  refine v_iload_n G dX7_stays_4 rfl 3 rfl ?_
  refine v_aload_n G dX7_stays_5 rfl 0 rfl ?_
  refine v_geti (lay := layM) (k := 0) (C := RX7) (T := TX7) (N := 30) G (fun _ h => i_X7_stays_X7 _ h) rfl rfl 1 (by decide) (by decide +kernel) rfl rfl dX7_stays_6 ?_
  refine v_icmp_ge (tgt := 73) G dX7_stays_9 (by decide) (fun c1 => ?_) (fun c1 => ?_)
  · replace h := (if_pos c1).symm.trans h
    cases h
    refine v_locs (L' := [(2, .int v2)]) [2] rfl ?_
    exact K
  · replace h := (if_neg c1).symm.trans h
    refine v_iload_n G dX7_stays_12 rfl 1 rfl ?_
    refine v_iload_n G dX7_stays_13 rfl 3 rfl ?_
    refine v_ishr G dX7_stays_14 ?_
    refine v_iconst (v := 1) G dX7_stays_15 (by decide) ?_
    refine v_iand G dX7_stays_16 ?_
    refine v_iconst (v := 1) G dX7_stays_17 (by decide) ?_
    refine v_icmp_ne (tgt := 46) G dX7_stays_18 (by decide) (fun c2 => ?_) (fun c2 => ?_)
    · replace h := (if_neg c2).symm.trans h
      exact w_X7_stays_B46 G K h
    · replace h := (if_pos c2).symm.trans h
      refine v_aload_n G dX7_stays_21 rfl 0 rfl ?_
      refine v_getr (lay := layM) (k := 0) (k' := 5) (C := RX7) (T := TX7) (N := 30) G (fun _ h => i_X7_stays_X7 _ h) rfl rfl 6 (by decide) (by decide +kernel) rfl rfl dX7_stays_22 ?_
      refine v_iload_n G dX7_stays_25 rfl 3 rfl ?_
      obtain ⟨t3, e4, h⟩ := Option.bind_eq_some_iff.mp h
      refine v_zald (lay := layM) (k := 5) (n := 12) G rfl e4 dX7_stays_26 ?_
      refine v_if_ne (tgt := 42) G dX7_stays_27 (by decide) (fun c5 => ?_) (fun c5 => ?_)
      · replace h := (if_neg c5).symm.trans h
        exact w_X7_stays_B42 G K h
      · replace h := (if_pos c5).symm.trans h
        refine v_aload_n G dX7_stays_30 rfl 0 rfl ?_
        refine v_iload_n G dX7_stays_31 rfl 3 rfl ?_
        obtain ⟨t6, e7, h⟩ := Option.bind_eq_some_iff.mp h
        refine v_calliV (lay := layM) (As := [.int v3]) (st := []) (n := 1) (C := RX7) (T := TX7) (k0 := 0) G apXMok (c_X7_users Γ.1.2.1 e7) gX7_stays_X7_users rfl (by decide +kernel) (by decide) rfl rfl rfl rfl (Nat.le_of_ble_eq_true rfl) (by decide) rfl dX7_stays_32 ?_
        refine v_iload_n G dX7_stays_35 rfl 1 rfl ?_
        refine v_iconst (v := (-1)) G dX7_stays_36 (by decide) ?_
        refine v_ixor G dX7_stays_37 ?_
        refine v_iand G dX7_stays_38 ?_
        refine v_if_eq (tgt := 46) G dX7_stays_39 (by decide) (fun c8 => ?_) (fun c8 => ?_)
        · replace h := (if_pos c8).symm.trans h
          exact w_X7_stays_B46 G K h
        · replace h := (if_neg c8).symm.trans h
          exact w_X7_stays_B42 G K h
def m_X7_stays (s : apM) (v1 : Int32) : Option Int32 := Option.bind (lp FU (m_X7_stays_L4 s v1) (0, 0)) (fun x12 => match x12 with | (v14, v15) => some v14)
set_option maxHeartbeats 4000000 in
set_option maxRecDepth 100000 in
theorem w_X7_stays {Γ : apC} {q : Nat → Nat} (G : apG Γ cX7_stays 5 RX7 wsX7_stays (apRm 1 0) apXM) {s : apM} {v1 : Int32} {r : Int32} (K : apR Γ cX7_stays 0 0 (some r) (apU layM q (apd Γ) s)) (h : m_X7_stays s v1 = some r) : apV Γ 5 (apU layM q (apd Γ) s) 0 0 0 [(0, .ref (q 0)), (1, .int v1)] [] := by
  unfold m_X7_stays at h
  refine v_iconst (v := 0) G dX7_stays_0 (by decide) ?_
  refine v_istore_n (L' := [(2, .int 0), (0, .ref (q 0)), (1, .int v1)]) G dX7_stays_1 rfl (by decide) rfl ?_
  refine v_iconst (v := 0) G dX7_stays_2 (by decide) ?_
  refine v_istore_n (L' := [(3, .int 0), (2, .int 0), (0, .ref (q 0)), (1, .int v1)]) G dX7_stays_3 rfl (by decide) rfl ?_
  obtain ⟨x12, e13, h⟩ := Option.bind_eq_some_iff.mp h
  refine v_locs (L' := [(0, .ref (q 0)), (1, .int v1), (2, .int 0), (3, .int 0)]) [2, 3, 1, 0] rfl ?_
  have l16 := v_lp (b := m_X7_stays_L4 s v1) (I := fun x => apV Γ 5 (apU layM q (apd Γ) s) 0 0 4 [(0, .ref (q 0)), (1, .int v1), (2, .int x.1), (3, .int x.2)] []) (O := fun x => apV Γ 5 (apU layM q (apd Γ) s) 0 0 73 [(2, .int x.1)] []) (fun x r hb hK => by obtain ⟨y2, y3⟩ := x; rcases r with r | r <;> exact w_X7_stays_L4 G hK hb) FU (0, 0) x12 e13
  obtain ⟨v14, v15⟩ := x12
  dsimp only at h
  refine l16 ?_
  refine v_iload_n G dX7_stays_73 rfl 0 rfl ?_
  cases h
  exact v_iret G K (by decide) (by decide) dX7_stays_74
theorem c_X7_stays (l : Launch) {s : apM} {v1 : Int32} {r : Int32} (h : m_X7_stays s v1 = some r) : apMi l layM apXM yX7_stays wsX7_stays 1 (fun q => [.ref (q 0), .int v1]) s r s := apMi_of (cc := cX7_stays) (nL := 5) (r := r) (by decide) rfl rfl (fun _ => Nat.le_of_ble_eq_true rfl) (fun Γ q hl G K => w_X7_stays G K h)
theorem i_X7_needed_X7 : ∀ w ∈ u_ws RX7 TX7 30, w ∈ wsX7_needed := by decide +kernel
def m_X7_needed_L4 (s : apM) (v1 : Int32) : (Int32 × Int32) → Option ((Int32 × Int32) ⊕ (Int32 × Int32)) := fun (v2, v3) => Option.bind (ald s 1 12 v1) (fun t1 => if (m_X7_inputs t1) ≤ v3 then (some (.inr (v2, v3))) else (Option.bind (ald s 4 24 ((2 * v1) + v3)) (fun t4 => some (.inl (v2 ||| (1 <<< (t4 &&& 31)), v3 + 1)))))
set_option maxHeartbeats 4000000 in
set_option maxRecDepth 100000 in
theorem w_X7_needed_L4 {Γ : apC} {q : Nat → Nat} (G : apG Γ cX7_needed 4 RX7 wsX7_needed (apRm 1 0) apXM) {s : apM} {v1 v2 v3 : Int32} {r : ((Int32 × Int32) ⊕ (Int32 × Int32))} (K : match r with | .inl x => apV Γ 4 (apU layM q (apd Γ) s) 0 0 4 [(0, .ref (q 0)), (1, .int v1), (2, .int x.1), (3, .int x.2)] [] | .inr x => apV Γ 4 (apU layM q (apd Γ) s) 0 0 38 [(2, .int x.1)] []) (h : m_X7_needed_L4 s v1 (v2, v3) = some r) : apV Γ 4 (apU layM q (apd Γ) s) 0 0 4 [(0, .ref (q 0)), (1, .int v1), (2, .int v2), (3, .int v3)] [] := by
  unfold m_X7_needed_L4 at h
  dsimp only at h
  refine v_iload_n G dX7_needed_4 rfl 3 rfl ?_
  refine v_aload_n G dX7_needed_5 rfl 0 rfl ?_
  refine v_getr (lay := layM) (k := 0) (k' := 1) (C := RX7) (T := TX7) (N := 30) G (fun _ h => i_X7_needed_X7 _ h) rfl rfl 2 (by decide) (by decide +kernel) rfl rfl dX7_needed_6 ?_
  refine v_iload_n G dX7_needed_9 rfl 1 rfl ?_
  obtain ⟨t1, e2, h⟩ := Option.bind_eq_some_iff.mp h
  refine v_iald (lay := layM) (k := 1) (n := 12) G rfl e2 dX7_needed_10 ?_
  refine v_calliS (lay := layM) (As := [.int t1]) (st := [.int v3]) (n := 1) G apXMok (c_X7_inputs Γ.1.2.1 (s := s) rfl) gX7_needed_X7_inputs rfl (by decide +kernel) (by decide) rfl rfl (Nat.le_of_ble_eq_true rfl) (by decide) rfl dX7_needed_11 ?_
  refine v_icmp_ge (tgt := 38) G dX7_needed_14 (by decide) (fun c3 => ?_) (fun c3 => ?_)
  · replace h := (if_pos c3).symm.trans h
    cases h
    refine v_locs (L' := [(2, .int v2)]) [2] rfl ?_
    exact K
  · replace h := (if_neg c3).symm.trans h
    refine v_iload_n G dX7_needed_17 rfl 2 rfl ?_
    refine v_iconst (v := 1) G dX7_needed_18 (by decide) ?_
    refine v_aload_n G dX7_needed_19 rfl 0 rfl ?_
    refine v_getr (lay := layM) (k := 0) (k' := 4) (C := RX7) (T := TX7) (N := 30) G (fun _ h => i_X7_needed_X7 _ h) rfl rfl 5 (by decide) (by decide +kernel) rfl rfl dX7_needed_20 ?_
    refine v_iconst (v := 2) G dX7_needed_23 (by decide) ?_
    refine v_iload_n G dX7_needed_24 rfl 1 rfl ?_
    refine v_imul G dX7_needed_25 ?_
    refine v_iload_n G dX7_needed_26 rfl 3 rfl ?_
    refine v_iadd G dX7_needed_27 ?_
    obtain ⟨t4, e5, h⟩ := Option.bind_eq_some_iff.mp h
    refine v_iald (lay := layM) (k := 4) (n := 24) G rfl e5 dX7_needed_28 ?_
    refine v_ishl G dX7_needed_29 ?_
    refine v_ior G dX7_needed_30 ?_
    refine v_istore_n (L' := [(2, .int (v2 ||| (1 <<< (t4 &&& 31)))), (0, .ref (q 0)), (1, .int v1), (3, .int v3)]) G dX7_needed_31 rfl (by decide) rfl ?_
    refine v_iinc (v := v3 + 1) (L' := [(3, .int (v3 + 1)), (2, .int (v2 ||| (1 <<< (t4 &&& 31)))), (0, .ref (q 0)), (1, .int v1)]) G dX7_needed_32 3 rfl rfl (by decide) rfl ?_
    refine v_goto (tgt := 4) G dX7_needed_35 (by decide) ?_
    cases h
    refine v_locs (L' := [(0, .ref (q 0)), (1, .int v1), (2, .int (v2 ||| (1 <<< (t4 &&& 31)))), (3, .int (v3 + 1))]) [2, 3, 1, 0] rfl ?_
    exact K
def m_X7_needed (s : apM) (v1 : Int32) : Option Int32 := Option.bind (lp FU (m_X7_needed_L4 s v1) (0, 0)) (fun x6 => match x6 with | (v8, v9) => some v8)
set_option maxHeartbeats 4000000 in
set_option maxRecDepth 100000 in
theorem w_X7_needed {Γ : apC} {q : Nat → Nat} (G : apG Γ cX7_needed 4 RX7 wsX7_needed (apRm 1 0) apXM) {s : apM} {v1 : Int32} {r : Int32} (K : apR Γ cX7_needed 0 0 (some r) (apU layM q (apd Γ) s)) (h : m_X7_needed s v1 = some r) : apV Γ 4 (apU layM q (apd Γ) s) 0 0 0 [(0, .ref (q 0)), (1, .int v1)] [] := by
  unfold m_X7_needed at h
  refine v_iconst (v := 0) G dX7_needed_0 (by decide) ?_
  refine v_istore_n (L' := [(2, .int 0), (0, .ref (q 0)), (1, .int v1)]) G dX7_needed_1 rfl (by decide) rfl ?_
  refine v_iconst (v := 0) G dX7_needed_2 (by decide) ?_
  refine v_istore_n (L' := [(3, .int 0), (2, .int 0), (0, .ref (q 0)), (1, .int v1)]) G dX7_needed_3 rfl (by decide) rfl ?_
  obtain ⟨x6, e7, h⟩ := Option.bind_eq_some_iff.mp h
  refine v_locs (L' := [(0, .ref (q 0)), (1, .int v1), (2, .int 0), (3, .int 0)]) [2, 3, 1, 0] rfl ?_
  have l10 := v_lp (b := m_X7_needed_L4 s v1) (I := fun x => apV Γ 4 (apU layM q (apd Γ) s) 0 0 4 [(0, .ref (q 0)), (1, .int v1), (2, .int x.1), (3, .int x.2)] []) (O := fun x => apV Γ 4 (apU layM q (apd Γ) s) 0 0 38 [(2, .int x.1)] []) (fun x r hb hK => by obtain ⟨y2, y3⟩ := x; rcases r with r | r <;> exact w_X7_needed_L4 G hK hb) FU (0, 0) x6 e7
  obtain ⟨v8, v9⟩ := x6
  dsimp only at h
  refine l10 ?_
  refine v_iload_n G dX7_needed_38 rfl 0 rfl ?_
  cases h
  exact v_iret G K (by decide) (by decide) dX7_needed_39
theorem c_X7_needed (l : Launch) {s : apM} {v1 : Int32} {r : Int32} (h : m_X7_needed s v1 = some r) : apMi l layM apXM yX7_needed wsX7_needed 1 (fun q => [.ref (q 0), .int v1]) s r s := apMi_of (cc := cX7_needed) (nL := 4) (r := r) (by decide) rfl rfl (fun _ => Nat.le_of_ble_eq_true rfl) (fun Γ q hl G K => w_X7_needed G K h)
theorem i_X7_findLeast_X7 : ∀ w ∈ u_ws RX7 TX7 30, w ∈ wsX7_findLeast := by decide +kernel
def m_X7_findLeast_B32 (s : apM) (v1 : Int32) (v2 : Int32) (k0 : Int32) (k1 : Int32) : Option ((apM × Int32) ⊕ (apM × Int32)) := Option.bind (ast s 18 4096 k1 k0) (fun s3 => some (.inl (s3, v2 + 1)))
set_option maxHeartbeats 4000000 in
set_option maxRecDepth 100000 in
theorem w_X7_findLeast_B32 {Γ : apC} {q : Nat → Nat} (G : apG Γ cX7_findLeast 8 RX7 wsX7_findLeast (apRm 2 0) apXM) {s : apM} {v1 v2 k0 k1 : Int32} {r : ((apM × Int32) ⊕ (apM × Int32))} (K : match r with | .inl x => apV Γ 8 (apU layM q (apd Γ) x.1) 0 0 11 [(0, .ref (q 0)), (1, .int v1), (2, .int x.2)] [] | .inr x => apV Γ 8 (apU layM q (apd Γ) x.1) 0 0 39 [(0, .ref (q 0)), (1, .int v1)] []) (h : m_X7_findLeast_B32 s v1 v2 k0 k1 = some r) : apV Γ 8 (apU layM q (apd Γ) s) 0 0 32 [(0, .ref (q 0)), (1, .int v1), (2, .int v2)] [.int k0, .int k1, .ref (q 18)] := by
  unfold m_X7_findLeast_B32 at h
  obtain ⟨s3, e4, h⟩ := Option.bind_eq_some_iff.mp h
  refine v_iast (lay := layM) (k := 18) (n := 4096) G rfl e4 dX7_findLeast_32 ?_
  refine v_iinc (v := v2 + 1) (L' := [(2, .int (v2 + 1)), (0, .ref (q 0)), (1, .int v1)]) G dX7_findLeast_33 2 rfl rfl (by decide) rfl ?_
  refine v_goto (tgt := 11) G dX7_findLeast_36 (by decide) ?_
  cases h
  refine v_locs (L' := [(0, .ref (q 0)), (1, .int v1), (2, .int (v2 + 1))]) [1, 2, 0] rfl ?_
  exact K
def m_X7_findLeast_L11 (v1 : Int32) : (apM × Int32) → Option ((apM × Int32) ⊕ (apM × Int32)) := fun (s0, v2) => if v1 < v2 then (some (.inr (s0, v2))) else (if v2 = 0 then (m_X7_findLeast_B32 s0 v1 v2 0 v2) else (m_X7_findLeast_B32 s0 v1 v2 1000 v2))
set_option maxHeartbeats 4000000 in
set_option maxRecDepth 100000 in
theorem w_X7_findLeast_L11 {Γ : apC} {q : Nat → Nat} (G : apG Γ cX7_findLeast 8 RX7 wsX7_findLeast (apRm 2 0) apXM) {s0 : apM} {v1 v2 : Int32} {r : ((apM × Int32) ⊕ (apM × Int32))} (K : match r with | .inl x => apV Γ 8 (apU layM q (apd Γ) x.1) 0 0 11 [(0, .ref (q 0)), (1, .int v1), (2, .int x.2)] [] | .inr x => apV Γ 8 (apU layM q (apd Γ) x.1) 0 0 39 [(0, .ref (q 0)), (1, .int v1)] []) (h : m_X7_findLeast_L11 v1 (s0, v2) = some r) : apV Γ 8 (apU layM q (apd Γ) s0) 0 0 11 [(0, .ref (q 0)), (1, .int v1), (2, .int v2)] [] := by
  unfold m_X7_findLeast_L11 at h
  dsimp only at h
  refine v_iload_n G dX7_findLeast_11 rfl 2 rfl ?_
  refine v_iload_n G dX7_findLeast_12 rfl 1 rfl ?_
  refine v_icmp_gt (tgt := 39) G dX7_findLeast_13 (by decide) (fun c1 => ?_) (fun c1 => ?_)
  · replace h := (if_pos c1).symm.trans h
    cases h
    refine v_locs (L' := [(0, .ref (q 0)), (1, .int v1)]) [0, 1] rfl ?_
    exact K
  · replace h := (if_neg c1).symm.trans h
    refine v_aload_n G dX7_findLeast_16 rfl 0 rfl ?_
    refine v_getr (lay := layM) (k := 0) (k' := 18) (C := RX7) (T := TX7) (N := 30) G (fun _ h => i_X7_findLeast_X7 _ h) rfl rfl 26 (by decide) (by decide +kernel) rfl rfl dX7_findLeast_17 ?_
    refine v_iload_n G dX7_findLeast_20 rfl 2 rfl ?_
    refine v_iload_n G dX7_findLeast_21 rfl 2 rfl ?_
    refine v_if_ne (tgt := 29) G dX7_findLeast_22 (by decide) (fun c2 => ?_) (fun c2 => ?_)
    · replace h := (if_neg c2).symm.trans h
      refine v_sipush (v := 1000) G dX7_findLeast_29 (by decide) ?_
      exact w_X7_findLeast_B32 G K h
    · replace h := (if_pos c2).symm.trans h
      refine v_iconst (v := 0) G dX7_findLeast_25 (by decide) ?_
      refine v_goto (tgt := 32) G dX7_findLeast_26 (by decide) ?_
      exact w_X7_findLeast_B32 G K h
def m_X7_findLeast_B187 (s : apM) (v1 : Int32) (v2 : Int32) (v3 : Int32) (v4 : Int32) (k0 : Int32) (k1 : Int32) : Option ((apM × Int32) ⊕ (apM × Int32)) := Option.bind (ast s 18 4096 k1 k0) (fun s33 => some (.inl (s33, v4 + 1)))
set_option maxHeartbeats 4000000 in
set_option maxRecDepth 100000 in
theorem w_X7_findLeast_B187 {Γ : apC} {q : Nat → Nat} (G : apG Γ cX7_findLeast 8 RX7 wsX7_findLeast (apRm 2 0) apXM) {s : apM} {v1 v2 v3 v4 k0 k1 : Int32} {r : ((apM × Int32) ⊕ (apM × Int32))} (K : match r with | .inl x => apV Γ 8 (apU layM q (apd Γ) x.1) 0 0 71 [(0, .ref (q 0)), (1, .int v1), (2, .int v2), (3, .int v3), (4, .int x.2)] [] | .inr x => apV Γ 8 (apU layM q (apd Γ) x.1) 0 0 194 [(0, .ref (q 0)), (1, .int v1), (2, .int v2)] []) (h : m_X7_findLeast_B187 s v1 v2 v3 v4 k0 k1 = some r) : apV Γ 8 (apU layM q (apd Γ) s) 0 0 187 [(0, .ref (q 0)), (1, .int v1), (2, .int v2), (3, .int v3), (4, .int v4)] [.int k0, .int k1, .ref (q 18)] := by
  unfold m_X7_findLeast_B187 at h
  obtain ⟨s33, e34, h⟩ := Option.bind_eq_some_iff.mp h
  refine v_iast (lay := layM) (k := 18) (n := 4096) G rfl e34 dX7_findLeast_187 ?_
  refine v_iinc (v := v4 + 1) (L' := [(4, .int (v4 + 1)), (0, .ref (q 0)), (1, .int v1), (2, .int v2), (3, .int v3)]) G dX7_findLeast_188 4 rfl rfl (by decide) rfl ?_
  refine v_goto (tgt := 71) G dX7_findLeast_191 (by decide) ?_
  cases h
  refine v_locs (L' := [(0, .ref (q 0)), (1, .int v1), (2, .int v2), (3, .int v3), (4, .int (v4 + 1))]) [1, 2, 3, 4, 0] rfl ?_
  exact K
def m_X7_findLeast_B147 (s : apM) (v1 : Int32) (v2 : Int32) (v3 : Int32) (v4 : Int32) (k0 : Int32) : Option ((apM × Int32) ⊕ (apM × Int32)) := Option.bind (ald s 18 4096 (v2 ||| (1 <<< (v4 &&& 31)))) (fun t28 => if t28 ≤ k0 then (Option.bind (ald s 18 4096 (v2 ||| (1 <<< (v4 &&& 31)))) (fun t31 => m_X7_findLeast_B187 s v1 v2 v3 v4 t31 (v2 ||| (1 <<< (v4 &&& 31))))) else (m_X7_findLeast_B187 s v1 v2 v3 v4 k0 (v2 ||| (1 <<< (v4 &&& 31)))))
set_option maxHeartbeats 4000000 in
set_option maxRecDepth 100000 in
theorem w_X7_findLeast_B147 {Γ : apC} {q : Nat → Nat} (G : apG Γ cX7_findLeast 8 RX7 wsX7_findLeast (apRm 2 0) apXM) {s : apM} {v1 v2 v3 v4 k0 : Int32} {r : ((apM × Int32) ⊕ (apM × Int32))} (K : match r with | .inl x => apV Γ 8 (apU layM q (apd Γ) x.1) 0 0 71 [(0, .ref (q 0)), (1, .int v1), (2, .int v2), (3, .int v3), (4, .int x.2)] [] | .inr x => apV Γ 8 (apU layM q (apd Γ) x.1) 0 0 194 [(0, .ref (q 0)), (1, .int v1), (2, .int v2)] []) (h : m_X7_findLeast_B147 s v1 v2 v3 v4 k0 = some r) : apV Γ 8 (apU layM q (apd Γ) s) 0 0 147 [(0, .ref (q 0)), (1, .int v1), (2, .int v2), (3, .int v3), (4, .int v4)] [.int k0] := by
  unfold m_X7_findLeast_B147 at h
  refine v_istore (L' := [(6, .int k0), (0, .ref (q 0)), (1, .int v1), (2, .int v2), (3, .int v3), (4, .int v4)]) G dX7_findLeast_147 (by decide) rfl ?_
  refine v_iload_n G dX7_findLeast_149 rfl 3 rfl ?_
  refine v_iconst (v := 1) G dX7_findLeast_150 (by decide) ?_
  refine v_iload G dX7_findLeast_151 5 rfl ?_
  refine v_ishl G dX7_findLeast_153 ?_
  refine v_ior G dX7_findLeast_154 ?_
  refine v_istore (L' := [(7, .int (v2 ||| (1 <<< (v4 &&& 31)))), (6, .int k0), (0, .ref (q 0)), (1, .int v1), (2, .int v2), (3, .int v3), (4, .int v4)]) G dX7_findLeast_155 (by decide) rfl ?_
  refine v_aload_n G dX7_findLeast_157 rfl 2 rfl ?_
  refine v_getr (lay := layM) (k := 0) (k' := 18) (C := RX7) (T := TX7) (N := 30) G (fun _ h => i_X7_findLeast_X7 _ h) rfl rfl 26 (by decide) (by decide +kernel) rfl rfl dX7_findLeast_158 ?_
  refine v_iload G dX7_findLeast_161 0 rfl ?_
  refine v_iload G dX7_findLeast_163 1 rfl ?_
  refine v_aload_n G dX7_findLeast_165 rfl 2 rfl ?_
  refine v_getr (lay := layM) (k := 0) (k' := 18) (C := RX7) (T := TX7) (N := 30) G (fun _ h => i_X7_findLeast_X7 _ h) rfl rfl 26 (by decide) (by decide +kernel) rfl rfl dX7_findLeast_166 ?_
  refine v_iload G dX7_findLeast_169 0 rfl ?_
  obtain ⟨t28, e29, h⟩ := Option.bind_eq_some_iff.mp h
  refine v_iald (lay := layM) (k := 18) (n := 4096) G rfl e29 dX7_findLeast_171 ?_
  refine v_icmp_ge (tgt := 180) G dX7_findLeast_172 (by decide) (fun c30 => ?_) (fun c30 => ?_)
  · replace h := (if_pos c30).symm.trans h
    refine v_aload_n G dX7_findLeast_180 rfl 2 rfl ?_
    refine v_getr (lay := layM) (k := 0) (k' := 18) (C := RX7) (T := TX7) (N := 30) G (fun _ h => i_X7_findLeast_X7 _ h) rfl rfl 26 (by decide) (by decide +kernel) rfl rfl dX7_findLeast_181 ?_
    refine v_iload G dX7_findLeast_184 0 rfl ?_
    obtain ⟨t31, e32, h⟩ := Option.bind_eq_some_iff.mp h
    refine v_iald (lay := layM) (k := 18) (n := 4096) G rfl e32 dX7_findLeast_186 ?_
    refine v_locs (L' := [(0, .ref (q 0)), (1, .int v1), (2, .int v2), (3, .int v3), (4, .int v4)]) [2, 3, 4, 5, 6] rfl ?_
    exact w_X7_findLeast_B187 G K h
  · replace h := (if_neg c30).symm.trans h
    refine v_iload G dX7_findLeast_175 1 rfl ?_
    refine v_goto (tgt := 187) G dX7_findLeast_177 (by decide) ?_
    refine v_locs (L' := [(0, .ref (q 0)), (1, .int v1), (2, .int v2), (3, .int v3), (4, .int v4)]) [2, 3, 4, 5, 6] rfl ?_
    exact w_X7_findLeast_B187 G K h
def m_X7_findLeast_L71 (v1 : Int32) (v2 : Int32) (v3 : Int32) : (apM × Int32) → Option ((apM × Int32) ⊕ (apM × Int32)) := fun (s0, v4) => if (s0 0 1) ≤ v4 then (some (.inr (s0, v4))) else (Option.bind (ald s0 18 4096 v2) (fun t14 => if 1000 ≤ t14 then (some (.inr (s0, v4))) else (if ((v2 >>> (v4 &&& 31)) &&& 1) = 0 then (Option.bind (m_X7_needed s0 v4) (fun t18 => if (t18 &&& (v2 ^^^ (-1))) = 0 then (Option.bind (ald s0 9 12 v4) (fun t21 => Option.bind (ald s0 18 4096 v2) (fun t23 => if (v3 + t21) ≤ t23 then (Option.bind (ald s0 18 4096 v2) (fun t26 => m_X7_findLeast_B147 s0 v1 v2 v3 v4 t26)) else (m_X7_findLeast_B147 s0 v1 v2 v3 v4 (v3 + t21))))) else (some (.inl (s0, v4 + 1))))) else (some (.inl (s0, v4 + 1))))))
set_option maxHeartbeats 4000000 in
set_option maxRecDepth 100000 in
theorem w_X7_findLeast_L71 {Γ : apC} {q : Nat → Nat} (G : apG Γ cX7_findLeast 8 RX7 wsX7_findLeast (apRm 2 0) apXM) {s0 : apM} {v1 v2 v3 v4 : Int32} {r : ((apM × Int32) ⊕ (apM × Int32))} (K : match r with | .inl x => apV Γ 8 (apU layM q (apd Γ) x.1) 0 0 71 [(0, .ref (q 0)), (1, .int v1), (2, .int v2), (3, .int v3), (4, .int x.2)] [] | .inr x => apV Γ 8 (apU layM q (apd Γ) x.1) 0 0 194 [(0, .ref (q 0)), (1, .int v1), (2, .int v2)] []) (h : m_X7_findLeast_L71 v1 v2 v3 (s0, v4) = some r) : apV Γ 8 (apU layM q (apd Γ) s0) 0 0 71 [(0, .ref (q 0)), (1, .int v1), (2, .int v2), (3, .int v3), (4, .int v4)] [] := by
  unfold m_X7_findLeast_L71 at h
  dsimp only at h
  refine v_iload G dX7_findLeast_71 4 rfl ?_
  refine v_aload_n G dX7_findLeast_73 rfl 0 rfl ?_
  refine v_geti (lay := layM) (k := 0) (C := RX7) (T := TX7) (N := 30) G (fun _ h => i_X7_findLeast_X7 _ h) rfl rfl 1 (by decide) (by decide +kernel) rfl rfl dX7_findLeast_74 ?_
  refine v_icmp_ge (tgt := 194) G dX7_findLeast_77 (by decide) (fun c13 => ?_) (fun c13 => ?_)
  · replace h := (if_pos c13).symm.trans h
    cases h
    refine v_locs (L' := [(0, .ref (q 0)), (1, .int v1), (2, .int v2)]) [0, 1, 2] rfl ?_
    exact K
  · replace h := (if_neg c13).symm.trans h
    refine v_aload_n G dX7_findLeast_80 rfl 0 rfl ?_
    refine v_getr (lay := layM) (k := 0) (k' := 18) (C := RX7) (T := TX7) (N := 30) G (fun _ h => i_X7_findLeast_X7 _ h) rfl rfl 26 (by decide) (by decide +kernel) rfl rfl dX7_findLeast_81 ?_
    refine v_iload_n G dX7_findLeast_84 rfl 2 rfl ?_
    obtain ⟨t14, e15, h⟩ := Option.bind_eq_some_iff.mp h
    refine v_iald (lay := layM) (k := 18) (n := 4096) G rfl e15 dX7_findLeast_85 ?_
    refine v_sipush (v := 1000) G dX7_findLeast_86 (by decide) ?_
    refine v_icmp_ge (tgt := 194) G dX7_findLeast_89 (by decide) (fun c16 => ?_) (fun c16 => ?_)
    · replace h := (if_pos c16).symm.trans h
      cases h
      refine v_locs (L' := [(0, .ref (q 0)), (1, .int v1), (2, .int v2)]) [0, 1, 2] rfl ?_
      exact K
    · replace h := (if_neg c16).symm.trans h
      refine v_iload_n G dX7_findLeast_92 rfl 2 rfl ?_
      refine v_iload G dX7_findLeast_93 4 rfl ?_
      refine v_ishr G dX7_findLeast_95 ?_
      refine v_iconst (v := 1) G dX7_findLeast_96 (by decide) ?_
      refine v_iand G dX7_findLeast_97 ?_
      refine v_if_ne (tgt := 188) G dX7_findLeast_98 (by decide) (fun c17 => ?_) (fun c17 => ?_)
      · replace h := (if_neg c17).symm.trans h
        refine v_iinc (v := v4 + 1) (L' := [(4, .int (v4 + 1)), (0, .ref (q 0)), (1, .int v1), (2, .int v2), (3, .int v3)]) G dX7_findLeast_188 4 rfl rfl (by decide) rfl ?_
        refine v_goto (tgt := 71) G dX7_findLeast_191 (by decide) ?_
        cases h
        refine v_locs (L' := [(0, .ref (q 0)), (1, .int v1), (2, .int v2), (3, .int v3), (4, .int (v4 + 1))]) [1, 2, 3, 4, 0] rfl ?_
        exact K
      · replace h := (if_pos c17).symm.trans h
        refine v_aload_n G dX7_findLeast_101 rfl 0 rfl ?_
        refine v_iload G dX7_findLeast_102 4 rfl ?_
        obtain ⟨t18, e19, h⟩ := Option.bind_eq_some_iff.mp h
        refine v_calliV (lay := layM) (As := [.int v4]) (st := []) (n := 1) (C := RX7) (T := TX7) (k0 := 0) G apXMok (c_X7_needed Γ.1.2.1 e19) gX7_findLeast_X7_needed rfl (by decide +kernel) (by decide) rfl rfl rfl rfl (Nat.le_of_ble_eq_true rfl) (by decide) rfl dX7_findLeast_104 ?_
        refine v_iload_n G dX7_findLeast_107 rfl 2 rfl ?_
        refine v_iconst (v := (-1)) G dX7_findLeast_108 (by decide) ?_
        refine v_ixor G dX7_findLeast_109 ?_
        refine v_iand G dX7_findLeast_110 ?_
        refine v_if_ne (tgt := 188) G dX7_findLeast_111 (by decide) (fun c20 => ?_) (fun c20 => ?_)
        · replace h := (if_neg c20).symm.trans h
          refine v_iinc (v := v4 + 1) (L' := [(4, .int (v4 + 1)), (0, .ref (q 0)), (1, .int v1), (2, .int v2), (3, .int v3)]) G dX7_findLeast_188 4 rfl rfl (by decide) rfl ?_
          refine v_goto (tgt := 71) G dX7_findLeast_191 (by decide) ?_
          cases h
          refine v_locs (L' := [(0, .ref (q 0)), (1, .int v1), (2, .int v2), (3, .int v3), (4, .int (v4 + 1))]) [1, 2, 3, 4, 0] rfl ?_
          exact K
        · replace h := (if_pos c20).symm.trans h
          refine v_iload_n G dX7_findLeast_114 rfl 3 rfl ?_
          refine v_aload_n G dX7_findLeast_115 rfl 0 rfl ?_
          refine v_getr (lay := layM) (k := 0) (k' := 9) (C := RX7) (T := TX7) (N := 30) G (fun _ h => i_X7_findLeast_X7 _ h) rfl rfl 13 (by decide) (by decide +kernel) rfl rfl dX7_findLeast_116 ?_
          refine v_iload G dX7_findLeast_119 4 rfl ?_
          obtain ⟨t21, e22, h⟩ := Option.bind_eq_some_iff.mp h
          refine v_iald (lay := layM) (k := 9) (n := 12) G rfl e22 dX7_findLeast_121 ?_
          refine v_iadd G dX7_findLeast_122 ?_
          refine v_istore (L' := [(5, .int (v3 + t21)), (0, .ref (q 0)), (1, .int v1), (2, .int v2), (3, .int v3), (4, .int v4)]) G dX7_findLeast_123 (by decide) rfl ?_
          refine v_iload G dX7_findLeast_125 0 rfl ?_
          refine v_aload_n G dX7_findLeast_127 rfl 1 rfl ?_
          refine v_getr (lay := layM) (k := 0) (k' := 18) (C := RX7) (T := TX7) (N := 30) G (fun _ h => i_X7_findLeast_X7 _ h) rfl rfl 26 (by decide) (by decide +kernel) rfl rfl dX7_findLeast_128 ?_
          refine v_iload_n G dX7_findLeast_131 rfl 3 rfl ?_
          obtain ⟨t23, e24, h⟩ := Option.bind_eq_some_iff.mp h
          refine v_iald (lay := layM) (k := 18) (n := 4096) G rfl e24 dX7_findLeast_132 ?_
          refine v_icmp_le (tgt := 141) G dX7_findLeast_133 (by decide) (fun c25 => ?_) (fun c25 => ?_)
          · replace h := (if_pos c25).symm.trans h
            refine v_aload_n G dX7_findLeast_141 rfl 1 rfl ?_
            refine v_getr (lay := layM) (k := 0) (k' := 18) (C := RX7) (T := TX7) (N := 30) G (fun _ h => i_X7_findLeast_X7 _ h) rfl rfl 26 (by decide) (by decide +kernel) rfl rfl dX7_findLeast_142 ?_
            refine v_iload_n G dX7_findLeast_145 rfl 3 rfl ?_
            obtain ⟨t26, e27, h⟩ := Option.bind_eq_some_iff.mp h
            refine v_iald (lay := layM) (k := 18) (n := 4096) G rfl e27 dX7_findLeast_146 ?_
            refine v_locs (L' := [(0, .ref (q 0)), (1, .int v1), (2, .int v2), (3, .int v3), (4, .int v4)]) [1, 2, 3, 4, 5] rfl ?_
            exact w_X7_findLeast_B147 G K h
          · replace h := (if_neg c25).symm.trans h
            refine v_iload G dX7_findLeast_136 0 rfl ?_
            refine v_goto (tgt := 147) G dX7_findLeast_138 (by decide) ?_
            refine v_locs (L' := [(0, .ref (q 0)), (1, .int v1), (2, .int v2), (3, .int v3), (4, .int v4)]) [1, 2, 3, 4, 5] rfl ?_
            exact w_X7_findLeast_B147 G K h
def m_X7_findLeast_B67 (s : apM) (v1 : Int32) (v2 : Int32) (k0 : Int32) : Option ((apM × Int32) ⊕ (apM × Int32)) := Option.bind (lp FU (m_X7_findLeast_L71 v1 v2 k0) (s, 0)) (fun x35 => match x35 with | (s38, v37) => some (.inl (s38, v2 + 1)))
set_option maxHeartbeats 4000000 in
set_option maxRecDepth 100000 in
theorem w_X7_findLeast_B67 {Γ : apC} {q : Nat → Nat} (G : apG Γ cX7_findLeast 8 RX7 wsX7_findLeast (apRm 2 0) apXM) {s : apM} {v1 v2 k0 : Int32} {r : ((apM × Int32) ⊕ (apM × Int32))} (K : match r with | .inl x => apV Γ 8 (apU layM q (apd Γ) x.1) 0 0 41 [(0, .ref (q 0)), (1, .int v1), (2, .int x.2)] [] | .inr x => apV Γ 8 (apU layM q (apd Γ) x.1) 0 0 200 [(0, .ref (q 0)), (1, .int v1)] []) (h : m_X7_findLeast_B67 s v1 v2 k0 = some r) : apV Γ 8 (apU layM q (apd Γ) s) 0 0 67 [(0, .ref (q 0)), (1, .int v1), (2, .int v2)] [.int k0] := by
  unfold m_X7_findLeast_B67 at h
  refine v_istore_n (L' := [(3, .int k0), (0, .ref (q 0)), (1, .int v1), (2, .int v2)]) G dX7_findLeast_67 rfl (by decide) rfl ?_
  refine v_iconst (v := 0) G dX7_findLeast_68 (by decide) ?_
  refine v_istore (L' := [(4, .int 0), (3, .int k0), (0, .ref (q 0)), (1, .int v1), (2, .int v2)]) G dX7_findLeast_69 (by decide) rfl ?_
  obtain ⟨x35, e36, h⟩ := Option.bind_eq_some_iff.mp h
  refine v_locs (L' := [(0, .ref (q 0)), (1, .int v1), (2, .int v2), (3, .int k0), (4, .int 0)]) [2, 3, 4, 1, 0] rfl ?_
  have l39 := v_lp (b := m_X7_findLeast_L71 v1 v2 k0) (I := fun x => apV Γ 8 (apU layM q (apd Γ) x.1) 0 0 71 [(0, .ref (q 0)), (1, .int v1), (2, .int v2), (3, .int k0), (4, .int x.2)] []) (O := fun x => apV Γ 8 (apU layM q (apd Γ) x.1) 0 0 194 [(0, .ref (q 0)), (1, .int v1), (2, .int v2)] []) (fun x r hb hK => by obtain ⟨ys, y4⟩ := x; rcases r with r | r <;> exact w_X7_findLeast_L71 G hK hb) FU (s, 0) x35 e36
  obtain ⟨s38, v37⟩ := x35
  dsimp only at h
  refine l39 ?_
  refine v_iinc (v := v2 + 1) (L' := [(2, .int (v2 + 1)), (0, .ref (q 0)), (1, .int v1)]) G dX7_findLeast_194 2 rfl rfl (by decide) rfl ?_
  refine v_goto (tgt := 41) G dX7_findLeast_197 (by decide) ?_
  cases h
  refine v_locs (L' := [(0, .ref (q 0)), (1, .int v1), (2, .int (v2 + 1))]) [1, 2, 0] rfl ?_
  exact K
def m_X7_findLeast_L41 (v1 : Int32) : (apM × Int32) → Option ((apM × Int32) ⊕ (apM × Int32)) := fun (s0, v2) => if v1 ≤ v2 then (some (.inr (s0, v2))) else (Option.bind (ald s0 18 4096 v2) (fun t10 => if 1000 ≤ t10 then (m_X7_findLeast_B67 s0 v1 v2 0) else (Option.bind (m_X7_stays s0 v2) (fun t40 => m_X7_findLeast_B67 s0 v1 v2 t40))))
set_option maxHeartbeats 4000000 in
set_option maxRecDepth 100000 in
theorem w_X7_findLeast_L41 {Γ : apC} {q : Nat → Nat} (G : apG Γ cX7_findLeast 8 RX7 wsX7_findLeast (apRm 2 0) apXM) {s0 : apM} {v1 v2 : Int32} {r : ((apM × Int32) ⊕ (apM × Int32))} (K : match r with | .inl x => apV Γ 8 (apU layM q (apd Γ) x.1) 0 0 41 [(0, .ref (q 0)), (1, .int v1), (2, .int x.2)] [] | .inr x => apV Γ 8 (apU layM q (apd Γ) x.1) 0 0 200 [(0, .ref (q 0)), (1, .int v1)] []) (h : m_X7_findLeast_L41 v1 (s0, v2) = some r) : apV Γ 8 (apU layM q (apd Γ) s0) 0 0 41 [(0, .ref (q 0)), (1, .int v1), (2, .int v2)] [] := by
  unfold m_X7_findLeast_L41 at h
  dsimp only at h
  refine v_iload_n G dX7_findLeast_41 rfl 2 rfl ?_
  refine v_iload_n G dX7_findLeast_42 rfl 1 rfl ?_
  refine v_icmp_ge (tgt := 200) G dX7_findLeast_43 (by decide) (fun c9 => ?_) (fun c9 => ?_)
  · replace h := (if_pos c9).symm.trans h
    cases h
    refine v_locs (L' := [(0, .ref (q 0)), (1, .int v1)]) [0, 1] rfl ?_
    exact K
  · replace h := (if_neg c9).symm.trans h
    refine v_aload_n G dX7_findLeast_46 rfl 0 rfl ?_
    refine v_getr (lay := layM) (k := 0) (k' := 18) (C := RX7) (T := TX7) (N := 30) G (fun _ h => i_X7_findLeast_X7 _ h) rfl rfl 26 (by decide) (by decide +kernel) rfl rfl dX7_findLeast_47 ?_
    refine v_iload_n G dX7_findLeast_50 rfl 2 rfl ?_
    obtain ⟨t10, e11, h⟩ := Option.bind_eq_some_iff.mp h
    refine v_iald (lay := layM) (k := 18) (n := 4096) G rfl e11 dX7_findLeast_51 ?_
    refine v_sipush (v := 1000) G dX7_findLeast_52 (by decide) ?_
    refine v_icmp_ge (tgt := 66) G dX7_findLeast_55 (by decide) (fun c12 => ?_) (fun c12 => ?_)
    · replace h := (if_pos c12).symm.trans h
      refine v_iconst (v := 0) G dX7_findLeast_66 (by decide) ?_
      exact w_X7_findLeast_B67 G K h
    · replace h := (if_neg c12).symm.trans h
      refine v_aload_n G dX7_findLeast_58 rfl 0 rfl ?_
      refine v_iload_n G dX7_findLeast_59 rfl 2 rfl ?_
      obtain ⟨t40, e41, h⟩ := Option.bind_eq_some_iff.mp h
      refine v_calliV (lay := layM) (As := [.int v2]) (st := []) (n := 1) (C := RX7) (T := TX7) (k0 := 0) G apXMok (c_X7_stays Γ.1.2.1 e41) gX7_findLeast_X7_stays rfl (by decide +kernel) (by decide) rfl rfl rfl rfl (Nat.le_of_ble_eq_true rfl) (by decide) rfl dX7_findLeast_60 ?_
      refine v_goto (tgt := 67) G dX7_findLeast_63 (by decide) ?_
      exact w_X7_findLeast_B67 G K h
def m_X7_findLeast (s : apM)  : Option apM := Option.bind (lp FU (m_X7_findLeast_L11 ((1 <<< ((s 0 1) &&& 31)) - 1)) (s, 0)) (fun x5 => match x5 with | (s8, v7) => Option.bind (lp FU (m_X7_findLeast_L41 ((1 <<< ((s 0 1) &&& 31)) - 1)) (s8, 0)) (fun x42 => match x42 with | (s45, v44) => Option.bind (ald s45 18 4096 ((1 <<< ((s 0 1) &&& 31)) - 1)) (fun t46 => some (mst s45 0 21 t46))))
set_option maxHeartbeats 4000000 in
set_option maxRecDepth 100000 in
theorem w_X7_findLeast {Γ : apC} {q : Nat → Nat} (G : apG Γ cX7_findLeast 8 RX7 wsX7_findLeast (apRm 2 0) apXM) {s : apM} {r : apM} (K : apR Γ cX7_findLeast 0 0 none (apU layM q (apd Γ) r)) (h : m_X7_findLeast s = some r) : apV Γ 8 (apU layM q (apd Γ) s) 0 0 0 [(0, .ref (q 0))] [] := by
  unfold m_X7_findLeast at h
  refine v_iconst (v := 1) G dX7_findLeast_0 (by decide) ?_
  refine v_aload_n G dX7_findLeast_1 rfl 0 rfl ?_
  refine v_geti (lay := layM) (k := 0) (C := RX7) (T := TX7) (N := 30) G (fun _ h => i_X7_findLeast_X7 _ h) rfl rfl 1 (by decide) (by decide +kernel) rfl rfl dX7_findLeast_2 ?_
  refine v_ishl G dX7_findLeast_5 ?_
  refine v_iconst (v := 1) G dX7_findLeast_6 (by decide) ?_
  refine v_isub G dX7_findLeast_7 ?_
  refine v_istore_n (L' := [(1, .int ((1 <<< ((s 0 1) &&& 31)) - 1)), (0, .ref (q 0))]) G dX7_findLeast_8 rfl (by decide) rfl ?_
  refine v_iconst (v := 0) G dX7_findLeast_9 (by decide) ?_
  refine v_istore_n (L' := [(2, .int 0), (1, .int ((1 <<< ((s 0 1) &&& 31)) - 1)), (0, .ref (q 0))]) G dX7_findLeast_10 rfl (by decide) rfl ?_
  obtain ⟨x5, e6, h⟩ := Option.bind_eq_some_iff.mp h
  refine v_locs (L' := [(0, .ref (q 0)), (1, .int ((1 <<< ((s 0 1) &&& 31)) - 1)), (2, .int 0)]) [2, 1, 0] rfl ?_
  have l49 := v_lp (b := m_X7_findLeast_L11 ((1 <<< ((s 0 1) &&& 31)) - 1)) (I := fun x => apV Γ 8 (apU layM q (apd Γ) x.1) 0 0 11 [(0, .ref (q 0)), (1, .int ((1 <<< ((s 0 1) &&& 31)) - 1)), (2, .int x.2)] []) (O := fun x => apV Γ 8 (apU layM q (apd Γ) x.1) 0 0 39 [(0, .ref (q 0)), (1, .int ((1 <<< ((s 0 1) &&& 31)) - 1))] []) (fun x r hb hK => by obtain ⟨ys, y2⟩ := x; rcases r with r | r <;> exact w_X7_findLeast_L11 G hK hb) FU (s, 0) x5 e6
  obtain ⟨s8, v7⟩ := x5
  dsimp only at h
  refine l49 ?_
  refine v_iconst (v := 0) G dX7_findLeast_39 (by decide) ?_
  refine v_istore_n (L' := [(2, .int 0), (0, .ref (q 0)), (1, .int ((1 <<< ((s 0 1) &&& 31)) - 1))]) G dX7_findLeast_40 rfl (by decide) rfl ?_
  obtain ⟨x42, e43, h⟩ := Option.bind_eq_some_iff.mp h
  refine v_locs (L' := [(0, .ref (q 0)), (1, .int ((1 <<< ((s 0 1) &&& 31)) - 1)), (2, .int 0)]) [1, 2, 0] rfl ?_
  have l48 := v_lp (b := m_X7_findLeast_L41 ((1 <<< ((s 0 1) &&& 31)) - 1)) (I := fun x => apV Γ 8 (apU layM q (apd Γ) x.1) 0 0 41 [(0, .ref (q 0)), (1, .int ((1 <<< ((s 0 1) &&& 31)) - 1)), (2, .int x.2)] []) (O := fun x => apV Γ 8 (apU layM q (apd Γ) x.1) 0 0 200 [(0, .ref (q 0)), (1, .int ((1 <<< ((s 0 1) &&& 31)) - 1))] []) (fun x r hb hK => by obtain ⟨ys, y2⟩ := x; rcases r with r | r <;> exact w_X7_findLeast_L41 G hK hb) FU (s8, 0) x42 e43
  obtain ⟨s45, v44⟩ := x42
  dsimp only at h
  refine l48 ?_
  refine v_aload_n G dX7_findLeast_200 rfl 0 rfl ?_
  refine v_aload_n G dX7_findLeast_201 rfl 0 rfl ?_
  refine v_getr (lay := layM) (k := 0) (k' := 18) (C := RX7) (T := TX7) (N := 30) G (fun _ h => i_X7_findLeast_X7 _ h) rfl rfl 26 (by decide) (by decide +kernel) rfl rfl dX7_findLeast_202 ?_
  refine v_iload_n G dX7_findLeast_205 rfl 1 rfl ?_
  obtain ⟨t46, e47, h⟩ := Option.bind_eq_some_iff.mp h
  refine v_iald (lay := layM) (k := 18) (n := 4096) G rfl e47 dX7_findLeast_206 ?_
  refine v_put (lay := layM) (k := 0) (C := RX7) (T := TX7) (N := 30) G (fun _ h => i_X7_findLeast_X7 _ h) tyX7 tyX7_ok nmX7 rfl rfl 21 (by decide) (by decide +kernel) rfl rfl (by first | rfl | decide) (by first | rfl | decide) rfl dX7_findLeast_207 ?_
  cases h
  exact v_vret G K (by decide) (by decide) dX7_findLeast_210
theorem c_X7_findLeast (l : Launch) {s : apM} {r : apM} (h : m_X7_findLeast s = some r) : apMv l layM apXM yX7_findLeast wsX7_findLeast 2 (fun q => [.ref (q 0)]) s r := apMv_of (cc := cX7_findLeast) (nL := 8) (by decide) rfl (fun _ => Nat.le_of_ble_eq_true rfl) (fun Γ q hl G K => w_X7_findLeast G K h)
theorem i_X7_findLives_X7 : ∀ w ∈ u_ws RX7 TX7 30, w ∈ wsX7_findLives := by decide +kernel
def m_X7_findLives_L42 (v1 : Int32) : (apM × Int32) → Option ((apM × Int32) ⊕ (apM × Int32)) := fun (s0, v2) => if (2 * (s0 0 1)) ≤ v2 then (some (.inr (s0, v2))) else (Option.bind (ald s0 4 24 v2) (fun t10 => if t10 = v1 then (Option.bind (ald s0 12 12 (v2 / 2)) (fun t13 => Option.bind (ald s0 13 12 v1) (fun t15 => if t13 ≤ t15 then (some (.inl (s0, v2 + 1))) else (Option.bind (ald s0 12 12 (v2 / 2)) (fun t18 => Option.bind (ast s0 13 12 v1 t18) (fun s20 => some (.inl (s20, v2 + 1)))))))) else (some (.inl (s0, v2 + 1)))))
set_option maxHeartbeats 4000000 in
set_option maxRecDepth 100000 in
theorem w_X7_findLives_L42 {Γ : apC} {q : Nat → Nat} (G : apG Γ cX7_findLives 3 RX7 wsX7_findLives (apRm 0 0) apXM) {s0 : apM} {v1 v2 : Int32} {r : ((apM × Int32) ⊕ (apM × Int32))} (K : match r with | .inl x => apV Γ 3 (apU layM q (apd Γ) x.1) 0 0 42 [(0, .ref (q 0)), (1, .int v1), (2, .int x.2)] [] | .inr x => apV Γ 3 (apU layM q (apd Γ) x.1) 0 0 99 [(0, .ref (q 0)), (1, .int v1)] []) (h : m_X7_findLives_L42 v1 (s0, v2) = some r) : apV Γ 3 (apU layM q (apd Γ) s0) 0 0 42 [(0, .ref (q 0)), (1, .int v1), (2, .int v2)] [] := by
  unfold m_X7_findLives_L42 at h
  dsimp only at h
  refine v_iload_n G dX7_findLives_42 rfl 2 rfl ?_
  refine v_iconst (v := 2) G dX7_findLives_43 (by decide) ?_
  refine v_aload_n G dX7_findLives_44 rfl 0 rfl ?_
  refine v_geti (lay := layM) (k := 0) (C := RX7) (T := TX7) (N := 30) G (fun _ h => i_X7_findLives_X7 _ h) rfl rfl 1 (by decide) (by decide +kernel) rfl rfl dX7_findLives_45 ?_
  refine v_imul G dX7_findLives_48 ?_
  refine v_icmp_ge (tgt := 99) G dX7_findLives_49 (by decide) (fun c9 => ?_) (fun c9 => ?_)
  · replace h := (if_pos c9).symm.trans h
    cases h
    refine v_locs (L' := [(0, .ref (q 0)), (1, .int v1)]) [0, 1] rfl ?_
    exact K
  · replace h := (if_neg c9).symm.trans h
    refine v_aload_n G dX7_findLives_52 rfl 0 rfl ?_
    refine v_getr (lay := layM) (k := 0) (k' := 4) (C := RX7) (T := TX7) (N := 30) G (fun _ h => i_X7_findLives_X7 _ h) rfl rfl 5 (by decide) (by decide +kernel) rfl rfl dX7_findLives_53 ?_
    refine v_iload_n G dX7_findLives_56 rfl 2 rfl ?_
    obtain ⟨t10, e11, h⟩ := Option.bind_eq_some_iff.mp h
    refine v_iald (lay := layM) (k := 4) (n := 24) G rfl e11 dX7_findLives_57 ?_
    refine v_iload_n G dX7_findLives_58 rfl 1 rfl ?_
    refine v_icmp_ne (tgt := 93) G dX7_findLives_59 (by decide) (fun c12 => ?_) (fun c12 => ?_)
    · replace h := (if_neg c12).symm.trans h
      refine v_iinc (v := v2 + 1) (L' := [(2, .int (v2 + 1)), (0, .ref (q 0)), (1, .int v1)]) G dX7_findLives_93 2 rfl rfl (by decide) rfl ?_
      refine v_goto (tgt := 42) G dX7_findLives_96 (by decide) ?_
      cases h
      refine v_locs (L' := [(0, .ref (q 0)), (1, .int v1), (2, .int (v2 + 1))]) [1, 2, 0] rfl ?_
      exact K
    · replace h := (if_pos c12).symm.trans h
      refine v_aload_n G dX7_findLives_62 rfl 0 rfl ?_
      refine v_getr (lay := layM) (k := 0) (k' := 12) (C := RX7) (T := TX7) (N := 30) G (fun _ h => i_X7_findLives_X7 _ h) rfl rfl 16 (by decide) (by decide +kernel) rfl rfl dX7_findLives_63 ?_
      refine v_iload_n G dX7_findLives_66 rfl 2 rfl ?_
      refine v_iconst (v := 2) G dX7_findLives_67 (by decide) ?_
      refine v_idiv G dX7_findLives_68 (by decide) ?_
      obtain ⟨t13, e14, h⟩ := Option.bind_eq_some_iff.mp h
      refine v_iald (lay := layM) (k := 12) (n := 12) G rfl e14 dX7_findLives_69 ?_
      refine v_aload_n G dX7_findLives_70 rfl 0 rfl ?_
      refine v_getr (lay := layM) (k := 0) (k' := 13) (C := RX7) (T := TX7) (N := 30) G (fun _ h => i_X7_findLives_X7 _ h) rfl rfl 17 (by decide) (by decide +kernel) rfl rfl dX7_findLives_71 ?_
      refine v_iload_n G dX7_findLives_74 rfl 1 rfl ?_
      obtain ⟨t15, e16, h⟩ := Option.bind_eq_some_iff.mp h
      refine v_iald (lay := layM) (k := 13) (n := 12) G rfl e16 dX7_findLives_75 ?_
      refine v_icmp_le (tgt := 93) G dX7_findLives_76 (by decide) (fun c17 => ?_) (fun c17 => ?_)
      · replace h := (if_pos c17).symm.trans h
        refine v_iinc (v := v2 + 1) (L' := [(2, .int (v2 + 1)), (0, .ref (q 0)), (1, .int v1)]) G dX7_findLives_93 2 rfl rfl (by decide) rfl ?_
        refine v_goto (tgt := 42) G dX7_findLives_96 (by decide) ?_
        cases h
        refine v_locs (L' := [(0, .ref (q 0)), (1, .int v1), (2, .int (v2 + 1))]) [1, 2, 0] rfl ?_
        exact K
      · replace h := (if_neg c17).symm.trans h
        refine v_aload_n G dX7_findLives_79 rfl 0 rfl ?_
        refine v_getr (lay := layM) (k := 0) (k' := 13) (C := RX7) (T := TX7) (N := 30) G (fun _ h => i_X7_findLives_X7 _ h) rfl rfl 17 (by decide) (by decide +kernel) rfl rfl dX7_findLives_80 ?_
        refine v_iload_n G dX7_findLives_83 rfl 1 rfl ?_
        refine v_aload_n G dX7_findLives_84 rfl 0 rfl ?_
        refine v_getr (lay := layM) (k := 0) (k' := 12) (C := RX7) (T := TX7) (N := 30) G (fun _ h => i_X7_findLives_X7 _ h) rfl rfl 16 (by decide) (by decide +kernel) rfl rfl dX7_findLives_85 ?_
        refine v_iload_n G dX7_findLives_88 rfl 2 rfl ?_
        refine v_iconst (v := 2) G dX7_findLives_89 (by decide) ?_
        refine v_idiv G dX7_findLives_90 (by decide) ?_
        obtain ⟨t18, e19, h⟩ := Option.bind_eq_some_iff.mp h
        refine v_iald (lay := layM) (k := 12) (n := 12) G rfl e19 dX7_findLives_91 ?_
        obtain ⟨s20, e21, h⟩ := Option.bind_eq_some_iff.mp h
        refine v_iast (lay := layM) (k := 13) (n := 12) G rfl e21 dX7_findLives_92 ?_
        refine v_iinc (v := v2 + 1) (L' := [(2, .int (v2 + 1)), (0, .ref (q 0)), (1, .int v1)]) G dX7_findLives_93 2 rfl rfl (by decide) rfl ?_
        refine v_goto (tgt := 42) G dX7_findLives_96 (by decide) ?_
        cases h
        refine v_locs (L' := [(0, .ref (q 0)), (1, .int v1), (2, .int (v2 + 1))]) [1, 2, 0] rfl ?_
        exact K
def m_X7_findLives_B39 (s : apM) (v1 : Int32) (k0 : Int32) (k1 : Int32) : Option ((apM × Int32) ⊕ (apM × Int32)) := Option.bind (ast s 13 12 k1 k0) (fun s7 => Option.bind (lp FU (m_X7_findLives_L42 v1) (s7, 0)) (fun x22 => match x22 with | (s25, v24) => some (.inl (s25, v1 + 1))))
set_option maxHeartbeats 4000000 in
set_option maxRecDepth 100000 in
theorem w_X7_findLives_B39 {Γ : apC} {q : Nat → Nat} (G : apG Γ cX7_findLives 3 RX7 wsX7_findLives (apRm 0 0) apXM) {s : apM} {v1 k0 k1 : Int32} {r : ((apM × Int32) ⊕ (apM × Int32))} (K : match r with | .inl x => apV Γ 3 (apU layM q (apd Γ) x.1) 0 0 2 [(0, .ref (q 0)), (1, .int x.2)] [] | .inr x => apV Γ 3 (apU layM q (apd Γ) x.1) 0 0 105 [] []) (h : m_X7_findLives_B39 s v1 k0 k1 = some r) : apV Γ 3 (apU layM q (apd Γ) s) 0 0 39 [(0, .ref (q 0)), (1, .int v1)] [.int k0, .int k1, .ref (q 13)] := by
  unfold m_X7_findLives_B39 at h
  obtain ⟨s7, e8, h⟩ := Option.bind_eq_some_iff.mp h
  refine v_iast (lay := layM) (k := 13) (n := 12) G rfl e8 dX7_findLives_39 ?_
  refine v_iconst (v := 0) G dX7_findLives_40 (by decide) ?_
  refine v_istore_n (L' := [(2, .int 0), (0, .ref (q 0)), (1, .int v1)]) G dX7_findLives_41 rfl (by decide) rfl ?_
  obtain ⟨x22, e23, h⟩ := Option.bind_eq_some_iff.mp h
  refine v_locs (L' := [(0, .ref (q 0)), (1, .int v1), (2, .int 0)]) [1, 2, 0] rfl ?_
  have l26 := v_lp (b := m_X7_findLives_L42 v1) (I := fun x => apV Γ 3 (apU layM q (apd Γ) x.1) 0 0 42 [(0, .ref (q 0)), (1, .int v1), (2, .int x.2)] []) (O := fun x => apV Γ 3 (apU layM q (apd Γ) x.1) 0 0 99 [(0, .ref (q 0)), (1, .int v1)] []) (fun x r hb hK => by obtain ⟨ys, y2⟩ := x; rcases r with r | r <;> exact w_X7_findLives_L42 G hK hb) FU (s7, 0) x22 e23
  obtain ⟨s25, v24⟩ := x22
  dsimp only at h
  refine l26 ?_
  refine v_iinc (v := v1 + 1) (L' := [(1, .int (v1 + 1)), (0, .ref (q 0))]) G dX7_findLives_99 1 rfl rfl (by decide) rfl ?_
  refine v_goto (tgt := 2) G dX7_findLives_102 (by decide) ?_
  cases h
  refine v_locs (L' := [(0, .ref (q 0)), (1, .int (v1 + 1))]) [1, 0] rfl ?_
  exact K
def m_X7_findLives_L2  : (apM × Int32) → Option ((apM × Int32) ⊕ (apM × Int32)) := fun (s0, v1) => if (s0 0 1) ≤ v1 then (some (.inr (s0, v1))) else (Option.bind (ald s0 5 12 v1) (fun t2 => if t2 = 0 then (Option.bind (ald s0 12 12 v1) (fun t5 => m_X7_findLives_B39 s0 v1 t5 v1)) else (m_X7_findLives_B39 s0 v1 ((s0 0 1) - 1) v1)))
set_option maxHeartbeats 4000000 in
set_option maxRecDepth 100000 in
theorem w_X7_findLives_L2 {Γ : apC} {q : Nat → Nat} (G : apG Γ cX7_findLives 3 RX7 wsX7_findLives (apRm 0 0) apXM) {s0 : apM} {v1 : Int32} {r : ((apM × Int32) ⊕ (apM × Int32))} (K : match r with | .inl x => apV Γ 3 (apU layM q (apd Γ) x.1) 0 0 2 [(0, .ref (q 0)), (1, .int x.2)] [] | .inr x => apV Γ 3 (apU layM q (apd Γ) x.1) 0 0 105 [] []) (h : m_X7_findLives_L2 (s0, v1) = some r) : apV Γ 3 (apU layM q (apd Γ) s0) 0 0 2 [(0, .ref (q 0)), (1, .int v1)] [] := by
  unfold m_X7_findLives_L2 at h
  dsimp only at h
  refine v_iload_n G dX7_findLives_2 rfl 1 rfl ?_
  refine v_aload_n G dX7_findLives_3 rfl 0 rfl ?_
  refine v_geti (lay := layM) (k := 0) (C := RX7) (T := TX7) (N := 30) G (fun _ h => i_X7_findLives_X7 _ h) rfl rfl 1 (by decide) (by decide +kernel) rfl rfl dX7_findLives_4 ?_
  refine v_icmp_ge (tgt := 105) G dX7_findLives_7 (by decide) (fun c1 => ?_) (fun c1 => ?_)
  · replace h := (if_pos c1).symm.trans h
    cases h
    refine v_locs (L' := []) [] rfl ?_
    exact K
  · replace h := (if_neg c1).symm.trans h
    refine v_aload_n G dX7_findLives_10 rfl 0 rfl ?_
    refine v_getr (lay := layM) (k := 0) (k' := 13) (C := RX7) (T := TX7) (N := 30) G (fun _ h => i_X7_findLives_X7 _ h) rfl rfl 17 (by decide) (by decide +kernel) rfl rfl dX7_findLives_11 ?_
    refine v_iload_n G dX7_findLives_14 rfl 1 rfl ?_
    refine v_aload_n G dX7_findLives_15 rfl 0 rfl ?_
    refine v_getr (lay := layM) (k := 0) (k' := 5) (C := RX7) (T := TX7) (N := 30) G (fun _ h => i_X7_findLives_X7 _ h) rfl rfl 6 (by decide) (by decide +kernel) rfl rfl dX7_findLives_16 ?_
    refine v_iload_n G dX7_findLives_19 rfl 1 rfl ?_
    obtain ⟨t2, e3, h⟩ := Option.bind_eq_some_iff.mp h
    refine v_zald (lay := layM) (k := 5) (n := 12) G rfl e3 dX7_findLives_20 ?_
    refine v_if_eq (tgt := 33) G dX7_findLives_21 (by decide) (fun c4 => ?_) (fun c4 => ?_)
    · replace h := (if_pos c4).symm.trans h
      refine v_aload_n G dX7_findLives_33 rfl 0 rfl ?_
      refine v_getr (lay := layM) (k := 0) (k' := 12) (C := RX7) (T := TX7) (N := 30) G (fun _ h => i_X7_findLives_X7 _ h) rfl rfl 16 (by decide) (by decide +kernel) rfl rfl dX7_findLives_34 ?_
      refine v_iload_n G dX7_findLives_37 rfl 1 rfl ?_
      obtain ⟨t5, e6, h⟩ := Option.bind_eq_some_iff.mp h
      refine v_iald (lay := layM) (k := 12) (n := 12) G rfl e6 dX7_findLives_38 ?_
      exact w_X7_findLives_B39 G K h
    · replace h := (if_neg c4).symm.trans h
      refine v_aload_n G dX7_findLives_24 rfl 0 rfl ?_
      refine v_geti (lay := layM) (k := 0) (C := RX7) (T := TX7) (N := 30) G (fun _ h => i_X7_findLives_X7 _ h) rfl rfl 1 (by decide) (by decide +kernel) rfl rfl dX7_findLives_25 ?_
      refine v_iconst (v := 1) G dX7_findLives_28 (by decide) ?_
      refine v_isub G dX7_findLives_29 ?_
      refine v_goto (tgt := 39) G dX7_findLives_30 (by decide) ?_
      exact w_X7_findLives_B39 G K h
def m_X7_findLives (s : apM)  : Option apM := Option.bind (lp FU (m_X7_findLives_L2) (s, 0)) (fun x27 => match x27 with | (s30, v29) => some s30)
set_option maxHeartbeats 4000000 in
set_option maxRecDepth 100000 in
theorem w_X7_findLives {Γ : apC} {q : Nat → Nat} (G : apG Γ cX7_findLives 3 RX7 wsX7_findLives (apRm 0 0) apXM) {s : apM} {r : apM} (K : apR Γ cX7_findLives 0 0 none (apU layM q (apd Γ) r)) (h : m_X7_findLives s = some r) : apV Γ 3 (apU layM q (apd Γ) s) 0 0 0 [(0, .ref (q 0))] [] := by
  unfold m_X7_findLives at h
  refine v_iconst (v := 0) G dX7_findLives_0 (by decide) ?_
  refine v_istore_n (L' := [(1, .int 0), (0, .ref (q 0))]) G dX7_findLives_1 rfl (by decide) rfl ?_
  obtain ⟨x27, e28, h⟩ := Option.bind_eq_some_iff.mp h
  refine v_locs (L' := [(0, .ref (q 0)), (1, .int 0)]) [1, 0] rfl ?_
  have l31 := v_lp (b := m_X7_findLives_L2) (I := fun x => apV Γ 3 (apU layM q (apd Γ) x.1) 0 0 2 [(0, .ref (q 0)), (1, .int x.2)] []) (O := fun x => apV Γ 3 (apU layM q (apd Γ) x.1) 0 0 105 [] []) (fun x r hb hK => by obtain ⟨ys, y1⟩ := x; rcases r with r | r <;> exact w_X7_findLives_L2 G hK hb) FU (s, 0) x27 e28
  obtain ⟨s30, v29⟩ := x27
  dsimp only at h
  refine l31 ?_
  cases h
  exact v_vret G K (by decide) (by decide) dX7_findLives_105
theorem c_X7_findLives (l : Launch) {s : apM} {r : apM} (h : m_X7_findLives s = some r) : apMv l layM apXM yX7_findLives wsX7_findLives 0 (fun q => [.ref (q 0)]) s r := apMv_of (cc := cX7_findLives) (nL := 3) (by decide) rfl (fun _ => Nat.le_of_ble_eq_true rfl) (fun Γ q hl G K => w_X7_findLives G K h)
theorem i_X7_fits_X7 : ∀ w ∈ u_ws RX7 TX7 30, w ∈ wsX7_fits := by decide +kernel
def m_X7_fits_B114 (s : apM) (v1 : Int32) (v2 : Int32) (v4 : Int32) (k0 : Int32) : Option ((Int32 × Int32) ⊕ (Int32 × Int32)) := some (.inl (k0, v4 + 1))
set_option maxHeartbeats 4000000 in
set_option maxRecDepth 100000 in
theorem w_X7_fits_B114 {Γ : apC} {q : Nat → Nat} (G : apG Γ cX7_fits 6 RX7 wsX7_fits (apRm 0 0) apXM) {s : apM} {v1 v2 v4 k0 : Int32} {r : ((Int32 × Int32) ⊕ (Int32 × Int32))} (K : match r with | .inl x => apV Γ 6 (apU layM q (apd Γ) s) 0 0 5 [(0, .ref (q 0)), (1, .int v1), (2, .int v2), (3, .int x.1), (4, .int x.2)] [] | .inr x => apV Γ 6 (apU layM q (apd Γ) s) 0 0 121 [(3, .int x.1)] []) (h : m_X7_fits_B114 s v1 v2 v4 k0 = some r) : apV Γ 6 (apU layM q (apd Γ) s) 0 0 114 [(0, .ref (q 0)), (1, .int v1), (2, .int v2), (4, .int v4)] [.int k0] := by
  unfold m_X7_fits_B114 at h
  refine v_istore_n (L' := [(3, .int k0), (0, .ref (q 0)), (1, .int v1), (2, .int v2), (4, .int v4)]) G dX7_fits_114 rfl (by decide) rfl ?_
  refine v_iinc (v := v4 + 1) (L' := [(4, .int (v4 + 1)), (3, .int k0), (0, .ref (q 0)), (1, .int v1), (2, .int v2)]) G dX7_fits_115 4 rfl rfl (by decide) rfl ?_
  refine v_goto (tgt := 5) G dX7_fits_118 (by decide) ?_
  cases h
  refine v_locs (L' := [(0, .ref (q 0)), (1, .int v1), (2, .int v2), (3, .int k0), (4, .int (v4 + 1))]) [2, 3, 4, 1, 0] rfl ?_
  exact K
def m_X7_fits_B113 (s : apM) (v1 : Int32) (v2 : Int32) (v4 : Int32) : Option ((Int32 × Int32) ⊕ (Int32 × Int32)) := m_X7_fits_B114 s v1 v2 v4 0
set_option maxHeartbeats 4000000 in
set_option maxRecDepth 100000 in
theorem w_X7_fits_B113 {Γ : apC} {q : Nat → Nat} (G : apG Γ cX7_fits 6 RX7 wsX7_fits (apRm 0 0) apXM) {s : apM} {v1 v2 v4 : Int32} {r : ((Int32 × Int32) ⊕ (Int32 × Int32))} (K : match r with | .inl x => apV Γ 6 (apU layM q (apd Γ) s) 0 0 5 [(0, .ref (q 0)), (1, .int v1), (2, .int v2), (3, .int x.1), (4, .int x.2)] [] | .inr x => apV Γ 6 (apU layM q (apd Γ) s) 0 0 121 [(3, .int x.1)] []) (h : m_X7_fits_B113 s v1 v2 v4 = some r) : apV Γ 6 (apU layM q (apd Γ) s) 0 0 113 [(0, .ref (q 0)), (1, .int v1), (2, .int v2), (4, .int v4)] [] := by
  unfold m_X7_fits_B113 at h
  refine v_iconst (v := 0) G dX7_fits_113 (by decide) ?_
  exact w_X7_fits_B114 G K h
def m_X7_fits_B109 (s : apM) (v1 : Int32) (v2 : Int32) (v4 : Int32) : Option ((Int32 × Int32) ⊕ (Int32 × Int32)) := m_X7_fits_B114 s v1 v2 v4 1
set_option maxHeartbeats 4000000 in
set_option maxRecDepth 100000 in
theorem w_X7_fits_B109 {Γ : apC} {q : Nat → Nat} (G : apG Γ cX7_fits 6 RX7 wsX7_fits (apRm 0 0) apXM) {s : apM} {v1 v2 v4 : Int32} {r : ((Int32 × Int32) ⊕ (Int32 × Int32))} (K : match r with | .inl x => apV Γ 6 (apU layM q (apd Γ) s) 0 0 5 [(0, .ref (q 0)), (1, .int v1), (2, .int v2), (3, .int x.1), (4, .int x.2)] [] | .inr x => apV Γ 6 (apU layM q (apd Γ) s) 0 0 121 [(3, .int x.1)] []) (h : m_X7_fits_B109 s v1 v2 v4 = some r) : apV Γ 6 (apU layM q (apd Γ) s) 0 0 109 [(0, .ref (q 0)), (1, .int v1), (2, .int v2), (4, .int v4)] [] := by
  unfold m_X7_fits_B109 at h
  refine v_iconst (v := 1) G dX7_fits_109 (by decide) ?_
  refine v_goto (tgt := 114) G dX7_fits_110 (by decide) ?_
  exact w_X7_fits_B114 G K h
def m_X7_fits_B61 (s : apM) (v1 : Int32) (v2 : Int32) (v3 : Int32) (v4 : Int32) (k0 : Int32) : Option ((Int32 × Int32) ⊕ (Int32 × Int32)) := if v3 = 0 then (m_X7_fits_B113 s v1 v2 v4) else (if k0 = 0 then (m_X7_fits_B109 s v1 v2 v4) else (Option.bind (ald s 9 12 v1) (fun t7 => Option.bind (ald s 14 12 v4) (fun t9 => if (v2 + t7) ≤ t9 then (m_X7_fits_B109 s v1 v2 v4) else (Option.bind (ald s 14 12 v4) (fun t12 => Option.bind (ald s 9 12 v4) (fun t14 => if v2 < (t12 + t14) then (m_X7_fits_B113 s v1 v2 v4) else (m_X7_fits_B109 s v1 v2 v4))))))))
set_option maxHeartbeats 4000000 in
set_option maxRecDepth 100000 in
theorem w_X7_fits_B61 {Γ : apC} {q : Nat → Nat} (G : apG Γ cX7_fits 6 RX7 wsX7_fits (apRm 0 0) apXM) {s : apM} {v1 v2 v3 v4 k0 : Int32} {r : ((Int32 × Int32) ⊕ (Int32 × Int32))} (K : match r with | .inl x => apV Γ 6 (apU layM q (apd Γ) s) 0 0 5 [(0, .ref (q 0)), (1, .int v1), (2, .int v2), (3, .int x.1), (4, .int x.2)] [] | .inr x => apV Γ 6 (apU layM q (apd Γ) s) 0 0 121 [(3, .int x.1)] []) (h : m_X7_fits_B61 s v1 v2 v3 v4 k0 = some r) : apV Γ 6 (apU layM q (apd Γ) s) 0 0 61 [(0, .ref (q 0)), (1, .int v1), (2, .int v2), (3, .int v3), (4, .int v4)] [.int k0] := by
  unfold m_X7_fits_B61 at h
  refine v_istore (L' := [(5, .int k0), (0, .ref (q 0)), (1, .int v1), (2, .int v2), (3, .int v3), (4, .int v4)]) G dX7_fits_61 (by decide) rfl ?_
  refine v_iload_n G dX7_fits_63 rfl 4 rfl ?_
  refine v_if_eq (tgt := 113) G dX7_fits_64 (by decide) (fun c5 => ?_) (fun c5 => ?_)
  · replace h := (if_pos c5).symm.trans h
    refine v_locs (L' := [(0, .ref (q 0)), (1, .int v1), (2, .int v2), (4, .int v4)]) [1, 2, 3, 5] rfl ?_
    exact w_X7_fits_B113 G K h
  · replace h := (if_neg c5).symm.trans h
    refine v_iload G dX7_fits_67 0 rfl ?_
    refine v_if_eq (tgt := 109) G dX7_fits_69 (by decide) (fun c6 => ?_) (fun c6 => ?_)
    · replace h := (if_pos c6).symm.trans h
      refine v_locs (L' := [(0, .ref (q 0)), (1, .int v1), (2, .int v2), (4, .int v4)]) [1, 2, 3, 5] rfl ?_
      exact w_X7_fits_B109 G K h
    · replace h := (if_neg c6).symm.trans h
      refine v_iload_n G dX7_fits_72 rfl 3 rfl ?_
      refine v_aload_n G dX7_fits_73 rfl 1 rfl ?_
      refine v_getr (lay := layM) (k := 0) (k' := 9) (C := RX7) (T := TX7) (N := 30) G (fun _ h => i_X7_fits_X7 _ h) rfl rfl 13 (by decide) (by decide +kernel) rfl rfl dX7_fits_74 ?_
      refine v_iload_n G dX7_fits_77 rfl 2 rfl ?_
      obtain ⟨t7, e8, h⟩ := Option.bind_eq_some_iff.mp h
      refine v_iald (lay := layM) (k := 9) (n := 12) G rfl e8 dX7_fits_78 ?_
      refine v_iadd G dX7_fits_79 ?_
      refine v_aload_n G dX7_fits_80 rfl 1 rfl ?_
      refine v_getr (lay := layM) (k := 0) (k' := 14) (C := RX7) (T := TX7) (N := 30) G (fun _ h => i_X7_fits_X7 _ h) rfl rfl 18 (by decide) (by decide +kernel) rfl rfl dX7_fits_81 ?_
      refine v_iload G dX7_fits_84 5 rfl ?_
      obtain ⟨t9, e10, h⟩ := Option.bind_eq_some_iff.mp h
      refine v_iald (lay := layM) (k := 14) (n := 12) G rfl e10 dX7_fits_86 ?_
      refine v_icmp_le (tgt := 109) G dX7_fits_87 (by decide) (fun c11 => ?_) (fun c11 => ?_)
      · replace h := (if_pos c11).symm.trans h
        refine v_locs (L' := [(0, .ref (q 0)), (1, .int v1), (2, .int v2), (4, .int v4)]) [1, 2, 3, 5] rfl ?_
        exact w_X7_fits_B109 G K h
      · replace h := (if_neg c11).symm.trans h
        refine v_aload_n G dX7_fits_90 rfl 1 rfl ?_
        refine v_getr (lay := layM) (k := 0) (k' := 14) (C := RX7) (T := TX7) (N := 30) G (fun _ h => i_X7_fits_X7 _ h) rfl rfl 18 (by decide) (by decide +kernel) rfl rfl dX7_fits_91 ?_
        refine v_iload G dX7_fits_94 5 rfl ?_
        obtain ⟨t12, e13, h⟩ := Option.bind_eq_some_iff.mp h
        refine v_iald (lay := layM) (k := 14) (n := 12) G rfl e13 dX7_fits_96 ?_
        refine v_aload_n G dX7_fits_97 rfl 1 rfl ?_
        refine v_getr (lay := layM) (k := 0) (k' := 9) (C := RX7) (T := TX7) (N := 30) G (fun _ h => i_X7_fits_X7 _ h) rfl rfl 13 (by decide) (by decide +kernel) rfl rfl dX7_fits_98 ?_
        refine v_iload G dX7_fits_101 5 rfl ?_
        obtain ⟨t14, e15, h⟩ := Option.bind_eq_some_iff.mp h
        refine v_iald (lay := layM) (k := 9) (n := 12) G rfl e15 dX7_fits_103 ?_
        refine v_iadd G dX7_fits_104 ?_
        refine v_iload_n G dX7_fits_105 rfl 3 rfl ?_
        refine v_icmp_gt (tgt := 113) G dX7_fits_106 (by decide) (fun c16 => ?_) (fun c16 => ?_)
        · replace h := (if_pos c16).symm.trans h
          refine v_locs (L' := [(0, .ref (q 0)), (1, .int v1), (2, .int v2), (4, .int v4)]) [1, 2, 3, 5] rfl ?_
          exact w_X7_fits_B113 G K h
        · replace h := (if_neg c16).symm.trans h
          refine v_locs (L' := [(0, .ref (q 0)), (1, .int v1), (2, .int v2), (4, .int v4)]) [1, 2, 3, 5] rfl ?_
          exact w_X7_fits_B109 G K h
def m_X7_fits_B60 (s : apM) (v1 : Int32) (v2 : Int32) (v3 : Int32) (v4 : Int32) : Option ((Int32 × Int32) ⊕ (Int32 × Int32)) := m_X7_fits_B61 s v1 v2 v3 v4 0
set_option maxHeartbeats 4000000 in
set_option maxRecDepth 100000 in
theorem w_X7_fits_B60 {Γ : apC} {q : Nat → Nat} (G : apG Γ cX7_fits 6 RX7 wsX7_fits (apRm 0 0) apXM) {s : apM} {v1 v2 v3 v4 : Int32} {r : ((Int32 × Int32) ⊕ (Int32 × Int32))} (K : match r with | .inl x => apV Γ 6 (apU layM q (apd Γ) s) 0 0 5 [(0, .ref (q 0)), (1, .int v1), (2, .int v2), (3, .int x.1), (4, .int x.2)] [] | .inr x => apV Γ 6 (apU layM q (apd Γ) s) 0 0 121 [(3, .int x.1)] []) (h : m_X7_fits_B60 s v1 v2 v3 v4 = some r) : apV Γ 6 (apU layM q (apd Γ) s) 0 0 60 [(0, .ref (q 0)), (1, .int v1), (2, .int v2), (3, .int v3), (4, .int v4)] [] := by
  unfold m_X7_fits_B60 at h
  refine v_iconst (v := 0) G dX7_fits_60 (by decide) ?_
  exact w_X7_fits_B61 G K h
def m_X7_fits_L5 (s : apM) (v1 : Int32) (v2 : Int32) : (Int32 × Int32) → Option ((Int32 × Int32) ⊕ (Int32 × Int32)) := fun (v3, v4) => if (s 0 1) ≤ v4 then (some (.inr (v3, v4))) else (Option.bind (ald s 14 12 v4) (fun t2 => if t2 < 0 then (m_X7_fits_B60 s v1 v2 v3 v4) else (Option.bind (ald s 12 12 v4) (fun t17 => Option.bind (ald s 13 12 v1) (fun t19 => if t19 < t17 then (m_X7_fits_B60 s v1 v2 v3 v4) else (Option.bind (ald s 12 12 v1) (fun t22 => Option.bind (ald s 13 12 v4) (fun t24 => if t24 < t22 then (m_X7_fits_B60 s v1 v2 v3 v4) else (m_X7_fits_B61 s v1 v2 v3 v4 1)))))))))
set_option maxHeartbeats 4000000 in
set_option maxRecDepth 100000 in
theorem w_X7_fits_L5 {Γ : apC} {q : Nat → Nat} (G : apG Γ cX7_fits 6 RX7 wsX7_fits (apRm 0 0) apXM) {s : apM} {v1 v2 v3 v4 : Int32} {r : ((Int32 × Int32) ⊕ (Int32 × Int32))} (K : match r with | .inl x => apV Γ 6 (apU layM q (apd Γ) s) 0 0 5 [(0, .ref (q 0)), (1, .int v1), (2, .int v2), (3, .int x.1), (4, .int x.2)] [] | .inr x => apV Γ 6 (apU layM q (apd Γ) s) 0 0 121 [(3, .int x.1)] []) (h : m_X7_fits_L5 s v1 v2 (v3, v4) = some r) : apV Γ 6 (apU layM q (apd Γ) s) 0 0 5 [(0, .ref (q 0)), (1, .int v1), (2, .int v2), (3, .int v3), (4, .int v4)] [] := by
  unfold m_X7_fits_L5 at h
  dsimp only at h
  refine v_iload G dX7_fits_5 4 rfl ?_
  refine v_aload_n G dX7_fits_7 rfl 0 rfl ?_
  refine v_geti (lay := layM) (k := 0) (C := RX7) (T := TX7) (N := 30) G (fun _ h => i_X7_fits_X7 _ h) rfl rfl 1 (by decide) (by decide +kernel) rfl rfl dX7_fits_8 ?_
  refine v_icmp_ge (tgt := 121) G dX7_fits_11 (by decide) (fun c1 => ?_) (fun c1 => ?_)
  · replace h := (if_pos c1).symm.trans h
    cases h
    refine v_locs (L' := [(3, .int v3)]) [3] rfl ?_
    exact K
  · replace h := (if_neg c1).symm.trans h
    refine v_aload_n G dX7_fits_14 rfl 0 rfl ?_
    refine v_getr (lay := layM) (k := 0) (k' := 14) (C := RX7) (T := TX7) (N := 30) G (fun _ h => i_X7_fits_X7 _ h) rfl rfl 18 (by decide) (by decide +kernel) rfl rfl dX7_fits_15 ?_
    refine v_iload G dX7_fits_18 4 rfl ?_
    obtain ⟨t2, e3, h⟩ := Option.bind_eq_some_iff.mp h
    refine v_iald (lay := layM) (k := 14) (n := 12) G rfl e3 dX7_fits_20 ?_
    refine v_if_lt (tgt := 60) G dX7_fits_21 (by decide) (fun c4 => ?_) (fun c4 => ?_)
    · replace h := (if_pos c4).symm.trans h
      exact w_X7_fits_B60 G K h
    · replace h := (if_neg c4).symm.trans h
      refine v_aload_n G dX7_fits_24 rfl 0 rfl ?_
      refine v_getr (lay := layM) (k := 0) (k' := 12) (C := RX7) (T := TX7) (N := 30) G (fun _ h => i_X7_fits_X7 _ h) rfl rfl 16 (by decide) (by decide +kernel) rfl rfl dX7_fits_25 ?_
      refine v_iload G dX7_fits_28 4 rfl ?_
      obtain ⟨t17, e18, h⟩ := Option.bind_eq_some_iff.mp h
      refine v_iald (lay := layM) (k := 12) (n := 12) G rfl e18 dX7_fits_30 ?_
      refine v_aload_n G dX7_fits_31 rfl 0 rfl ?_
      refine v_getr (lay := layM) (k := 0) (k' := 13) (C := RX7) (T := TX7) (N := 30) G (fun _ h => i_X7_fits_X7 _ h) rfl rfl 17 (by decide) (by decide +kernel) rfl rfl dX7_fits_32 ?_
      refine v_iload_n G dX7_fits_35 rfl 1 rfl ?_
      obtain ⟨t19, e20, h⟩ := Option.bind_eq_some_iff.mp h
      refine v_iald (lay := layM) (k := 13) (n := 12) G rfl e20 dX7_fits_36 ?_
      refine v_icmp_gt (tgt := 60) G dX7_fits_37 (by decide) (fun c21 => ?_) (fun c21 => ?_)
      · replace h := (if_pos c21).symm.trans h
        exact w_X7_fits_B60 G K h
      · replace h := (if_neg c21).symm.trans h
        refine v_aload_n G dX7_fits_40 rfl 0 rfl ?_
        refine v_getr (lay := layM) (k := 0) (k' := 12) (C := RX7) (T := TX7) (N := 30) G (fun _ h => i_X7_fits_X7 _ h) rfl rfl 16 (by decide) (by decide +kernel) rfl rfl dX7_fits_41 ?_
        refine v_iload_n G dX7_fits_44 rfl 1 rfl ?_
        obtain ⟨t22, e23, h⟩ := Option.bind_eq_some_iff.mp h
        refine v_iald (lay := layM) (k := 12) (n := 12) G rfl e23 dX7_fits_45 ?_
        refine v_aload_n G dX7_fits_46 rfl 0 rfl ?_
        refine v_getr (lay := layM) (k := 0) (k' := 13) (C := RX7) (T := TX7) (N := 30) G (fun _ h => i_X7_fits_X7 _ h) rfl rfl 17 (by decide) (by decide +kernel) rfl rfl dX7_fits_47 ?_
        refine v_iload G dX7_fits_50 4 rfl ?_
        obtain ⟨t24, e25, h⟩ := Option.bind_eq_some_iff.mp h
        refine v_iald (lay := layM) (k := 13) (n := 12) G rfl e25 dX7_fits_52 ?_
        refine v_icmp_gt (tgt := 60) G dX7_fits_53 (by decide) (fun c26 => ?_) (fun c26 => ?_)
        · replace h := (if_pos c26).symm.trans h
          exact w_X7_fits_B60 G K h
        · replace h := (if_neg c26).symm.trans h
          refine v_iconst (v := 1) G dX7_fits_56 (by decide) ?_
          refine v_goto (tgt := 61) G dX7_fits_57 (by decide) ?_
          exact w_X7_fits_B61 G K h
def m_X7_fits (s : apM) (v1 : Int32) (v2 : Int32) : Option Int32 := Option.bind (lp FU (m_X7_fits_L5 s v1 v2) (1, 0)) (fun x27 => match x27 with | (v29, v30) => Option.bind (bz v29) (fun t31 => some t31))
set_option maxHeartbeats 4000000 in
set_option maxRecDepth 100000 in
theorem w_X7_fits {Γ : apC} {q : Nat → Nat} (G : apG Γ cX7_fits 6 RX7 wsX7_fits (apRm 0 0) apXM) {s : apM} {v1 v2 : Int32} {r : Int32} (K : apR Γ cX7_fits 0 0 (some r) (apU layM q (apd Γ) s)) (h : m_X7_fits s v1 v2 = some r) : apV Γ 6 (apU layM q (apd Γ) s) 0 0 0 [(0, .ref (q 0)), (1, .int v1), (2, .int v2)] [] := by
  unfold m_X7_fits at h
  refine v_iconst (v := 1) G dX7_fits_0 (by decide) ?_
  refine v_istore_n (L' := [(3, .int 1), (0, .ref (q 0)), (1, .int v1), (2, .int v2)]) G dX7_fits_1 rfl (by decide) rfl ?_
  refine v_iconst (v := 0) G dX7_fits_2 (by decide) ?_
  refine v_istore (L' := [(4, .int 0), (3, .int 1), (0, .ref (q 0)), (1, .int v1), (2, .int v2)]) G dX7_fits_3 (by decide) rfl ?_
  obtain ⟨x27, e28, h⟩ := Option.bind_eq_some_iff.mp h
  refine v_locs (L' := [(0, .ref (q 0)), (1, .int v1), (2, .int v2), (3, .int 1), (4, .int 0)]) [2, 3, 4, 1, 0] rfl ?_
  have l33 := v_lp (b := m_X7_fits_L5 s v1 v2) (I := fun x => apV Γ 6 (apU layM q (apd Γ) s) 0 0 5 [(0, .ref (q 0)), (1, .int v1), (2, .int v2), (3, .int x.1), (4, .int x.2)] []) (O := fun x => apV Γ 6 (apU layM q (apd Γ) s) 0 0 121 [(3, .int x.1)] []) (fun x r hb hK => by obtain ⟨y3, y4⟩ := x; rcases r with r | r <;> exact w_X7_fits_L5 G hK hb) FU (1, 0) x27 e28
  obtain ⟨v29, v30⟩ := x27
  dsimp only at h
  refine l33 ?_
  refine v_iload_n G dX7_fits_121 rfl 0 rfl ?_
  obtain ⟨t31, e32, h⟩ := Option.bind_eq_some_iff.mp h
  obtain ⟨e32, -⟩ := bz_some e32
  subst e32
  cases h
  exact v_iret G K (by decide) (by decide) dX7_fits_122
theorem z_X7_fits {s : apM} {v1 v2 : Int32} {r : Int32} (h : m_X7_fits s v1 v2 = some r) : r = 0 ∨ r = 1 := by
  unfold m_X7_fits at h
  obtain ⟨x27, e28, h⟩ := Option.bind_eq_some_iff.mp h
  obtain ⟨v29, v30⟩ := x27
  dsimp only at h
  obtain ⟨t31, e32, h⟩ := Option.bind_eq_some_iff.mp h
  have e32 := (bz_some e32)
  cases h
  rw [← e32.1]; exact e32.2
theorem c_X7_fits (l : Launch) {s : apM} {v1 v2 : Int32} {r : Int32} (h : m_X7_fits s v1 v2 = some r) : apMi l layM apXM yX7_fits wsX7_fits 0 (fun q => [.ref (q 0), .int v1, .int v2]) s r s := apMi_of (cc := cX7_fits) (nL := 6) (r := r) (by decide) rfl (by rcases z_X7_fits h with e | e <;> rw [e] <;> rfl) (fun _ => Nat.le_of_ble_eq_true rfl) (fun Γ q hl G K => w_X7_fits G K h)
