/-! ===== models of methods, and that the bytecode does what they say (by gen.py) ===== -/
theorem i_X6_needPlan_X6 : ∀ w ∈ u_ws RX6 TX6 9, w ∈ wsX6_needPlan := by decide +kernel
theorem a_X6_needPlan_7 : ∀ w ∈ (vx_atS RX6 140 "java/lang/IllegalStateException" ["java/lang/RuntimeException", "java/lang/Exception"]).filter goodWord, w ∈ wsX6_needPlan := by decide +kernel
def m_X6_needPlan (s : apM)  : ((String × apM) ⊕ apM) := if (s 0 6) = 0 then (.inl ("java/lang/IllegalStateException", s)) else (.inr s)
set_option maxHeartbeats 4000000 in
set_option maxRecDepth 100000 in
theorem w_X6_needPlan {Γ : apC} {q : Nat → Nat} (G : apG Γ cX6_needPlan 1 RX6 wsX6_needPlan (apRm 8 1) apXC) (hfl : Γ.1.2.1.stackTraces = false) {s : apM} {r : ((String × apM) ⊕ apM)} (K : (match r with | .inl z => apTh Γ 1 6 z.1 (apU layC q (apd Γ) z.2) | .inr z => apR Γ cX6_needPlan 1 6 none (apU layC q (apd Γ) z))) (h : m_X6_needPlan s = r) : apV Γ 1 (apU layC q (apd Γ) s) 0 0 0 [(0, .ref (q 0))] [] := by
  unfold m_X6_needPlan at h
  refine v_aload_n G dX6_needPlan_0 rfl 0 rfl ?_
  refine v_geti (lay := layC) (k := 0) (C := RX6) (T := TX6) (N := 9) G (fun _ h => i_X6_needPlan_X6 _ h) rfl rfl 6 (by decide) (by decide +kernel) rfl rfl dX6_needPlan_1 ?_
  refine v_if_ne (tgt := 17) G dX6_needPlan_4 (by decide) (fun c1 => ?_) (fun c1 => ?_)
  · replace h := (if_neg c1).symm.trans h
    subst h
    exact v_vret G K (by decide) (by decide) dX6_needPlan_17
  · replace h := (if_pos c1).symm.trans h
    subst h
    exact v_throw (ik := 136) (is := 214) (ic := 140) (cls := "java/lang/IllegalStateException") (text := "there is no plan") (names := ["java/lang/RuntimeException", "java/lang/Exception"]) G hfl K (by decide) (by decide) (by decide +kernel) (by decide +kernel) (by decide +kernel) a_X6_needPlan_7 (by decide +kernel) (by decide +kernel) (by decide) (Nat.le_of_ble_eq_true rfl) (by decide) (by decide) (by decide) dX6_needPlan_7 dX6_needPlan_10 dX6_needPlan_11 dX6_needPlan_13 dX6_needPlan_16
theorem c_X6_needPlan (l : Launch) (hfl : l.stackTraces = false) {s : apM} {r : ((String × apM) ⊕ apM)} (h : m_X6_needPlan s = r) : apXv l layC apXC yX6_needPlan wsX6_needPlan 8 1 (fun q => [.ref (q 0)]) s r := apXv_of (cc := cX6_needPlan) (nL := 1) (by decide) rfl (fun _ => Nat.le_of_ble_eq_true rfl) (fun Γ q hl G K => w_X6_needPlan G (by rw [hl]; exact hfl) K h)
theorem a_X6_needWithin_8 : ∀ w ∈ (vx_atS RX6 222 "java/lang/IndexOutOfBoundsException" ["java/lang/RuntimeException", "java/lang/Exception"]).filter goodWord, w ∈ wsX6_needWithin := by decide +kernel
def m_X6_needWithin (s : apM) (v0 : Int32) (v1 : Int32) : ((String × apM) ⊕ apM) := if (m_X6_isWithin v0 v1) = 0 then (.inl ("java/lang/IndexOutOfBoundsException", s)) else (.inr s)
set_option maxHeartbeats 4000000 in
set_option maxRecDepth 100000 in
theorem w_X6_needWithin {Γ : apC} {q : Nat → Nat} (G : apG Γ cX6_needWithin 2 RX6 wsX6_needWithin (apRm 8 1) apXC) (hfl : Γ.1.2.1.stackTraces = false) {s : apM} {v0 v1 : Int32} {r : ((String × apM) ⊕ apM)} (K : (match r with | .inl z => apTh Γ 1 6 z.1 (apU layC q (apd Γ) z.2) | .inr z => apR Γ cX6_needWithin 1 6 none (apU layC q (apd Γ) z))) (h : m_X6_needWithin s v0 v1 = r) : apV Γ 2 (apU layC q (apd Γ) s) 0 0 0 [(0, .int v0), (1, .int v1)] [] := by
  unfold m_X6_needWithin at h
  refine v_iload_n G dX6_needWithin_0 rfl 0 rfl ?_
  refine v_iload_n G dX6_needWithin_1 rfl 1 rfl ?_
  refine v_calliS (lay := layC) (As := [.int v0, .int v1]) (st := []) (n := 2) G apXCok (c_X6_isWithin Γ.1.2.1 (s := s) rfl) gX6_needWithin_X6_isWithin rfl (by decide +kernel) (by decide) rfl rfl (Nat.le_of_ble_eq_true rfl) (by decide) rfl dX6_needWithin_2 ?_
  refine v_if_ne (tgt := 18) G dX6_needWithin_5 (by decide) (fun c1 => ?_) (fun c1 => ?_)
  · replace h := (if_neg c1).symm.trans h
    subst h
    exact v_vret G K (by decide) (by decide) dX6_needWithin_18
  · replace h := (if_pos c1).symm.trans h
    subst h
    exact v_throw (ik := 218) (is := 220) (ic := 222) (cls := "java/lang/IndexOutOfBoundsException") (text := "no such index") (names := ["java/lang/RuntimeException", "java/lang/Exception"]) G hfl K (by decide) (by decide) (by decide +kernel) (by decide +kernel) (by decide +kernel) a_X6_needWithin_8 (by decide +kernel) (by decide +kernel) (by decide) (Nat.le_of_ble_eq_true rfl) (by decide) (by decide) (by decide) dX6_needWithin_8 dX6_needWithin_11 dX6_needWithin_12 dX6_needWithin_14 dX6_needWithin_17
theorem c_X6_needWithin (l : Launch) (hfl : l.stackTraces = false) {s : apM} {v0 v1 : Int32} {r : ((String × apM) ⊕ apM)} (h : m_X6_needWithin s v0 v1 = r) : apXv l layC apXC yX6_needWithin wsX6_needWithin 8 1 (fun q => [.int v0, .int v1]) s r := apXv_of (cc := cX6_needWithin) (nL := 2) (by decide) rfl (fun _ => Nat.le_of_ble_eq_true rfl) (fun Γ q hl G K => w_X6_needWithin G (by rw [hl]; exact hfl) K h)
theorem i_X6_about_X1 : ∀ w ∈ u_ws RX1 TX1 7, w ∈ wsX6_about := by decide +kernel
theorem i_X6_about_X3 : ∀ w ∈ u_ws RX3 TX3 4, w ∈ wsX6_about := by decide +kernel
theorem i_X6_about_X4 : ∀ w ∈ u_ws RX4 TX4 12, w ∈ wsX6_about := by decide +kernel
theorem i_X6_about_X6 : ∀ w ∈ u_ws RX6 TX6 9, w ∈ wsX6_about := by decide +kernel
def m_X6_about (s : apM) (v1 : Int32) (v2 : Int32) : Option ((String × apM) ⊕ (Int32 × apM)) := match m_X6_needPlan s with | .inl z2 => some (.inl z2) | .inr s3 => match m_X6_needWithin s3 v1 (s3 1 6) with | .inl z6 => some (.inl z6) | .inr s7 => match m_X6_needWithin s7 v2 5 with | .inl z10 => some (.inl z10) | .inr s11 => if v2 = 0 then (Option.bind (ald s11 18 12 v1) (fun t14 => some (.inr (t14, s11)))) else (if v2 = 1 then (Option.bind (ald s11 21 12 v1) (fun t17 => some (.inr (t17, s11)))) else (if v2 = 2 then (Option.bind (ald s11 22 12 v1) (fun t20 => some (.inr (t20, s11)))) else (if v2 = 3 then (Option.bind (ald s11 25 12 v1) (fun t23 => some (.inr (t23, s11)))) else (Option.bind (ald s11 19 12 v1) (fun t25 => some (.inr (t25, s11)))))))
set_option maxHeartbeats 4000000 in
set_option maxRecDepth 100000 in
theorem w_X6_about {Γ : apC} {q : Nat → Nat} (G : apG Γ cX6_about 3 RX6 wsX6_about (apRm 9 3) apXC) (hfl : Γ.1.2.1.stackTraces = false) {s : apM} {v1 v2 : Int32} {r : ((String × apM) ⊕ (Int32 × apM))} (K : (match r with | .inl z => apTh Γ 3 18 z.1 (apU layC q (apd Γ) z.2) | .inr z => apR Γ cX6_about 3 18 (some z.1) (apU layC q (apd Γ) z.2))) (h : m_X6_about s v1 v2 = some r) : apV Γ 3 (apU layC q (apd Γ) s) 0 0 0 [(0, .ref (q 0)), (1, .int v1), (2, .int v2)] [] := by
  unfold m_X6_about at h
  refine v_aload_n G dX6_about_0 rfl 0 rfl ?_
  rcases e4 : m_X6_needPlan s with z2 | s3
  all_goals rw [e4] at h
  all_goals dsimp only at h
  · cases h
    exact v_xvV_t (lay := layC) (As := []) (st := []) (n := 0) (C := RX6) (T := TX6) (k0 := 0) G apXCok (c_X6_needPlan Γ.1.2.1 hfl e4) gX6_about_X6_needPlan rfl (by decide +kernel) (by decide) rfl rfl rfl rfl (Nat.le_of_ble_eq_true rfl) (by decide) rfl (by decide) dX6_about_1 K
  · refine v_xvV (lay := layC) (As := []) (st := []) (n := 0) (C := RX6) (T := TX6) (k0 := 0) G apXCok (c_X6_needPlan Γ.1.2.1 hfl e4) gX6_about_X6_needPlan rfl (by decide +kernel) (by decide) rfl rfl rfl rfl (Nat.le_of_ble_eq_true rfl) (by decide) rfl dX6_about_1 ?_
    refine v_iload_n G dX6_about_4 rfl 1 rfl ?_
    refine v_aload_n G dX6_about_5 rfl 0 rfl ?_
    refine v_getr (lay := layC) (k := 0) (k' := 1) (C := RX6) (T := TX6) (N := 9) G (fun _ h => i_X6_about_X6 _ h) rfl rfl 0 (by decide) (by decide +kernel) rfl rfl dX6_about_6 ?_
    refine v_geti (lay := layC) (k := 1) (C := RX1) (T := TX1) (N := 7) G (fun _ h => i_X6_about_X1 _ h) rfl rfl 6 (by decide) (by decide +kernel) rfl rfl dX6_about_9 ?_
    rcases e8 : m_X6_needWithin s3 v1 (s3 1 6) with z6 | s7
    all_goals rw [e8] at h
    all_goals dsimp only at h
    · cases h
      exact v_xvS_t (lay := layC) (As := [.int v1, .int (s3 1 6)]) (st := []) (n := 2) G apXCok (c_X6_needWithin Γ.1.2.1 hfl e8) gX6_about_X6_needWithin rfl (by decide +kernel) (by decide) rfl rfl (Nat.le_of_ble_eq_true rfl) (by decide) rfl (by decide) dX6_about_12 K
    · refine v_xvS (lay := layC) (As := [.int v1, .int (s3 1 6)]) (st := []) (n := 2) G apXCok (c_X6_needWithin Γ.1.2.1 hfl e8) gX6_about_X6_needWithin rfl (by decide +kernel) (by decide) rfl rfl (Nat.le_of_ble_eq_true rfl) (by decide) rfl dX6_about_12 ?_
      refine v_iload_n G dX6_about_15 rfl 2 rfl ?_
      refine v_iconst (v := 5) G dX6_about_16 (by decide) ?_
      rcases e12 : m_X6_needWithin s7 v2 5 with z10 | s11
      all_goals rw [e12] at h
      all_goals dsimp only at h
      · cases h
        exact v_xvS_t (lay := layC) (As := [.int v2, .int 5]) (st := []) (n := 2) G apXCok (c_X6_needWithin Γ.1.2.1 hfl e12) gX6_about_X6_needWithin rfl (by decide +kernel) (by decide) rfl rfl (Nat.le_of_ble_eq_true rfl) (by decide) rfl (by decide) dX6_about_17 K
      · refine v_xvS (lay := layC) (As := [.int v2, .int 5]) (st := []) (n := 2) G apXCok (c_X6_needWithin Γ.1.2.1 hfl e12) gX6_about_X6_needWithin rfl (by decide +kernel) (by decide) rfl rfl (Nat.le_of_ble_eq_true rfl) (by decide) rfl dX6_about_17 ?_
        refine v_iload_n G dX6_about_20 rfl 2 rfl ?_
        by_cases c13 : v2 = 0
        · replace h := (if_pos c13).symm.trans h
          refine v_tableI (c := 0) (tgt := 52) G dX6_about_21 c13 (by decide) (by decide) rfl (by decide) ?_
          refine v_aload_n G dX6_about_52 rfl 0 rfl ?_
          refine v_getr (lay := layC) (k := 0) (k' := 3) (C := RX6) (T := TX6) (N := 9) G (fun _ h => i_X6_about_X6 _ h) rfl rfl 2 (by decide) (by decide +kernel) rfl rfl dX6_about_53 ?_
          refine v_getr (lay := layC) (k := 3) (k' := 18) (C := RX4) (T := TX4) (N := 12) G (fun _ h => i_X6_about_X4 _ h) rfl rfl 3 (by decide) (by decide +kernel) rfl rfl dX6_about_56 ?_
          refine v_iload_n G dX6_about_59 rfl 1 rfl ?_
          obtain ⟨t14, e15, h⟩ := Option.bind_eq_some_iff.mp h
          refine v_iald (lay := layC) (k := 18) (n := 12) G rfl e15 dX6_about_60 ?_
          cases h
          exact v_iret G K (by decide) (by decide) dX6_about_61
        · replace h := (if_neg c13).symm.trans h
          by_cases c16 : v2 = 1
          · replace h := (if_pos c16).symm.trans h
            refine v_tableI (c := 1) (tgt := 62) G dX6_about_21 c16 (by decide) (by decide) rfl (by decide) ?_
            refine v_aload_n G dX6_about_62 rfl 0 rfl ?_
            refine v_getr (lay := layC) (k := 0) (k' := 3) (C := RX6) (T := TX6) (N := 9) G (fun _ h => i_X6_about_X6 _ h) rfl rfl 2 (by decide) (by decide +kernel) rfl rfl dX6_about_63 ?_
            refine v_getr (lay := layC) (k := 3) (k' := 21) (C := RX4) (T := TX4) (N := 12) G (fun _ h => i_X6_about_X4 _ h) rfl rfl 6 (by decide) (by decide +kernel) rfl rfl dX6_about_66 ?_
            refine v_iload_n G dX6_about_69 rfl 1 rfl ?_
            obtain ⟨t17, e18, h⟩ := Option.bind_eq_some_iff.mp h
            refine v_iald (lay := layC) (k := 21) (n := 12) G rfl e18 dX6_about_70 ?_
            cases h
            exact v_iret G K (by decide) (by decide) dX6_about_71
          · replace h := (if_neg c16).symm.trans h
            by_cases c19 : v2 = 2
            · replace h := (if_pos c19).symm.trans h
              refine v_tableI (c := 2) (tgt := 72) G dX6_about_21 c19 (by decide) (by decide) rfl (by decide) ?_
              refine v_aload_n G dX6_about_72 rfl 0 rfl ?_
              refine v_getr (lay := layC) (k := 0) (k' := 3) (C := RX6) (T := TX6) (N := 9) G (fun _ h => i_X6_about_X6 _ h) rfl rfl 2 (by decide) (by decide +kernel) rfl rfl dX6_about_73 ?_
              refine v_getr (lay := layC) (k := 3) (k' := 22) (C := RX4) (T := TX4) (N := 12) G (fun _ h => i_X6_about_X4 _ h) rfl rfl 7 (by decide) (by decide +kernel) rfl rfl dX6_about_76 ?_
              refine v_iload_n G dX6_about_79 rfl 1 rfl ?_
              obtain ⟨t20, e21, h⟩ := Option.bind_eq_some_iff.mp h
              refine v_iald (lay := layC) (k := 22) (n := 12) G rfl e21 dX6_about_80 ?_
              cases h
              exact v_iret G K (by decide) (by decide) dX6_about_81
            · replace h := (if_neg c19).symm.trans h
              by_cases c22 : v2 = 3
              · replace h := (if_pos c22).symm.trans h
                refine v_tableI (c := 3) (tgt := 82) G dX6_about_21 c22 (by decide) (by decide) rfl (by decide) ?_
                refine v_aload_n G dX6_about_82 rfl 0 rfl ?_
                refine v_getr (lay := layC) (k := 0) (k' := 4) (C := RX6) (T := TX6) (N := 9) G (fun _ h => i_X6_about_X6 _ h) rfl rfl 3 (by decide) (by decide +kernel) rfl rfl dX6_about_83 ?_
                refine v_getr (lay := layC) (k := 4) (k' := 25) (C := RX3) (T := TX3) (N := 4) G (fun _ h => i_X6_about_X3 _ h) rfl rfl 2 (by decide) (by decide +kernel) rfl rfl dX6_about_86 ?_
                refine v_iload_n G dX6_about_89 rfl 1 rfl ?_
                obtain ⟨t23, e24, h⟩ := Option.bind_eq_some_iff.mp h
                refine v_iald (lay := layC) (k := 25) (n := 12) G rfl e24 dX6_about_90 ?_
                cases h
                exact v_iret G K (by decide) (by decide) dX6_about_91
              · replace h := (if_neg c22).symm.trans h
                refine v_tableOut (tgt := 92) G dX6_about_21 (by have a0 := lv_neT c13 (show (0 : Int32).toInt = 0 by decide); have a1 := lv_neT c16 (show (1 : Int32).toInt = 1 by decide); have a2 := lv_neT c19 (show (2 : Int32).toInt = 2 by decide); have a3 := lv_neT c22 (show (3 : Int32).toInt = 3 by decide); omega) (by decide) ?_
                refine v_aload_n G dX6_about_92 rfl 0 rfl ?_
                refine v_getr (lay := layC) (k := 0) (k' := 3) (C := RX6) (T := TX6) (N := 9) G (fun _ h => i_X6_about_X6 _ h) rfl rfl 2 (by decide) (by decide +kernel) rfl rfl dX6_about_93 ?_
                refine v_getr (lay := layC) (k := 3) (k' := 19) (C := RX4) (T := TX4) (N := 12) G (fun _ h => i_X6_about_X4 _ h) rfl rfl 4 (by decide) (by decide +kernel) rfl rfl dX6_about_96 ?_
                refine v_iload_n G dX6_about_99 rfl 1 rfl ?_
                obtain ⟨t25, e26, h⟩ := Option.bind_eq_some_iff.mp h
                refine v_iald (lay := layC) (k := 19) (n := 12) G rfl e26 dX6_about_100 ?_
                cases h
                exact v_iret G K (by decide) (by decide) dX6_about_101
theorem c_X6_about (l : Launch) (hfl : l.stackTraces = false) {s : apM} {v1 v2 : Int32} {r : ((String × apM) ⊕ (Int32 × apM))} (h : m_X6_about s v1 v2 = some r) : apXi l layC apXC yX6_about wsX6_about 9 3 (fun q => [.ref (q 0), .int v1, .int v2]) s r := apXi_of (cc := cX6_about) (nL := 3) (by decide) rfl (fun _ => Nat.le_of_ble_eq_true rfl) (fun Γ q hl G K => w_X6_about G (by rw [hl]; exact hfl) K h)
theorem i_X6_needRun_X6 : ∀ w ∈ u_ws RX6 TX6 9, w ∈ wsX6_needRun := by decide +kernel
theorem a_X6_needRun_11 : ∀ w ∈ (vx_atS RX6 140 "java/lang/IllegalStateException" ["java/lang/RuntimeException", "java/lang/Exception"]).filter goodWord, w ∈ wsX6_needRun := by decide +kernel
def m_X6_needRun (s : apM)  : ((String × apM) ⊕ apM) := match m_X6_needPlan s with | .inl z2 => .inl z2 | .inr s3 => if (s3 0 7) = 0 then (.inl ("java/lang/IllegalStateException", s3)) else (.inr s3)
set_option maxHeartbeats 4000000 in
set_option maxRecDepth 100000 in
theorem w_X6_needRun {Γ : apC} {q : Nat → Nat} (G : apG Γ cX6_needRun 1 RX6 wsX6_needRun (apRm 9 2) apXC) (hfl : Γ.1.2.1.stackTraces = false) {s : apM} {r : ((String × apM) ⊕ apM)} (K : (match r with | .inl z => apTh Γ 2 12 z.1 (apU layC q (apd Γ) z.2) | .inr z => apR Γ cX6_needRun 2 12 none (apU layC q (apd Γ) z))) (h : m_X6_needRun s = r) : apV Γ 1 (apU layC q (apd Γ) s) 0 0 0 [(0, .ref (q 0))] [] := by
  unfold m_X6_needRun at h
  refine v_aload_n G dX6_needRun_0 rfl 0 rfl ?_
  rcases e4 : m_X6_needPlan s with z2 | s3
  all_goals rw [e4] at h
  all_goals dsimp only at h
  · subst h
    exact v_xvV_t (lay := layC) (As := []) (st := []) (n := 0) (C := RX6) (T := TX6) (k0 := 0) G apXCok (c_X6_needPlan Γ.1.2.1 hfl e4) gX6_needRun_X6_needPlan rfl (by decide +kernel) (by decide) rfl rfl rfl rfl (Nat.le_of_ble_eq_true rfl) (by decide) rfl (by decide) dX6_needRun_1 K
  · refine v_xvV (lay := layC) (As := []) (st := []) (n := 0) (C := RX6) (T := TX6) (k0 := 0) G apXCok (c_X6_needPlan Γ.1.2.1 hfl e4) gX6_needRun_X6_needPlan rfl (by decide +kernel) (by decide) rfl rfl rfl rfl (Nat.le_of_ble_eq_true rfl) (by decide) rfl dX6_needRun_1 ?_
    refine v_aload_n G dX6_needRun_4 rfl 0 rfl ?_
    refine v_geti (lay := layC) (k := 0) (C := RX6) (T := TX6) (N := 9) G (fun _ h => i_X6_needRun_X6 _ h) rfl rfl 7 (by decide) (by decide +kernel) rfl rfl dX6_needRun_5 ?_
    refine v_if_ne (tgt := 21) G dX6_needRun_8 (by decide) (fun c5 => ?_) (fun c5 => ?_)
    · replace h := (if_neg c5).symm.trans h
      subst h
      exact v_vret G K (by decide) (by decide) dX6_needRun_21
    · replace h := (if_pos c5).symm.trans h
      subst h
      exact v_throw (ik := 136) (is := 216) (ic := 140) (cls := "java/lang/IllegalStateException") (text := "the plan was not run") (names := ["java/lang/RuntimeException", "java/lang/Exception"]) G hfl K (by decide) (by decide) (by decide +kernel) (by decide +kernel) (by decide +kernel) a_X6_needRun_11 (by decide +kernel) (by decide +kernel) (by decide) (Nat.le_of_ble_eq_true rfl) (by decide) (by decide) (by decide) dX6_needRun_11 dX6_needRun_14 dX6_needRun_15 dX6_needRun_17 dX6_needRun_20
theorem c_X6_needRun (l : Launch) (hfl : l.stackTraces = false) {s : apM} {r : ((String × apM) ⊕ apM)} (h : m_X6_needRun s = r) : apXv l layC apXC yX6_needRun wsX6_needRun 9 2 (fun q => [.ref (q 0)]) s r := apXv_of (cc := cX6_needRun) (nL := 1) (by decide) rfl (fun _ => Nat.le_of_ble_eq_true rfl) (fun Γ q hl G K => w_X6_needRun G (by rw [hl]; exact hfl) K h)
theorem i_X6_cell_X0 : ∀ w ∈ u_ws RX0 TX0 4, w ∈ wsX6_cell := by decide +kernel
theorem i_X6_cell_X3 : ∀ w ∈ u_ws RX3 TX3 4, w ∈ wsX6_cell := by decide +kernel
theorem i_X6_cell_X6 : ∀ w ∈ u_ws RX6 TX6 9, w ∈ wsX6_cell := by decide +kernel
def m_X6_cell (s : apM) (v1 : Int32) : Option ((String × apM) ⊕ (Int32 × apM)) := match m_X6_needRun s with | .inl z2 => some (.inl z2) | .inr s3 => match m_X6_needWithin s3 v1 (s3 4 3) with | .inl z6 => some (.inl z6) | .inr s7 => Option.bind (ald s7 26 480 v1) (fun t9 => some (.inr (t9, s7)))
set_option maxHeartbeats 4000000 in
set_option maxRecDepth 100000 in
theorem w_X6_cell {Γ : apC} {q : Nat → Nat} (G : apG Γ cX6_cell 2 RX6 wsX6_cell (apRm 10 3) apXC) (hfl : Γ.1.2.1.stackTraces = false) {s : apM} {v1 : Int32} {r : ((String × apM) ⊕ (Int32 × apM))} (K : (match r with | .inl z => apTh Γ 3 18 z.1 (apU layC q (apd Γ) z.2) | .inr z => apR Γ cX6_cell 3 18 (some z.1) (apU layC q (apd Γ) z.2))) (h : m_X6_cell s v1 = some r) : apV Γ 2 (apU layC q (apd Γ) s) 0 0 0 [(0, .ref (q 0)), (1, .int v1)] [] := by
  unfold m_X6_cell at h
  refine v_aload_n G dX6_cell_0 rfl 0 rfl ?_
  rcases e4 : m_X6_needRun s with z2 | s3
  all_goals rw [e4] at h
  all_goals dsimp only at h
  · cases h
    exact v_xvV_t (lay := layC) (As := []) (st := []) (n := 0) (C := RX6) (T := TX6) (k0 := 0) G apXCok (c_X6_needRun Γ.1.2.1 hfl e4) gX6_cell_X6_needRun rfl (by decide +kernel) (by decide) rfl rfl rfl rfl (Nat.le_of_ble_eq_true rfl) (by decide) rfl (by decide) dX6_cell_1 K
  · refine v_xvV (lay := layC) (As := []) (st := []) (n := 0) (C := RX6) (T := TX6) (k0 := 0) G apXCok (c_X6_needRun Γ.1.2.1 hfl e4) gX6_cell_X6_needRun rfl (by decide +kernel) (by decide) rfl rfl rfl rfl (Nat.le_of_ble_eq_true rfl) (by decide) rfl dX6_cell_1 ?_
    refine v_iload_n G dX6_cell_4 rfl 1 rfl ?_
    refine v_aload_n G dX6_cell_5 rfl 0 rfl ?_
    refine v_getr (lay := layC) (k := 0) (k' := 4) (C := RX6) (T := TX6) (N := 9) G (fun _ h => i_X6_cell_X6 _ h) rfl rfl 3 (by decide) (by decide +kernel) rfl rfl dX6_cell_6 ?_
    refine v_geti (lay := layC) (k := 4) (C := RX3) (T := TX3) (N := 4) G (fun _ h => i_X6_cell_X3 _ h) rfl rfl 3 (by decide) (by decide +kernel) rfl rfl dX6_cell_9 ?_
    rcases e8 : m_X6_needWithin s3 v1 (s3 4 3) with z6 | s7
    all_goals rw [e8] at h
    all_goals dsimp only at h
    · cases h
      exact v_xvS_t (lay := layC) (As := [.int v1, .int (s3 4 3)]) (st := []) (n := 2) G apXCok (c_X6_needWithin Γ.1.2.1 hfl e8) gX6_cell_X6_needWithin rfl (by decide +kernel) (by decide) rfl rfl (Nat.le_of_ble_eq_true rfl) (by decide) rfl (by decide) dX6_cell_12 K
    · refine v_xvS (lay := layC) (As := [.int v1, .int (s3 4 3)]) (st := []) (n := 2) G apXCok (c_X6_needWithin Γ.1.2.1 hfl e8) gX6_cell_X6_needWithin rfl (by decide +kernel) (by decide) rfl rfl (Nat.le_of_ble_eq_true rfl) (by decide) rfl dX6_cell_12 ?_
      refine v_aload_n G dX6_cell_15 rfl 0 rfl ?_
      refine v_getr (lay := layC) (k := 0) (k' := 5) (C := RX6) (T := TX6) (N := 9) G (fun _ h => i_X6_cell_X6 _ h) rfl rfl 4 (by decide) (by decide +kernel) rfl rfl dX6_cell_16 ?_
      refine v_getr (lay := layC) (k := 5) (k' := 26) (C := RX0) (T := TX0) (N := 4) G (fun _ h => i_X6_cell_X0 _ h) rfl rfl 3 (by decide) (by decide +kernel) rfl rfl dX6_cell_19 ?_
      refine v_iload_n G dX6_cell_22 rfl 1 rfl ?_
      obtain ⟨t9, e10, h⟩ := Option.bind_eq_some_iff.mp h
      refine v_iald (lay := layC) (k := 26) (n := 480) G rfl e10 dX6_cell_23 ?_
      cases h
      exact v_iret G K (by decide) (by decide) dX6_cell_24
theorem c_X6_cell (l : Launch) (hfl : l.stackTraces = false) {s : apM} {v1 : Int32} {r : ((String × apM) ⊕ (Int32 × apM))} (h : m_X6_cell s v1 = some r) : apXi l layC apXC yX6_cell wsX6_cell 10 3 (fun q => [.ref (q 0), .int v1]) s r := apXi_of (cc := cX6_cell) (nL := 2) (by decide) rfl (fun _ => Nat.le_of_ble_eq_true rfl) (fun Γ q hl G K => w_X6_cell G (by rw [hl]; exact hfl) K h)
theorem i_X6_cost_X1 : ∀ w ∈ u_ws RX1 TX1 7, w ∈ wsX6_cost := by decide +kernel
theorem i_X6_cost_X4 : ∀ w ∈ u_ws RX4 TX4 12, w ∈ wsX6_cost := by decide +kernel
theorem i_X6_cost_X6 : ∀ w ∈ u_ws RX6 TX6 9, w ∈ wsX6_cost := by decide +kernel
def m_X6_cost (s : apM) (v1 : Int32) : Option ((String × apM) ⊕ (Int32 × apM)) := match m_X6_needPlan s with | .inl z2 => some (.inl z2) | .inr s3 => match m_X6_needWithin s3 v1 (s3 1 6) with | .inl z6 => some (.inl z6) | .inr s7 => Option.bind (ald s7 23 12 v1) (fun t9 => some (.inr (t9, s7)))
set_option maxHeartbeats 4000000 in
set_option maxRecDepth 100000 in
theorem w_X6_cost {Γ : apC} {q : Nat → Nat} (G : apG Γ cX6_cost 2 RX6 wsX6_cost (apRm 9 2) apXC) (hfl : Γ.1.2.1.stackTraces = false) {s : apM} {v1 : Int32} {r : ((String × apM) ⊕ (Int32 × apM))} (K : (match r with | .inl z => apTh Γ 2 12 z.1 (apU layC q (apd Γ) z.2) | .inr z => apR Γ cX6_cost 2 12 (some z.1) (apU layC q (apd Γ) z.2))) (h : m_X6_cost s v1 = some r) : apV Γ 2 (apU layC q (apd Γ) s) 0 0 0 [(0, .ref (q 0)), (1, .int v1)] [] := by
  unfold m_X6_cost at h
  refine v_aload_n G dX6_cost_0 rfl 0 rfl ?_
  rcases e4 : m_X6_needPlan s with z2 | s3
  all_goals rw [e4] at h
  all_goals dsimp only at h
  · cases h
    exact v_xvV_t (lay := layC) (As := []) (st := []) (n := 0) (C := RX6) (T := TX6) (k0 := 0) G apXCok (c_X6_needPlan Γ.1.2.1 hfl e4) gX6_cost_X6_needPlan rfl (by decide +kernel) (by decide) rfl rfl rfl rfl (Nat.le_of_ble_eq_true rfl) (by decide) rfl (by decide) dX6_cost_1 K
  · refine v_xvV (lay := layC) (As := []) (st := []) (n := 0) (C := RX6) (T := TX6) (k0 := 0) G apXCok (c_X6_needPlan Γ.1.2.1 hfl e4) gX6_cost_X6_needPlan rfl (by decide +kernel) (by decide) rfl rfl rfl rfl (Nat.le_of_ble_eq_true rfl) (by decide) rfl dX6_cost_1 ?_
    refine v_iload_n G dX6_cost_4 rfl 1 rfl ?_
    refine v_aload_n G dX6_cost_5 rfl 0 rfl ?_
    refine v_getr (lay := layC) (k := 0) (k' := 1) (C := RX6) (T := TX6) (N := 9) G (fun _ h => i_X6_cost_X6 _ h) rfl rfl 0 (by decide) (by decide +kernel) rfl rfl dX6_cost_6 ?_
    refine v_geti (lay := layC) (k := 1) (C := RX1) (T := TX1) (N := 7) G (fun _ h => i_X6_cost_X1 _ h) rfl rfl 6 (by decide) (by decide +kernel) rfl rfl dX6_cost_9 ?_
    rcases e8 : m_X6_needWithin s3 v1 (s3 1 6) with z6 | s7
    all_goals rw [e8] at h
    all_goals dsimp only at h
    · cases h
      exact v_xvS_t (lay := layC) (As := [.int v1, .int (s3 1 6)]) (st := []) (n := 2) G apXCok (c_X6_needWithin Γ.1.2.1 hfl e8) gX6_cost_X6_needWithin rfl (by decide +kernel) (by decide) rfl rfl (Nat.le_of_ble_eq_true rfl) (by decide) rfl (by decide) dX6_cost_12 K
    · refine v_xvS (lay := layC) (As := [.int v1, .int (s3 1 6)]) (st := []) (n := 2) G apXCok (c_X6_needWithin Γ.1.2.1 hfl e8) gX6_cost_X6_needWithin rfl (by decide +kernel) (by decide) rfl rfl (Nat.le_of_ble_eq_true rfl) (by decide) rfl dX6_cost_12 ?_
      refine v_aload_n G dX6_cost_15 rfl 0 rfl ?_
      refine v_getr (lay := layC) (k := 0) (k' := 3) (C := RX6) (T := TX6) (N := 9) G (fun _ h => i_X6_cost_X6 _ h) rfl rfl 2 (by decide) (by decide +kernel) rfl rfl dX6_cost_16 ?_
      refine v_getr (lay := layC) (k := 3) (k' := 23) (C := RX4) (T := TX4) (N := 12) G (fun _ h => i_X6_cost_X4 _ h) rfl rfl 8 (by decide) (by decide +kernel) rfl rfl dX6_cost_19 ?_
      refine v_iload_n G dX6_cost_22 rfl 1 rfl ?_
      obtain ⟨t9, e10, h⟩ := Option.bind_eq_some_iff.mp h
      refine v_iald (lay := layC) (k := 23) (n := 12) G rfl e10 dX6_cost_23 ?_
      cases h
      exact v_iret G K (by decide) (by decide) dX6_cost_24
theorem c_X6_cost (l : Launch) (hfl : l.stackTraces = false) {s : apM} {v1 : Int32} {r : ((String × apM) ⊕ (Int32 × apM))} (h : m_X6_cost s v1 = some r) : apXi l layC apXC yX6_cost wsX6_cost 9 2 (fun q => [.ref (q 0), .int v1]) s r := apXi_of (cc := cX6_cost) (nL := 2) (by decide) rfl (fun _ => Nat.le_of_ble_eq_true rfl) (fun Γ q hl G K => w_X6_cost G (by rw [hl]; exact hfl) K h)
theorem i_X6_forgetPlan_X6 : ∀ w ∈ u_ws RX6 TX6 9, w ∈ wsX6_forgetPlan := by decide +kernel
def m_X6_forgetPlan (s : apM)  : apM := mst s 0 6 0
set_option maxHeartbeats 4000000 in
set_option maxRecDepth 100000 in
theorem w_X6_forgetPlan {Γ : apC} {q : Nat → Nat} (G : apG Γ cX6_forgetPlan 1 RX6 wsX6_forgetPlan (apRm 0 0) apXC) {s : apM} {r : apM} (K : apR Γ cX6_forgetPlan 0 0 none (apU layC q (apd Γ) r)) (h : m_X6_forgetPlan s = r) : apV Γ 1 (apU layC q (apd Γ) s) 0 0 0 [(0, .ref (q 0))] [] := by
  unfold m_X6_forgetPlan at h
  refine v_aload_n G dX6_forgetPlan_0 rfl 0 rfl ?_
  refine v_iconst (v := 0) G dX6_forgetPlan_1 (by decide) ?_
  refine v_put (lay := layC) (k := 0) (C := RX6) (T := TX6) (N := 9) G (fun _ h => i_X6_forgetPlan_X6 _ h) tyX6 tyX6_ok nmX6 rfl rfl 6 (by decide) (by decide +kernel) rfl rfl (by first | rfl | decide) (by first | rfl | decide) rfl dX6_forgetPlan_2 ?_
  subst h
  exact v_vret G K (by decide) (by decide) dX6_forgetPlan_5
theorem c_X6_forgetPlan (l : Launch) {s : apM} {r : apM} (h : m_X6_forgetPlan s = r) : apMv l layC apXC yX6_forgetPlan wsX6_forgetPlan 0 (fun q => [.ref (q 0)]) s r := apMv_of (cc := cX6_forgetPlan) (nL := 1) (by decide) rfl (fun _ => Nat.le_of_ble_eq_true rfl) (fun Γ q hl G K => w_X6_forgetPlan G K h)
theorem i_X6_give_X1 : ∀ w ∈ u_ws RX1 TX1 7, w ∈ wsX6_give := by decide +kernel
theorem i_X6_give_X6 : ∀ w ∈ u_ws RX6 TX6 9, w ∈ wsX6_give := by decide +kernel
def m_X6_give (s : apM) (v1 : Int32) (v2 : Int32) (v3 : Int32) : Option (Int32 × apM) := if (m_X1_has s v1) = 0 then (some (0, s)) else (Option.bind (ald s 7 12 v1) (fun t2 => if t2 = 0 then (Option.bind (ald s 8 12 v1) (fun t5 => if (m_X6_isWithin v2 t5) = 0 then (some (0, s)) else (Option.bind (rix 12 v1) (fun j8 => Option.bind (ast s (29 + j8) 16 v2 v3) (fun s10 => some (1, s10)))))) else (some (0, s))))
set_option maxHeartbeats 4000000 in
set_option maxRecDepth 100000 in
theorem w_X6_give {Γ : apC} {q : Nat → Nat} (G : apG Γ cX6_give 4 RX6 wsX6_give (apRm 2 0) apXC) {s : apM} {v1 v2 v3 : Int32} {r : (Int32 × apM)} (K : apR Γ cX6_give 0 0 (some r.1) (apU layC q (apd Γ) r.2)) (h : m_X6_give s v1 v2 v3 = some r) : apV Γ 4 (apU layC q (apd Γ) s) 0 0 0 [(0, .ref (q 0)), (1, .int v1), (2, .int v2), (3, .int v3)] [] := by
  unfold m_X6_give at h
  refine v_aload_n G dX6_give_0 rfl 0 rfl ?_
  refine v_getr (lay := layC) (k := 0) (k' := 1) (C := RX6) (T := TX6) (N := 9) G (fun _ h => i_X6_give_X6 _ h) rfl rfl 0 (by decide) (by decide +kernel) rfl rfl dX6_give_1 ?_
  refine v_iload_n G dX6_give_4 rfl 1 rfl ?_
  refine v_calliV (lay := layC) (As := [.int v1]) (st := []) (n := 1) (C := RX1) (T := TX1) (k0 := 1) G apXCok (c_X1_has Γ.1.2.1 (s := s) rfl) gX6_give_X1_has rfl (by decide +kernel) (by decide) rfl rfl rfl rfl (Nat.le_of_ble_eq_true rfl) (by decide) rfl dX6_give_5 ?_
  refine v_if_eq (tgt := 39) G dX6_give_8 (by decide) (fun c1 => ?_) (fun c1 => ?_)
  · replace h := (if_pos c1).symm.trans h
    refine v_iconst (v := 0) G dX6_give_39 (by decide) ?_
    cases h
    exact v_iret G K (by decide) (by decide) dX6_give_40
  · replace h := (if_neg c1).symm.trans h
    refine v_aload_n G dX6_give_11 rfl 0 rfl ?_
    refine v_getr (lay := layC) (k := 0) (k' := 1) (C := RX6) (T := TX6) (N := 9) G (fun _ h => i_X6_give_X6 _ h) rfl rfl 0 (by decide) (by decide +kernel) rfl rfl dX6_give_12 ?_
    refine v_getr (lay := layC) (k := 1) (k' := 7) (C := RX1) (T := TX1) (N := 7) G (fun _ h => i_X6_give_X1 _ h) rfl rfl 0 (by decide) (by decide +kernel) rfl rfl dX6_give_15 ?_
    refine v_iload_n G dX6_give_18 rfl 1 rfl ?_
    obtain ⟨t2, e3, h⟩ := Option.bind_eq_some_iff.mp h
    refine v_iald (lay := layC) (k := 7) (n := 12) G rfl e3 dX6_give_19 ?_
    refine v_if_ne (tgt := 39) G dX6_give_20 (by decide) (fun c4 => ?_) (fun c4 => ?_)
    · replace h := (if_neg c4).symm.trans h
      refine v_iconst (v := 0) G dX6_give_39 (by decide) ?_
      cases h
      exact v_iret G K (by decide) (by decide) dX6_give_40
    · replace h := (if_pos c4).symm.trans h
      refine v_iload_n G dX6_give_23 rfl 2 rfl ?_
      refine v_aload_n G dX6_give_24 rfl 0 rfl ?_
      refine v_getr (lay := layC) (k := 0) (k' := 1) (C := RX6) (T := TX6) (N := 9) G (fun _ h => i_X6_give_X6 _ h) rfl rfl 0 (by decide) (by decide +kernel) rfl rfl dX6_give_25 ?_
      refine v_getr (lay := layC) (k := 1) (k' := 8) (C := RX1) (T := TX1) (N := 7) G (fun _ h => i_X6_give_X1 _ h) rfl rfl 1 (by decide) (by decide +kernel) rfl rfl dX6_give_28 ?_
      refine v_iload_n G dX6_give_31 rfl 1 rfl ?_
      obtain ⟨t5, e6, h⟩ := Option.bind_eq_some_iff.mp h
      refine v_iald (lay := layC) (k := 8) (n := 12) G rfl e6 dX6_give_32 ?_
      refine v_calliS (lay := layC) (As := [.int v2, .int t5]) (st := []) (n := 2) G apXCok (c_X6_isWithin Γ.1.2.1 (s := s) rfl) gX6_give_X6_isWithin rfl (by decide +kernel) (by decide) rfl rfl (Nat.le_of_ble_eq_true rfl) (by decide) rfl dX6_give_33 ?_
      refine v_if_ne (tgt := 41) G dX6_give_36 (by decide) (fun c7 => ?_) (fun c7 => ?_)
      · replace h := (if_neg c7).symm.trans h
        refine v_aload_n G dX6_give_41 rfl 0 rfl ?_
        refine v_getr (lay := layC) (k := 0) (k' := 1) (C := RX6) (T := TX6) (N := 9) G (fun _ h => i_X6_give_X6 _ h) rfl rfl 0 (by decide) (by decide +kernel) rfl rfl dX6_give_42 ?_
        refine v_getr (lay := layC) (k := 1) (k' := 10) (C := RX1) (T := TX1) (N := 7) G (fun _ h => i_X6_give_X1 _ h) rfl rfl 3 (by decide) (by decide +kernel) rfl rfl dX6_give_45 ?_
        refine v_iload_n G dX6_give_48 rfl 1 rfl ?_
        obtain ⟨j8, e9, h⟩ := Option.bind_eq_some_iff.mp h
        refine v_aald (lay := layC) (k := 10) G rfl e9 dX6_give_49 ?_
        refine v_iload_n G dX6_give_50 rfl 2 rfl ?_
        refine v_iload_n G dX6_give_51 rfl 3 rfl ?_
        obtain ⟨s10, e11, h⟩ := Option.bind_eq_some_iff.mp h
        refine v_iast (lay := layC) G (layR_29 e9) e11 dX6_give_52 ?_
        refine v_iconst (v := 1) G dX6_give_53 (by decide) ?_
        cases h
        exact v_iret G K (by decide) (by decide) dX6_give_54
      · replace h := (if_pos c7).symm.trans h
        refine v_iconst (v := 0) G dX6_give_39 (by decide) ?_
        cases h
        exact v_iret G K (by decide) (by decide) dX6_give_40
theorem z_X6_give {s : apM} {v1 v2 v3 : Int32} {r : (Int32 × apM)} (h : m_X6_give s v1 v2 v3 = some r) : r.1 = 0 ∨ r.1 = 1 := by
  unfold m_X6_give at h
  by_cases c1 : (m_X1_has s v1) = 0
  · replace h := (if_pos c1).symm.trans h
    cases h
    exact Or.inl rfl
  · replace h := (if_neg c1).symm.trans h
    obtain ⟨t2, e3, h⟩ := Option.bind_eq_some_iff.mp h
    by_cases c4 : t2 = 0
    · replace h := (if_pos c4).symm.trans h
      obtain ⟨t5, e6, h⟩ := Option.bind_eq_some_iff.mp h
      by_cases c7 : (m_X6_isWithin v2 t5) = 0
      · replace h := (if_pos c7).symm.trans h
        cases h
        exact Or.inl rfl
      · replace h := (if_neg c7).symm.trans h
        obtain ⟨j8, e9, h⟩ := Option.bind_eq_some_iff.mp h
        obtain ⟨s10, e11, h⟩ := Option.bind_eq_some_iff.mp h
        cases h
        exact Or.inr rfl
    · replace h := (if_neg c4).symm.trans h
      cases h
      exact Or.inl rfl
theorem c_X6_give (l : Launch) {s : apM} {v1 v2 v3 : Int32} {r : (Int32 × apM)} (h : m_X6_give s v1 v2 v3 = some r) : apMi l layC apXC yX6_give wsX6_give 2 (fun q => [.ref (q 0), .int v1, .int v2, .int v3]) s r.1 r.2 := apMi_of (cc := cX6_give) (nL := 4) (r := r.1) (by decide) rfl (by rcases z_X6_give h with e | e <;> rw [e] <;> rfl) (fun _ => Nat.le_of_ble_eq_true rfl) (fun Γ q hl G K => w_X6_give G K h)
theorem i_X6_keep_X1 : ∀ w ∈ u_ws RX1 TX1 7, w ∈ wsX6_keep := by decide +kernel
theorem i_X6_keep_X6 : ∀ w ∈ u_ws RX6 TX6 9, w ∈ wsX6_keep := by decide +kernel
def m_X6_keep (s : apM) (v1 : Int32) (v2 : Int32) : Option (Int32 × apM) := if (m_X1_has s v1) = 0 then (some (0, s)) else (Option.bind (ald s 12 12 v1) (fun t2 => if t2 = v2 then (some (0, s)) else (Option.bind (ast s 12 12 v1 (vp_nar .boolean v2)) (fun s5 => some (1, m_X6_forgetPlan s5)))))
set_option maxHeartbeats 4000000 in
set_option maxRecDepth 100000 in
theorem w_X6_keep {Γ : apC} {q : Nat → Nat} (G : apG Γ cX6_keep 3 RX6 wsX6_keep (apRm 2 0) apXC) {s : apM} {v1 v2 : Int32} {r : (Int32 × apM)} (K : apR Γ cX6_keep 0 0 (some r.1) (apU layC q (apd Γ) r.2)) (h : m_X6_keep s v1 v2 = some r) : apV Γ 3 (apU layC q (apd Γ) s) 0 0 0 [(0, .ref (q 0)), (1, .int v1), (2, .int v2)] [] := by
  unfold m_X6_keep at h
  refine v_aload_n G dX6_keep_0 rfl 0 rfl ?_
  refine v_getr (lay := layC) (k := 0) (k' := 1) (C := RX6) (T := TX6) (N := 9) G (fun _ h => i_X6_keep_X6 _ h) rfl rfl 0 (by decide) (by decide +kernel) rfl rfl dX6_keep_1 ?_
  refine v_iload_n G dX6_keep_4 rfl 1 rfl ?_
  refine v_calliV (lay := layC) (As := [.int v1]) (st := []) (n := 1) (C := RX1) (T := TX1) (k0 := 1) G apXCok (c_X1_has Γ.1.2.1 (s := s) rfl) gX6_keep_X1_has rfl (by decide +kernel) (by decide) rfl rfl rfl rfl (Nat.le_of_ble_eq_true rfl) (by decide) rfl dX6_keep_5 ?_
  refine v_if_eq (tgt := 24) G dX6_keep_8 (by decide) (fun c1 => ?_) (fun c1 => ?_)
  · replace h := (if_pos c1).symm.trans h
    refine v_iconst (v := 0) G dX6_keep_24 (by decide) ?_
    cases h
    exact v_iret G K (by decide) (by decide) dX6_keep_25
  · replace h := (if_neg c1).symm.trans h
    refine v_aload_n G dX6_keep_11 rfl 0 rfl ?_
    refine v_getr (lay := layC) (k := 0) (k' := 1) (C := RX6) (T := TX6) (N := 9) G (fun _ h => i_X6_keep_X6 _ h) rfl rfl 0 (by decide) (by decide +kernel) rfl rfl dX6_keep_12 ?_
    refine v_getr (lay := layC) (k := 1) (k' := 12) (C := RX1) (T := TX1) (N := 7) G (fun _ h => i_X6_keep_X1 _ h) rfl rfl 5 (by decide) (by decide +kernel) rfl rfl dX6_keep_15 ?_
    refine v_iload_n G dX6_keep_18 rfl 1 rfl ?_
    obtain ⟨t2, e3, h⟩ := Option.bind_eq_some_iff.mp h
    refine v_zald (lay := layC) (k := 12) (n := 12) G rfl e3 dX6_keep_19 ?_
    refine v_iload_n G dX6_keep_20 rfl 2 rfl ?_
    refine v_icmp_ne (tgt := 26) G dX6_keep_21 (by decide) (fun c4 => ?_) (fun c4 => ?_)
    · replace h := (if_neg c4).symm.trans h
      refine v_aload_n G dX6_keep_26 rfl 0 rfl ?_
      refine v_getr (lay := layC) (k := 0) (k' := 1) (C := RX6) (T := TX6) (N := 9) G (fun _ h => i_X6_keep_X6 _ h) rfl rfl 0 (by decide) (by decide +kernel) rfl rfl dX6_keep_27 ?_
      refine v_getr (lay := layC) (k := 1) (k' := 12) (C := RX1) (T := TX1) (N := 7) G (fun _ h => i_X6_keep_X1 _ h) rfl rfl 5 (by decide) (by decide +kernel) rfl rfl dX6_keep_30 ?_
      refine v_iload_n G dX6_keep_33 rfl 1 rfl ?_
      refine v_iload_n G dX6_keep_34 rfl 2 rfl ?_
      obtain ⟨s5, e6, h⟩ := Option.bind_eq_some_iff.mp h
      refine v_zast (lay := layC) (k := 12) (n := 12) G rfl e6 dX6_keep_35 ?_
      refine v_aload_n G dX6_keep_36 rfl 0 rfl ?_
      refine v_callvV (lay := layC) (As := []) (st := []) (n := 0) (C := RX6) (T := TX6) (k0 := 0) G apXCok (c_X6_forgetPlan Γ.1.2.1 (s := s5) rfl) gX6_keep_X6_forgetPlan rfl (by decide +kernel) (by decide) rfl rfl rfl rfl (Nat.le_of_ble_eq_true rfl) (by decide) rfl dX6_keep_37 ?_
      refine v_iconst (v := 1) G dX6_keep_40 (by decide) ?_
      cases h
      exact v_iret G K (by decide) (by decide) dX6_keep_41
    · replace h := (if_pos c4).symm.trans h
      refine v_iconst (v := 0) G dX6_keep_24 (by decide) ?_
      cases h
      exact v_iret G K (by decide) (by decide) dX6_keep_25
theorem z_X6_keep {s : apM} {v1 v2 : Int32} {r : (Int32 × apM)} (h : m_X6_keep s v1 v2 = some r) : r.1 = 0 ∨ r.1 = 1 := by
  unfold m_X6_keep at h
  by_cases c1 : (m_X1_has s v1) = 0
  · replace h := (if_pos c1).symm.trans h
    cases h
    exact Or.inl rfl
  · replace h := (if_neg c1).symm.trans h
    obtain ⟨t2, e3, h⟩ := Option.bind_eq_some_iff.mp h
    by_cases c4 : t2 = v2
    · replace h := (if_pos c4).symm.trans h
      cases h
      exact Or.inl rfl
    · replace h := (if_neg c4).symm.trans h
      obtain ⟨s5, e6, h⟩ := Option.bind_eq_some_iff.mp h
      cases h
      exact Or.inr rfl
theorem c_X6_keep (l : Launch) {s : apM} {v1 v2 : Int32} {r : (Int32 × apM)} (h : m_X6_keep s v1 v2 = some r) : apMi l layC apXC yX6_keep wsX6_keep 2 (fun q => [.ref (q 0), .int v1, .int v2]) s r.1 r.2 := apMi_of (cc := cX6_keep) (nL := 3) (r := r.1) (by decide) rfl (by rcases z_X6_keep h with e | e <;> rw [e] <;> rfl) (fun _ => Nat.le_of_ble_eq_true rfl) (fun Γ q hl G K => w_X6_keep G K h)
theorem i_X6_least_X6 : ∀ w ∈ u_ws RX6 TX6 9, w ∈ wsX6_least := by decide +kernel
def m_X6_least (s : apM)  : Option ((String × apM) ⊕ (Int32 × apM)) := match m_X6_needPlan s with | .inl z2 => some (.inl z2) | .inr s3 => if (s3 0 8) = 0 then (Option.bind (m_X2_find s3) (fun p7 => some (.inr ((mst p7.2 0 8 p7.1) 0 8, mst p7.2 0 8 p7.1)))) else (some (.inr (s3 0 8, s3)))
set_option maxHeartbeats 4000000 in
set_option maxRecDepth 100000 in
theorem w_X6_least {Γ : apC} {q : Nat → Nat} (G : apG Γ cX6_least 1 RX6 wsX6_least (apRm 9 1) apXC) (hfl : Γ.1.2.1.stackTraces = false) {s : apM} {r : ((String × apM) ⊕ (Int32 × apM))} (K : (match r with | .inl z => apTh Γ 1 6 z.1 (apU layC q (apd Γ) z.2) | .inr z => apR Γ cX6_least 1 6 (some z.1) (apU layC q (apd Γ) z.2))) (h : m_X6_least s = some r) : apV Γ 1 (apU layC q (apd Γ) s) 0 0 0 [(0, .ref (q 0))] [] := by
  unfold m_X6_least at h
  refine v_aload_n G dX6_least_0 rfl 0 rfl ?_
  rcases e4 : m_X6_needPlan s with z2 | s3
  all_goals rw [e4] at h
  all_goals dsimp only at h
  · cases h
    exact v_xvV_t (lay := layC) (As := []) (st := []) (n := 0) (C := RX6) (T := TX6) (k0 := 0) G apXCok (c_X6_needPlan Γ.1.2.1 hfl e4) gX6_least_X6_needPlan rfl (by decide +kernel) (by decide) rfl rfl rfl rfl (Nat.le_of_ble_eq_true rfl) (by decide) rfl (by decide) dX6_least_1 K
  · refine v_xvV (lay := layC) (As := []) (st := []) (n := 0) (C := RX6) (T := TX6) (k0 := 0) G apXCok (c_X6_needPlan Γ.1.2.1 hfl e4) gX6_least_X6_needPlan rfl (by decide +kernel) (by decide) rfl rfl rfl rfl (Nat.le_of_ble_eq_true rfl) (by decide) rfl dX6_least_1 ?_
    refine v_aload_n G dX6_least_4 rfl 0 rfl ?_
    refine v_geti (lay := layC) (k := 0) (C := RX6) (T := TX6) (N := 9) G (fun _ h => i_X6_least_X6 _ h) rfl rfl 8 (by decide) (by decide +kernel) rfl rfl dX6_least_5 ?_
    refine v_if_ne (tgt := 22) G dX6_least_8 (by decide) (fun c5 => ?_) (fun c5 => ?_)
    · replace h := (if_neg c5).symm.trans h
      refine v_aload_n G dX6_least_22 rfl 0 rfl ?_
      refine v_geti (lay := layC) (k := 0) (C := RX6) (T := TX6) (N := 9) G (fun _ h => i_X6_least_X6 _ h) rfl rfl 8 (by decide) (by decide +kernel) rfl rfl dX6_least_23 ?_
      cases h
      exact v_iret G K (by decide) (by decide) dX6_least_26
    · replace h := (if_pos c5).symm.trans h
      refine v_aload_n G dX6_least_11 rfl 0 rfl ?_
      refine v_aload_n G dX6_least_12 rfl 0 rfl ?_
      refine v_getr (lay := layC) (k := 0) (k' := 6) (C := RX6) (T := TX6) (N := 9) G (fun _ h => i_X6_least_X6 _ h) rfl rfl 5 (by decide) (by decide +kernel) rfl rfl dX6_least_13 ?_
      obtain ⟨p7, e8, h⟩ := Option.bind_eq_some_iff.mp h
      refine v_calliV (lay := layC) (As := []) (st := [.ref (q 0)]) (n := 0) (C := RX2) (T := TX2) (k0 := 6) G apXCok (c_X2_find Γ.1.2.1 e8) gX6_least_X2_find rfl (by decide +kernel) (by decide) rfl rfl rfl rfl (Nat.le_of_ble_eq_true rfl) (by decide) rfl dX6_least_16 ?_
      refine v_put (lay := layC) (k := 0) (C := RX6) (T := TX6) (N := 9) G (fun _ h => i_X6_least_X6 _ h) tyX6 tyX6_ok nmX6 rfl rfl 8 (by decide) (by decide +kernel) rfl rfl (by first | rfl | decide) (by first | rfl | decide) rfl dX6_least_19 ?_
      refine v_aload_n G dX6_least_22 rfl 0 rfl ?_
      refine v_geti (lay := layC) (k := 0) (C := RX6) (T := TX6) (N := 9) G (fun _ h => i_X6_least_X6 _ h) rfl rfl 8 (by decide) (by decide +kernel) rfl rfl dX6_least_23 ?_
      cases h
      exact v_iret G K (by decide) (by decide) dX6_least_26
theorem c_X6_least (l : Launch) (hfl : l.stackTraces = false) {s : apM} {r : ((String × apM) ⊕ (Int32 × apM))} (h : m_X6_least s = some r) : apXi l layC apXC yX6_least wsX6_least 9 1 (fun q => [.ref (q 0)]) s r := apXi_of (cc := cX6_least) (nL := 1) (by decide) rfl (fun _ => Nat.le_of_ble_eq_true rfl) (fun Γ q hl G K => w_X6_least G (by rw [hl]; exact hfl) K h)
theorem i_X6_make_X1 : ∀ w ∈ u_ws RX1 TX1 7, w ∈ wsX6_make := by decide +kernel
theorem i_X6_make_X6 : ∀ w ∈ u_ws RX6 TX6 9, w ∈ wsX6_make := by decide +kernel
theorem a_X6_make_9 : ∀ w ∈ (vx_atS RX6 65 "java/lang/IllegalArgumentException" ["java/lang/RuntimeException", "java/lang/Exception"]).filter goodWord, w ∈ wsX6_make := by decide +kernel
theorem a_X6_make_31 : ∀ w ∈ (vx_atS RX6 76 "java/lang/UnsupportedOperationException" ["java/lang/RuntimeException", "java/lang/Exception"]).filter goodWord, w ∈ wsX6_make := by decide +kernel
def m_X6_make (s : apM) (v1 : Int32) (v2 : Int32) (v3 : Int32) : Option ((String × apM) ⊕ (Int32 × apM)) := if (m_X6_canBeMade v1 v2 v3) = 0 then (some (.inl ("java/lang/IllegalArgumentException", s))) else (if (s 1 6) = 12 then (some (.inl ("java/lang/UnsupportedOperationException", s))) else (Option.bind (m_X1_add (m_X6_forgetPlan s) v1 v2 v3) (fun p4 => some (.inr (p4.1, p4.2)))))
set_option maxHeartbeats 4000000 in
set_option maxRecDepth 100000 in
theorem w_X6_make {Γ : apC} {q : Nat → Nat} (G : apG Γ cX6_make 4 RX6 wsX6_make (apRm 8 1) apXC) (hfl : Γ.1.2.1.stackTraces = false) {s : apM} {v1 v2 v3 : Int32} {r : ((String × apM) ⊕ (Int32 × apM))} (K : (match r with | .inl z => apTh Γ 1 6 z.1 (apU layC q (apd Γ) z.2) | .inr z => apR Γ cX6_make 1 6 (some z.1) (apU layC q (apd Γ) z.2))) (h : m_X6_make s v1 v2 v3 = some r) : apV Γ 4 (apU layC q (apd Γ) s) 0 0 0 [(0, .ref (q 0)), (1, .int v1), (2, .int v2), (3, .int v3)] [] := by
  unfold m_X6_make at h
  refine v_iload_n G dX6_make_0 rfl 1 rfl ?_
  refine v_iload_n G dX6_make_1 rfl 2 rfl ?_
  refine v_iload_n G dX6_make_2 rfl 3 rfl ?_
  refine v_calliS (lay := layC) (As := [.int v1, .int v2, .int v3]) (st := []) (n := 3) G apXCok (c_X6_canBeMade Γ.1.2.1 (s := s) rfl) gX6_make_X6_canBeMade rfl (by decide +kernel) (by decide) rfl rfl (Nat.le_of_ble_eq_true rfl) (by decide) rfl dX6_make_3 ?_
  refine v_if_ne (tgt := 19) G dX6_make_6 (by decide) (fun c1 => ?_) (fun c1 => ?_)
  · replace h := (if_neg c1).symm.trans h
    refine v_aload_n G dX6_make_19 rfl 0 rfl ?_
    refine v_getr (lay := layC) (k := 0) (k' := 1) (C := RX6) (T := TX6) (N := 9) G (fun _ h => i_X6_make_X6 _ h) rfl rfl 0 (by decide) (by decide +kernel) rfl rfl dX6_make_20 ?_
    refine v_geti (lay := layC) (k := 1) (C := RX1) (T := TX1) (N := 7) G (fun _ h => i_X6_make_X1 _ h) rfl rfl 6 (by decide) (by decide +kernel) rfl rfl dX6_make_23 ?_
    refine v_bipush (v := 12) G dX6_make_26 (by decide) ?_
    refine v_icmp_ne (tgt := 41) G dX6_make_28 (by decide) (fun c2 => ?_) (fun c2 => ?_)
    · replace h := (if_neg c2).symm.trans h
      refine v_aload_n G dX6_make_41 rfl 0 rfl ?_
      refine v_callvV (lay := layC) (As := []) (st := []) (n := 0) (C := RX6) (T := TX6) (k0 := 0) G apXCok (c_X6_forgetPlan Γ.1.2.1 (s := s) rfl) gX6_make_X6_forgetPlan rfl (by decide +kernel) (by decide) rfl rfl rfl rfl (Nat.le_of_ble_eq_true rfl) (by decide) rfl dX6_make_42 ?_
      refine v_aload_n G dX6_make_45 rfl 0 rfl ?_
      refine v_getr (lay := layC) (k := 0) (k' := 1) (C := RX6) (T := TX6) (N := 9) G (fun _ h => i_X6_make_X6 _ h) rfl rfl 0 (by decide) (by decide +kernel) rfl rfl dX6_make_46 ?_
      refine v_iload_n G dX6_make_49 rfl 1 rfl ?_
      refine v_iload_n G dX6_make_50 rfl 2 rfl ?_
      refine v_iload_n G dX6_make_51 rfl 3 rfl ?_
      obtain ⟨p4, e5, h⟩ := Option.bind_eq_some_iff.mp h
      refine v_calliV (lay := layC) (As := [.int v1, .int v2, .int v3]) (st := []) (n := 3) (C := RX1) (T := TX1) (k0 := 1) G apXCok (c_X1_add Γ.1.2.1 e5) gX6_make_X1_add rfl (by decide +kernel) (by decide) rfl rfl rfl rfl (Nat.le_of_ble_eq_true rfl) (by decide) rfl dX6_make_52 ?_
      cases h
      exact v_iret G K (by decide) (by decide) dX6_make_55
    · replace h := (if_pos c2).symm.trans h
      cases h
      exact v_throw (ik := 72) (is := 74) (ic := 76) (cls := "java/lang/UnsupportedOperationException") (text := "there are twelve nodes") (names := ["java/lang/RuntimeException", "java/lang/Exception"]) G hfl K (by decide) (by decide) (by decide +kernel) (by decide +kernel) (by decide +kernel) a_X6_make_31 (by decide +kernel) (by decide +kernel) (by decide) (Nat.le_of_ble_eq_true rfl) (by decide) (by decide) (by decide) dX6_make_31 dX6_make_34 dX6_make_35 dX6_make_37 dX6_make_40
  · replace h := (if_pos c1).symm.trans h
    cases h
    exact v_throw (ik := 61) (is := 63) (ic := 65) (cls := "java/lang/IllegalArgumentException") (text := "no such operation, p or q") (names := ["java/lang/RuntimeException", "java/lang/Exception"]) G hfl K (by decide) (by decide) (by decide +kernel) (by decide +kernel) (by decide +kernel) a_X6_make_9 (by decide +kernel) (by decide +kernel) (by decide) (Nat.le_of_ble_eq_true rfl) (by decide) (by decide) (by decide) dX6_make_9 dX6_make_12 dX6_make_13 dX6_make_15 dX6_make_18
theorem c_X6_make (l : Launch) (hfl : l.stackTraces = false) {s : apM} {v1 v2 v3 : Int32} {r : ((String × apM) ⊕ (Int32 × apM))} (h : m_X6_make s v1 v2 v3 = some r) : apXi l layC apXC yX6_make wsX6_make 8 1 (fun q => [.ref (q 0), .int v1, .int v2, .int v3]) s r := apXi_of (cc := cX6_make) (nL := 4) (by decide) rfl (fun _ => Nat.le_of_ble_eq_true rfl) (fun Γ q hl G K => w_X6_make G (by rw [hl]; exact hfl) K h)
theorem i_X6_nodes_X1 : ∀ w ∈ u_ws RX1 TX1 7, w ∈ wsX6_nodes := by decide +kernel
theorem i_X6_nodes_X6 : ∀ w ∈ u_ws RX6 TX6 9, w ∈ wsX6_nodes := by decide +kernel
def m_X6_nodes (s : apM)  : Int32 := (s 1 6)
set_option maxHeartbeats 4000000 in
set_option maxRecDepth 100000 in
theorem w_X6_nodes {Γ : apC} {q : Nat → Nat} (G : apG Γ cX6_nodes 1 RX6 wsX6_nodes (apRm 0 0) apXC) {s : apM} {r : Int32} (K : apR Γ cX6_nodes 0 0 (some r) (apU layC q (apd Γ) s)) (h : m_X6_nodes s = r) : apV Γ 1 (apU layC q (apd Γ) s) 0 0 0 [(0, .ref (q 0))] [] := by
  unfold m_X6_nodes at h
  refine v_aload_n G dX6_nodes_0 rfl 0 rfl ?_
  refine v_getr (lay := layC) (k := 0) (k' := 1) (C := RX6) (T := TX6) (N := 9) G (fun _ h => i_X6_nodes_X6 _ h) rfl rfl 0 (by decide) (by decide +kernel) rfl rfl dX6_nodes_1 ?_
  refine v_geti (lay := layC) (k := 1) (C := RX1) (T := TX1) (N := 7) G (fun _ h => i_X6_nodes_X1 _ h) rfl rfl 6 (by decide) (by decide +kernel) rfl rfl dX6_nodes_4 ?_
  subst h
  exact v_iret G K (by decide) (by decide) dX6_nodes_7
theorem c_X6_nodes (l : Launch) {s : apM} {r : Int32} (h : m_X6_nodes s = r) : apMi l layC apXC yX6_nodes wsX6_nodes 0 (fun q => [.ref (q 0)]) s r s := apMi_of (cc := cX6_nodes) (nL := 1) (r := r) (by decide) rfl rfl (fun _ => Nat.le_of_ble_eq_true rfl) (fun Γ q hl G K => w_X6_nodes G K h)
theorem i_X6_order_X1 : ∀ w ∈ u_ws RX1 TX1 7, w ∈ wsX6_order := by decide +kernel
theorem i_X6_order_X4 : ∀ w ∈ u_ws RX4 TX4 12, w ∈ wsX6_order := by decide +kernel
theorem i_X6_order_X6 : ∀ w ∈ u_ws RX6 TX6 9, w ∈ wsX6_order := by decide +kernel
def m_X6_order (s : apM) (v1 : Int32) : Option ((String × apM) ⊕ (Int32 × apM)) := match m_X6_needPlan s with | .inl z2 => some (.inl z2) | .inr s3 => match m_X6_needWithin s3 v1 (s3 1 6) with | .inl z6 => some (.inl z6) | .inr s7 => Option.bind (ald s7 20 12 v1) (fun t9 => some (.inr (t9, s7)))
set_option maxHeartbeats 4000000 in
set_option maxRecDepth 100000 in
theorem w_X6_order {Γ : apC} {q : Nat → Nat} (G : apG Γ cX6_order 2 RX6 wsX6_order (apRm 9 2) apXC) (hfl : Γ.1.2.1.stackTraces = false) {s : apM} {v1 : Int32} {r : ((String × apM) ⊕ (Int32 × apM))} (K : (match r with | .inl z => apTh Γ 2 12 z.1 (apU layC q (apd Γ) z.2) | .inr z => apR Γ cX6_order 2 12 (some z.1) (apU layC q (apd Γ) z.2))) (h : m_X6_order s v1 = some r) : apV Γ 2 (apU layC q (apd Γ) s) 0 0 0 [(0, .ref (q 0)), (1, .int v1)] [] := by
  unfold m_X6_order at h
  refine v_aload_n G dX6_order_0 rfl 0 rfl ?_
  rcases e4 : m_X6_needPlan s with z2 | s3
  all_goals rw [e4] at h
  all_goals dsimp only at h
  · cases h
    exact v_xvV_t (lay := layC) (As := []) (st := []) (n := 0) (C := RX6) (T := TX6) (k0 := 0) G apXCok (c_X6_needPlan Γ.1.2.1 hfl e4) gX6_order_X6_needPlan rfl (by decide +kernel) (by decide) rfl rfl rfl rfl (Nat.le_of_ble_eq_true rfl) (by decide) rfl (by decide) dX6_order_1 K
  · refine v_xvV (lay := layC) (As := []) (st := []) (n := 0) (C := RX6) (T := TX6) (k0 := 0) G apXCok (c_X6_needPlan Γ.1.2.1 hfl e4) gX6_order_X6_needPlan rfl (by decide +kernel) (by decide) rfl rfl rfl rfl (Nat.le_of_ble_eq_true rfl) (by decide) rfl dX6_order_1 ?_
    refine v_iload_n G dX6_order_4 rfl 1 rfl ?_
    refine v_aload_n G dX6_order_5 rfl 0 rfl ?_
    refine v_getr (lay := layC) (k := 0) (k' := 1) (C := RX6) (T := TX6) (N := 9) G (fun _ h => i_X6_order_X6 _ h) rfl rfl 0 (by decide) (by decide +kernel) rfl rfl dX6_order_6 ?_
    refine v_geti (lay := layC) (k := 1) (C := RX1) (T := TX1) (N := 7) G (fun _ h => i_X6_order_X1 _ h) rfl rfl 6 (by decide) (by decide +kernel) rfl rfl dX6_order_9 ?_
    rcases e8 : m_X6_needWithin s3 v1 (s3 1 6) with z6 | s7
    all_goals rw [e8] at h
    all_goals dsimp only at h
    · cases h
      exact v_xvS_t (lay := layC) (As := [.int v1, .int (s3 1 6)]) (st := []) (n := 2) G apXCok (c_X6_needWithin Γ.1.2.1 hfl e8) gX6_order_X6_needWithin rfl (by decide +kernel) (by decide) rfl rfl (Nat.le_of_ble_eq_true rfl) (by decide) rfl (by decide) dX6_order_12 K
    · refine v_xvS (lay := layC) (As := [.int v1, .int (s3 1 6)]) (st := []) (n := 2) G apXCok (c_X6_needWithin Γ.1.2.1 hfl e8) gX6_order_X6_needWithin rfl (by decide +kernel) (by decide) rfl rfl (Nat.le_of_ble_eq_true rfl) (by decide) rfl dX6_order_12 ?_
      refine v_aload_n G dX6_order_15 rfl 0 rfl ?_
      refine v_getr (lay := layC) (k := 0) (k' := 3) (C := RX6) (T := TX6) (N := 9) G (fun _ h => i_X6_order_X6 _ h) rfl rfl 2 (by decide) (by decide +kernel) rfl rfl dX6_order_16 ?_
      refine v_getr (lay := layC) (k := 3) (k' := 20) (C := RX4) (T := TX4) (N := 12) G (fun _ h => i_X6_order_X4 _ h) rfl rfl 5 (by decide) (by decide +kernel) rfl rfl dX6_order_19 ?_
      refine v_iload_n G dX6_order_22 rfl 1 rfl ?_
      obtain ⟨t9, e10, h⟩ := Option.bind_eq_some_iff.mp h
      refine v_iald (lay := layC) (k := 20) (n := 12) G rfl e10 dX6_order_23 ?_
      cases h
      exact v_iret G K (by decide) (by decide) dX6_order_24
theorem c_X6_order (l : Launch) (hfl : l.stackTraces = false) {s : apM} {v1 : Int32} {r : ((String × apM) ⊕ (Int32 × apM))} (h : m_X6_order s v1 = some r) : apXi l layC apXC yX6_order wsX6_order 9 2 (fun q => [.ref (q 0), .int v1]) s r := apXi_of (cc := cX6_order) (nL := 2) (by decide) rfl (fun _ => Nat.le_of_ble_eq_true rfl) (fun Γ q hl G K => w_X6_order G (by rw [hl]; exact hfl) K h)
theorem i_X6_peak_X4 : ∀ w ∈ u_ws RX4 TX4 12, w ∈ wsX6_peak := by decide +kernel
theorem i_X6_peak_X6 : ∀ w ∈ u_ws RX6 TX6 9, w ∈ wsX6_peak := by decide +kernel
def m_X6_peak (s : apM)  : ((String × apM) ⊕ (Int32 × apM)) := match m_X6_needPlan s with | .inl z2 => .inl z2 | .inr s3 => (.inr (s3 3 11, s3))
set_option maxHeartbeats 4000000 in
set_option maxRecDepth 100000 in
theorem w_X6_peak {Γ : apC} {q : Nat → Nat} (G : apG Γ cX6_peak 1 RX6 wsX6_peak (apRm 9 1) apXC) (hfl : Γ.1.2.1.stackTraces = false) {s : apM} {r : ((String × apM) ⊕ (Int32 × apM))} (K : (match r with | .inl z => apTh Γ 1 6 z.1 (apU layC q (apd Γ) z.2) | .inr z => apR Γ cX6_peak 1 6 (some z.1) (apU layC q (apd Γ) z.2))) (h : m_X6_peak s = r) : apV Γ 1 (apU layC q (apd Γ) s) 0 0 0 [(0, .ref (q 0))] [] := by
  unfold m_X6_peak at h
  refine v_aload_n G dX6_peak_0 rfl 0 rfl ?_
  rcases e4 : m_X6_needPlan s with z2 | s3
  all_goals rw [e4] at h
  all_goals dsimp only at h
  · subst h
    exact v_xvV_t (lay := layC) (As := []) (st := []) (n := 0) (C := RX6) (T := TX6) (k0 := 0) G apXCok (c_X6_needPlan Γ.1.2.1 hfl e4) gX6_peak_X6_needPlan rfl (by decide +kernel) (by decide) rfl rfl rfl rfl (Nat.le_of_ble_eq_true rfl) (by decide) rfl (by decide) dX6_peak_1 K
  · refine v_xvV (lay := layC) (As := []) (st := []) (n := 0) (C := RX6) (T := TX6) (k0 := 0) G apXCok (c_X6_needPlan Γ.1.2.1 hfl e4) gX6_peak_X6_needPlan rfl (by decide +kernel) (by decide) rfl rfl rfl rfl (Nat.le_of_ble_eq_true rfl) (by decide) rfl dX6_peak_1 ?_
    refine v_aload_n G dX6_peak_4 rfl 0 rfl ?_
    refine v_getr (lay := layC) (k := 0) (k' := 3) (C := RX6) (T := TX6) (N := 9) G (fun _ h => i_X6_peak_X6 _ h) rfl rfl 2 (by decide) (by decide +kernel) rfl rfl dX6_peak_5 ?_
    refine v_geti (lay := layC) (k := 3) (C := RX4) (T := TX4) (N := 12) G (fun _ h => i_X6_peak_X4 _ h) rfl rfl 11 (by decide) (by decide +kernel) rfl rfl dX6_peak_8 ?_
    subst h
    exact v_iret G K (by decide) (by decide) dX6_peak_11
theorem c_X6_peak (l : Launch) (hfl : l.stackTraces = false) {s : apM} {r : ((String × apM) ⊕ (Int32 × apM))} (h : m_X6_peak s = r) : apXi l layC apXC yX6_peak wsX6_peak 9 1 (fun q => [.ref (q 0)]) s r := apXi_of (cc := cX6_peak) (nL := 1) (by decide) rfl (fun _ => Nat.le_of_ble_eq_true rfl) (fun Γ q hl G K => w_X6_peak G (by rw [hl]; exact hfl) K h)
theorem i_X6_plan_X1 : ∀ w ∈ u_ws RX1 TX1 7, w ∈ wsX6_plan := by decide +kernel
theorem i_X6_plan_X3 : ∀ w ∈ u_ws RX3 TX3 4, w ∈ wsX6_plan := by decide +kernel
theorem i_X6_plan_X5 : ∀ w ∈ u_ws RX5 TX5 5, w ∈ wsX6_plan := by decide +kernel
theorem i_X6_plan_X6 : ∀ w ∈ u_ws RX6 TX6 9, w ∈ wsX6_plan := by decide +kernel
theorem a_X6_plan_39 : ∀ w ∈ (vx_atSX RX6 124 "java/util/NoSuchElementException" 13 prog_23_method_4_code ["java/lang/RuntimeException", "java/lang/Exception"]).filter goodWord, w ∈ wsX6_plan := by decide +kernel
def m_X6_plan_B39 (s : apM) : Option ((String × apM) ⊕ (Int32 × apM)) := some (.inl ("java/util/NoSuchElementException", s))
set_option maxHeartbeats 4000000 in
set_option maxRecDepth 100000 in
theorem w_X6_plan_B39 {Γ : apC} {q : Nat → Nat} (G : apG Γ cX6_plan 2 RX6 wsX6_plan (apRm 8 1) apXC) (hfl : Γ.1.2.1.stackTraces = false) {s : apM} {r : ((String × apM) ⊕ (Int32 × apM))} (K : (match r with | .inl z => apTh Γ 1 6 z.1 (apU layC q (apd Γ) z.2) | .inr z => apR Γ cX6_plan 1 6 (some z.1) (apU layC q (apd Γ) z.2))) (h : m_X6_plan_B39 s = some r) : apV Γ 2 (apU layC q (apd Γ) s) 0 0 39 [] [] := by
  unfold m_X6_plan_B39 at h
  cases h
  exact v_throwX (ik := 120) (is := 134) (ic := 124) (cls := "java/util/NoSuchElementException") (text := "no node, or an input is not wired") (names := ["java/lang/RuntimeException", "java/lang/Exception"]) G hfl K ns_0 ns_1 ns_2 ns_5 (by decide) (by decide) (by decide +kernel) (by decide +kernel) (by decide +kernel) a_X6_plan_39 (by decide +kernel) (by decide +kernel) (by decide) (Nat.le_of_ble_eq_true rfl) (by decide) (by decide) (by decide) dX6_plan_39 dX6_plan_42 dX6_plan_43 dX6_plan_45 dX6_plan_48
theorem a_X6_plan_86 : ∀ w ∈ (vx_atS RX6 148 "java/lang/ArithmeticException" ["java/lang/RuntimeException", "java/lang/Exception"]).filter goodWord, w ∈ wsX6_plan := by decide +kernel
theorem a_X6_plan_66 : ∀ w ∈ (vx_atS RX6 140 "java/lang/IllegalStateException" ["java/lang/RuntimeException", "java/lang/Exception"]).filter goodWord, w ∈ wsX6_plan := by decide +kernel
def m_X6_plan_B19 (s : apM) (v1 : Int32) : Option ((String × apM) ⊕ (Int32 × apM)) := if (s 1 6) = 0 then (m_X6_plan_B39 s) else (Option.bind (m_X1_isWired s) (fun t3 => if t3 = 0 then (m_X6_plan_B39 s) else (Option.bind (m_X5_find s) (fun s6 => if (s6 2 4) ≤ 0 then (Option.bind (m_X4_measure s6) (fun p10 => if p10.1 = 0 then (some (.inl ("java/lang/ArithmeticException", p10.2))) else (Option.bind (m_X4_arrange p10.2 v1) (fun s13 => Option.bind (m_X3_assign s13) (fun s15 => some (.inr ((mst (mst (mst s15 0 6 1) 0 7 0) 0 8 0) 4 3, mst (mst (mst s15 0 6 1) 0 7 0) 0 8 0))))))) else (some (.inl ("java/lang/IllegalStateException", s6)))))))
set_option maxHeartbeats 4000000 in
set_option maxRecDepth 100000 in
theorem w_X6_plan_B19 {Γ : apC} {q : Nat → Nat} (G : apG Γ cX6_plan 2 RX6 wsX6_plan (apRm 8 1) apXC) (hfl : Γ.1.2.1.stackTraces = false) {s : apM} {v1 : Int32} {r : ((String × apM) ⊕ (Int32 × apM))} (K : (match r with | .inl z => apTh Γ 1 6 z.1 (apU layC q (apd Γ) z.2) | .inr z => apR Γ cX6_plan 1 6 (some z.1) (apU layC q (apd Γ) z.2))) (h : m_X6_plan_B19 s v1 = some r) : apV Γ 2 (apU layC q (apd Γ) s) 0 0 19 [(0, .ref (q 0)), (1, .int v1)] [] := by
  unfold m_X6_plan_B19 at h
  refine v_aload_n G dX6_plan_19 rfl 0 rfl ?_
  refine v_getr (lay := layC) (k := 0) (k' := 1) (C := RX6) (T := TX6) (N := 9) G (fun _ h => i_X6_plan_X6 _ h) rfl rfl 0 (by decide) (by decide +kernel) rfl rfl dX6_plan_20 ?_
  refine v_geti (lay := layC) (k := 1) (C := RX1) (T := TX1) (N := 7) G (fun _ h => i_X6_plan_X1 _ h) rfl rfl 6 (by decide) (by decide +kernel) rfl rfl dX6_plan_23 ?_
  refine v_if_eq (tgt := 39) G dX6_plan_26 (by decide) (fun c2 => ?_) (fun c2 => ?_)
  · replace h := (if_pos c2).symm.trans h
    refine v_locs (L' := []) [] rfl ?_
    exact w_X6_plan_B39 G hfl K h
  · replace h := (if_neg c2).symm.trans h
    refine v_aload_n G dX6_plan_29 rfl 0 rfl ?_
    refine v_getr (lay := layC) (k := 0) (k' := 1) (C := RX6) (T := TX6) (N := 9) G (fun _ h => i_X6_plan_X6 _ h) rfl rfl 0 (by decide) (by decide +kernel) rfl rfl dX6_plan_30 ?_
    obtain ⟨t3, e4, h⟩ := Option.bind_eq_some_iff.mp h
    refine v_calliV (lay := layC) (As := []) (st := []) (n := 0) (C := RX1) (T := TX1) (k0 := 1) G apXCok (c_X1_isWired Γ.1.2.1 e4) gX6_plan_X1_isWired rfl (by decide +kernel) (by decide) rfl rfl rfl rfl (Nat.le_of_ble_eq_true rfl) (by decide) rfl dX6_plan_33 ?_
    refine v_if_ne (tgt := 49) G dX6_plan_36 (by decide) (fun c5 => ?_) (fun c5 => ?_)
    · replace h := (if_neg c5).symm.trans h
      refine v_aload_n G dX6_plan_49 rfl 0 rfl ?_
      refine v_getr (lay := layC) (k := 0) (k' := 2) (C := RX6) (T := TX6) (N := 9) G (fun _ h => i_X6_plan_X6 _ h) rfl rfl 1 (by decide) (by decide +kernel) rfl rfl dX6_plan_50 ?_
      obtain ⟨s6, e7, h⟩ := Option.bind_eq_some_iff.mp h
      refine v_callvV (lay := layC) (As := []) (st := []) (n := 0) (C := RX5) (T := TX5) (k0 := 2) G apXCok (c_X5_find Γ.1.2.1 e7) gX6_plan_X5_find rfl (by decide +kernel) (by decide) rfl rfl rfl rfl (Nat.le_of_ble_eq_true rfl) (by decide) rfl dX6_plan_53 ?_
      refine v_aload_n G dX6_plan_56 rfl 0 rfl ?_
      refine v_getr (lay := layC) (k := 0) (k' := 2) (C := RX6) (T := TX6) (N := 9) G (fun _ h => i_X6_plan_X6 _ h) rfl rfl 1 (by decide) (by decide +kernel) rfl rfl dX6_plan_57 ?_
      refine v_geti (lay := layC) (k := 2) (C := RX5) (T := TX5) (N := 5) G (fun _ h => i_X6_plan_X5 _ h) rfl rfl 4 (by decide) (by decide +kernel) rfl rfl dX6_plan_60 ?_
      refine v_if_le (tgt := 76) G dX6_plan_63 (by decide) (fun c8 => ?_) (fun c8 => ?_)
      · replace h := (if_pos c8).symm.trans h
        refine v_aload_n G dX6_plan_76 rfl 0 rfl ?_
        refine v_getr (lay := layC) (k := 0) (k' := 3) (C := RX6) (T := TX6) (N := 9) G (fun _ h => i_X6_plan_X6 _ h) rfl rfl 2 (by decide) (by decide +kernel) rfl rfl dX6_plan_77 ?_
        obtain ⟨p10, e11, h⟩ := Option.bind_eq_some_iff.mp h
        refine v_calliV (lay := layC) (As := []) (st := []) (n := 0) (C := RX4) (T := TX4) (k0 := 3) G apXCok (c_X4_measure Γ.1.2.1 e11) gX6_plan_X4_measure rfl (by decide +kernel) (by decide) rfl rfl rfl rfl (Nat.le_of_ble_eq_true rfl) (by decide) rfl dX6_plan_80 ?_
        refine v_if_ne (tgt := 96) G dX6_plan_83 (by decide) (fun c12 => ?_) (fun c12 => ?_)
        · replace h := (if_neg c12).symm.trans h
          refine v_aload_n G dX6_plan_96 rfl 0 rfl ?_
          refine v_getr (lay := layC) (k := 0) (k' := 3) (C := RX6) (T := TX6) (N := 9) G (fun _ h => i_X6_plan_X6 _ h) rfl rfl 2 (by decide) (by decide +kernel) rfl rfl dX6_plan_97 ?_
          refine v_iload_n G dX6_plan_100 rfl 1 rfl ?_
          obtain ⟨s13, e14, h⟩ := Option.bind_eq_some_iff.mp h
          refine v_callvV (lay := layC) (As := [.int v1]) (st := []) (n := 1) (C := RX4) (T := TX4) (k0 := 3) G apXCok (c_X4_arrange Γ.1.2.1 e14) gX6_plan_X4_arrange rfl (by decide +kernel) (by decide) rfl rfl rfl rfl (Nat.le_of_ble_eq_true rfl) (by decide) rfl dX6_plan_101 ?_
          refine v_aload_n G dX6_plan_104 rfl 0 rfl ?_
          refine v_getr (lay := layC) (k := 0) (k' := 4) (C := RX6) (T := TX6) (N := 9) G (fun _ h => i_X6_plan_X6 _ h) rfl rfl 3 (by decide) (by decide +kernel) rfl rfl dX6_plan_105 ?_
          obtain ⟨s15, e16, h⟩ := Option.bind_eq_some_iff.mp h
          refine v_callvV (lay := layC) (As := []) (st := []) (n := 0) (C := RX3) (T := TX3) (k0 := 4) G apXCok (c_X3_assign Γ.1.2.1 e16) gX6_plan_X3_assign rfl (by decide +kernel) (by decide) rfl rfl rfl rfl (Nat.le_of_ble_eq_true rfl) (by decide) rfl dX6_plan_108 ?_
          refine v_aload_n G dX6_plan_111 rfl 0 rfl ?_
          refine v_iconst (v := 1) G dX6_plan_112 (by decide) ?_
          refine v_put (lay := layC) (k := 0) (C := RX6) (T := TX6) (N := 9) G (fun _ h => i_X6_plan_X6 _ h) tyX6 tyX6_ok nmX6 rfl rfl 6 (by decide) (by decide +kernel) rfl rfl (by first | rfl | decide) (by first | rfl | decide) rfl dX6_plan_113 ?_
          refine v_aload_n G dX6_plan_116 rfl 0 rfl ?_
          refine v_iconst (v := 0) G dX6_plan_117 (by decide) ?_
          refine v_put (lay := layC) (k := 0) (C := RX6) (T := TX6) (N := 9) G (fun _ h => i_X6_plan_X6 _ h) tyX6 tyX6_ok nmX6 rfl rfl 7 (by decide) (by decide +kernel) rfl rfl (by first | rfl | decide) (by first | rfl | decide) rfl dX6_plan_118 ?_
          refine v_aload_n G dX6_plan_121 rfl 0 rfl ?_
          refine v_iconst (v := 0) G dX6_plan_122 (by decide) ?_
          refine v_put (lay := layC) (k := 0) (C := RX6) (T := TX6) (N := 9) G (fun _ h => i_X6_plan_X6 _ h) tyX6 tyX6_ok nmX6 rfl rfl 8 (by decide) (by decide +kernel) rfl rfl (by first | rfl | decide) (by first | rfl | decide) rfl dX6_plan_123 ?_
          refine v_aload_n G dX6_plan_126 rfl 0 rfl ?_
          refine v_getr (lay := layC) (k := 0) (k' := 4) (C := RX6) (T := TX6) (N := 9) G (fun _ h => i_X6_plan_X6 _ h) rfl rfl 3 (by decide) (by decide +kernel) rfl rfl dX6_plan_127 ?_
          refine v_geti (lay := layC) (k := 4) (C := RX3) (T := TX3) (N := 4) G (fun _ h => i_X6_plan_X3 _ h) rfl rfl 3 (by decide) (by decide +kernel) rfl rfl dX6_plan_130 ?_
          cases h
          exact v_iret G K (by decide) (by decide) dX6_plan_133
        · replace h := (if_pos c12).symm.trans h
          cases h
          exact v_throw (ik := 144) (is := 146) (ic := 148) (cls := "java/lang/ArithmeticException") (text := "sizes do not fit") (names := ["java/lang/RuntimeException", "java/lang/Exception"]) G hfl K (by decide) (by decide) (by decide +kernel) (by decide +kernel) (by decide +kernel) a_X6_plan_86 (by decide +kernel) (by decide +kernel) (by decide) (Nat.le_of_ble_eq_true rfl) (by decide) (by decide) (by decide) dX6_plan_86 dX6_plan_89 dX6_plan_90 dX6_plan_92 dX6_plan_95
      · replace h := (if_neg c8).symm.trans h
        cases h
        exact v_throw (ik := 136) (is := 138) (ic := 140) (cls := "java/lang/IllegalStateException") (text := "a node is in a ring") (names := ["java/lang/RuntimeException", "java/lang/Exception"]) G hfl K (by decide) (by decide) (by decide +kernel) (by decide +kernel) (by decide +kernel) a_X6_plan_66 (by decide +kernel) (by decide +kernel) (by decide) (Nat.le_of_ble_eq_true rfl) (by decide) (by decide) (by decide) dX6_plan_66 dX6_plan_69 dX6_plan_70 dX6_plan_72 dX6_plan_75
    · replace h := (if_pos c5).symm.trans h
      refine v_locs (L' := []) [] rfl ?_
      exact w_X6_plan_B39 G hfl K h
theorem a_X6_plan_9 : ∀ w ∈ (vx_atS RX6 65 "java/lang/IllegalArgumentException" ["java/lang/RuntimeException", "java/lang/Exception"]).filter goodWord, w ∈ wsX6_plan := by decide +kernel
def m_X6_plan (s : apM) (v1 : Int32) : Option ((String × apM) ⊕ (Int32 × apM)) := if v1 = 0 then (m_X6_plan_B19 s v1) else (if v1 = 1 then (m_X6_plan_B19 s v1) else (some (.inl ("java/lang/IllegalArgumentException", s))))
set_option maxHeartbeats 4000000 in
set_option maxRecDepth 100000 in
theorem w_X6_plan {Γ : apC} {q : Nat → Nat} (G : apG Γ cX6_plan 2 RX6 wsX6_plan (apRm 8 1) apXC) (hfl : Γ.1.2.1.stackTraces = false) {s : apM} {v1 : Int32} {r : ((String × apM) ⊕ (Int32 × apM))} (K : (match r with | .inl z => apTh Γ 1 6 z.1 (apU layC q (apd Γ) z.2) | .inr z => apR Γ cX6_plan 1 6 (some z.1) (apU layC q (apd Γ) z.2))) (h : m_X6_plan s v1 = some r) : apV Γ 2 (apU layC q (apd Γ) s) 0 0 0 [(0, .ref (q 0)), (1, .int v1)] [] := by
  unfold m_X6_plan at h
  refine v_iload_n G dX6_plan_0 rfl 1 rfl ?_
  refine v_if_eq (tgt := 19) G dX6_plan_1 (by decide) (fun c1 => ?_) (fun c1 => ?_)
  · replace h := (if_pos c1).symm.trans h
    exact w_X6_plan_B19 G hfl K h
  · replace h := (if_neg c1).symm.trans h
    refine v_iload_n G dX6_plan_4 rfl 1 rfl ?_
    refine v_iconst (v := 1) G dX6_plan_5 (by decide) ?_
    refine v_icmp_eq (tgt := 19) G dX6_plan_6 (by decide) (fun c17 => ?_) (fun c17 => ?_)
    · replace h := (if_pos c17).symm.trans h
      exact w_X6_plan_B19 G hfl K h
    · replace h := (if_neg c17).symm.trans h
      cases h
      exact v_throw (ik := 61) (is := 128) (ic := 65) (cls := "java/lang/IllegalArgumentException") (text := "no such way") (names := ["java/lang/RuntimeException", "java/lang/Exception"]) G hfl K (by decide) (by decide) (by decide +kernel) (by decide +kernel) (by decide +kernel) a_X6_plan_9 (by decide +kernel) (by decide +kernel) (by decide) (Nat.le_of_ble_eq_true rfl) (by decide) (by decide) (by decide) dX6_plan_9 dX6_plan_12 dX6_plan_13 dX6_plan_15 dX6_plan_18
theorem c_X6_plan (l : Launch) (hfl : l.stackTraces = false) {s : apM} {v1 : Int32} {r : ((String × apM) ⊕ (Int32 × apM))} (h : m_X6_plan s v1 = some r) : apXi l layC apXC yX6_plan wsX6_plan 8 1 (fun q => [.ref (q 0), .int v1]) s r := apXi_of (cc := cX6_plan) (nL := 2) (by decide) rfl (fun _ => Nat.le_of_ble_eq_true rfl) (fun Γ q hl G K => w_X6_plan G (by rw [hl]; exact hfl) K h)
theorem i_X6_result_X0 : ∀ w ∈ u_ws RX0 TX0 4, w ∈ wsX6_result := by decide +kernel
theorem i_X6_result_X1 : ∀ w ∈ u_ws RX1 TX1 7, w ∈ wsX6_result := by decide +kernel
theorem i_X6_result_X3 : ∀ w ∈ u_ws RX3 TX3 4, w ∈ wsX6_result := by decide +kernel
theorem i_X6_result_X4 : ∀ w ∈ u_ws RX4 TX4 12, w ∈ wsX6_result := by decide +kernel
theorem i_X6_result_X6 : ∀ w ∈ u_ws RX6 TX6 9, w ∈ wsX6_result := by decide +kernel
theorem a_X6_result_27 : ∀ w ∈ (vx_atSX RX6 124 "java/util/NoSuchElementException" 13 prog_23_method_4_code ["java/lang/RuntimeException", "java/lang/Exception"]).filter goodWord, w ∈ wsX6_result := by decide +kernel
def m_X6_result_B27 (s : apM) : Option ((String × apM) ⊕ (Int32 × apM)) := some (.inl ("java/util/NoSuchElementException", s))
set_option maxHeartbeats 4000000 in
set_option maxRecDepth 100000 in
theorem w_X6_result_B27 {Γ : apC} {q : Nat → Nat} (G : apG Γ cX6_result 3 RX6 wsX6_result (apRm 10 4) apXC) (hfl : Γ.1.2.1.stackTraces = false) {s : apM} {r : ((String × apM) ⊕ (Int32 × apM))} (K : (match r with | .inl z => apTh Γ 4 24 z.1 (apU layC q (apd Γ) z.2) | .inr z => apR Γ cX6_result 4 24 (some z.1) (apU layC q (apd Γ) z.2))) (h : m_X6_result_B27 s = some r) : apV Γ 3 (apU layC q (apd Γ) s) 2 12 27 [] [] := by
  unfold m_X6_result_B27 at h
  cases h
  exact v_throwX (ik := 120) (is := 212) (ic := 124) (cls := "java/util/NoSuchElementException") (text := "no such node is kept") (names := ["java/lang/RuntimeException", "java/lang/Exception"]) G hfl K ns_0 ns_1 ns_2 ns_5 (by decide) (by decide) (by decide +kernel) (by decide +kernel) (by decide +kernel) a_X6_result_27 (by decide +kernel) (by decide +kernel) (by decide) (Nat.le_of_ble_eq_true rfl) (by decide) (by decide) (by decide) dX6_result_27 dX6_result_30 dX6_result_31 dX6_result_33 dX6_result_36
def m_X6_result (s : apM) (v1 : Int32) (v2 : Int32) : Option ((String × apM) ⊕ (Int32 × apM)) := match m_X6_needRun s with | .inl z2 => some (.inl z2) | .inr s3 => if (m_X1_has s3 v1) = 0 then (m_X6_result_B27 s3) else (Option.bind (ald s3 12 12 v1) (fun t6 => if t6 = 0 then (m_X6_result_B27 s3) else (Option.bind (ald s3 18 12 v1) (fun t9 => match m_X6_needWithin s3 v2 t9 with | .inl z12 => some (.inl z12) | .inr s13 => Option.bind (ald s13 25 12 v1) (fun t15 => Option.bind (ald s13 26 480 (t15 + v2)) (fun t17 => some (.inr (t17, s13))))))))
set_option maxHeartbeats 4000000 in
set_option maxRecDepth 100000 in
theorem w_X6_result {Γ : apC} {q : Nat → Nat} (G : apG Γ cX6_result 3 RX6 wsX6_result (apRm 10 4) apXC) (hfl : Γ.1.2.1.stackTraces = false) {s : apM} {v1 v2 : Int32} {r : ((String × apM) ⊕ (Int32 × apM))} (K : (match r with | .inl z => apTh Γ 4 24 z.1 (apU layC q (apd Γ) z.2) | .inr z => apR Γ cX6_result 4 24 (some z.1) (apU layC q (apd Γ) z.2))) (h : m_X6_result s v1 v2 = some r) : apV Γ 3 (apU layC q (apd Γ) s) 0 0 0 [(0, .ref (q 0)), (1, .int v1), (2, .int v2)] [] := by
  unfold m_X6_result at h
  refine v_aload_n G dX6_result_0 rfl 0 rfl ?_
  rcases e4 : m_X6_needRun s with z2 | s3
  all_goals rw [e4] at h
  all_goals dsimp only at h
  · cases h
    exact v_xvV_t (lay := layC) (As := []) (st := []) (n := 0) (C := RX6) (T := TX6) (k0 := 0) G apXCok (c_X6_needRun Γ.1.2.1 hfl e4) gX6_result_X6_needRun rfl (by decide +kernel) (by decide) rfl rfl rfl rfl (Nat.le_of_ble_eq_true rfl) (by decide) rfl (by decide) dX6_result_1 K
  · refine v_xvV (lay := layC) (As := []) (st := []) (n := 0) (C := RX6) (T := TX6) (k0 := 0) G apXCok (c_X6_needRun Γ.1.2.1 hfl e4) gX6_result_X6_needRun rfl (by decide +kernel) (by decide) rfl rfl rfl rfl (Nat.le_of_ble_eq_true rfl) (by decide) rfl dX6_result_1 ?_
    refine v_aload_n G dX6_result_4 rfl 0 rfl ?_
    refine v_getr (lay := layC) (k := 0) (k' := 1) (C := RX6) (T := TX6) (N := 9) G (fun _ h => i_X6_result_X6 _ h) rfl rfl 0 (by decide) (by decide +kernel) rfl rfl dX6_result_5 ?_
    refine v_iload_n G dX6_result_8 rfl 1 rfl ?_
    refine v_calliV (lay := layC) (As := [.int v1]) (st := []) (n := 1) (C := RX1) (T := TX1) (k0 := 1) G apXCok (c_X1_has Γ.1.2.1 (s := s3) rfl) gX6_result_X1_has rfl (by decide +kernel) (by decide) rfl rfl rfl rfl (Nat.le_of_ble_eq_true rfl) (by decide) rfl dX6_result_9 ?_
    refine v_if_eq (tgt := 27) G dX6_result_12 (by decide) (fun c5 => ?_) (fun c5 => ?_)
    · replace h := (if_pos c5).symm.trans h
      refine v_locs (L' := []) [] rfl ?_
      exact w_X6_result_B27 G hfl K h
    · replace h := (if_neg c5).symm.trans h
      refine v_aload_n G dX6_result_15 rfl 0 rfl ?_
      refine v_getr (lay := layC) (k := 0) (k' := 1) (C := RX6) (T := TX6) (N := 9) G (fun _ h => i_X6_result_X6 _ h) rfl rfl 0 (by decide) (by decide +kernel) rfl rfl dX6_result_16 ?_
      refine v_getr (lay := layC) (k := 1) (k' := 12) (C := RX1) (T := TX1) (N := 7) G (fun _ h => i_X6_result_X1 _ h) rfl rfl 5 (by decide) (by decide +kernel) rfl rfl dX6_result_19 ?_
      refine v_iload_n G dX6_result_22 rfl 1 rfl ?_
      obtain ⟨t6, e7, h⟩ := Option.bind_eq_some_iff.mp h
      refine v_zald (lay := layC) (k := 12) (n := 12) G rfl e7 dX6_result_23 ?_
      refine v_if_ne (tgt := 37) G dX6_result_24 (by decide) (fun c8 => ?_) (fun c8 => ?_)
      · replace h := (if_neg c8).symm.trans h
        refine v_iload_n G dX6_result_37 rfl 2 rfl ?_
        refine v_aload_n G dX6_result_38 rfl 0 rfl ?_
        refine v_getr (lay := layC) (k := 0) (k' := 3) (C := RX6) (T := TX6) (N := 9) G (fun _ h => i_X6_result_X6 _ h) rfl rfl 2 (by decide) (by decide +kernel) rfl rfl dX6_result_39 ?_
        refine v_getr (lay := layC) (k := 3) (k' := 18) (C := RX4) (T := TX4) (N := 12) G (fun _ h => i_X6_result_X4 _ h) rfl rfl 3 (by decide) (by decide +kernel) rfl rfl dX6_result_42 ?_
        refine v_iload_n G dX6_result_45 rfl 1 rfl ?_
        obtain ⟨t9, e10, h⟩ := Option.bind_eq_some_iff.mp h
        refine v_iald (lay := layC) (k := 18) (n := 12) G rfl e10 dX6_result_46 ?_
        rcases e14 : m_X6_needWithin s3 v2 t9 with z12 | s13
        all_goals rw [e14] at h
        all_goals dsimp only at h
        · cases h
          exact v_xvS_t (lay := layC) (As := [.int v2, .int t9]) (st := []) (n := 2) G apXCok (c_X6_needWithin Γ.1.2.1 hfl e14) gX6_result_X6_needWithin rfl (by decide +kernel) (by decide) rfl rfl (Nat.le_of_ble_eq_true rfl) (by decide) rfl (by decide) dX6_result_47 K
        · refine v_xvS (lay := layC) (As := [.int v2, .int t9]) (st := []) (n := 2) G apXCok (c_X6_needWithin Γ.1.2.1 hfl e14) gX6_result_X6_needWithin rfl (by decide +kernel) (by decide) rfl rfl (Nat.le_of_ble_eq_true rfl) (by decide) rfl dX6_result_47 ?_
          refine v_aload_n G dX6_result_50 rfl 0 rfl ?_
          refine v_getr (lay := layC) (k := 0) (k' := 5) (C := RX6) (T := TX6) (N := 9) G (fun _ h => i_X6_result_X6 _ h) rfl rfl 4 (by decide) (by decide +kernel) rfl rfl dX6_result_51 ?_
          refine v_getr (lay := layC) (k := 5) (k' := 26) (C := RX0) (T := TX0) (N := 4) G (fun _ h => i_X6_result_X0 _ h) rfl rfl 3 (by decide) (by decide +kernel) rfl rfl dX6_result_54 ?_
          refine v_aload_n G dX6_result_57 rfl 0 rfl ?_
          refine v_getr (lay := layC) (k := 0) (k' := 4) (C := RX6) (T := TX6) (N := 9) G (fun _ h => i_X6_result_X6 _ h) rfl rfl 3 (by decide) (by decide +kernel) rfl rfl dX6_result_58 ?_
          refine v_getr (lay := layC) (k := 4) (k' := 25) (C := RX3) (T := TX3) (N := 4) G (fun _ h => i_X6_result_X3 _ h) rfl rfl 2 (by decide) (by decide +kernel) rfl rfl dX6_result_61 ?_
          refine v_iload_n G dX6_result_64 rfl 1 rfl ?_
          obtain ⟨t15, e16, h⟩ := Option.bind_eq_some_iff.mp h
          refine v_iald (lay := layC) (k := 25) (n := 12) G rfl e16 dX6_result_65 ?_
          refine v_iload_n G dX6_result_66 rfl 2 rfl ?_
          refine v_iadd G dX6_result_67 ?_
          obtain ⟨t17, e18, h⟩ := Option.bind_eq_some_iff.mp h
          refine v_iald (lay := layC) (k := 26) (n := 480) G rfl e18 dX6_result_68 ?_
          cases h
          exact v_iret G K (by decide) (by decide) dX6_result_69
      · replace h := (if_pos c8).symm.trans h
        refine v_locs (L' := []) [] rfl ?_
        exact w_X6_result_B27 G hfl K h
theorem c_X6_result (l : Launch) (hfl : l.stackTraces = false) {s : apM} {v1 v2 : Int32} {r : ((String × apM) ⊕ (Int32 × apM))} (h : m_X6_result s v1 v2 = some r) : apXi l layC apXC yX6_result wsX6_result 10 4 (fun q => [.ref (q 0), .int v1, .int v2]) s r := apXi_of (cc := cX6_result) (nL := 3) (by decide) rfl (fun _ => Nat.le_of_ble_eq_true rfl) (fun Γ q hl G K => w_X6_result G (by rw [hl]; exact hfl) K h)
theorem i_X6_ring_X5 : ∀ w ∈ u_ws RX5 TX5 5, w ∈ wsX6_ring := by decide +kernel
theorem i_X6_ring_X6 : ∀ w ∈ u_ws RX6 TX6 9, w ∈ wsX6_ring := by decide +kernel
theorem a_X6_ring_21 : ∀ w ∈ (vx_atSX RX6 124 "java/util/NoSuchElementException" 13 prog_23_method_4_code ["java/lang/RuntimeException", "java/lang/Exception"]).filter goodWord, w ∈ wsX6_ring := by decide +kernel
def m_X6_ring (s : apM) (v1 : Int32) : Option ((String × apM) ⊕ (Int32 × apM)) := Option.bind (m_X5_find s) (fun s1 => if (m_X6_isWithin v1 (s1 2 4)) = 0 then (some (.inl ("java/util/NoSuchElementException", s1))) else (Option.bind (ald s1 15 12 v1) (fun t4 => some (.inr (t4, s1)))))
set_option maxHeartbeats 4000000 in
set_option maxRecDepth 100000 in
theorem w_X6_ring {Γ : apC} {q : Nat → Nat} (G : apG Γ cX6_ring 2 RX6 wsX6_ring (apRm 8 1) apXC) (hfl : Γ.1.2.1.stackTraces = false) {s : apM} {v1 : Int32} {r : ((String × apM) ⊕ (Int32 × apM))} (K : (match r with | .inl z => apTh Γ 1 6 z.1 (apU layC q (apd Γ) z.2) | .inr z => apR Γ cX6_ring 1 6 (some z.1) (apU layC q (apd Γ) z.2))) (h : m_X6_ring s v1 = some r) : apV Γ 2 (apU layC q (apd Γ) s) 0 0 0 [(0, .ref (q 0)), (1, .int v1)] [] := by
  unfold m_X6_ring at h
  refine v_aload_n G dX6_ring_0 rfl 0 rfl ?_
  refine v_getr (lay := layC) (k := 0) (k' := 2) (C := RX6) (T := TX6) (N := 9) G (fun _ h => i_X6_ring_X6 _ h) rfl rfl 1 (by decide) (by decide +kernel) rfl rfl dX6_ring_1 ?_
  obtain ⟨s1, e2, h⟩ := Option.bind_eq_some_iff.mp h
  refine v_callvV (lay := layC) (As := []) (st := []) (n := 0) (C := RX5) (T := TX5) (k0 := 2) G apXCok (c_X5_find Γ.1.2.1 e2) gX6_ring_X5_find rfl (by decide +kernel) (by decide) rfl rfl rfl rfl (Nat.le_of_ble_eq_true rfl) (by decide) rfl dX6_ring_4 ?_
  refine v_iload_n G dX6_ring_7 rfl 1 rfl ?_
  refine v_aload_n G dX6_ring_8 rfl 0 rfl ?_
  refine v_getr (lay := layC) (k := 0) (k' := 2) (C := RX6) (T := TX6) (N := 9) G (fun _ h => i_X6_ring_X6 _ h) rfl rfl 1 (by decide) (by decide +kernel) rfl rfl dX6_ring_9 ?_
  refine v_geti (lay := layC) (k := 2) (C := RX5) (T := TX5) (N := 5) G (fun _ h => i_X6_ring_X5 _ h) rfl rfl 4 (by decide) (by decide +kernel) rfl rfl dX6_ring_12 ?_
  refine v_calliS (lay := layC) (As := [.int v1, .int (s1 2 4)]) (st := []) (n := 2) G apXCok (c_X6_isWithin Γ.1.2.1 (s := s1) rfl) gX6_ring_X6_isWithin rfl (by decide +kernel) (by decide) rfl rfl (Nat.le_of_ble_eq_true rfl) (by decide) rfl dX6_ring_15 ?_
  refine v_if_ne (tgt := 31) G dX6_ring_18 (by decide) (fun c3 => ?_) (fun c3 => ?_)
  · replace h := (if_neg c3).symm.trans h
    refine v_aload_n G dX6_ring_31 rfl 0 rfl ?_
    refine v_getr (lay := layC) (k := 0) (k' := 2) (C := RX6) (T := TX6) (N := 9) G (fun _ h => i_X6_ring_X6 _ h) rfl rfl 1 (by decide) (by decide +kernel) rfl rfl dX6_ring_32 ?_
    refine v_getr (lay := layC) (k := 2) (k' := 15) (C := RX5) (T := TX5) (N := 5) G (fun _ h => i_X6_ring_X5 _ h) rfl rfl 3 (by decide) (by decide +kernel) rfl rfl dX6_ring_35 ?_
    refine v_iload_n G dX6_ring_38 rfl 1 rfl ?_
    obtain ⟨t4, e5, h⟩ := Option.bind_eq_some_iff.mp h
    refine v_iald (lay := layC) (k := 15) (n := 12) G rfl e5 dX6_ring_39 ?_
    cases h
    exact v_iret G K (by decide) (by decide) dX6_ring_40
  · replace h := (if_pos c3).symm.trans h
    cases h
    exact v_throwX (ik := 120) (is := 122) (ic := 124) (cls := "java/util/NoSuchElementException") (text := "the ring has no such node") (names := ["java/lang/RuntimeException", "java/lang/Exception"]) G hfl K ns_0 ns_1 ns_2 ns_5 (by decide) (by decide) (by decide +kernel) (by decide +kernel) (by decide +kernel) a_X6_ring_21 (by decide +kernel) (by decide +kernel) (by decide) (Nat.le_of_ble_eq_true rfl) (by decide) (by decide) (by decide) dX6_ring_21 dX6_ring_24 dX6_ring_25 dX6_ring_27 dX6_ring_30
theorem c_X6_ring (l : Launch) (hfl : l.stackTraces = false) {s : apM} {v1 : Int32} {r : ((String × apM) ⊕ (Int32 × apM))} (h : m_X6_ring s v1 = some r) : apXi l layC apXC yX6_ring wsX6_ring 8 1 (fun q => [.ref (q 0), .int v1]) s r := apXi_of (cc := cX6_ring) (nL := 2) (by decide) rfl (fun _ => Nat.le_of_ble_eq_true rfl) (fun Γ q hl G K => w_X6_ring G (by rw [hl]; exact hfl) K h)
theorem i_X6_run_X6 : ∀ w ∈ u_ws RX6 TX6 9, w ∈ wsX6_run := by decide +kernel
def m_X6_run (s : apM)  : Option ((String × apM) ⊕ (Int32 × apM)) := match m_X6_needPlan s with | .inl z2 => some (.inl z2) | .inr s3 => Option.bind (m_X0_work (mst s3 0 7 1)) (fun p6 => some (.inr (p6.1, p6.2)))
set_option maxHeartbeats 4000000 in
set_option maxRecDepth 100000 in
theorem w_X6_run {Γ : apC} {q : Nat → Nat} (G : apG Γ cX6_run 1 RX6 wsX6_run (apRm 9 1) apXC) (hfl : Γ.1.2.1.stackTraces = false) {s : apM} {r : ((String × apM) ⊕ (Int32 × apM))} (K : (match r with | .inl z => apTh Γ 1 6 z.1 (apU layC q (apd Γ) z.2) | .inr z => apR Γ cX6_run 1 6 (some z.1) (apU layC q (apd Γ) z.2))) (h : m_X6_run s = some r) : apV Γ 1 (apU layC q (apd Γ) s) 0 0 0 [(0, .ref (q 0))] [] := by
  unfold m_X6_run at h
  refine v_aload_n G dX6_run_0 rfl 0 rfl ?_
  rcases e4 : m_X6_needPlan s with z2 | s3
  all_goals rw [e4] at h
  all_goals dsimp only at h
  · cases h
    exact v_xvV_t (lay := layC) (As := []) (st := []) (n := 0) (C := RX6) (T := TX6) (k0 := 0) G apXCok (c_X6_needPlan Γ.1.2.1 hfl e4) gX6_run_X6_needPlan rfl (by decide +kernel) (by decide) rfl rfl rfl rfl (Nat.le_of_ble_eq_true rfl) (by decide) rfl (by decide) dX6_run_1 K
  · refine v_xvV (lay := layC) (As := []) (st := []) (n := 0) (C := RX6) (T := TX6) (k0 := 0) G apXCok (c_X6_needPlan Γ.1.2.1 hfl e4) gX6_run_X6_needPlan rfl (by decide +kernel) (by decide) rfl rfl rfl rfl (Nat.le_of_ble_eq_true rfl) (by decide) rfl dX6_run_1 ?_
    refine v_aload_n G dX6_run_4 rfl 0 rfl ?_
    refine v_iconst (v := 1) G dX6_run_5 (by decide) ?_
    refine v_put (lay := layC) (k := 0) (C := RX6) (T := TX6) (N := 9) G (fun _ h => i_X6_run_X6 _ h) tyX6 tyX6_ok nmX6 rfl rfl 7 (by decide) (by decide +kernel) rfl rfl (by first | rfl | decide) (by first | rfl | decide) rfl dX6_run_6 ?_
    refine v_aload_n G dX6_run_9 rfl 0 rfl ?_
    refine v_getr (lay := layC) (k := 0) (k' := 5) (C := RX6) (T := TX6) (N := 9) G (fun _ h => i_X6_run_X6 _ h) rfl rfl 4 (by decide) (by decide +kernel) rfl rfl dX6_run_10 ?_
    obtain ⟨p6, e7, h⟩ := Option.bind_eq_some_iff.mp h
    refine v_calliV (lay := layC) (As := []) (st := []) (n := 0) (C := RX0) (T := TX0) (k0 := 5) G apXCok (c_X0_work Γ.1.2.1 e7) gX6_run_X0_work rfl (by decide +kernel) (by decide) rfl rfl rfl rfl (Nat.le_of_ble_eq_true rfl) (by decide) rfl dX6_run_13 ?_
    cases h
    exact v_iret G K (by decide) (by decide) dX6_run_16
theorem c_X6_run (l : Launch) (hfl : l.stackTraces = false) {s : apM} {r : ((String × apM) ⊕ (Int32 × apM))} (h : m_X6_run s = some r) : apXi l layC apXC yX6_run wsX6_run 9 1 (fun q => [.ref (q 0)]) s r := apXi_of (cc := cX6_run) (nL := 1) (by decide) rfl (fun _ => Nat.le_of_ble_eq_true rfl) (fun Γ q hl G K => w_X6_run G (by rw [hl]; exact hfl) K h)
theorem i_X6_wire_X1 : ∀ w ∈ u_ws RX1 TX1 7, w ∈ wsX6_wire := by decide +kernel
theorem i_X6_wire_X6 : ∀ w ∈ u_ws RX6 TX6 9, w ∈ wsX6_wire := by decide +kernel
def m_X6_wire_B46 (s : apM) (v1 : Int32) (v2 : Int32) (v3 : Int32) : Option (Int32 × apM) := Option.bind (rix 12 v1) (fun j6 => Option.bind (ast s (41 + j6) 2 v2 v3) (fun s8 => some (1, m_X6_forgetPlan s8)))
set_option maxHeartbeats 4000000 in
set_option maxRecDepth 100000 in
theorem w_X6_wire_B46 {Γ : apC} {q : Nat → Nat} (G : apG Γ cX6_wire 4 RX6 wsX6_wire (apRm 2 0) apXC) {s : apM} {v1 v2 v3 : Int32} {r : (Int32 × apM)} (K : apR Γ cX6_wire 0 0 (some r.1) (apU layC q (apd Γ) r.2)) (h : m_X6_wire_B46 s v1 v2 v3 = some r) : apV Γ 4 (apU layC q (apd Γ) s) 0 0 46 [(0, .ref (q 0)), (1, .int v1), (2, .int v2), (3, .int v3)] [] := by
  unfold m_X6_wire_B46 at h
  refine v_aload_n G dX6_wire_46 rfl 0 rfl ?_
  refine v_getr (lay := layC) (k := 0) (k' := 1) (C := RX6) (T := TX6) (N := 9) G (fun _ h => i_X6_wire_X6 _ h) rfl rfl 0 (by decide) (by decide +kernel) rfl rfl dX6_wire_47 ?_
  refine v_getr (lay := layC) (k := 1) (k' := 11) (C := RX1) (T := TX1) (N := 7) G (fun _ h => i_X6_wire_X1 _ h) rfl rfl 4 (by decide) (by decide +kernel) rfl rfl dX6_wire_50 ?_
  refine v_iload_n G dX6_wire_53 rfl 1 rfl ?_
  obtain ⟨j6, e7, h⟩ := Option.bind_eq_some_iff.mp h
  refine v_aald (lay := layC) (k := 11) G rfl e7 dX6_wire_54 ?_
  refine v_iload_n G dX6_wire_55 rfl 2 rfl ?_
  refine v_iload_n G dX6_wire_56 rfl 3 rfl ?_
  obtain ⟨s8, e9, h⟩ := Option.bind_eq_some_iff.mp h
  refine v_iast (lay := layC) G (layR_41 e7) e9 dX6_wire_57 ?_
  refine v_aload_n G dX6_wire_58 rfl 0 rfl ?_
  refine v_callvV (lay := layC) (As := []) (st := []) (n := 0) (C := RX6) (T := TX6) (k0 := 0) G apXCok (c_X6_forgetPlan Γ.1.2.1 (s := s8) rfl) gX6_wire_X6_forgetPlan rfl (by decide +kernel) (by decide) rfl rfl rfl rfl (Nat.le_of_ble_eq_true rfl) (by decide) rfl dX6_wire_59 ?_
  refine v_iconst (v := 1) G dX6_wire_62 (by decide) ?_
  cases h
  exact v_iret G K (by decide) (by decide) dX6_wire_63
theorem z_X6_wire_B46 {s : apM} {v1 v2 v3 : Int32} {r : (Int32 × apM)} (h : m_X6_wire_B46 s v1 v2 v3 = some r) : r.1 = 0 ∨ r.1 = 1 := by
  unfold m_X6_wire_B46 at h
  obtain ⟨j6, e7, h⟩ := Option.bind_eq_some_iff.mp h
  obtain ⟨s8, e9, h⟩ := Option.bind_eq_some_iff.mp h
  cases h
  exact Or.inr rfl
def m_X6_wire (s : apM) (v1 : Int32) (v2 : Int32) (v3 : Int32) : Option (Int32 × apM) := if (m_X1_has s v1) = 0 then (some (0, s)) else (Option.bind (m_X1_inputs s v1) (fun t2 => if (m_X6_isWithin v2 t2) = 0 then (some (0, s)) else (if v3 = (-1) then (m_X6_wire_B46 s v1 v2 v3) else (if (m_X1_has s v3) = 0 then (some (0, s)) else (m_X6_wire_B46 s v1 v2 v3)))))
set_option maxHeartbeats 4000000 in
set_option maxRecDepth 100000 in
theorem w_X6_wire {Γ : apC} {q : Nat → Nat} (G : apG Γ cX6_wire 4 RX6 wsX6_wire (apRm 2 0) apXC) {s : apM} {v1 v2 v3 : Int32} {r : (Int32 × apM)} (K : apR Γ cX6_wire 0 0 (some r.1) (apU layC q (apd Γ) r.2)) (h : m_X6_wire s v1 v2 v3 = some r) : apV Γ 4 (apU layC q (apd Γ) s) 0 0 0 [(0, .ref (q 0)), (1, .int v1), (2, .int v2), (3, .int v3)] [] := by
  unfold m_X6_wire at h
  refine v_aload_n G dX6_wire_0 rfl 0 rfl ?_
  refine v_getr (lay := layC) (k := 0) (k' := 1) (C := RX6) (T := TX6) (N := 9) G (fun _ h => i_X6_wire_X6 _ h) rfl rfl 0 (by decide) (by decide +kernel) rfl rfl dX6_wire_1 ?_
  refine v_iload_n G dX6_wire_4 rfl 1 rfl ?_
  refine v_calliV (lay := layC) (As := [.int v1]) (st := []) (n := 1) (C := RX1) (T := TX1) (k0 := 1) G apXCok (c_X1_has Γ.1.2.1 (s := s) rfl) gX6_wire_X1_has rfl (by decide +kernel) (by decide) rfl rfl rfl rfl (Nat.le_of_ble_eq_true rfl) (by decide) rfl dX6_wire_5 ?_
  refine v_if_eq (tgt := 26) G dX6_wire_8 (by decide) (fun c1 => ?_) (fun c1 => ?_)
  · replace h := (if_pos c1).symm.trans h
    refine v_iconst (v := 0) G dX6_wire_26 (by decide) ?_
    cases h
    exact v_iret G K (by decide) (by decide) dX6_wire_27
  · replace h := (if_neg c1).symm.trans h
    refine v_iload_n G dX6_wire_11 rfl 2 rfl ?_
    refine v_aload_n G dX6_wire_12 rfl 0 rfl ?_
    refine v_getr (lay := layC) (k := 0) (k' := 1) (C := RX6) (T := TX6) (N := 9) G (fun _ h => i_X6_wire_X6 _ h) rfl rfl 0 (by decide) (by decide +kernel) rfl rfl dX6_wire_13 ?_
    refine v_iload_n G dX6_wire_16 rfl 1 rfl ?_
    obtain ⟨t2, e3, h⟩ := Option.bind_eq_some_iff.mp h
    refine v_calliV (lay := layC) (As := [.int v1]) (st := [.int v2]) (n := 1) (C := RX1) (T := TX1) (k0 := 1) G apXCok (c_X1_inputs Γ.1.2.1 e3) gX6_wire_X1_inputs rfl (by decide +kernel) (by decide) rfl rfl rfl rfl (Nat.le_of_ble_eq_true rfl) (by decide) rfl dX6_wire_17 ?_
    refine v_calliS (lay := layC) (As := [.int v2, .int t2]) (st := []) (n := 2) G apXCok (c_X6_isWithin Γ.1.2.1 (s := s) rfl) gX6_wire_X6_isWithin rfl (by decide +kernel) (by decide) rfl rfl (Nat.le_of_ble_eq_true rfl) (by decide) rfl dX6_wire_20 ?_
    refine v_if_ne (tgt := 28) G dX6_wire_23 (by decide) (fun c4 => ?_) (fun c4 => ?_)
    · replace h := (if_neg c4).symm.trans h
      refine v_iload_n G dX6_wire_28 rfl 3 rfl ?_
      refine v_iconst (v := (-1)) G dX6_wire_29 (by decide) ?_
      refine v_icmp_eq (tgt := 46) G dX6_wire_30 (by decide) (fun c5 => ?_) (fun c5 => ?_)
      · replace h := (if_pos c5).symm.trans h
        exact w_X6_wire_B46 G K h
      · replace h := (if_neg c5).symm.trans h
        refine v_aload_n G dX6_wire_33 rfl 0 rfl ?_
        refine v_getr (lay := layC) (k := 0) (k' := 1) (C := RX6) (T := TX6) (N := 9) G (fun _ h => i_X6_wire_X6 _ h) rfl rfl 0 (by decide) (by decide +kernel) rfl rfl dX6_wire_34 ?_
        refine v_iload_n G dX6_wire_37 rfl 3 rfl ?_
        refine v_calliV (lay := layC) (As := [.int v3]) (st := []) (n := 1) (C := RX1) (T := TX1) (k0 := 1) G apXCok (c_X1_has Γ.1.2.1 (s := s) rfl) gX6_wire_X1_has rfl (by decide +kernel) (by decide) rfl rfl rfl rfl (Nat.le_of_ble_eq_true rfl) (by decide) rfl dX6_wire_38 ?_
        refine v_if_ne (tgt := 46) G dX6_wire_41 (by decide) (fun c10 => ?_) (fun c10 => ?_)
        · replace h := (if_neg c10).symm.trans h
          exact w_X6_wire_B46 G K h
        · replace h := (if_pos c10).symm.trans h
          refine v_iconst (v := 0) G dX6_wire_44 (by decide) ?_
          cases h
          exact v_iret G K (by decide) (by decide) dX6_wire_45
    · replace h := (if_pos c4).symm.trans h
      refine v_iconst (v := 0) G dX6_wire_26 (by decide) ?_
      cases h
      exact v_iret G K (by decide) (by decide) dX6_wire_27
theorem z_X6_wire {s : apM} {v1 v2 v3 : Int32} {r : (Int32 × apM)} (h : m_X6_wire s v1 v2 v3 = some r) : r.1 = 0 ∨ r.1 = 1 := by
  unfold m_X6_wire at h
  by_cases c1 : (m_X1_has s v1) = 0
  · replace h := (if_pos c1).symm.trans h
    cases h
    exact Or.inl rfl
  · replace h := (if_neg c1).symm.trans h
    obtain ⟨t2, e3, h⟩ := Option.bind_eq_some_iff.mp h
    by_cases c4 : (m_X6_isWithin v2 t2) = 0
    · replace h := (if_pos c4).symm.trans h
      cases h
      exact Or.inl rfl
    · replace h := (if_neg c4).symm.trans h
      by_cases c5 : v3 = (-1)
      · replace h := (if_pos c5).symm.trans h
        exact z_X6_wire_B46 (s := s) h
      · replace h := (if_neg c5).symm.trans h
        by_cases c10 : (m_X1_has s v3) = 0
        · replace h := (if_pos c10).symm.trans h
          cases h
          exact Or.inl rfl
        · replace h := (if_neg c10).symm.trans h
          exact z_X6_wire_B46 (s := s) h
theorem c_X6_wire (l : Launch) {s : apM} {v1 v2 v3 : Int32} {r : (Int32 × apM)} (h : m_X6_wire s v1 v2 v3 = some r) : apMi l layC apXC yX6_wire wsX6_wire 2 (fun q => [.ref (q 0), .int v1, .int v2, .int v3]) s r.1 r.2 := apMi_of (cc := cX6_wire) (nL := 4) (r := r.1) (by decide) rfl (by rcases z_X6_wire h with e | e <;> rw [e] <;> rfl) (fun _ => Nat.le_of_ble_eq_true rfl) (fun Γ q hl G K => w_X6_wire G K h)
