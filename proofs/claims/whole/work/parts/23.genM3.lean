/-! ===== models of methods, and that the bytecode does what they say (by gen.py) ===== -/
theorem i_X7_work_X7 : ∀ w ∈ u_ws RX7 TX7 30, w ∈ wsX7_work := by decide +kernel
def m_X7_work_L95 (s : apM) (v1 : Int32) (v2 : Int32) (v3 : Int32) (v4 : Int32) (v5 : Int32) (v6 : Int32) : (Int32 × Int32) → Option ((Int32 × Int32) ⊕ (Int32 × Int32)) := fun (v7, v8) => if v6 ≤ v8 then (some (.inr (v7, v8))) else (Option.bind (ald s 20 480 (v4 + v8)) (fun t7 => some (.inl (v7 + t7, v8 + 1))))
set_option maxHeartbeats 4000000 in
set_option maxRecDepth 100000 in
theorem w_X7_work_L95 {Γ : apC} {q : Nat → Nat} (G : apG Γ cX7_work 9 RX7 wsX7_work (apRm 1 0) apXM) {s : apM} {v1 v2 v3 v4 v5 v6 v7 v8 : Int32} {r : ((Int32 × Int32) ⊕ (Int32 × Int32))} (K : match r with | .inl x => apV Γ 9 (apU layM q (apd Γ) s) 0 0 95 [(0, .ref (q 0)), (1, .int v1), (2, .int v2), (3, .int v3), (4, .int v4), (5, .int v5), (6, .int v6), (7, .int x.1), (8, .int x.2)] [] | .inr x => apV Γ 9 (apU layM q (apd Γ) s) 0 0 123 [(0, .ref (q 0)), (1, .int v1), (2, .int v2), (3, .int v3), (4, .int v4), (5, .int v5), (6, .int v6), (7, .int x.1)] []) (h : m_X7_work_L95 s v1 v2 v3 v4 v5 v6 (v7, v8) = some r) : apV Γ 9 (apU layM q (apd Γ) s) 0 0 95 [(0, .ref (q 0)), (1, .int v1), (2, .int v2), (3, .int v3), (4, .int v4), (5, .int v5), (6, .int v6), (7, .int v7), (8, .int v8)] [] := by
  unfold m_X7_work_L95 at h
  dsimp only at h
  refine v_iload G dX7_work_95 8 rfl ?_
  refine v_iload G dX7_work_97 6 rfl ?_
  refine v_icmp_ge (tgt := 123) G dX7_work_99 (by decide) (fun c6 => ?_) (fun c6 => ?_)
  · replace h := (if_pos c6).symm.trans h
    cases h
    refine v_locs (L' := [(0, .ref (q 0)), (1, .int v1), (2, .int v2), (3, .int v3), (4, .int v4), (5, .int v5), (6, .int v6), (7, .int v7)]) [0, 1, 2, 3, 4, 5, 6, 7] rfl ?_
    exact K
  · replace h := (if_neg c6).symm.trans h
    refine v_iload G dX7_work_102 7 rfl ?_
    refine v_aload_n G dX7_work_104 rfl 0 rfl ?_
    refine v_getr (lay := layM) (k := 0) (k' := 20) (C := RX7) (T := TX7) (N := 30) G (fun _ h => i_X7_work_X7 _ h) rfl rfl 29 (by decide) (by decide +kernel) rfl rfl dX7_work_105 ?_
    refine v_iload G dX7_work_108 4 rfl ?_
    refine v_iload G dX7_work_110 8 rfl ?_
    refine v_iadd G dX7_work_112 ?_
    obtain ⟨t7, e8, h⟩ := Option.bind_eq_some_iff.mp h
    refine v_iald (lay := layM) (k := 20) (n := 480) G rfl e8 dX7_work_113 ?_
    refine v_iadd G dX7_work_114 ?_
    refine v_istore (L' := [(7, .int (v7 + t7)), (0, .ref (q 0)), (1, .int v1), (2, .int v2), (3, .int v3), (4, .int v4), (5, .int v5), (6, .int v6), (8, .int v8)]) G dX7_work_115 (by decide) rfl ?_
    refine v_iinc (v := v8 + 1) (L' := [(8, .int (v8 + 1)), (7, .int (v7 + t7)), (0, .ref (q 0)), (1, .int v1), (2, .int v2), (3, .int v3), (4, .int v4), (5, .int v5), (6, .int v6)]) G dX7_work_117 8 rfl rfl (by decide) rfl ?_
    refine v_goto (tgt := 95) G dX7_work_120 (by decide) ?_
    cases h
    refine v_locs (L' := [(0, .ref (q 0)), (1, .int v1), (2, .int v2), (3, .int v3), (4, .int v4), (5, .int v5), (6, .int v6), (7, .int (v7 + t7)), (8, .int (v8 + 1))]) [2, 3, 4, 5, 6, 7, 8, 1, 0] rfl ?_
    exact K
def m_X7_work_B334 (s : apM) (v1 : Int32) (v2 : Int32) (v3 : Int32) (v4 : Int32) (v5 : Int32) (v6 : Int32) (v7 : Int32) (v8 : Int32) (k0 : Int32) (k1 : Int32) : Option ((apM × Int32) ⊕ (apM × Int32)) := Option.bind (ast s 20 480 k1 k0) (fun s44 => some (.inl (s44, v8 + 1)))
set_option maxHeartbeats 4000000 in
set_option maxRecDepth 100000 in
theorem w_X7_work_B334 {Γ : apC} {q : Nat → Nat} (G : apG Γ cX7_work 9 RX7 wsX7_work (apRm 1 0) apXM) {s : apM} {v1 v2 v3 v4 v5 v6 v7 v8 k0 k1 : Int32} {r : ((apM × Int32) ⊕ (apM × Int32))} (K : match r with | .inl x => apV Γ 9 (apU layM q (apd Γ) x.1) 0 0 126 [(0, .ref (q 0)), (1, .int v1), (2, .int v2), (3, .int v3), (4, .int v4), (5, .int v5), (6, .int v6), (7, .int v7), (8, .int x.2)] [] | .inr x => apV Γ 9 (apU layM q (apd Γ) x.1) 0 0 403 [] []) (h : m_X7_work_B334 s v1 v2 v3 v4 v5 v6 v7 v8 k0 k1 = some r) : apV Γ 9 (apU layM q (apd Γ) s) 0 0 334 [(0, .ref (q 0)), (1, .int v1), (2, .int v2), (3, .int v3), (4, .int v4), (5, .int v5), (6, .int v6), (7, .int v7), (8, .int v8)] [.int k0, .int k1, .ref (q 20)] := by
  unfold m_X7_work_B334 at h
  obtain ⟨s44, e45, h⟩ := Option.bind_eq_some_iff.mp h
  refine v_iast (lay := layM) (k := 20) (n := 480) G rfl e45 dX7_work_334 ?_
  refine v_goto (tgt := 397) G dX7_work_335 (by decide) ?_
  refine v_iinc (v := v8 + 1) (L' := [(8, .int (v8 + 1)), (0, .ref (q 0)), (1, .int v1), (2, .int v2), (3, .int v3), (4, .int v4), (5, .int v5), (6, .int v6), (7, .int v7)]) G dX7_work_397 8 rfl rfl (by decide) rfl ?_
  refine v_goto (tgt := 126) G dX7_work_400 (by decide) ?_
  cases h
  refine v_locs (L' := [(0, .ref (q 0)), (1, .int v1), (2, .int v2), (3, .int v3), (4, .int v4), (5, .int v5), (6, .int v6), (7, .int v7), (8, .int (v8 + 1))]) [1, 2, 3, 4, 5, 6, 7, 8, 0] rfl ?_
  exact K
def m_X7_work_L126 (v1 : Int32) (v2 : Int32) (v3 : Int32) (v4 : Int32) (v5 : Int32) (v6 : Int32) (v7 : Int32) : (apM × Int32) → Option ((apM × Int32) ⊕ (apM × Int32)) := fun (s0, v8) => Option.bind (ald s0 9 12 v1) (fun t13 => if t13 ≤ v8 then (some (.inr (s0, v8))) else (if v2 = 0 then (Option.bind (ald s0 6 192 ((16 * v1) + v8)) (fun t17 => Option.bind (ast s0 20 480 (v3 + v8) t17) (fun s19 => some (.inl (s19, v8 + 1))))) else (if v2 = 1 then (Option.bind (ald s0 20 480 (v4 + v8)) (fun t22 => Option.bind (ast s0 20 480 (v3 + v8) (-t22)) (fun s24 => some (.inl (s24, v8 + 1))))) else (if v2 = 2 then (Option.bind (ald s0 20 480 (v4 + v8)) (fun t27 => Option.bind (ald s0 20 480 (v5 + v8)) (fun t29 => Option.bind (ast s0 20 480 (v3 + v8) (t27 + t29)) (fun s31 => some (.inl (s31, v8 + 1)))))) else (if v2 = 3 then (Option.bind (ald s0 20 480 (v4 + v8)) (fun t34 => Option.bind (ald s0 20 480 (v5 + v8)) (fun t36 => Option.bind (ast s0 20 480 (v3 + v8) (t34 * t36)) (fun s38 => some (.inl (s38, v8 + 1)))))) else (if v2 = 4 then (if v6 ≤ v8 then (Option.bind (ald s0 20 480 ((v5 + v8) - v6)) (fun t42 => m_X7_work_B334 s0 v1 v2 v3 v4 v5 v6 v7 v8 t42 (v3 + v8))) else (Option.bind (ald s0 20 480 (v4 + v8)) (fun t46 => m_X7_work_B334 s0 v1 v2 v3 v4 v5 v6 v7 v8 t46 (v3 + v8)))) else (if v2 = 5 then (Option.bind (ald s0 2 12 v1) (fun t49 => Option.bind (ald s0 20 480 ((v4 + t49) + v8)) (fun t51 => Option.bind (ast s0 20 480 (v3 + v8) t51) (fun s53 => some (.inl (s53, v8 + 1)))))) else (if v2 = 6 then (Option.bind (ast s0 20 480 (v3 + v8) v7) (fun s56 => some (.inl (s56, v8 + 1)))) else (Option.bind (ald s0 20 480 v4) (fun t58 => Option.bind (ast s0 20 480 (v3 + v8) t58) (fun s60 => some (.inl (s60, v8 + 1)))))))))))))
set_option maxHeartbeats 4000000 in
set_option maxRecDepth 100000 in
theorem w_X7_work_L126 {Γ : apC} {q : Nat → Nat} (G : apG Γ cX7_work 9 RX7 wsX7_work (apRm 1 0) apXM) {s0 : apM} {v1 v2 v3 v4 v5 v6 v7 v8 : Int32} {r : ((apM × Int32) ⊕ (apM × Int32))} (K : match r with | .inl x => apV Γ 9 (apU layM q (apd Γ) x.1) 0 0 126 [(0, .ref (q 0)), (1, .int v1), (2, .int v2), (3, .int v3), (4, .int v4), (5, .int v5), (6, .int v6), (7, .int v7), (8, .int x.2)] [] | .inr x => apV Γ 9 (apU layM q (apd Γ) x.1) 0 0 403 [] []) (h : m_X7_work_L126 v1 v2 v3 v4 v5 v6 v7 (s0, v8) = some r) : apV Γ 9 (apU layM q (apd Γ) s0) 0 0 126 [(0, .ref (q 0)), (1, .int v1), (2, .int v2), (3, .int v3), (4, .int v4), (5, .int v5), (6, .int v6), (7, .int v7), (8, .int v8)] [] := by
  unfold m_X7_work_L126 at h
  dsimp only at h
  refine v_iload G dX7_work_126 8 rfl ?_
  refine v_aload_n G dX7_work_128 rfl 0 rfl ?_
  refine v_getr (lay := layM) (k := 0) (k' := 9) (C := RX7) (T := TX7) (N := 30) G (fun _ h => i_X7_work_X7 _ h) rfl rfl 13 (by decide) (by decide +kernel) rfl rfl dX7_work_129 ?_
  refine v_iload_n G dX7_work_132 rfl 1 rfl ?_
  obtain ⟨t13, e14, h⟩ := Option.bind_eq_some_iff.mp h
  refine v_iald (lay := layM) (k := 9) (n := 12) G rfl e14 dX7_work_133 ?_
  refine v_icmp_ge (tgt := 403) G dX7_work_134 (by decide) (fun c15 => ?_) (fun c15 => ?_)
  · replace h := (if_pos c15).symm.trans h
    cases h
    refine v_locs (L' := []) [] rfl ?_
    exact K
  · replace h := (if_neg c15).symm.trans h
    refine v_iload_n G dX7_work_137 rfl 2 rfl ?_
    by_cases c16 : v2 = 0
    · replace h := (if_pos c16).symm.trans h
      refine v_tableI (c := 0) (tgt := 180) G dX7_work_138 c16 (by decide) (by decide) rfl (by decide) ?_
      refine v_aload_n G dX7_work_180 rfl 0 rfl ?_
      refine v_getr (lay := layM) (k := 0) (k' := 20) (C := RX7) (T := TX7) (N := 30) G (fun _ h => i_X7_work_X7 _ h) rfl rfl 29 (by decide) (by decide +kernel) rfl rfl dX7_work_181 ?_
      refine v_iload_n G dX7_work_184 rfl 3 rfl ?_
      refine v_iload G dX7_work_185 8 rfl ?_
      refine v_iadd G dX7_work_187 ?_
      refine v_aload_n G dX7_work_188 rfl 0 rfl ?_
      refine v_getr (lay := layM) (k := 0) (k' := 6) (C := RX7) (T := TX7) (N := 30) G (fun _ h => i_X7_work_X7 _ h) rfl rfl 7 (by decide) (by decide +kernel) rfl rfl dX7_work_189 ?_
      refine v_bipush (v := 16) G dX7_work_192 (by decide) ?_
      refine v_iload_n G dX7_work_194 rfl 1 rfl ?_
      refine v_imul G dX7_work_195 ?_
      refine v_iload G dX7_work_196 8 rfl ?_
      refine v_iadd G dX7_work_198 ?_
      obtain ⟨t17, e18, h⟩ := Option.bind_eq_some_iff.mp h
      refine v_iald (lay := layM) (k := 6) (n := 192) G rfl e18 dX7_work_199 ?_
      obtain ⟨s19, e20, h⟩ := Option.bind_eq_some_iff.mp h
      refine v_iast (lay := layM) (k := 20) (n := 480) G rfl e20 dX7_work_200 ?_
      refine v_goto (tgt := 397) G dX7_work_201 (by decide) ?_
      refine v_iinc (v := v8 + 1) (L' := [(8, .int (v8 + 1)), (0, .ref (q 0)), (1, .int v1), (2, .int v2), (3, .int v3), (4, .int v4), (5, .int v5), (6, .int v6), (7, .int v7)]) G dX7_work_397 8 rfl rfl (by decide) rfl ?_
      refine v_goto (tgt := 126) G dX7_work_400 (by decide) ?_
      cases h
      refine v_locs (L' := [(0, .ref (q 0)), (1, .int v1), (2, .int v2), (3, .int v3), (4, .int v4), (5, .int v5), (6, .int v6), (7, .int v7), (8, .int (v8 + 1))]) [1, 2, 3, 4, 5, 6, 7, 8, 0] rfl ?_
      exact K
    · replace h := (if_neg c16).symm.trans h
      by_cases c21 : v2 = 1
      · replace h := (if_pos c21).symm.trans h
        refine v_tableI (c := 1) (tgt := 204) G dX7_work_138 c21 (by decide) (by decide) rfl (by decide) ?_
        refine v_aload_n G dX7_work_204 rfl 0 rfl ?_
        refine v_getr (lay := layM) (k := 0) (k' := 20) (C := RX7) (T := TX7) (N := 30) G (fun _ h => i_X7_work_X7 _ h) rfl rfl 29 (by decide) (by decide +kernel) rfl rfl dX7_work_205 ?_
        refine v_iload_n G dX7_work_208 rfl 3 rfl ?_
        refine v_iload G dX7_work_209 8 rfl ?_
        refine v_iadd G dX7_work_211 ?_
        refine v_aload_n G dX7_work_212 rfl 0 rfl ?_
        refine v_getr (lay := layM) (k := 0) (k' := 20) (C := RX7) (T := TX7) (N := 30) G (fun _ h => i_X7_work_X7 _ h) rfl rfl 29 (by decide) (by decide +kernel) rfl rfl dX7_work_213 ?_
        refine v_iload G dX7_work_216 4 rfl ?_
        refine v_iload G dX7_work_218 8 rfl ?_
        refine v_iadd G dX7_work_220 ?_
        obtain ⟨t22, e23, h⟩ := Option.bind_eq_some_iff.mp h
        refine v_iald (lay := layM) (k := 20) (n := 480) G rfl e23 dX7_work_221 ?_
        refine v_ineg G dX7_work_222 ?_
        obtain ⟨s24, e25, h⟩ := Option.bind_eq_some_iff.mp h
        refine v_iast (lay := layM) (k := 20) (n := 480) G rfl e25 dX7_work_223 ?_
        refine v_goto (tgt := 397) G dX7_work_224 (by decide) ?_
        refine v_iinc (v := v8 + 1) (L' := [(8, .int (v8 + 1)), (0, .ref (q 0)), (1, .int v1), (2, .int v2), (3, .int v3), (4, .int v4), (5, .int v5), (6, .int v6), (7, .int v7)]) G dX7_work_397 8 rfl rfl (by decide) rfl ?_
        refine v_goto (tgt := 126) G dX7_work_400 (by decide) ?_
        cases h
        refine v_locs (L' := [(0, .ref (q 0)), (1, .int v1), (2, .int v2), (3, .int v3), (4, .int v4), (5, .int v5), (6, .int v6), (7, .int v7), (8, .int (v8 + 1))]) [1, 2, 3, 4, 5, 6, 7, 8, 0] rfl ?_
        exact K
      · replace h := (if_neg c21).symm.trans h
        by_cases c26 : v2 = 2
        · replace h := (if_pos c26).symm.trans h
          refine v_tableI (c := 2) (tgt := 227) G dX7_work_138 c26 (by decide) (by decide) rfl (by decide) ?_
          refine v_aload_n G dX7_work_227 rfl 0 rfl ?_
          refine v_getr (lay := layM) (k := 0) (k' := 20) (C := RX7) (T := TX7) (N := 30) G (fun _ h => i_X7_work_X7 _ h) rfl rfl 29 (by decide) (by decide +kernel) rfl rfl dX7_work_228 ?_
          refine v_iload_n G dX7_work_231 rfl 3 rfl ?_
          refine v_iload G dX7_work_232 8 rfl ?_
          refine v_iadd G dX7_work_234 ?_
          refine v_aload_n G dX7_work_235 rfl 0 rfl ?_
          refine v_getr (lay := layM) (k := 0) (k' := 20) (C := RX7) (T := TX7) (N := 30) G (fun _ h => i_X7_work_X7 _ h) rfl rfl 29 (by decide) (by decide +kernel) rfl rfl dX7_work_236 ?_
          refine v_iload G dX7_work_239 4 rfl ?_
          refine v_iload G dX7_work_241 8 rfl ?_
          refine v_iadd G dX7_work_243 ?_
          obtain ⟨t27, e28, h⟩ := Option.bind_eq_some_iff.mp h
          refine v_iald (lay := layM) (k := 20) (n := 480) G rfl e28 dX7_work_244 ?_
          refine v_aload_n G dX7_work_245 rfl 0 rfl ?_
          refine v_getr (lay := layM) (k := 0) (k' := 20) (C := RX7) (T := TX7) (N := 30) G (fun _ h => i_X7_work_X7 _ h) rfl rfl 29 (by decide) (by decide +kernel) rfl rfl dX7_work_246 ?_
          refine v_iload G dX7_work_249 5 rfl ?_
          refine v_iload G dX7_work_251 8 rfl ?_
          refine v_iadd G dX7_work_253 ?_
          obtain ⟨t29, e30, h⟩ := Option.bind_eq_some_iff.mp h
          refine v_iald (lay := layM) (k := 20) (n := 480) G rfl e30 dX7_work_254 ?_
          refine v_iadd G dX7_work_255 ?_
          obtain ⟨s31, e32, h⟩ := Option.bind_eq_some_iff.mp h
          refine v_iast (lay := layM) (k := 20) (n := 480) G rfl e32 dX7_work_256 ?_
          refine v_goto (tgt := 397) G dX7_work_257 (by decide) ?_
          refine v_iinc (v := v8 + 1) (L' := [(8, .int (v8 + 1)), (0, .ref (q 0)), (1, .int v1), (2, .int v2), (3, .int v3), (4, .int v4), (5, .int v5), (6, .int v6), (7, .int v7)]) G dX7_work_397 8 rfl rfl (by decide) rfl ?_
          refine v_goto (tgt := 126) G dX7_work_400 (by decide) ?_
          cases h
          refine v_locs (L' := [(0, .ref (q 0)), (1, .int v1), (2, .int v2), (3, .int v3), (4, .int v4), (5, .int v5), (6, .int v6), (7, .int v7), (8, .int (v8 + 1))]) [1, 2, 3, 4, 5, 6, 7, 8, 0] rfl ?_
          exact K
        · replace h := (if_neg c26).symm.trans h
          by_cases c33 : v2 = 3
          · replace h := (if_pos c33).symm.trans h
            refine v_tableI (c := 3) (tgt := 260) G dX7_work_138 c33 (by decide) (by decide) rfl (by decide) ?_
            refine v_aload_n G dX7_work_260 rfl 0 rfl ?_
            refine v_getr (lay := layM) (k := 0) (k' := 20) (C := RX7) (T := TX7) (N := 30) G (fun _ h => i_X7_work_X7 _ h) rfl rfl 29 (by decide) (by decide +kernel) rfl rfl dX7_work_261 ?_
            refine v_iload_n G dX7_work_264 rfl 3 rfl ?_
            refine v_iload G dX7_work_265 8 rfl ?_
            refine v_iadd G dX7_work_267 ?_
            refine v_aload_n G dX7_work_268 rfl 0 rfl ?_
            refine v_getr (lay := layM) (k := 0) (k' := 20) (C := RX7) (T := TX7) (N := 30) G (fun _ h => i_X7_work_X7 _ h) rfl rfl 29 (by decide) (by decide +kernel) rfl rfl dX7_work_269 ?_
            refine v_iload G dX7_work_272 4 rfl ?_
            refine v_iload G dX7_work_274 8 rfl ?_
            refine v_iadd G dX7_work_276 ?_
            obtain ⟨t34, e35, h⟩ := Option.bind_eq_some_iff.mp h
            refine v_iald (lay := layM) (k := 20) (n := 480) G rfl e35 dX7_work_277 ?_
            refine v_aload_n G dX7_work_278 rfl 0 rfl ?_
            refine v_getr (lay := layM) (k := 0) (k' := 20) (C := RX7) (T := TX7) (N := 30) G (fun _ h => i_X7_work_X7 _ h) rfl rfl 29 (by decide) (by decide +kernel) rfl rfl dX7_work_279 ?_
            refine v_iload G dX7_work_282 5 rfl ?_
            refine v_iload G dX7_work_284 8 rfl ?_
            refine v_iadd G dX7_work_286 ?_
            obtain ⟨t36, e37, h⟩ := Option.bind_eq_some_iff.mp h
            refine v_iald (lay := layM) (k := 20) (n := 480) G rfl e37 dX7_work_287 ?_
            refine v_imul G dX7_work_288 ?_
            obtain ⟨s38, e39, h⟩ := Option.bind_eq_some_iff.mp h
            refine v_iast (lay := layM) (k := 20) (n := 480) G rfl e39 dX7_work_289 ?_
            refine v_goto (tgt := 397) G dX7_work_290 (by decide) ?_
            refine v_iinc (v := v8 + 1) (L' := [(8, .int (v8 + 1)), (0, .ref (q 0)), (1, .int v1), (2, .int v2), (3, .int v3), (4, .int v4), (5, .int v5), (6, .int v6), (7, .int v7)]) G dX7_work_397 8 rfl rfl (by decide) rfl ?_
            refine v_goto (tgt := 126) G dX7_work_400 (by decide) ?_
            cases h
            refine v_locs (L' := [(0, .ref (q 0)), (1, .int v1), (2, .int v2), (3, .int v3), (4, .int v4), (5, .int v5), (6, .int v6), (7, .int v7), (8, .int (v8 + 1))]) [1, 2, 3, 4, 5, 6, 7, 8, 0] rfl ?_
            exact K
          · replace h := (if_neg c33).symm.trans h
            by_cases c40 : v2 = 4
            · replace h := (if_pos c40).symm.trans h
              refine v_tableI (c := 4) (tgt := 293) G dX7_work_138 c40 (by decide) (by decide) rfl (by decide) ?_
              refine v_aload_n G dX7_work_293 rfl 0 rfl ?_
              refine v_getr (lay := layM) (k := 0) (k' := 20) (C := RX7) (T := TX7) (N := 30) G (fun _ h => i_X7_work_X7 _ h) rfl rfl 29 (by decide) (by decide +kernel) rfl rfl dX7_work_294 ?_
              refine v_iload_n G dX7_work_297 rfl 3 rfl ?_
              refine v_iload G dX7_work_298 8 rfl ?_
              refine v_iadd G dX7_work_300 ?_
              refine v_iload G dX7_work_301 8 rfl ?_
              refine v_iload G dX7_work_303 6 rfl ?_
              refine v_icmp_ge (tgt := 321) G dX7_work_305 (by decide) (fun c41 => ?_) (fun c41 => ?_)
              · replace h := (if_pos c41).symm.trans h
                refine v_aload_n G dX7_work_321 rfl 0 rfl ?_
                refine v_getr (lay := layM) (k := 0) (k' := 20) (C := RX7) (T := TX7) (N := 30) G (fun _ h => i_X7_work_X7 _ h) rfl rfl 29 (by decide) (by decide +kernel) rfl rfl dX7_work_322 ?_
                refine v_iload G dX7_work_325 5 rfl ?_
                refine v_iload G dX7_work_327 8 rfl ?_
                refine v_iadd G dX7_work_329 ?_
                refine v_iload G dX7_work_330 6 rfl ?_
                refine v_isub G dX7_work_332 ?_
                obtain ⟨t42, e43, h⟩ := Option.bind_eq_some_iff.mp h
                refine v_iald (lay := layM) (k := 20) (n := 480) G rfl e43 dX7_work_333 ?_
                exact w_X7_work_B334 G K h
              · replace h := (if_neg c41).symm.trans h
                refine v_aload_n G dX7_work_308 rfl 0 rfl ?_
                refine v_getr (lay := layM) (k := 0) (k' := 20) (C := RX7) (T := TX7) (N := 30) G (fun _ h => i_X7_work_X7 _ h) rfl rfl 29 (by decide) (by decide +kernel) rfl rfl dX7_work_309 ?_
                refine v_iload G dX7_work_312 4 rfl ?_
                refine v_iload G dX7_work_314 8 rfl ?_
                refine v_iadd G dX7_work_316 ?_
                obtain ⟨t46, e47, h⟩ := Option.bind_eq_some_iff.mp h
                refine v_iald (lay := layM) (k := 20) (n := 480) G rfl e47 dX7_work_317 ?_
                refine v_goto (tgt := 334) G dX7_work_318 (by decide) ?_
                exact w_X7_work_B334 G K h
            · replace h := (if_neg c40).symm.trans h
              by_cases c48 : v2 = 5
              · replace h := (if_pos c48).symm.trans h
                refine v_tableI (c := 5) (tgt := 338) G dX7_work_138 c48 (by decide) (by decide) rfl (by decide) ?_
                refine v_aload_n G dX7_work_338 rfl 0 rfl ?_
                refine v_getr (lay := layM) (k := 0) (k' := 20) (C := RX7) (T := TX7) (N := 30) G (fun _ h => i_X7_work_X7 _ h) rfl rfl 29 (by decide) (by decide +kernel) rfl rfl dX7_work_339 ?_
                refine v_iload_n G dX7_work_342 rfl 3 rfl ?_
                refine v_iload G dX7_work_343 8 rfl ?_
                refine v_iadd G dX7_work_345 ?_
                refine v_aload_n G dX7_work_346 rfl 0 rfl ?_
                refine v_getr (lay := layM) (k := 0) (k' := 20) (C := RX7) (T := TX7) (N := 30) G (fun _ h => i_X7_work_X7 _ h) rfl rfl 29 (by decide) (by decide +kernel) rfl rfl dX7_work_347 ?_
                refine v_iload G dX7_work_350 4 rfl ?_
                refine v_aload_n G dX7_work_352 rfl 0 rfl ?_
                refine v_getr (lay := layM) (k := 0) (k' := 2) (C := RX7) (T := TX7) (N := 30) G (fun _ h => i_X7_work_X7 _ h) rfl rfl 3 (by decide) (by decide +kernel) rfl rfl dX7_work_353 ?_
                refine v_iload_n G dX7_work_356 rfl 1 rfl ?_
                obtain ⟨t49, e50, h⟩ := Option.bind_eq_some_iff.mp h
                refine v_iald (lay := layM) (k := 2) (n := 12) G rfl e50 dX7_work_357 ?_
                refine v_iadd G dX7_work_358 ?_
                refine v_iload G dX7_work_359 8 rfl ?_
                refine v_iadd G dX7_work_361 ?_
                obtain ⟨t51, e52, h⟩ := Option.bind_eq_some_iff.mp h
                refine v_iald (lay := layM) (k := 20) (n := 480) G rfl e52 dX7_work_362 ?_
                obtain ⟨s53, e54, h⟩ := Option.bind_eq_some_iff.mp h
                refine v_iast (lay := layM) (k := 20) (n := 480) G rfl e54 dX7_work_363 ?_
                refine v_goto (tgt := 397) G dX7_work_364 (by decide) ?_
                refine v_iinc (v := v8 + 1) (L' := [(8, .int (v8 + 1)), (0, .ref (q 0)), (1, .int v1), (2, .int v2), (3, .int v3), (4, .int v4), (5, .int v5), (6, .int v6), (7, .int v7)]) G dX7_work_397 8 rfl rfl (by decide) rfl ?_
                refine v_goto (tgt := 126) G dX7_work_400 (by decide) ?_
                cases h
                refine v_locs (L' := [(0, .ref (q 0)), (1, .int v1), (2, .int v2), (3, .int v3), (4, .int v4), (5, .int v5), (6, .int v6), (7, .int v7), (8, .int (v8 + 1))]) [1, 2, 3, 4, 5, 6, 7, 8, 0] rfl ?_
                exact K
              · replace h := (if_neg c48).symm.trans h
                by_cases c55 : v2 = 6
                · replace h := (if_pos c55).symm.trans h
                  refine v_tableI (c := 6) (tgt := 367) G dX7_work_138 c55 (by decide) (by decide) rfl (by decide) ?_
                  refine v_aload_n G dX7_work_367 rfl 0 rfl ?_
                  refine v_getr (lay := layM) (k := 0) (k' := 20) (C := RX7) (T := TX7) (N := 30) G (fun _ h => i_X7_work_X7 _ h) rfl rfl 29 (by decide) (by decide +kernel) rfl rfl dX7_work_368 ?_
                  refine v_iload_n G dX7_work_371 rfl 3 rfl ?_
                  refine v_iload G dX7_work_372 8 rfl ?_
                  refine v_iadd G dX7_work_374 ?_
                  refine v_iload G dX7_work_375 7 rfl ?_
                  obtain ⟨s56, e57, h⟩ := Option.bind_eq_some_iff.mp h
                  refine v_iast (lay := layM) (k := 20) (n := 480) G rfl e57 dX7_work_377 ?_
                  refine v_goto (tgt := 397) G dX7_work_378 (by decide) ?_
                  refine v_iinc (v := v8 + 1) (L' := [(8, .int (v8 + 1)), (0, .ref (q 0)), (1, .int v1), (2, .int v2), (3, .int v3), (4, .int v4), (5, .int v5), (6, .int v6), (7, .int v7)]) G dX7_work_397 8 rfl rfl (by decide) rfl ?_
                  refine v_goto (tgt := 126) G dX7_work_400 (by decide) ?_
                  cases h
                  refine v_locs (L' := [(0, .ref (q 0)), (1, .int v1), (2, .int v2), (3, .int v3), (4, .int v4), (5, .int v5), (6, .int v6), (7, .int v7), (8, .int (v8 + 1))]) [1, 2, 3, 4, 5, 6, 7, 8, 0] rfl ?_
                  exact K
                · replace h := (if_neg c55).symm.trans h
                  refine v_tableOut (tgt := 381) G dX7_work_138 (by have a0 := lv_neT c16 (show (0 : Int32).toInt = 0 by decide); have a1 := lv_neT c21 (show (1 : Int32).toInt = 1 by decide); have a2 := lv_neT c26 (show (2 : Int32).toInt = 2 by decide); have a3 := lv_neT c33 (show (3 : Int32).toInt = 3 by decide); have a4 := lv_neT c40 (show (4 : Int32).toInt = 4 by decide); have a5 := lv_neT c48 (show (5 : Int32).toInt = 5 by decide); have a6 := lv_neT c55 (show (6 : Int32).toInt = 6 by decide); omega) (by decide) ?_
                  refine v_aload_n G dX7_work_381 rfl 0 rfl ?_
                  refine v_getr (lay := layM) (k := 0) (k' := 20) (C := RX7) (T := TX7) (N := 30) G (fun _ h => i_X7_work_X7 _ h) rfl rfl 29 (by decide) (by decide +kernel) rfl rfl dX7_work_382 ?_
                  refine v_iload_n G dX7_work_385 rfl 3 rfl ?_
                  refine v_iload G dX7_work_386 8 rfl ?_
                  refine v_iadd G dX7_work_388 ?_
                  refine v_aload_n G dX7_work_389 rfl 0 rfl ?_
                  refine v_getr (lay := layM) (k := 0) (k' := 20) (C := RX7) (T := TX7) (N := 30) G (fun _ h => i_X7_work_X7 _ h) rfl rfl 29 (by decide) (by decide +kernel) rfl rfl dX7_work_390 ?_
                  refine v_iload G dX7_work_393 4 rfl ?_
                  obtain ⟨t58, e59, h⟩ := Option.bind_eq_some_iff.mp h
                  refine v_iald (lay := layM) (k := 20) (n := 480) G rfl e59 dX7_work_395 ?_
                  obtain ⟨s60, e61, h⟩ := Option.bind_eq_some_iff.mp h
                  refine v_iast (lay := layM) (k := 20) (n := 480) G rfl e61 dX7_work_396 ?_
                  refine v_iinc (v := v8 + 1) (L' := [(8, .int (v8 + 1)), (0, .ref (q 0)), (1, .int v1), (2, .int v2), (3, .int v3), (4, .int v4), (5, .int v5), (6, .int v6), (7, .int v7)]) G dX7_work_397 8 rfl rfl (by decide) rfl ?_
                  refine v_goto (tgt := 126) G dX7_work_400 (by decide) ?_
                  cases h
                  refine v_locs (L' := [(0, .ref (q 0)), (1, .int v1), (2, .int v2), (3, .int v3), (4, .int v4), (5, .int v5), (6, .int v6), (7, .int v7), (8, .int (v8 + 1))]) [1, 2, 3, 4, 5, 6, 7, 8, 0] rfl ?_
                  exact K
def m_X7_work_B87 (s : apM) (v1 : Int32) (v2 : Int32) (v3 : Int32) (v4 : Int32) (v5 : Int32) (k0 : Int32) : Option apM := Option.bind (lp FU (m_X7_work_L95 s v1 v2 v3 v4 v5 k0) (0, 0)) (fun x9 => match x9 with | (v11, v12) => Option.bind (lp FU (m_X7_work_L126 v1 v2 v3 v4 v5 k0 v11) (s, 0)) (fun x62 => match x62 with | (s65, v64) => some s65))
set_option maxHeartbeats 4000000 in
set_option maxRecDepth 100000 in
theorem w_X7_work_B87 {Γ : apC} {q : Nat → Nat} (G : apG Γ cX7_work 9 RX7 wsX7_work (apRm 1 0) apXM) {s : apM} {v1 v2 v3 v4 v5 k0 : Int32} {r : apM} (K : apR Γ cX7_work 0 0 none (apU layM q (apd Γ) r)) (h : m_X7_work_B87 s v1 v2 v3 v4 v5 k0 = some r) : apV Γ 9 (apU layM q (apd Γ) s) 0 0 87 [(0, .ref (q 0)), (1, .int v1), (2, .int v2), (3, .int v3), (4, .int v4), (5, .int v5)] [.int k0] := by
  unfold m_X7_work_B87 at h
  refine v_istore (L' := [(6, .int k0), (0, .ref (q 0)), (1, .int v1), (2, .int v2), (3, .int v3), (4, .int v4), (5, .int v5)]) G dX7_work_87 (by decide) rfl ?_
  refine v_iconst (v := 0) G dX7_work_89 (by decide) ?_
  refine v_istore (L' := [(7, .int 0), (6, .int k0), (0, .ref (q 0)), (1, .int v1), (2, .int v2), (3, .int v3), (4, .int v4), (5, .int v5)]) G dX7_work_90 (by decide) rfl ?_
  refine v_iconst (v := 0) G dX7_work_92 (by decide) ?_
  refine v_istore (L' := [(8, .int 0), (7, .int 0), (6, .int k0), (0, .ref (q 0)), (1, .int v1), (2, .int v2), (3, .int v3), (4, .int v4), (5, .int v5)]) G dX7_work_93 (by decide) rfl ?_
  obtain ⟨x9, e10, h⟩ := Option.bind_eq_some_iff.mp h
  refine v_locs (L' := [(0, .ref (q 0)), (1, .int v1), (2, .int v2), (3, .int v3), (4, .int v4), (5, .int v5), (6, .int k0), (7, .int 0), (8, .int 0)]) [3, 4, 5, 6, 7, 8, 2, 1, 0] rfl ?_
  have l67 := v_lp (b := m_X7_work_L95 s v1 v2 v3 v4 v5 k0) (I := fun x => apV Γ 9 (apU layM q (apd Γ) s) 0 0 95 [(0, .ref (q 0)), (1, .int v1), (2, .int v2), (3, .int v3), (4, .int v4), (5, .int v5), (6, .int k0), (7, .int x.1), (8, .int x.2)] []) (O := fun x => apV Γ 9 (apU layM q (apd Γ) s) 0 0 123 [(0, .ref (q 0)), (1, .int v1), (2, .int v2), (3, .int v3), (4, .int v4), (5, .int v5), (6, .int k0), (7, .int x.1)] []) (fun x r hb hK => by obtain ⟨y7, y8⟩ := x; rcases r with r | r <;> exact w_X7_work_L95 G hK hb) FU (0, 0) x9 e10
  obtain ⟨v11, v12⟩ := x9
  dsimp only at h
  refine l67 ?_
  refine v_iconst (v := 0) G dX7_work_123 (by decide) ?_
  refine v_istore (L' := [(8, .int 0), (0, .ref (q 0)), (1, .int v1), (2, .int v2), (3, .int v3), (4, .int v4), (5, .int v5), (6, .int k0), (7, .int v11)]) G dX7_work_124 (by decide) rfl ?_
  obtain ⟨x62, e63, h⟩ := Option.bind_eq_some_iff.mp h
  refine v_locs (L' := [(0, .ref (q 0)), (1, .int v1), (2, .int v2), (3, .int v3), (4, .int v4), (5, .int v5), (6, .int k0), (7, .int v11), (8, .int 0)]) [1, 2, 3, 4, 5, 6, 7, 8, 0] rfl ?_
  have l66 := v_lp (b := m_X7_work_L126 v1 v2 v3 v4 v5 k0 v11) (I := fun x => apV Γ 9 (apU layM q (apd Γ) x.1) 0 0 126 [(0, .ref (q 0)), (1, .int v1), (2, .int v2), (3, .int v3), (4, .int v4), (5, .int v5), (6, .int k0), (7, .int v11), (8, .int x.2)] []) (O := fun x => apV Γ 9 (apU layM q (apd Γ) x.1) 0 0 403 [] []) (fun x r hb hK => by obtain ⟨ys, y8⟩ := x; rcases r with r | r <;> exact w_X7_work_L126 G hK hb) FU (s, 0) x62 e63
  obtain ⟨s65, v64⟩ := x62
  dsimp only at h
  refine l66 ?_
  cases h
  exact v_vret G K (by decide) (by decide) dX7_work_403
def m_X7_work_B61 (s : apM) (v1 : Int32) (v2 : Int32) (v3 : Int32) (v4 : Int32) (k0 : Int32) : Option apM := if (m_X7_inputs v2) ≤ 0 then (m_X7_work_B87 s v1 v2 v3 v4 k0 0) else (Option.bind (ald s 4 24 (2 * v1)) (fun t68 => Option.bind (ald s 9 12 t68) (fun t70 => m_X7_work_B87 s v1 v2 v3 v4 k0 t70)))
set_option maxHeartbeats 4000000 in
set_option maxRecDepth 100000 in
theorem w_X7_work_B61 {Γ : apC} {q : Nat → Nat} (G : apG Γ cX7_work 9 RX7 wsX7_work (apRm 1 0) apXM) {s : apM} {v1 v2 v3 v4 k0 : Int32} {r : apM} (K : apR Γ cX7_work 0 0 none (apU layM q (apd Γ) r)) (h : m_X7_work_B61 s v1 v2 v3 v4 k0 = some r) : apV Γ 9 (apU layM q (apd Γ) s) 0 0 61 [(0, .ref (q 0)), (1, .int v1), (2, .int v2), (3, .int v3), (4, .int v4)] [.int k0] := by
  unfold m_X7_work_B61 at h
  refine v_istore (L' := [(5, .int k0), (0, .ref (q 0)), (1, .int v1), (2, .int v2), (3, .int v3), (4, .int v4)]) G dX7_work_61 (by decide) rfl ?_
  refine v_iload_n G dX7_work_63 rfl 3 rfl ?_
  refine v_calliS (lay := layM) (As := [.int v2]) (st := []) (n := 1) G apXMok (c_X7_inputs Γ.1.2.1 (s := s) rfl) gX7_work_X7_inputs rfl (by decide +kernel) (by decide) rfl rfl (Nat.le_of_ble_eq_true rfl) (by decide) rfl dX7_work_64 ?_
  refine v_if_le (tgt := 86) G dX7_work_67 (by decide) (fun c5 => ?_) (fun c5 => ?_)
  · replace h := (if_pos c5).symm.trans h
    refine v_iconst (v := 0) G dX7_work_86 (by decide) ?_
    refine v_locs (L' := [(0, .ref (q 0)), (1, .int v1), (2, .int v2), (3, .int v3), (4, .int v4), (5, .int k0)]) [1, 2, 3, 4, 5, 0] rfl ?_
    exact w_X7_work_B87 G K h
  · replace h := (if_neg c5).symm.trans h
    refine v_aload_n G dX7_work_70 rfl 1 rfl ?_
    refine v_getr (lay := layM) (k := 0) (k' := 9) (C := RX7) (T := TX7) (N := 30) G (fun _ h => i_X7_work_X7 _ h) rfl rfl 13 (by decide) (by decide +kernel) rfl rfl dX7_work_71 ?_
    refine v_aload_n G dX7_work_74 rfl 1 rfl ?_
    refine v_getr (lay := layM) (k := 0) (k' := 4) (C := RX7) (T := TX7) (N := 30) G (fun _ h => i_X7_work_X7 _ h) rfl rfl 5 (by decide) (by decide +kernel) rfl rfl dX7_work_75 ?_
    refine v_iconst (v := 2) G dX7_work_78 (by decide) ?_
    refine v_iload_n G dX7_work_79 rfl 2 rfl ?_
    refine v_imul G dX7_work_80 ?_
    obtain ⟨t68, e69, h⟩ := Option.bind_eq_some_iff.mp h
    refine v_iald (lay := layM) (k := 4) (n := 24) G rfl e69 dX7_work_81 ?_
    obtain ⟨t70, e71, h⟩ := Option.bind_eq_some_iff.mp h
    refine v_iald (lay := layM) (k := 9) (n := 12) G rfl e71 dX7_work_82 ?_
    refine v_goto (tgt := 87) G dX7_work_83 (by decide) ?_
    refine v_locs (L' := [(0, .ref (q 0)), (1, .int v1), (2, .int v2), (3, .int v3), (4, .int v4), (5, .int k0)]) [1, 2, 3, 4, 5, 0] rfl ?_
    exact w_X7_work_B87 G K h
def m_X7_work_B34 (s : apM) (v1 : Int32) (v2 : Int32) (v3 : Int32) (k0 : Int32) : Option apM := if (m_X7_inputs v2) ≤ 1 then (m_X7_work_B61 s v1 v2 v3 k0 0) else (Option.bind (ald s 4 24 ((2 * v1) + 1)) (fun t72 => m_X7_work_B61 s v1 v2 v3 k0 (40 * t72)))
set_option maxHeartbeats 4000000 in
set_option maxRecDepth 100000 in
theorem w_X7_work_B34 {Γ : apC} {q : Nat → Nat} (G : apG Γ cX7_work 9 RX7 wsX7_work (apRm 1 0) apXM) {s : apM} {v1 v2 v3 k0 : Int32} {r : apM} (K : apR Γ cX7_work 0 0 none (apU layM q (apd Γ) r)) (h : m_X7_work_B34 s v1 v2 v3 k0 = some r) : apV Γ 9 (apU layM q (apd Γ) s) 0 0 34 [(0, .ref (q 0)), (1, .int v1), (2, .int v2), (3, .int v3)] [.int k0] := by
  unfold m_X7_work_B34 at h
  refine v_istore (L' := [(4, .int k0), (0, .ref (q 0)), (1, .int v1), (2, .int v2), (3, .int v3)]) G dX7_work_34 (by decide) rfl ?_
  refine v_iload_n G dX7_work_36 rfl 3 rfl ?_
  refine v_calliS (lay := layM) (As := [.int v2]) (st := []) (n := 1) G apXMok (c_X7_inputs Γ.1.2.1 (s := s) rfl) gX7_work_X7_inputs rfl (by decide +kernel) (by decide) rfl rfl (Nat.le_of_ble_eq_true rfl) (by decide) rfl dX7_work_37 ?_
  refine v_iconst (v := 1) G dX7_work_40 (by decide) ?_
  refine v_icmp_le (tgt := 60) G dX7_work_41 (by decide) (fun c4 => ?_) (fun c4 => ?_)
  · replace h := (if_pos c4).symm.trans h
    refine v_iconst (v := 0) G dX7_work_60 (by decide) ?_
    refine v_locs (L' := [(0, .ref (q 0)), (1, .int v1), (2, .int v2), (3, .int v3), (4, .int k0)]) [1, 2, 3, 4, 0] rfl ?_
    exact w_X7_work_B61 G K h
  · replace h := (if_neg c4).symm.trans h
    refine v_bipush (v := 40) G dX7_work_44 (by decide) ?_
    refine v_aload_n G dX7_work_46 rfl 1 rfl ?_
    refine v_getr (lay := layM) (k := 0) (k' := 4) (C := RX7) (T := TX7) (N := 30) G (fun _ h => i_X7_work_X7 _ h) rfl rfl 5 (by decide) (by decide +kernel) rfl rfl dX7_work_47 ?_
    refine v_iconst (v := 2) G dX7_work_50 (by decide) ?_
    refine v_iload_n G dX7_work_51 rfl 2 rfl ?_
    refine v_imul G dX7_work_52 ?_
    refine v_iconst (v := 1) G dX7_work_53 (by decide) ?_
    refine v_iadd G dX7_work_54 ?_
    obtain ⟨t72, e73, h⟩ := Option.bind_eq_some_iff.mp h
    refine v_iald (lay := layM) (k := 4) (n := 24) G rfl e73 dX7_work_55 ?_
    refine v_imul G dX7_work_56 ?_
    refine v_goto (tgt := 61) G dX7_work_57 (by decide) ?_
    refine v_locs (L' := [(0, .ref (q 0)), (1, .int v1), (2, .int v2), (3, .int v3), (4, .int k0)]) [1, 2, 3, 4, 0] rfl ?_
    exact w_X7_work_B61 G K h
def m_X7_work (s : apM) (v1 : Int32) : Option apM := Option.bind (ald s 1 12 v1) (fun t1 => if (m_X7_inputs t1) ≤ 0 then (m_X7_work_B34 s v1 t1 (40 * v1) 0) else (Option.bind (ald s 4 24 (2 * v1)) (fun t74 => m_X7_work_B34 s v1 t1 (40 * v1) (40 * t74))))
set_option maxHeartbeats 4000000 in
set_option maxRecDepth 100000 in
theorem w_X7_work {Γ : apC} {q : Nat → Nat} (G : apG Γ cX7_work 9 RX7 wsX7_work (apRm 1 0) apXM) {s : apM} {v1 : Int32} {r : apM} (K : apR Γ cX7_work 0 0 none (apU layM q (apd Γ) r)) (h : m_X7_work s v1 = some r) : apV Γ 9 (apU layM q (apd Γ) s) 0 0 0 [(0, .ref (q 0)), (1, .int v1)] [] := by
  unfold m_X7_work at h
  refine v_aload_n G dX7_work_0 rfl 0 rfl ?_
  refine v_getr (lay := layM) (k := 0) (k' := 1) (C := RX7) (T := TX7) (N := 30) G (fun _ h => i_X7_work_X7 _ h) rfl rfl 2 (by decide) (by decide +kernel) rfl rfl dX7_work_1 ?_
  refine v_iload_n G dX7_work_4 rfl 1 rfl ?_
  obtain ⟨t1, e2, h⟩ := Option.bind_eq_some_iff.mp h
  refine v_iald (lay := layM) (k := 1) (n := 12) G rfl e2 dX7_work_5 ?_
  refine v_istore_n (L' := [(2, .int t1), (0, .ref (q 0)), (1, .int v1)]) G dX7_work_6 rfl (by decide) rfl ?_
  refine v_bipush (v := 40) G dX7_work_7 (by decide) ?_
  refine v_iload_n G dX7_work_9 rfl 2 rfl ?_
  refine v_imul G dX7_work_10 ?_
  refine v_istore_n (L' := [(3, .int (40 * v1)), (2, .int t1), (0, .ref (q 0)), (1, .int v1)]) G dX7_work_11 rfl (by decide) rfl ?_
  refine v_iload_n G dX7_work_12 rfl 1 rfl ?_
  refine v_calliS (lay := layM) (As := [.int t1]) (st := []) (n := 1) G apXMok (c_X7_inputs Γ.1.2.1 (s := s) rfl) gX7_work_X7_inputs rfl (by decide +kernel) (by decide) rfl rfl (Nat.le_of_ble_eq_true rfl) (by decide) rfl dX7_work_13 ?_
  refine v_if_le (tgt := 33) G dX7_work_16 (by decide) (fun c3 => ?_) (fun c3 => ?_)
  · replace h := (if_pos c3).symm.trans h
    refine v_iconst (v := 0) G dX7_work_33 (by decide) ?_
    refine v_locs (L' := [(0, .ref (q 0)), (1, .int v1), (2, .int t1), (3, .int (40 * v1))]) [2, 3, 1, 0] rfl ?_
    exact w_X7_work_B34 G K h
  · replace h := (if_neg c3).symm.trans h
    refine v_bipush (v := 40) G dX7_work_19 (by decide) ?_
    refine v_aload_n G dX7_work_21 rfl 2 rfl ?_
    refine v_getr (lay := layM) (k := 0) (k' := 4) (C := RX7) (T := TX7) (N := 30) G (fun _ h => i_X7_work_X7 _ h) rfl rfl 5 (by decide) (by decide +kernel) rfl rfl dX7_work_22 ?_
    refine v_iconst (v := 2) G dX7_work_25 (by decide) ?_
    refine v_iload_n G dX7_work_26 rfl 3 rfl ?_
    refine v_imul G dX7_work_27 ?_
    obtain ⟨t74, e75, h⟩ := Option.bind_eq_some_iff.mp h
    refine v_iald (lay := layM) (k := 4) (n := 24) G rfl e75 dX7_work_28 ?_
    refine v_imul G dX7_work_29 ?_
    refine v_goto (tgt := 34) G dX7_work_30 (by decide) ?_
    refine v_locs (L' := [(0, .ref (q 0)), (1, .int v1), (2, .int t1), (3, .int (40 * v1))]) [2, 3, 1, 0] rfl ?_
    exact w_X7_work_B34 G K h
theorem c_X7_work (l : Launch) {s : apM} {v1 : Int32} {r : apM} (h : m_X7_work s v1 = some r) : apMv l layM apXM yX7_work wsX7_work 1 (fun q => [.ref (q 0), .int v1]) s r := apMv_of (cc := cX7_work) (nL := 9) (by decide) rfl (fun _ => Nat.le_of_ble_eq_true rfl) (fun Γ q hl G K => w_X7_work G K h)
theorem i_X7_run_X7 : ∀ w ∈ u_ws RX7 TX7 30, w ∈ wsX7_run := by decide +kernel
def m_X7_run_L27  : (apM × Int32) → Option ((apM × Int32) ⊕ (apM × Int32)) := fun (s0, v1) => if 480 ≤ v1 then (some (.inr (s0, v1))) else (Option.bind (ast s0 19 480 v1 0) (fun s4 => some (.inl (s4, v1 + 1))))
set_option maxHeartbeats 4000000 in
set_option maxRecDepth 100000 in
theorem w_X7_run_L27 {Γ : apC} {q : Nat → Nat} (G : apG Γ cX7_run 5 RX7 wsX7_run (apRm 2 0) apXM) {s0 : apM} {v1 : Int32} {r : ((apM × Int32) ⊕ (apM × Int32))} (K : match r with | .inl x => apV Γ 5 (apU layM q (apd Γ) x.1) 0 0 27 [(0, .ref (q 0)), (1, .int x.2)] [] | .inr x => apV Γ 5 (apU layM q (apd Γ) x.1) 0 0 47 [(0, .ref (q 0))] []) (h : m_X7_run_L27 (s0, v1) = some r) : apV Γ 5 (apU layM q (apd Γ) s0) 0 0 27 [(0, .ref (q 0)), (1, .int v1)] [] := by
  unfold m_X7_run_L27 at h
  dsimp only at h
  refine v_iload_n G dX7_run_27 rfl 1 rfl ?_
  refine v_sipush (v := 480) G dX7_run_28 (by decide) ?_
  refine v_icmp_ge (tgt := 47) G dX7_run_31 (by decide) (fun c3 => ?_) (fun c3 => ?_)
  · replace h := (if_pos c3).symm.trans h
    cases h
    refine v_locs (L' := [(0, .ref (q 0))]) [0] rfl ?_
    exact K
  · replace h := (if_neg c3).symm.trans h
    refine v_aload_n G dX7_run_34 rfl 0 rfl ?_
    refine v_getr (lay := layM) (k := 0) (k' := 19) (C := RX7) (T := TX7) (N := 30) G (fun _ h => i_X7_run_X7 _ h) rfl rfl 28 (by decide) (by decide +kernel) rfl rfl dX7_run_35 ?_
    refine v_iload_n G dX7_run_38 rfl 1 rfl ?_
    refine v_iconst (v := 0) G dX7_run_39 (by decide) ?_
    obtain ⟨s4, e5, h⟩ := Option.bind_eq_some_iff.mp h
    refine v_iast (lay := layM) (k := 19) (n := 480) G rfl e5 dX7_run_40 ?_
    refine v_iinc (v := v1 + 1) (L' := [(1, .int (v1 + 1)), (0, .ref (q 0))]) G dX7_run_41 1 rfl rfl (by decide) rfl ?_
    refine v_goto (tgt := 27) G dX7_run_44 (by decide) ?_
    cases h
    refine v_locs (L' := [(0, .ref (q 0)), (1, .int (v1 + 1))]) [1, 0] rfl ?_
    exact K
def m_X7_run_L74 (v1 : Int32) (v2 : Int32) (v3 : Int32) : (apM × Int32) → Option ((apM × Int32) ⊕ (apM × Int32)) := fun (s0, v4) => Option.bind (ald s0 9 12 v3) (fun t15 => if t15 ≤ v4 then (some (.inr (s0, v4))) else (Option.bind (ald s0 14 12 v3) (fun t18 => Option.bind (ald s0 20 480 ((40 * v3) + v4)) (fun t20 => Option.bind (ast s0 19 480 (t18 + v4) t20) (fun s22 => some (.inl (s22, v4 + 1)))))))
set_option maxHeartbeats 4000000 in
set_option maxRecDepth 100000 in
theorem w_X7_run_L74 {Γ : apC} {q : Nat → Nat} (G : apG Γ cX7_run 5 RX7 wsX7_run (apRm 2 0) apXM) {s0 : apM} {v1 v2 v3 v4 : Int32} {r : ((apM × Int32) ⊕ (apM × Int32))} (K : match r with | .inl x => apV Γ 5 (apU layM q (apd Γ) x.1) 0 0 74 [(0, .ref (q 0)), (1, .int v1), (2, .int v2), (3, .int v3), (4, .int x.2)] [] | .inr x => apV Γ 5 (apU layM q (apd Γ) x.1) 0 0 117 [(0, .ref (q 0)), (1, .int v1), (2, .int v2), (3, .int v3)] []) (h : m_X7_run_L74 v1 v2 v3 (s0, v4) = some r) : apV Γ 5 (apU layM q (apd Γ) s0) 0 0 74 [(0, .ref (q 0)), (1, .int v1), (2, .int v2), (3, .int v3), (4, .int v4)] [] := by
  unfold m_X7_run_L74 at h
  dsimp only at h
  refine v_iload G dX7_run_74 4 rfl ?_
  refine v_aload_n G dX7_run_76 rfl 0 rfl ?_
  refine v_getr (lay := layM) (k := 0) (k' := 9) (C := RX7) (T := TX7) (N := 30) G (fun _ h => i_X7_run_X7 _ h) rfl rfl 13 (by decide) (by decide +kernel) rfl rfl dX7_run_77 ?_
  refine v_iload_n G dX7_run_80 rfl 3 rfl ?_
  obtain ⟨t15, e16, h⟩ := Option.bind_eq_some_iff.mp h
  refine v_iald (lay := layM) (k := 9) (n := 12) G rfl e16 dX7_run_81 ?_
  refine v_icmp_ge (tgt := 117) G dX7_run_82 (by decide) (fun c17 => ?_) (fun c17 => ?_)
  · replace h := (if_pos c17).symm.trans h
    cases h
    refine v_locs (L' := [(0, .ref (q 0)), (1, .int v1), (2, .int v2), (3, .int v3)]) [0, 1, 2, 3] rfl ?_
    exact K
  · replace h := (if_neg c17).symm.trans h
    refine v_aload_n G dX7_run_85 rfl 0 rfl ?_
    refine v_getr (lay := layM) (k := 0) (k' := 19) (C := RX7) (T := TX7) (N := 30) G (fun _ h => i_X7_run_X7 _ h) rfl rfl 28 (by decide) (by decide +kernel) rfl rfl dX7_run_86 ?_
    refine v_aload_n G dX7_run_89 rfl 0 rfl ?_
    refine v_getr (lay := layM) (k := 0) (k' := 14) (C := RX7) (T := TX7) (N := 30) G (fun _ h => i_X7_run_X7 _ h) rfl rfl 18 (by decide) (by decide +kernel) rfl rfl dX7_run_90 ?_
    refine v_iload_n G dX7_run_93 rfl 3 rfl ?_
    obtain ⟨t18, e19, h⟩ := Option.bind_eq_some_iff.mp h
    refine v_iald (lay := layM) (k := 14) (n := 12) G rfl e19 dX7_run_94 ?_
    refine v_iload G dX7_run_95 4 rfl ?_
    refine v_iadd G dX7_run_97 ?_
    refine v_aload_n G dX7_run_98 rfl 0 rfl ?_
    refine v_getr (lay := layM) (k := 0) (k' := 20) (C := RX7) (T := TX7) (N := 30) G (fun _ h => i_X7_run_X7 _ h) rfl rfl 29 (by decide) (by decide +kernel) rfl rfl dX7_run_99 ?_
    refine v_bipush (v := 40) G dX7_run_102 (by decide) ?_
    refine v_iload_n G dX7_run_104 rfl 3 rfl ?_
    refine v_imul G dX7_run_105 ?_
    refine v_iload G dX7_run_106 4 rfl ?_
    refine v_iadd G dX7_run_108 ?_
    obtain ⟨t20, e21, h⟩ := Option.bind_eq_some_iff.mp h
    refine v_iald (lay := layM) (k := 20) (n := 480) G rfl e21 dX7_run_109 ?_
    obtain ⟨s22, e23, h⟩ := Option.bind_eq_some_iff.mp h
    refine v_iast (lay := layM) (k := 19) (n := 480) G rfl e23 dX7_run_110 ?_
    refine v_iinc (v := v4 + 1) (L' := [(4, .int (v4 + 1)), (0, .ref (q 0)), (1, .int v1), (2, .int v2), (3, .int v3)]) G dX7_run_111 4 rfl rfl (by decide) rfl ?_
    refine v_goto (tgt := 74) G dX7_run_114 (by decide) ?_
    cases h
    refine v_locs (L' := [(0, .ref (q 0)), (1, .int v1), (2, .int v2), (3, .int v3), (4, .int (v4 + 1))]) [1, 2, 3, 4, 0] rfl ?_
    exact K
def m_X7_run_L51  : (apM × Int32 × Int32) → Option ((apM × Int32 × Int32) ⊕ (apM × Int32 × Int32)) := fun (s0, v1, v2) => if (s0 0 1) ≤ v2 then (some (.inr (s0, v1, v2))) else (Option.bind (ald s0 11 12 v2) (fun t11 => Option.bind (m_X7_work s0 t11) (fun s13 => Option.bind (lp FU (m_X7_run_L74 v1 v2 t11) (s13, 0)) (fun x24 => match x24 with | (s27, v26) => Option.bind (ald s27 9 12 t11) (fun t28 => some (.inl (s27, v1 + t28, v2 + 1)))))))
set_option maxHeartbeats 4000000 in
set_option maxRecDepth 100000 in
theorem w_X7_run_L51 {Γ : apC} {q : Nat → Nat} (G : apG Γ cX7_run 5 RX7 wsX7_run (apRm 2 0) apXM) {s0 : apM} {v1 v2 : Int32} {r : ((apM × Int32 × Int32) ⊕ (apM × Int32 × Int32))} (K : match r with | .inl x => apV Γ 5 (apU layM q (apd Γ) x.1) 0 0 51 [(0, .ref (q 0)), (1, .int x.2.1), (2, .int x.2.2)] [] | .inr x => apV Γ 5 (apU layM q (apd Γ) x.1) 0 0 132 [(0, .ref (q 0)), (1, .int x.2.1)] []) (h : m_X7_run_L51 (s0, v1, v2) = some r) : apV Γ 5 (apU layM q (apd Γ) s0) 0 0 51 [(0, .ref (q 0)), (1, .int v1), (2, .int v2)] [] := by
  unfold m_X7_run_L51 at h
  dsimp only at h
  refine v_iload_n G dX7_run_51 rfl 2 rfl ?_
  refine v_aload_n G dX7_run_52 rfl 0 rfl ?_
  refine v_geti (lay := layM) (k := 0) (C := RX7) (T := TX7) (N := 30) G (fun _ h => i_X7_run_X7 _ h) rfl rfl 1 (by decide) (by decide +kernel) rfl rfl dX7_run_53 ?_
  refine v_icmp_ge (tgt := 132) G dX7_run_56 (by decide) (fun c10 => ?_) (fun c10 => ?_)
  · replace h := (if_pos c10).symm.trans h
    cases h
    refine v_locs (L' := [(0, .ref (q 0)), (1, .int v1)]) [0, 1] rfl ?_
    exact K
  · replace h := (if_neg c10).symm.trans h
    refine v_aload_n G dX7_run_59 rfl 0 rfl ?_
    refine v_getr (lay := layM) (k := 0) (k' := 11) (C := RX7) (T := TX7) (N := 30) G (fun _ h => i_X7_run_X7 _ h) rfl rfl 15 (by decide) (by decide +kernel) rfl rfl dX7_run_60 ?_
    refine v_iload_n G dX7_run_63 rfl 2 rfl ?_
    obtain ⟨t11, e12, h⟩ := Option.bind_eq_some_iff.mp h
    refine v_iald (lay := layM) (k := 11) (n := 12) G rfl e12 dX7_run_64 ?_
    refine v_istore_n (L' := [(3, .int t11), (0, .ref (q 0)), (1, .int v1), (2, .int v2)]) G dX7_run_65 rfl (by decide) rfl ?_
    refine v_aload_n G dX7_run_66 rfl 1 rfl ?_
    refine v_iload_n G dX7_run_67 rfl 0 rfl ?_
    obtain ⟨s13, e14, h⟩ := Option.bind_eq_some_iff.mp h
    refine v_callvV (lay := layM) (As := [.int t11]) (st := []) (n := 1) (C := RX7) (T := TX7) (k0 := 0) G apXMok (c_X7_work Γ.1.2.1 e14) gX7_run_X7_work rfl (by decide +kernel) (by decide) rfl rfl rfl rfl (Nat.le_of_ble_eq_true rfl) (by decide) rfl dX7_run_68 ?_
    refine v_iconst (v := 0) G dX7_run_71 (by decide) ?_
    refine v_istore (L' := [(4, .int 0), (3, .int t11), (0, .ref (q 0)), (1, .int v1), (2, .int v2)]) G dX7_run_72 (by decide) rfl ?_
    obtain ⟨x24, e25, h⟩ := Option.bind_eq_some_iff.mp h
    refine v_locs (L' := [(0, .ref (q 0)), (1, .int v1), (2, .int v2), (3, .int t11), (4, .int 0)]) [2, 3, 4, 1, 0] rfl ?_
    have l30 := v_lp (b := m_X7_run_L74 v1 v2 t11) (I := fun x => apV Γ 5 (apU layM q (apd Γ) x.1) 0 0 74 [(0, .ref (q 0)), (1, .int v1), (2, .int v2), (3, .int t11), (4, .int x.2)] []) (O := fun x => apV Γ 5 (apU layM q (apd Γ) x.1) 0 0 117 [(0, .ref (q 0)), (1, .int v1), (2, .int v2), (3, .int t11)] []) (fun x r hb hK => by obtain ⟨ys, y4⟩ := x; rcases r with r | r <;> exact w_X7_run_L74 G hK hb) FU (s13, 0) x24 e25
    obtain ⟨s27, v26⟩ := x24
    dsimp only at h
    refine l30 ?_
    refine v_iload_n G dX7_run_117 rfl 1 rfl ?_
    refine v_aload_n G dX7_run_118 rfl 0 rfl ?_
    refine v_getr (lay := layM) (k := 0) (k' := 9) (C := RX7) (T := TX7) (N := 30) G (fun _ h => i_X7_run_X7 _ h) rfl rfl 13 (by decide) (by decide +kernel) rfl rfl dX7_run_119 ?_
    refine v_iload_n G dX7_run_122 rfl 3 rfl ?_
    obtain ⟨t28, e29, h⟩ := Option.bind_eq_some_iff.mp h
    refine v_iald (lay := layM) (k := 9) (n := 12) G rfl e29 dX7_run_123 ?_
    refine v_iadd G dX7_run_124 ?_
    refine v_istore_n (L' := [(1, .int (v1 + t28)), (0, .ref (q 0)), (2, .int v2), (3, .int t11)]) G dX7_run_125 rfl (by decide) rfl ?_
    refine v_iinc (v := v2 + 1) (L' := [(2, .int (v2 + 1)), (1, .int (v1 + t28)), (0, .ref (q 0)), (3, .int t11)]) G dX7_run_126 2 rfl rfl (by decide) rfl ?_
    refine v_goto (tgt := 51) G dX7_run_129 (by decide) ?_
    cases h
    refine v_locs (L' := [(0, .ref (q 0)), (1, .int (v1 + t28)), (2, .int (v2 + 1))]) [2, 1, 0] rfl ?_
    exact K
def m_X7_run_B13 (s : apM) (k0 : Int32) : Option (Int32 × apM) := if ((mst s 0 0 k0) 0 11) = 0 then (some (0, mst s 0 0 k0)) else (Option.bind (lp FU (m_X7_run_L27) (mst s 0 0 k0, 0)) (fun x6 => match x6 with | (s9, v8) => Option.bind (lp FU (m_X7_run_L51) (s9, 0, 0)) (fun x31 => match x31 with | (s35, v33, v34) => some (v33, mst s35 0 27 1))))
set_option maxHeartbeats 4000000 in
set_option maxRecDepth 100000 in
theorem w_X7_run_B13 {Γ : apC} {q : Nat → Nat} (G : apG Γ cX7_run 5 RX7 wsX7_run (apRm 2 0) apXM) {s : apM} {k0 : Int32} {r : (Int32 × apM)} (K : apR Γ cX7_run 0 0 (some r.1) (apU layM q (apd Γ) r.2)) (h : m_X7_run_B13 s k0 = some r) : apV Γ 5 (apU layM q (apd Γ) s) 0 0 13 [(0, .ref (q 0))] [.int k0, .ref (q 0)] := by
  unfold m_X7_run_B13 at h
  refine v_put (lay := layM) (k := 0) (C := RX7) (T := TX7) (N := 30) G (fun _ h => i_X7_run_X7 _ h) tyX7 tyX7_ok nmX7 rfl rfl 0 (by decide) (by decide +kernel) rfl rfl (by first | rfl | decide) (by first | rfl | decide) rfl dX7_run_13 ?_
  refine v_aload_n G dX7_run_16 rfl 0 rfl ?_
  refine v_geti (lay := layM) (k := 0) (C := RX7) (T := TX7) (N := 30) G (fun _ h => i_X7_run_X7 _ h) rfl rfl 11 (by decide) (by decide +kernel) rfl rfl dX7_run_17 ?_
  refine v_if_ne (tgt := 25) G dX7_run_20 (by decide) (fun c2 => ?_) (fun c2 => ?_)
  · replace h := (if_neg c2).symm.trans h
    refine v_iconst (v := 0) G dX7_run_25 (by decide) ?_
    refine v_istore_n (L' := [(1, .int 0), (0, .ref (q 0))]) G dX7_run_26 rfl (by decide) rfl ?_
    obtain ⟨x6, e7, h⟩ := Option.bind_eq_some_iff.mp h
    refine v_locs (L' := [(0, .ref (q 0)), (1, .int 0)]) [1, 0] rfl ?_
    have l37 := v_lp (b := m_X7_run_L27) (I := fun x => apV Γ 5 (apU layM q (apd Γ) x.1) 0 0 27 [(0, .ref (q 0)), (1, .int x.2)] []) (O := fun x => apV Γ 5 (apU layM q (apd Γ) x.1) 0 0 47 [(0, .ref (q 0))] []) (fun x r hb hK => by obtain ⟨ys, y1⟩ := x; rcases r with r | r <;> exact w_X7_run_L27 G hK hb) FU (mst s 0 0 k0, 0) x6 e7
    obtain ⟨s9, v8⟩ := x6
    dsimp only at h
    refine l37 ?_
    refine v_iconst (v := 0) G dX7_run_47 (by decide) ?_
    refine v_istore_n (L' := [(1, .int 0), (0, .ref (q 0))]) G dX7_run_48 rfl (by decide) rfl ?_
    refine v_iconst (v := 0) G dX7_run_49 (by decide) ?_
    refine v_istore_n (L' := [(2, .int 0), (1, .int 0), (0, .ref (q 0))]) G dX7_run_50 rfl (by decide) rfl ?_
    obtain ⟨x31, e32, h⟩ := Option.bind_eq_some_iff.mp h
    refine v_locs (L' := [(0, .ref (q 0)), (1, .int 0), (2, .int 0)]) [2, 1, 0] rfl ?_
    have l36 := v_lp (b := m_X7_run_L51) (I := fun x => apV Γ 5 (apU layM q (apd Γ) x.1) 0 0 51 [(0, .ref (q 0)), (1, .int x.2.1), (2, .int x.2.2)] []) (O := fun x => apV Γ 5 (apU layM q (apd Γ) x.1) 0 0 132 [(0, .ref (q 0)), (1, .int x.2.1)] []) (fun x r hb hK => by obtain ⟨ys, y1, y2⟩ := x; rcases r with r | r <;> exact w_X7_run_L51 G hK hb) FU (s9, 0, 0) x31 e32
    obtain ⟨s35, v33, v34⟩ := x31
    dsimp only at h
    refine l36 ?_
    refine v_aload_n G dX7_run_132 rfl 0 rfl ?_
    refine v_iconst (v := 1) G dX7_run_133 (by decide) ?_
    refine v_put (lay := layM) (k := 0) (C := RX7) (T := TX7) (N := 30) G (fun _ h => i_X7_run_X7 _ h) tyX7 tyX7_ok nmX7 rfl rfl 27 (by decide) (by decide +kernel) rfl rfl (by first | rfl | decide) (by first | rfl | decide) rfl dX7_run_134 ?_
    refine v_iload_n G dX7_run_137 rfl 1 rfl ?_
    cases h
    exact v_iret G K (by decide) (by decide) dX7_run_138
  · replace h := (if_pos c2).symm.trans h
    refine v_iconst (v := 0) G dX7_run_23 (by decide) ?_
    cases h
    exact v_iret G K (by decide) (by decide) dX7_run_24
def m_X7_run (s : apM)  : Option (Int32 × apM) := if (s 0 11) = 0 then (m_X7_run_B13 s 1) else (m_X7_run_B13 s 0)
set_option maxHeartbeats 4000000 in
set_option maxRecDepth 100000 in
theorem w_X7_run {Γ : apC} {q : Nat → Nat} (G : apG Γ cX7_run 5 RX7 wsX7_run (apRm 2 0) apXM) {s : apM} {r : (Int32 × apM)} (K : apR Γ cX7_run 0 0 (some r.1) (apU layM q (apd Γ) r.2)) (h : m_X7_run s = some r) : apV Γ 5 (apU layM q (apd Γ) s) 0 0 0 [(0, .ref (q 0))] [] := by
  unfold m_X7_run at h
  refine v_aload_n G dX7_run_0 rfl 0 rfl ?_
  refine v_aload_n G dX7_run_1 rfl 0 rfl ?_
  refine v_geti (lay := layM) (k := 0) (C := RX7) (T := TX7) (N := 30) G (fun _ h => i_X7_run_X7 _ h) rfl rfl 11 (by decide) (by decide +kernel) rfl rfl dX7_run_2 ?_
  refine v_if_eq (tgt := 12) G dX7_run_5 (by decide) (fun c1 => ?_) (fun c1 => ?_)
  · replace h := (if_pos c1).symm.trans h
    refine v_iconst (v := 1) G dX7_run_12 (by decide) ?_
    exact w_X7_run_B13 G K h
  · replace h := (if_neg c1).symm.trans h
    refine v_iconst (v := 0) G dX7_run_8 (by decide) ?_
    refine v_goto (tgt := 13) G dX7_run_9 (by decide) ?_
    exact w_X7_run_B13 G K h
theorem c_X7_run (l : Launch) {s : apM} {r : (Int32 × apM)} (h : m_X7_run s = some r) : apMi l layM apXM yX7_run wsX7_run 2 (fun q => [.ref (q 0)]) s r.1 r.2 := apMi_of (cc := cX7_run) (nL := 5) (r := r.1) (by decide) rfl rfl (fun _ => Nat.le_of_ble_eq_true rfl) (fun Γ q hl G K => w_X7_run G K h)
theorem i_X7_thrown_X7 : ∀ w ∈ u_ws RX7 TX7 30, w ∈ wsX7_thrown := by decide +kernel
def m_X7_thrown (s : apM)  : Int32 := (s 0 0)
set_option maxHeartbeats 4000000 in
set_option maxRecDepth 100000 in
theorem w_X7_thrown {Γ : apC} {q : Nat → Nat} (G : apG Γ cX7_thrown 1 RX7 wsX7_thrown (apRm 0 0) apXM) {s : apM} {r : Int32} (K : apR Γ cX7_thrown 0 0 (some r) (apU layM q (apd Γ) s)) (h : m_X7_thrown s = r) : apV Γ 1 (apU layM q (apd Γ) s) 0 0 0 [(0, .ref (q 0))] [] := by
  unfold m_X7_thrown at h
  refine v_aload_n G dX7_thrown_0 rfl 0 rfl ?_
  refine v_geti (lay := layM) (k := 0) (C := RX7) (T := TX7) (N := 30) G (fun _ h => i_X7_thrown_X7 _ h) rfl rfl 0 (by decide) (by decide +kernel) rfl rfl dX7_thrown_1 ?_
  subst h
  exact v_iret G K (by decide) (by decide) dX7_thrown_4
theorem c_X7_thrown (l : Launch) {s : apM} {r : Int32} (h : m_X7_thrown s = r) : apMi l layM apXM yX7_thrown wsX7_thrown 0 (fun q => [.ref (q 0)]) s r s := apMi_of (cc := cX7_thrown) (nL := 1) (r := r) (by decide) rfl rfl (fun _ => Nat.le_of_ble_eq_true rfl) (fun Γ q hl G K => w_X7_thrown G K h)
theorem i_X7_wire_X7 : ∀ w ∈ u_ws RX7 TX7 30, w ∈ wsX7_wire := by decide +kernel
def m_X7_wire (s : apM) (v1 : Int32) (v2 : Int32) (v3 : Int32) : Option (Int32 × apM) := if (m_X7_isNode (mst s 0 0 0) v1) = 0 then (some (0, mst s 0 0 0)) else (if v2 < 0 then (some (0, mst s 0 0 0)) else (Option.bind (ald (mst s 0 0 0) 1 12 v1) (fun t3 => if (m_X7_inputs t3) ≤ v2 then (some (0, mst s 0 0 0)) else (if v3 < (-1) then (some (0, mst s 0 0 0)) else (if v3 < ((mst s 0 0 0) 0 1) then (Option.bind (ast (mst s 0 0 0) 4 24 ((2 * v1) + v2) v3) (fun s8 => some (1, mst s8 0 11 0))) else (some (0, mst s 0 0 0)))))))
set_option maxHeartbeats 4000000 in
set_option maxRecDepth 100000 in
theorem w_X7_wire {Γ : apC} {q : Nat → Nat} (G : apG Γ cX7_wire 4 RX7 wsX7_wire (apRm 1 0) apXM) {s : apM} {v1 v2 v3 : Int32} {r : (Int32 × apM)} (K : apR Γ cX7_wire 0 0 (some r.1) (apU layM q (apd Γ) r.2)) (h : m_X7_wire s v1 v2 v3 = some r) : apV Γ 4 (apU layM q (apd Γ) s) 0 0 0 [(0, .ref (q 0)), (1, .int v1), (2, .int v2), (3, .int v3)] [] := by
  unfold m_X7_wire at h
  refine v_aload_n G dX7_wire_0 rfl 0 rfl ?_
  refine v_iconst (v := 0) G dX7_wire_1 (by decide) ?_
  refine v_put (lay := layM) (k := 0) (C := RX7) (T := TX7) (N := 30) G (fun _ h => i_X7_wire_X7 _ h) tyX7 tyX7_ok nmX7 rfl rfl 0 (by decide) (by decide +kernel) rfl rfl (by first | rfl | decide) (by first | rfl | decide) rfl dX7_wire_2 ?_
  refine v_aload_n G dX7_wire_5 rfl 0 rfl ?_
  refine v_iload_n G dX7_wire_6 rfl 1 rfl ?_
  refine v_calliV (lay := layM) (As := [.int v1]) (st := []) (n := 1) (C := RX7) (T := TX7) (k0 := 0) G apXMok (c_X7_isNode Γ.1.2.1 (s := mst s 0 0 0) rfl) gX7_wire_X7_isNode rfl (by decide +kernel) (by decide) rfl rfl rfl rfl (Nat.le_of_ble_eq_true rfl) (by decide) rfl dX7_wire_7 ?_
  refine v_if_eq (tgt := 43) G dX7_wire_10 (by decide) (fun c1 => ?_) (fun c1 => ?_)
  · replace h := (if_pos c1).symm.trans h
    refine v_iconst (v := 0) G dX7_wire_43 (by decide) ?_
    cases h
    exact v_iret G K (by decide) (by decide) dX7_wire_44
  · replace h := (if_neg c1).symm.trans h
    refine v_iload_n G dX7_wire_13 rfl 2 rfl ?_
    refine v_if_lt (tgt := 43) G dX7_wire_14 (by decide) (fun c2 => ?_) (fun c2 => ?_)
    · replace h := (if_pos c2).symm.trans h
      refine v_iconst (v := 0) G dX7_wire_43 (by decide) ?_
      cases h
      exact v_iret G K (by decide) (by decide) dX7_wire_44
    · replace h := (if_neg c2).symm.trans h
      refine v_iload_n G dX7_wire_17 rfl 2 rfl ?_
      refine v_aload_n G dX7_wire_18 rfl 0 rfl ?_
      refine v_getr (lay := layM) (k := 0) (k' := 1) (C := RX7) (T := TX7) (N := 30) G (fun _ h => i_X7_wire_X7 _ h) rfl rfl 2 (by decide) (by decide +kernel) rfl rfl dX7_wire_19 ?_
      refine v_iload_n G dX7_wire_22 rfl 1 rfl ?_
      obtain ⟨t3, e4, h⟩ := Option.bind_eq_some_iff.mp h
      refine v_iald (lay := layM) (k := 1) (n := 12) G rfl e4 dX7_wire_23 ?_
      refine v_calliS (lay := layM) (As := [.int t3]) (st := [.int v2]) (n := 1) G apXMok (c_X7_inputs Γ.1.2.1 (s := mst s 0 0 0) rfl) gX7_wire_X7_inputs rfl (by decide +kernel) (by decide) rfl rfl (Nat.le_of_ble_eq_true rfl) (by decide) rfl dX7_wire_24 ?_
      refine v_icmp_ge (tgt := 43) G dX7_wire_27 (by decide) (fun c5 => ?_) (fun c5 => ?_)
      · replace h := (if_pos c5).symm.trans h
        refine v_iconst (v := 0) G dX7_wire_43 (by decide) ?_
        cases h
        exact v_iret G K (by decide) (by decide) dX7_wire_44
      · replace h := (if_neg c5).symm.trans h
        refine v_iload_n G dX7_wire_30 rfl 3 rfl ?_
        refine v_iconst (v := (-1)) G dX7_wire_31 (by decide) ?_
        refine v_icmp_lt (tgt := 43) G dX7_wire_32 (by decide) (fun c6 => ?_) (fun c6 => ?_)
        · replace h := (if_pos c6).symm.trans h
          refine v_iconst (v := 0) G dX7_wire_43 (by decide) ?_
          cases h
          exact v_iret G K (by decide) (by decide) dX7_wire_44
        · replace h := (if_neg c6).symm.trans h
          refine v_iload_n G dX7_wire_35 rfl 3 rfl ?_
          refine v_aload_n G dX7_wire_36 rfl 0 rfl ?_
          refine v_geti (lay := layM) (k := 0) (C := RX7) (T := TX7) (N := 30) G (fun _ h => i_X7_wire_X7 _ h) rfl rfl 1 (by decide) (by decide +kernel) rfl rfl dX7_wire_37 ?_
          refine v_icmp_lt (tgt := 45) G dX7_wire_40 (by decide) (fun c7 => ?_) (fun c7 => ?_)
          · replace h := (if_pos c7).symm.trans h
            refine v_aload_n G dX7_wire_45 rfl 0 rfl ?_
            refine v_getr (lay := layM) (k := 0) (k' := 4) (C := RX7) (T := TX7) (N := 30) G (fun _ h => i_X7_wire_X7 _ h) rfl rfl 5 (by decide) (by decide +kernel) rfl rfl dX7_wire_46 ?_
            refine v_iconst (v := 2) G dX7_wire_49 (by decide) ?_
            refine v_iload_n G dX7_wire_50 rfl 1 rfl ?_
            refine v_imul G dX7_wire_51 ?_
            refine v_iload_n G dX7_wire_52 rfl 2 rfl ?_
            refine v_iadd G dX7_wire_53 ?_
            refine v_iload_n G dX7_wire_54 rfl 3 rfl ?_
            obtain ⟨s8, e9, h⟩ := Option.bind_eq_some_iff.mp h
            refine v_iast (lay := layM) (k := 4) (n := 24) G rfl e9 dX7_wire_55 ?_
            refine v_aload_n G dX7_wire_56 rfl 0 rfl ?_
            refine v_iconst (v := 0) G dX7_wire_57 (by decide) ?_
            refine v_put (lay := layM) (k := 0) (C := RX7) (T := TX7) (N := 30) G (fun _ h => i_X7_wire_X7 _ h) tyX7 tyX7_ok nmX7 rfl rfl 11 (by decide) (by decide +kernel) rfl rfl (by first | rfl | decide) (by first | rfl | decide) rfl dX7_wire_58 ?_
            refine v_iconst (v := 1) G dX7_wire_61 (by decide) ?_
            cases h
            exact v_iret G K (by decide) (by decide) dX7_wire_62
          · replace h := (if_neg c7).symm.trans h
            refine v_iconst (v := 0) G dX7_wire_43 (by decide) ?_
            cases h
            exact v_iret G K (by decide) (by decide) dX7_wire_44
theorem z_X7_wire {s : apM} {v1 v2 v3 : Int32} {r : (Int32 × apM)} (h : m_X7_wire s v1 v2 v3 = some r) : r.1 = 0 ∨ r.1 = 1 := by
  unfold m_X7_wire at h
  by_cases c1 : (m_X7_isNode (mst s 0 0 0) v1) = 0
  · replace h := (if_pos c1).symm.trans h
    cases h
    exact Or.inl rfl
  · replace h := (if_neg c1).symm.trans h
    by_cases c2 : v2 < 0
    · replace h := (if_pos c2).symm.trans h
      cases h
      exact Or.inl rfl
    · replace h := (if_neg c2).symm.trans h
      obtain ⟨t3, e4, h⟩ := Option.bind_eq_some_iff.mp h
      by_cases c5 : (m_X7_inputs t3) ≤ v2
      · replace h := (if_pos c5).symm.trans h
        cases h
        exact Or.inl rfl
      · replace h := (if_neg c5).symm.trans h
        by_cases c6 : v3 < (-1)
        · replace h := (if_pos c6).symm.trans h
          cases h
          exact Or.inl rfl
        · replace h := (if_neg c6).symm.trans h
          by_cases c7 : v3 < ((mst s 0 0 0) 0 1)
          · replace h := (if_pos c7).symm.trans h
            obtain ⟨s8, e9, h⟩ := Option.bind_eq_some_iff.mp h
            cases h
            exact Or.inr rfl
          · replace h := (if_neg c7).symm.trans h
            cases h
            exact Or.inl rfl
theorem c_X7_wire (l : Launch) {s : apM} {v1 v2 v3 : Int32} {r : (Int32 × apM)} (h : m_X7_wire s v1 v2 v3 = some r) : apMi l layM apXM yX7_wire wsX7_wire 1 (fun q => [.ref (q 0), .int v1, .int v2, .int v3]) s r.1 r.2 := apMi_of (cc := cX7_wire) (nL := 4) (r := r.1) (by decide) rfl (by rcases z_X7_wire h with e | e <;> rw [e] <;> rfl) (fun _ => Nat.le_of_ble_eq_true rfl) (fun Γ q hl G K => w_X7_wire G K h)
