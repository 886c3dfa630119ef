/-! ===== the law's helpers ===== -/
theorem k_L_make (l : Launch) (hfl : l.stackTraces = false) {σ σ' : apM} {v1 v2 v3 r : Int32} {res : (String × apM) ⊕ (Int32 × apM)} (h : m_X6_make σ v1 v2 v3 = some res) (hr : hRs [("java/lang/IllegalArgumentException", 1), ("java/lang/UnsupportedOperationException", 2)] res r σ') : apHi l layC apXL yL_make wsL_make 9 1 (fun q => [.ref (q 0), .int v1, .int v2, .int v3, .ref (q 28)]) σ r σ' := by
  refine apHi_of (cc := cL_make) (nL := 6) (hh := [(0, 12, 15, 13), (0, 12, 19, 15)]) (by decide) rfl (fun _ => Nat.le_of_ble_eq_true rfl) (fun Γ q hl G ht K => ?_)
  refine v_aload G dL_make_0 4 rfl ?_
  refine v_iconst (v := 0) G dL_make_2 (by decide) ?_
  refine v_aload_n G dL_make_3 rfl 0 rfl ?_
  refine v_iload_n G dL_make_4 rfl 1 rfl ?_
  refine v_iload_n G dL_make_5 rfl 2 rfl ?_
  refine v_iload_n G dL_make_6 rfl 3 rfl ?_
  refine v_xiC (lay := layC) (As := [.int v1, .int v2, .int v3]) (st := [.int 0, .ref (q 28)]) (n := 3) (C := RX6) (T := TX6) (k0 := 0) (apG_L G) apXCok (c_X6_make Γ.1.2.1 (by rw [hl]; exact hfl) h) gL_make_X6_make rfl (by decide +kernel) (by decide) rfl rfl rfl rfl (Nat.le_of_ble_eq_true rfl) (by decide) rfl dL_make_7 (fun z hz => ?_) (fun v s1 hz => ?_)
  · subst hz
    obtain ⟨E, s1⟩ := z
    obtain ⟨hm, rfl⟩ := hr
    simp only [List.mem_cons, Prod.mk.injEq, List.not_mem_nil, or_false] at hm
    rcases hm with ⟨rfl, rfl⟩ | ⟨rfl, rfl⟩
    · refine ⟨[], ⟨0, 12, 15, 13⟩, [⟨0, 12, 19, 15⟩], "java/lang/IllegalArgumentException", ht, (fun _ h => nomatch h), by decide, by decide, by decide +kernel, apG_cs (a := "java/lang/IllegalArgumentException") G (by decide +kernel), fun q9 => ?_⟩
      refine v_astore G dL_make_15 (by decide) rfl ?_
      refine v_iconst (v := 1) G dL_make_17 (by decide) ?_
      exact v_iret G K (by decide) (by decide) dL_make_18
    · refine ⟨[⟨0, 12, 15, 13⟩], ⟨0, 12, 19, 15⟩, [], "java/lang/UnsupportedOperationException", ht, List.forall_mem_cons.mpr ⟨Or.inr ⟨by decide, "java/lang/IllegalArgumentException", by decide +kernel, apG_nc (a := "java/lang/UnsupportedOperationException") (b := "java/lang/IllegalArgumentException") G (by decide +kernel)⟩, (fun _ h => nomatch h)⟩, by decide, by decide, by decide +kernel, apG_cs (a := "java/lang/UnsupportedOperationException") G (by decide +kernel), fun q9 => ?_⟩
      refine v_astore G dL_make_19 (by decide) rfl ?_
      refine v_iconst (v := 2) G dL_make_21 (by decide) ?_
      exact v_iret G K (by decide) (by decide) dL_make_22
  · subst hz
    obtain ⟨rfl, rfl⟩ := hr
    refine v_i2l G dL_make_10 ?_
    refine v_last (n := 1) (k := 28) (j := 0) G rfl rfl vp_in01 (by decide) dL_make_11 ?_
    refine v_goto (tgt := 23) G dL_make_12 (by decide) ?_
    refine v_iconst (v := 0) G dL_make_23 (by decide) ?_
    exact v_iret G K (by decide) (by decide) dL_make_24
theorem k_L_ring (l : Launch) (hfl : l.stackTraces = false) {σ σ' : apM} {v1 r : Int32} {res : (String × apM) ⊕ (Int32 × apM)} (h : m_X6_ring σ v1 = some res) (hr : hRs [("java/util/NoSuchElementException", 1)] res r σ') : apHi l layC apXL yL_ring wsL_ring 9 1 (fun q => [.ref (q 0), .int v1, .ref (q 28)]) σ r σ' := by
  refine apHi_of (cc := cL_ring) (nL := 4) (hh := [(0, 9, 12, 21)]) (by decide) rfl (fun _ => Nat.le_of_ble_eq_true rfl) (fun Γ q hl G ht K => ?_)
  refine v_aload_n G dL_ring_0 rfl 2 rfl ?_
  refine v_iconst (v := 0) G dL_ring_1 (by decide) ?_
  refine v_aload_n G dL_ring_2 rfl 0 rfl ?_
  refine v_iload_n G dL_ring_3 rfl 1 rfl ?_
  refine v_xiC (lay := layC) (As := [.int v1]) (st := [.int 0, .ref (q 28)]) (n := 1) (C := RX6) (T := TX6) (k0 := 0) (apG_L G) apXCok (c_X6_ring Γ.1.2.1 (by rw [hl]; exact hfl) h) gL_ring_X6_ring rfl (by decide +kernel) (by decide) rfl rfl rfl rfl (Nat.le_of_ble_eq_true rfl) (by decide) rfl dL_ring_4 (fun z hz => ?_) (fun v s1 hz => ?_)
  · subst hz
    obtain ⟨E, s1⟩ := z
    obtain ⟨hm, rfl⟩ := hr
    simp only [List.mem_cons, Prod.mk.injEq, List.not_mem_nil, or_false] at hm
    rcases hm with ⟨rfl, rfl⟩
    · refine ⟨[], ⟨0, 9, 12, 21⟩, [], "java/util/NoSuchElementException", ht, (fun _ h => nomatch h), by decide, by decide, by decide +kernel, apG_cs (a := "java/util/NoSuchElementException") G (by decide +kernel), fun q9 => ?_⟩
      refine v_astore_n G dL_ring_12 rfl (by decide) rfl ?_
      refine v_iconst (v := 1) G dL_ring_13 (by decide) ?_
      exact v_iret G K (by decide) (by decide) dL_ring_14
  · subst hz
    obtain ⟨rfl, rfl⟩ := hr
    refine v_i2l G dL_ring_7 ?_
    refine v_last (n := 1) (k := 28) (j := 0) G rfl rfl vp_in01 (by decide) dL_ring_8 ?_
    refine v_goto (tgt := 15) G dL_ring_9 (by decide) ?_
    refine v_iconst (v := 0) G dL_ring_15 (by decide) ?_
    exact v_iret G K (by decide) (by decide) dL_ring_16
theorem k_L_plan (l : Launch) (hfl : l.stackTraces = false) {σ σ' : apM} {v1 r : Int32} {res : (String × apM) ⊕ (Int32 × apM)} (h : m_X6_plan σ v1 = some res) (hr : hRs [("java/lang/IllegalArgumentException", 1), ("java/util/NoSuchElementException", 2), ("java/lang/IllegalStateException", 3), ("java/lang/ArithmeticException", 4)] res r σ') : apHi l layC apXL yL_plan wsL_plan 9 1 (fun q => [.ref (q 0), .int v1, .ref (q 28)]) σ r σ' := by
  refine apHi_of (cc := cL_plan) (nL := 4) (hh := [(0, 9, 12, 13), (0, 9, 15, 21), (0, 9, 18, 26), (0, 9, 21, 28)]) (by decide) rfl (fun _ => Nat.le_of_ble_eq_true rfl) (fun Γ q hl G ht K => ?_)
  refine v_aload_n G dL_plan_0 rfl 2 rfl ?_
  refine v_iconst (v := 0) G dL_plan_1 (by decide) ?_
  refine v_aload_n G dL_plan_2 rfl 0 rfl ?_
  refine v_iload_n G dL_plan_3 rfl 1 rfl ?_
  refine v_xiC (lay := layC) (As := [.int v1]) (st := [.int 0, .ref (q 28)]) (n := 1) (C := RX6) (T := TX6) (k0 := 0) (apG_L G) apXCok (c_X6_plan Γ.1.2.1 (by rw [hl]; exact hfl) h) gL_plan_X6_plan rfl (by decide +kernel) (by decide) rfl rfl rfl rfl (Nat.le_of_ble_eq_true rfl) (by decide) rfl dL_plan_4 (fun z hz => ?_) (fun v s1 hz => ?_)
  · subst hz
    obtain ⟨E, s1⟩ := z
    obtain ⟨hm, rfl⟩ := hr
    simp only [List.mem_cons, Prod.mk.injEq, List.not_mem_nil, or_false] at hm
    rcases hm with ⟨rfl, rfl⟩ | ⟨rfl, rfl⟩ | ⟨rfl, rfl⟩ | ⟨rfl, rfl⟩
    · refine ⟨[], ⟨0, 9, 12, 13⟩, [⟨0, 9, 15, 21⟩, ⟨0, 9, 18, 26⟩, ⟨0, 9, 21, 28⟩], "java/lang/IllegalArgumentException", ht, (fun _ h => nomatch h), by decide, by decide, by decide +kernel, apG_cs (a := "java/lang/IllegalArgumentException") G (by decide +kernel), fun q9 => ?_⟩
      refine v_astore_n G dL_plan_12 rfl (by decide) rfl ?_
      refine v_iconst (v := 1) G dL_plan_13 (by decide) ?_
      exact v_iret G K (by decide) (by decide) dL_plan_14
    · refine ⟨[⟨0, 9, 12, 13⟩], ⟨0, 9, 15, 21⟩, [⟨0, 9, 18, 26⟩, ⟨0, 9, 21, 28⟩], "java/util/NoSuchElementException", ht, List.forall_mem_cons.mpr ⟨Or.inr ⟨by decide, "java/lang/IllegalArgumentException", by decide +kernel, apG_nc (a := "java/util/NoSuchElementException") (b := "java/lang/IllegalArgumentException") G (by decide +kernel)⟩, (fun _ h => nomatch h)⟩, by decide, by decide, by decide +kernel, apG_cs (a := "java/util/NoSuchElementException") G (by decide +kernel), fun q9 => ?_⟩
      refine v_astore_n G dL_plan_15 rfl (by decide) rfl ?_
      refine v_iconst (v := 2) G dL_plan_16 (by decide) ?_
      exact v_iret G K (by decide) (by decide) dL_plan_17
    · refine ⟨[⟨0, 9, 12, 13⟩, ⟨0, 9, 15, 21⟩], ⟨0, 9, 18, 26⟩, [⟨0, 9, 21, 28⟩], "java/lang/IllegalStateException", ht, List.forall_mem_cons.mpr ⟨Or.inr ⟨by decide, "java/lang/IllegalArgumentException", by decide +kernel, apG_nc (a := "java/lang/IllegalStateException") (b := "java/lang/IllegalArgumentException") G (by decide +kernel)⟩, List.forall_mem_cons.mpr ⟨Or.inr ⟨by decide, "java/util/NoSuchElementException", by decide +kernel, apG_nc (a := "java/lang/IllegalStateException") (b := "java/util/NoSuchElementException") G (by decide +kernel)⟩, (fun _ h => nomatch h)⟩⟩, by decide, by decide, by decide +kernel, apG_cs (a := "java/lang/IllegalStateException") G (by decide +kernel), fun q9 => ?_⟩
      refine v_astore_n G dL_plan_18 rfl (by decide) rfl ?_
      refine v_iconst (v := 3) G dL_plan_19 (by decide) ?_
      exact v_iret G K (by decide) (by decide) dL_plan_20
    · refine ⟨[⟨0, 9, 12, 13⟩, ⟨0, 9, 15, 21⟩, ⟨0, 9, 18, 26⟩], ⟨0, 9, 21, 28⟩, [], "java/lang/ArithmeticException", ht, List.forall_mem_cons.mpr ⟨Or.inr ⟨by decide, "java/lang/IllegalArgumentException", by decide +kernel, apG_nc (a := "java/lang/ArithmeticException") (b := "java/lang/IllegalArgumentException") G (by decide +kernel)⟩, List.forall_mem_cons.mpr ⟨Or.inr ⟨by decide, "java/util/NoSuchElementException", by decide +kernel, apG_nc (a := "java/lang/ArithmeticException") (b := "java/util/NoSuchElementException") G (by decide +kernel)⟩, List.forall_mem_cons.mpr ⟨Or.inr ⟨by decide, "java/lang/IllegalStateException", by decide +kernel, apG_nc (a := "java/lang/ArithmeticException") (b := "java/lang/IllegalStateException") G (by decide +kernel)⟩, (fun _ h => nomatch h)⟩⟩⟩, by decide, by decide, by decide +kernel, apG_cs (a := "java/lang/ArithmeticException") G (by decide +kernel), fun q9 => ?_⟩
      refine v_astore_n G dL_plan_21 rfl (by decide) rfl ?_
      refine v_iconst (v := 4) G dL_plan_22 (by decide) ?_
      exact v_iret G K (by decide) (by decide) dL_plan_23
  · subst hz
    obtain ⟨rfl, rfl⟩ := hr
    refine v_i2l G dL_plan_7 ?_
    refine v_last (n := 1) (k := 28) (j := 0) G rfl rfl vp_in01 (by decide) dL_plan_8 ?_
    refine v_goto (tgt := 24) G dL_plan_9 (by decide) ?_
    refine v_iconst (v := 0) G dL_plan_24 (by decide) ?_
    exact v_iret G K (by decide) (by decide) dL_plan_25
theorem k_L_order (l : Launch) (hfl : l.stackTraces = false) {σ σ' : apM} {v1 r : Int32} {res : (String × apM) ⊕ (Int32 × apM)} (h : m_X6_order σ v1 = some res) (hr : hRs [("java/lang/IllegalStateException", 1), ("java/lang/IndexOutOfBoundsException", 2)] res r σ') : apHi l layC apXL yL_order wsL_order 10 2 (fun q => [.ref (q 0), .int v1, .ref (q 28)]) σ r σ' := by
  refine apHi_of (cc := cL_order) (nL := 4) (hh := [(0, 9, 12, 26), (0, 9, 15, 33)]) (by decide) rfl (fun _ => Nat.le_of_ble_eq_true rfl) (fun Γ q hl G ht K => ?_)
  refine v_aload_n G dL_order_0 rfl 2 rfl ?_
  refine v_iconst (v := 0) G dL_order_1 (by decide) ?_
  refine v_aload_n G dL_order_2 rfl 0 rfl ?_
  refine v_iload_n G dL_order_3 rfl 1 rfl ?_
  refine v_xiC (lay := layC) (As := [.int v1]) (st := [.int 0, .ref (q 28)]) (n := 1) (C := RX6) (T := TX6) (k0 := 0) (apG_L G) apXCok (c_X6_order Γ.1.2.1 (by rw [hl]; exact hfl) h) gL_order_X6_order rfl (by decide +kernel) (by decide) rfl rfl rfl rfl (Nat.le_of_ble_eq_true rfl) (by decide) rfl dL_order_4 (fun z hz => ?_) (fun v s1 hz => ?_)
  · subst hz
    obtain ⟨E, s1⟩ := z
    obtain ⟨hm, rfl⟩ := hr
    simp only [List.mem_cons, Prod.mk.injEq, List.not_mem_nil, or_false] at hm
    rcases hm with ⟨rfl, rfl⟩ | ⟨rfl, rfl⟩
    · refine ⟨[], ⟨0, 9, 12, 26⟩, [⟨0, 9, 15, 33⟩], "java/lang/IllegalStateException", ht, (fun _ h => nomatch h), by decide, by decide, by decide +kernel, apG_cs (a := "java/lang/IllegalStateException") G (by decide +kernel), fun q9 => ?_⟩
      refine v_astore_n G dL_order_12 rfl (by decide) rfl ?_
      refine v_iconst (v := 1) G dL_order_13 (by decide) ?_
      exact v_iret G K (by decide) (by decide) dL_order_14
    · refine ⟨[⟨0, 9, 12, 26⟩], ⟨0, 9, 15, 33⟩, [], "java/lang/IndexOutOfBoundsException", ht, List.forall_mem_cons.mpr ⟨Or.inr ⟨by decide, "java/lang/IllegalStateException", by decide +kernel, apG_nc (a := "java/lang/IndexOutOfBoundsException") (b := "java/lang/IllegalStateException") G (by decide +kernel)⟩, (fun _ h => nomatch h)⟩, by decide, by decide, by decide +kernel, apG_cs (a := "java/lang/IndexOutOfBoundsException") G (by decide +kernel), fun q9 => ?_⟩
      refine v_astore_n G dL_order_15 rfl (by decide) rfl ?_
      refine v_iconst (v := 2) G dL_order_16 (by decide) ?_
      exact v_iret G K (by decide) (by decide) dL_order_17
  · subst hz
    obtain ⟨rfl, rfl⟩ := hr
    refine v_i2l G dL_order_7 ?_
    refine v_last (n := 1) (k := 28) (j := 0) G rfl rfl vp_in01 (by decide) dL_order_8 ?_
    refine v_goto (tgt := 18) G dL_order_9 (by decide) ?_
    refine v_iconst (v := 0) G dL_order_18 (by decide) ?_
    exact v_iret G K (by decide) (by decide) dL_order_19
theorem k_L_about (l : Launch) (hfl : l.stackTraces = false) {σ σ' : apM} {v1 v2 r : Int32} {res : (String × apM) ⊕ (Int32 × apM)} (h : m_X6_about σ v1 v2 = some res) (hr : hRs [("java/lang/IllegalStateException", 1), ("java/lang/IndexOutOfBoundsException", 2)] res r σ') : apHi l layC apXL yL_about wsL_about 10 3 (fun q => [.ref (q 0), .int v1, .int v2, .ref (q 28)]) σ r σ' := by
  refine apHi_of (cc := cL_about) (nL := 5) (hh := [(0, 10, 13, 26), (0, 10, 17, 33)]) (by decide) rfl (fun _ => Nat.le_of_ble_eq_true rfl) (fun Γ q hl G ht K => ?_)
  refine v_aload_n G dL_about_0 rfl 3 rfl ?_
  refine v_iconst (v := 0) G dL_about_1 (by decide) ?_
  refine v_aload_n G dL_about_2 rfl 0 rfl ?_
  refine v_iload_n G dL_about_3 rfl 1 rfl ?_
  refine v_iload_n G dL_about_4 rfl 2 rfl ?_
  refine v_xiC (lay := layC) (As := [.int v1, .int v2]) (st := [.int 0, .ref (q 28)]) (n := 2) (C := RX6) (T := TX6) (k0 := 0) (apG_L G) apXCok (c_X6_about Γ.1.2.1 (by rw [hl]; exact hfl) h) gL_about_X6_about rfl (by decide +kernel) (by decide) rfl rfl rfl rfl (Nat.le_of_ble_eq_true rfl) (by decide) rfl dL_about_5 (fun z hz => ?_) (fun v s1 hz => ?_)
  · subst hz
    obtain ⟨E, s1⟩ := z
    obtain ⟨hm, rfl⟩ := hr
    simp only [List.mem_cons, Prod.mk.injEq, List.not_mem_nil, or_false] at hm
    rcases hm with ⟨rfl, rfl⟩ | ⟨rfl, rfl⟩
    · refine ⟨[], ⟨0, 10, 13, 26⟩, [⟨0, 10, 17, 33⟩], "java/lang/IllegalStateException", ht, (fun _ h => nomatch h), by decide, by decide, by decide +kernel, apG_cs (a := "java/lang/IllegalStateException") G (by decide +kernel), fun q9 => ?_⟩
      refine v_astore G dL_about_13 (by decide) rfl ?_
      refine v_iconst (v := 1) G dL_about_15 (by decide) ?_
      exact v_iret G K (by decide) (by decide) dL_about_16
    · refine ⟨[⟨0, 10, 13, 26⟩], ⟨0, 10, 17, 33⟩, [], "java/lang/IndexOutOfBoundsException", ht, List.forall_mem_cons.mpr ⟨Or.inr ⟨by decide, "java/lang/IllegalStateException", by decide +kernel, apG_nc (a := "java/lang/IndexOutOfBoundsException") (b := "java/lang/IllegalStateException") G (by decide +kernel)⟩, (fun _ h => nomatch h)⟩, by decide, by decide, by decide +kernel, apG_cs (a := "java/lang/IndexOutOfBoundsException") G (by decide +kernel), fun q9 => ?_⟩
      refine v_astore G dL_about_17 (by decide) rfl ?_
      refine v_iconst (v := 2) G dL_about_19 (by decide) ?_
      exact v_iret G K (by decide) (by decide) dL_about_20
  · subst hz
    obtain ⟨rfl, rfl⟩ := hr
    refine v_i2l G dL_about_8 ?_
    refine v_last (n := 1) (k := 28) (j := 0) G rfl rfl vp_in01 (by decide) dL_about_9 ?_
    refine v_goto (tgt := 21) G dL_about_10 (by decide) ?_
    refine v_iconst (v := 0) G dL_about_21 (by decide) ?_
    exact v_iret G K (by decide) (by decide) dL_about_22
theorem k_L_cost (l : Launch) (hfl : l.stackTraces = false) {σ σ' : apM} {v1 r : Int32} {res : (String × apM) ⊕ (Int32 × apM)} (h : m_X6_cost σ v1 = some res) (hr : hRs [("java/lang/IllegalStateException", 1), ("java/lang/IndexOutOfBoundsException", 2)] res r σ') : apHi l layC apXL yL_cost wsL_cost 10 2 (fun q => [.ref (q 0), .int v1, .ref (q 28)]) σ r σ' := by
  refine apHi_of (cc := cL_cost) (nL := 4) (hh := [(0, 9, 12, 26), (0, 9, 15, 33)]) (by decide) rfl (fun _ => Nat.le_of_ble_eq_true rfl) (fun Γ q hl G ht K => ?_)
  refine v_aload_n G dL_cost_0 rfl 2 rfl ?_
  refine v_iconst (v := 0) G dL_cost_1 (by decide) ?_
  refine v_aload_n G dL_cost_2 rfl 0 rfl ?_
  refine v_iload_n G dL_cost_3 rfl 1 rfl ?_
  refine v_xiC (lay := layC) (As := [.int v1]) (st := [.int 0, .ref (q 28)]) (n := 1) (C := RX6) (T := TX6) (k0 := 0) (apG_L G) apXCok (c_X6_cost Γ.1.2.1 (by rw [hl]; exact hfl) h) gL_cost_X6_cost rfl (by decide +kernel) (by decide) rfl rfl rfl rfl (Nat.le_of_ble_eq_true rfl) (by decide) rfl dL_cost_4 (fun z hz => ?_) (fun v s1 hz => ?_)
  · subst hz
    obtain ⟨E, s1⟩ := z
    obtain ⟨hm, rfl⟩ := hr
    simp only [List.mem_cons, Prod.mk.injEq, List.not_mem_nil, or_false] at hm
    rcases hm with ⟨rfl, rfl⟩ | ⟨rfl, rfl⟩
    · refine ⟨[], ⟨0, 9, 12, 26⟩, [⟨0, 9, 15, 33⟩], "java/lang/IllegalStateException", ht, (fun _ h => nomatch h), by decide, by decide, by decide +kernel, apG_cs (a := "java/lang/IllegalStateException") G (by decide +kernel), fun q9 => ?_⟩
      refine v_astore_n G dL_cost_12 rfl (by decide) rfl ?_
      refine v_iconst (v := 1) G dL_cost_13 (by decide) ?_
      exact v_iret G K (by decide) (by decide) dL_cost_14
    · refine ⟨[⟨0, 9, 12, 26⟩], ⟨0, 9, 15, 33⟩, [], "java/lang/IndexOutOfBoundsException", ht, List.forall_mem_cons.mpr ⟨Or.inr ⟨by decide, "java/lang/IllegalStateException", by decide +kernel, apG_nc (a := "java/lang/IndexOutOfBoundsException") (b := "java/lang/IllegalStateException") G (by decide +kernel)⟩, (fun _ h => nomatch h)⟩, by decide, by decide, by decide +kernel, apG_cs (a := "java/lang/IndexOutOfBoundsException") G (by decide +kernel), fun q9 => ?_⟩
      refine v_astore_n G dL_cost_15 rfl (by decide) rfl ?_
      refine v_iconst (v := 2) G dL_cost_16 (by decide) ?_
      exact v_iret G K (by decide) (by decide) dL_cost_17
  · subst hz
    obtain ⟨rfl, rfl⟩ := hr
    refine v_i2l G dL_cost_7 ?_
    refine v_last (n := 1) (k := 28) (j := 0) G rfl rfl vp_in01 (by decide) dL_cost_8 ?_
    refine v_goto (tgt := 18) G dL_cost_9 (by decide) ?_
    refine v_iconst (v := 0) G dL_cost_18 (by decide) ?_
    exact v_iret G K (by decide) (by decide) dL_cost_19
theorem k_L_peak (l : Launch) (hfl : l.stackTraces = false) {σ σ' : apM} {r : Int32} {res : (String × apM) ⊕ (Int32 × apM)} (h : m_X6_peak σ = res) (hr : hRs [("java/lang/IllegalStateException", 1)] res r σ') : apHi l layC apXL yL_peak wsL_peak 10 1 (fun q => [.ref (q 0), .ref (q 28)]) σ r σ' := by
  refine apHi_of (cc := cL_peak) (nL := 3) (hh := [(0, 8, 11, 26)]) (by decide) rfl (fun _ => Nat.le_of_ble_eq_true rfl) (fun Γ q hl G ht K => ?_)
  refine v_aload_n G dL_peak_0 rfl 1 rfl ?_
  refine v_iconst (v := 0) G dL_peak_1 (by decide) ?_
  refine v_aload_n G dL_peak_2 rfl 0 rfl ?_
  refine v_xiC (lay := layC) (As := []) (st := [.int 0, .ref (q 28)]) (n := 0) (C := RX6) (T := TX6) (k0 := 0) (apG_L G) apXCok (c_X6_peak Γ.1.2.1 (by rw [hl]; exact hfl) h) gL_peak_X6_peak rfl (by decide +kernel) (by decide) rfl rfl rfl rfl (Nat.le_of_ble_eq_true rfl) (by decide) rfl dL_peak_3 (fun z hz => ?_) (fun v s1 hz => ?_)
  · subst hz
    obtain ⟨E, s1⟩ := z
    obtain ⟨hm, rfl⟩ := hr
    simp only [List.mem_cons, Prod.mk.injEq, List.not_mem_nil, or_false] at hm
    rcases hm with ⟨rfl, rfl⟩
    · refine ⟨[], ⟨0, 8, 11, 26⟩, [], "java/lang/IllegalStateException", ht, (fun _ h => nomatch h), by decide, by decide, by decide +kernel, apG_cs (a := "java/lang/IllegalStateException") G (by decide +kernel), fun q9 => ?_⟩
      refine v_astore_n G dL_peak_11 rfl (by decide) rfl ?_
      refine v_iconst (v := 1) G dL_peak_12 (by decide) ?_
      exact v_iret G K (by decide) (by decide) dL_peak_13
  · subst hz
    obtain ⟨rfl, rfl⟩ := hr
    refine v_i2l G dL_peak_6 ?_
    refine v_last (n := 1) (k := 28) (j := 0) G rfl rfl vp_in01 (by decide) dL_peak_7 ?_
    refine v_goto (tgt := 14) G dL_peak_8 (by decide) ?_
    refine v_iconst (v := 0) G dL_peak_14 (by decide) ?_
    exact v_iret G K (by decide) (by decide) dL_peak_15
theorem k_L_least (l : Launch) (hfl : l.stackTraces = false) {σ σ' : apM} {r : Int32} {res : (String × apM) ⊕ (Int32 × apM)} (h : m_X6_least σ = some res) (hr : hRs [("java/lang/IllegalStateException", 1)] res r σ') : apHi l layC apXL yL_least wsL_least 10 1 (fun q => [.ref (q 0), .ref (q 28)]) σ r σ' := by
  refine apHi_of (cc := cL_least) (nL := 3) (hh := [(0, 8, 11, 26)]) (by decide) rfl (fun _ => Nat.le_of_ble_eq_true rfl) (fun Γ q hl G ht K => ?_)
  refine v_aload_n G dL_least_0 rfl 1 rfl ?_
  refine v_iconst (v := 0) G dL_least_1 (by decide) ?_
  refine v_aload_n G dL_least_2 rfl 0 rfl ?_
  refine v_xiC (lay := layC) (As := []) (st := [.int 0, .ref (q 28)]) (n := 0) (C := RX6) (T := TX6) (k0 := 0) (apG_L G) apXCok (c_X6_least Γ.1.2.1 (by rw [hl]; exact hfl) h) gL_least_X6_least rfl (by decide +kernel) (by decide) rfl rfl rfl rfl (Nat.le_of_ble_eq_true rfl) (by decide) rfl dL_least_3 (fun z hz => ?_) (fun v s1 hz => ?_)
  · subst hz
    obtain ⟨E, s1⟩ := z
    obtain ⟨hm, rfl⟩ := hr
    simp only [List.mem_cons, Prod.mk.injEq, List.not_mem_nil, or_false] at hm
    rcases hm with ⟨rfl, rfl⟩
    · refine ⟨[], ⟨0, 8, 11, 26⟩, [], "java/lang/IllegalStateException", ht, (fun _ h => nomatch h), by decide, by decide, by decide +kernel, apG_cs (a := "java/lang/IllegalStateException") G (by decide +kernel), fun q9 => ?_⟩
      refine v_astore_n G dL_least_11 rfl (by decide) rfl ?_
      refine v_iconst (v := 1) G dL_least_12 (by decide) ?_
      exact v_iret G K (by decide) (by decide) dL_least_13
  · subst hz
    obtain ⟨rfl, rfl⟩ := hr
    refine v_i2l G dL_least_6 ?_
    refine v_last (n := 1) (k := 28) (j := 0) G rfl rfl vp_in01 (by decide) dL_least_7 ?_
    refine v_goto (tgt := 14) G dL_least_8 (by decide) ?_
    refine v_iconst (v := 0) G dL_least_14 (by decide) ?_
    exact v_iret G K (by decide) (by decide) dL_least_15
theorem k_L_run (l : Launch) (hfl : l.stackTraces = false) {σ σ' : apM} {r : Int32} {res : (String × apM) ⊕ (Int32 × apM)} (h : m_X6_run σ = some res) (hr : hRs [("java/lang/IllegalStateException", 1)] res r σ') : apHi l layC apXL yL_run wsL_run 10 1 (fun q => [.ref (q 0), .ref (q 28)]) σ r σ' := by
  refine apHi_of (cc := cL_run) (nL := 3) (hh := [(0, 8, 11, 26)]) (by decide) rfl (fun _ => Nat.le_of_ble_eq_true rfl) (fun Γ q hl G ht K => ?_)
  refine v_aload_n G dL_run_0 rfl 1 rfl ?_
  refine v_iconst (v := 0) G dL_run_1 (by decide) ?_
  refine v_aload_n G dL_run_2 rfl 0 rfl ?_
  refine v_xiC (lay := layC) (As := []) (st := [.int 0, .ref (q 28)]) (n := 0) (C := RX6) (T := TX6) (k0 := 0) (apG_L G) apXCok (c_X6_run Γ.1.2.1 (by rw [hl]; exact hfl) h) gL_run_X6_run rfl (by decide +kernel) (by decide) rfl rfl rfl rfl (Nat.le_of_ble_eq_true rfl) (by decide) rfl dL_run_3 (fun z hz => ?_) (fun v s1 hz => ?_)
  · subst hz
    obtain ⟨E, s1⟩ := z
    obtain ⟨hm, rfl⟩ := hr
    simp only [List.mem_cons, Prod.mk.injEq, List.not_mem_nil, or_false] at hm
    rcases hm with ⟨rfl, rfl⟩
    · refine ⟨[], ⟨0, 8, 11, 26⟩, [], "java/lang/IllegalStateException", ht, (fun _ h => nomatch h), by decide, by decide, by decide +kernel, apG_cs (a := "java/lang/IllegalStateException") G (by decide +kernel), fun q9 => ?_⟩
      refine v_astore_n G dL_run_11 rfl (by decide) rfl ?_
      refine v_iconst (v := 1) G dL_run_12 (by decide) ?_
      exact v_iret G K (by decide) (by decide) dL_run_13
  · subst hz
    obtain ⟨rfl, rfl⟩ := hr
    refine v_i2l G dL_run_6 ?_
    refine v_last (n := 1) (k := 28) (j := 0) G rfl rfl vp_in01 (by decide) dL_run_7 ?_
    refine v_goto (tgt := 14) G dL_run_8 (by decide) ?_
    refine v_iconst (v := 0) G dL_run_14 (by decide) ?_
    exact v_iret G K (by decide) (by decide) dL_run_15
theorem k_L_cell (l : Launch) (hfl : l.stackTraces = false) {σ σ' : apM} {v1 r : Int32} {res : (String × apM) ⊕ (Int32 × apM)} (h : m_X6_cell σ v1 = some res) (hr : hRs [("java/lang/IllegalStateException", 1), ("java/lang/IndexOutOfBoundsException", 2)] res r σ') : apHi l layC apXL yL_cell wsL_cell 11 3 (fun q => [.ref (q 0), .int v1, .ref (q 28)]) σ r σ' := by
  refine apHi_of (cc := cL_cell) (nL := 4) (hh := [(0, 9, 12, 26), (0, 9, 15, 33)]) (by decide) rfl (fun _ => Nat.le_of_ble_eq_true rfl) (fun Γ q hl G ht K => ?_)
  refine v_aload_n G dL_cell_0 rfl 2 rfl ?_
  refine v_iconst (v := 0) G dL_cell_1 (by decide) ?_
  refine v_aload_n G dL_cell_2 rfl 0 rfl ?_
  refine v_iload_n G dL_cell_3 rfl 1 rfl ?_
  refine v_xiC (lay := layC) (As := [.int v1]) (st := [.int 0, .ref (q 28)]) (n := 1) (C := RX6) (T := TX6) (k0 := 0) (apG_L G) apXCok (c_X6_cell Γ.1.2.1 (by rw [hl]; exact hfl) h) gL_cell_X6_cell rfl (by decide +kernel) (by decide) rfl rfl rfl rfl (Nat.le_of_ble_eq_true rfl) (by decide) rfl dL_cell_4 (fun z hz => ?_) (fun v s1 hz => ?_)
  · subst hz
    obtain ⟨E, s1⟩ := z
    obtain ⟨hm, rfl⟩ := hr
    simp only [List.mem_cons, Prod.mk.injEq, List.not_mem_nil, or_false] at hm
    rcases hm with ⟨rfl, rfl⟩ | ⟨rfl, rfl⟩
    · refine ⟨[], ⟨0, 9, 12, 26⟩, [⟨0, 9, 15, 33⟩], "java/lang/IllegalStateException", ht, (fun _ h => nomatch h), by decide, by decide, by decide +kernel, apG_cs (a := "java/lang/IllegalStateException") G (by decide +kernel), fun q9 => ?_⟩
      refine v_astore_n G dL_cell_12 rfl (by decide) rfl ?_
      refine v_iconst (v := 1) G dL_cell_13 (by decide) ?_
      exact v_iret G K (by decide) (by decide) dL_cell_14
    · refine ⟨[⟨0, 9, 12, 26⟩], ⟨0, 9, 15, 33⟩, [], "java/lang/IndexOutOfBoundsException", ht, List.forall_mem_cons.mpr ⟨Or.inr ⟨by decide, "java/lang/IllegalStateException", by decide +kernel, apG_nc (a := "java/lang/IndexOutOfBoundsException") (b := "java/lang/IllegalStateException") G (by decide +kernel)⟩, (fun _ h => nomatch h)⟩, by decide, by decide, by decide +kernel, apG_cs (a := "java/lang/IndexOutOfBoundsException") G (by decide +kernel), fun q9 => ?_⟩
      refine v_astore_n G dL_cell_15 rfl (by decide) rfl ?_
      refine v_iconst (v := 2) G dL_cell_16 (by decide) ?_
      exact v_iret G K (by decide) (by decide) dL_cell_17
  · subst hz
    obtain ⟨rfl, rfl⟩ := hr
    refine v_i2l G dL_cell_7 ?_
    refine v_last (n := 1) (k := 28) (j := 0) G rfl rfl vp_in01 (by decide) dL_cell_8 ?_
    refine v_goto (tgt := 18) G dL_cell_9 (by decide) ?_
    refine v_iconst (v := 0) G dL_cell_18 (by decide) ?_
    exact v_iret G K (by decide) (by decide) dL_cell_19
theorem k_L_result (l : Launch) (hfl : l.stackTraces = false) {σ σ' : apM} {v1 v2 r : Int32} {res : (String × apM) ⊕ (Int32 × apM)} (h : m_X6_result σ v1 v2 = some res) (hr : hRs [("java/lang/IllegalStateException", 1), ("java/util/NoSuchElementException", 2), ("java/lang/IndexOutOfBoundsException", 3)] res r σ') : apHi l layC apXL yL_result wsL_result 11 4 (fun q => [.ref (q 0), .int v1, .int v2, .ref (q 28)]) σ r σ' := by
  refine apHi_of (cc := cL_result) (nL := 5) (hh := [(0, 10, 13, 26), (0, 10, 17, 21), (0, 10, 21, 33)]) (by decide) rfl (fun _ => Nat.le_of_ble_eq_true rfl) (fun Γ q hl G ht K => ?_)
  refine v_aload_n G dL_result_0 rfl 3 rfl ?_
  refine v_iconst (v := 0) G dL_result_1 (by decide) ?_
  refine v_aload_n G dL_result_2 rfl 0 rfl ?_
  refine v_iload_n G dL_result_3 rfl 1 rfl ?_
  refine v_iload_n G dL_result_4 rfl 2 rfl ?_
  refine v_xiC (lay := layC) (As := [.int v1, .int v2]) (st := [.int 0, .ref (q 28)]) (n := 2) (C := RX6) (T := TX6) (k0 := 0) (apG_L G) apXCok (c_X6_result Γ.1.2.1 (by rw [hl]; exact hfl) h) gL_result_X6_result rfl (by decide +kernel) (by decide) rfl rfl rfl rfl (Nat.le_of_ble_eq_true rfl) (by decide) rfl dL_result_5 (fun z hz => ?_) (fun v s1 hz => ?_)
  · subst hz
    obtain ⟨E, s1⟩ := z
    obtain ⟨hm, rfl⟩ := hr
    simp only [List.mem_cons, Prod.mk.injEq, List.not_mem_nil, or_false] at hm
    rcases hm with ⟨rfl, rfl⟩ | ⟨rfl, rfl⟩ | ⟨rfl, rfl⟩
    · refine ⟨[], ⟨0, 10, 13, 26⟩, [⟨0, 10, 17, 21⟩, ⟨0, 10, 21, 33⟩], "java/lang/IllegalStateException", ht, (fun _ h => nomatch h), by decide, by decide, by decide +kernel, apG_cs (a := "java/lang/IllegalStateException") G (by decide +kernel), fun q9 => ?_⟩
      refine v_astore G dL_result_13 (by decide) rfl ?_
      refine v_iconst (v := 1) G dL_result_15 (by decide) ?_
      exact v_iret G K (by decide) (by decide) dL_result_16
    · refine ⟨[⟨0, 10, 13, 26⟩], ⟨0, 10, 17, 21⟩, [⟨0, 10, 21, 33⟩], "java/util/NoSuchElementException", ht, List.forall_mem_cons.mpr ⟨Or.inr ⟨by decide, "java/lang/IllegalStateException", by decide +kernel, apG_nc (a := "java/util/NoSuchElementException") (b := "java/lang/IllegalStateException") G (by decide +kernel)⟩, (fun _ h => nomatch h)⟩, by decide, by decide, by decide +kernel, apG_cs (a := "java/util/NoSuchElementException") G (by decide +kernel), fun q9 => ?_⟩
      refine v_astore G dL_result_17 (by decide) rfl ?_
      refine v_iconst (v := 2) G dL_result_19 (by decide) ?_
      exact v_iret G K (by decide) (by decide) dL_result_20
    · refine ⟨[⟨0, 10, 13, 26⟩, ⟨0, 10, 17, 21⟩], ⟨0, 10, 21, 33⟩, [], "java/lang/IndexOutOfBoundsException", ht, List.forall_mem_cons.mpr ⟨Or.inr ⟨by decide, "java/lang/IllegalStateException", by decide +kernel, apG_nc (a := "java/lang/IndexOutOfBoundsException") (b := "java/lang/IllegalStateException") G (by decide +kernel)⟩, List.forall_mem_cons.mpr ⟨Or.inr ⟨by decide, "java/util/NoSuchElementException", by decide +kernel, apG_nc (a := "java/lang/IndexOutOfBoundsException") (b := "java/util/NoSuchElementException") G (by decide +kernel)⟩, (fun _ h => nomatch h)⟩⟩, by decide, by decide, by decide +kernel, apG_cs (a := "java/lang/IndexOutOfBoundsException") G (by decide +kernel), fun q9 => ?_⟩
      refine v_astore G dL_result_21 (by decide) rfl ?_
      refine v_iconst (v := 3) G dL_result_23 (by decide) ?_
      exact v_iret G K (by decide) (by decide) dL_result_24
  · subst hz
    obtain ⟨rfl, rfl⟩ := hr
    refine v_i2l G dL_result_8 ?_
    refine v_last (n := 1) (k := 28) (j := 0) G rfl rfl vp_in01 (by decide) dL_result_9 ?_
    refine v_goto (tgt := 25) G dL_result_10 (by decide) ?_
    refine v_iconst (v := 0) G dL_result_25 (by decide) ?_
    exact v_iret G K (by decide) (by decide) dL_result_26
