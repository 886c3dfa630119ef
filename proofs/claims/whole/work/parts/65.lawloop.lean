/-! ===== the law's loop ===== -/
theorem nI_sub4 {n : Nat} (h : 4 ≤ n) : nI n - 4 = nI (n - 4) := by
  obtain ⟨k, rfl⟩ : ∃ k, n = k + 4 := ⟨n - 4, by omega⟩
  rw [show k + 4 - 4 = k by omega, ← nI_add k 4]
  exact Int32.add_sub_cancel _ _
theorem law_loop {Γ : apC} {b L0 : Nat} {xs : Nat → Int32} (LG : lwG Γ b L0 xs) (hend : ∀ (w : va_W) (cn sn : Nat) (L : List (Nat × Value)), cn ≤ 600384 → sn ≤ 7290858 → apV Γ 7 w cn sn 911 L [.int 1]) {q q2 : Nat → Nat} : ∀ (z i : Nat) (σC σM : apM) (cn sn : Nat), L0 < i + 4 * z → i ≤ L0 → qIN σC σM → cn ≤ 74 + i → sn ≤ 10558 + 6 * i → apV Γ 7 (lwW q q2 (apd Γ) σC σM) cn sn 23 (lwL b q q2 i) [] := by
  intro z
  induction z with
  | zero =>
    intro i σC σM cn sn h1 h2
    omega
  | succ z ih =>
    intro i σC σM cn sn h1 h2 h h3 h4
    have G := LG.1
    have h256 := LG.2.2.2.2.2
    refine v_iload G dL_law_23 4 rfl ?_
    refine v_aload_n G dL_law_25 rfl 0 rfl ?_
    refine v_slnX LG dL_law_26 ?_
    refine v_iconst (v := 4) G dL_law_27 (by decide) ?_
    refine v_isub G dL_law_28 ?_
    refine v_icmp_gt (tgt := 910) G dL_law_29 (by decide) (fun _ => ?_) (fun c => ?_)
    · refine v_iconst (v := 1) G dL_law_910 (by decide) ?_
      exact hend _ _ _ _ (by omega) (by omega)
    · have hi : i + 4 ≤ L0 := by
        by_cases h9 : 4 ≤ L0
        · rw [nI_sub4 h9] at c
          by_cases h8 : L0 - 4 < i
          · exact absurd (nI_lt h8 (by omega)) c
          · omega
        · refine absurd ?_ c
          have e : nI L0 - 4 < 0 := by
            rcases (show L0 = 0 ∨ L0 = 1 ∨ L0 = 2 ∨ L0 = 3 by omega) with e | e | e | e <;> rw [e] <;> decide
          exact Int32.lt_of_lt_of_le e (nI_pos' (by omega))
      refine v_aload_n G dL_law_32 rfl 0 rfl ?_
      refine v_iload G dL_law_33 4 rfl ?_
      refine v_sldX LG (i := nI i) (v := xs i) (nI_in (by omega) (by omega)) (by rw [nI_clamp (by omega)]) dL_law_35 ?_
      refine v_bipush (v := 15) G dL_law_36 (by decide) ?_
      refine v_iand G dL_law_38 ?_
      obtain ⟨j, hj, ej⟩ := and15 (xs i)
      rw [ej]
      have K : lwK Γ b q q2 i cn sn := fun s1 s2 c1 n1 a1 a2 a3 => by
        refine v_iinc (v := nI (i + 4)) (L' := [(4, .int (nI (i + 4))), (0, .ref b), (1, .ref (q 0)), (2, .ref (q2 0)), (3, .ref (q 28))]) G dL_law_904 4 rfl (by rw [show Int32.ofInt 4 = nI 4 by decide]; exact nI_add i 4) (by decide) rfl ?_
        refine v_goto (tgt := 23) G dL_law_907 (by decide) ?_
        refine v_locs (L' := lwL b q q2 (i + 4)) [1, 2, 3, 4, 0] rfl ?_
        exact ih (i + 4) s1 s2 c1 n1 (by omega) (by omega) a1 (by omega) (by omega)
      have hc : cn + 4 ≤ 600384 ∧ sn + 24 ≤ 7290858 := by omega
      rcases (show j = 0 ∨ j = 1 ∨ j = 2 ∨ j = 3 ∨ j = 4 ∨ j = 5 ∨ j = 6 ∨ j = 7 ∨ j = 8 ∨ j = 9 ∨ j = 10 ∨ j = 11 ∨ j = 12 ∨ j = 13 ∨ j = 14 ∨ j = 15 by omega) with rfl | rfl | rfl | rfl | rfl | rfl | rfl | rfl | rfl | rfl | rfl | rfl | rfl | rfl | rfl | rfl
      · exact v_tableIn (off := 73) (tgt := 112) G dL_law_39 (by decide +kernel) (by decide +kernel) (by decide +kernel) (by decide) (lw_make LG h hi hc K)
      · exact v_tableIn (off := 153) (tgt := 192) G dL_law_39 (by decide +kernel) (by decide +kernel) (by decide +kernel) (by decide) (lw_give LG h hi hc K)
      · exact v_tableIn (off := 202) (tgt := 241) G dL_law_39 (by decide +kernel) (by decide +kernel) (by decide +kernel) (by decide) (lw_wire LG h hi hc K)
      · exact v_tableIn (off := 251) (tgt := 290) G dL_law_39 (by decide +kernel) (by decide +kernel) (by decide +kernel) (by decide) (lw_keep LG h hi hc K)
      · exact v_tableIn (off := 304) (tgt := 343) G dL_law_39 (by decide +kernel) (by decide +kernel) (by decide +kernel) (by decide) (lw_nodes LG h hi hc K)
      · exact v_tableIn (off := 317) (tgt := 356) G dL_law_39 (by decide +kernel) (by decide +kernel) (by decide +kernel) (by decide) (lw_ring LG h hi hc K)
      · exact v_tableIn (off := 373) (tgt := 412) G dL_law_39 (by decide +kernel) (by decide +kernel) (by decide +kernel) (by decide) (lw_plan LG h hi hc K)
      · exact v_tableIn (off := 429) (tgt := 468) G dL_law_39 (by decide +kernel) (by decide +kernel) (by decide +kernel) (by decide) (lw_order LG h hi hc K)
      · exact v_tableIn (off := 485) (tgt := 524) G dL_law_39 (by decide +kernel) (by decide +kernel) (by decide +kernel) (by decide) (lw_about LG h hi hc K)
      · exact v_tableIn (off := 553) (tgt := 592) G dL_law_39 (by decide +kernel) (by decide +kernel) (by decide +kernel) (by decide) (lw_cost LG h hi hc K)
      · exact v_tableIn (off := 609) (tgt := 648) G dL_law_39 (by decide +kernel) (by decide +kernel) (by decide +kernel) (by decide) (lw_peak LG h hi hc K)
      · exact v_tableIn (off := 653) (tgt := 692) G dL_law_39 (by decide +kernel) (by decide +kernel) (by decide +kernel) (by decide) (lw_least LG h hi hc K)
      · exact v_tableIn (off := 697) (tgt := 736) G dL_law_39 (by decide +kernel) (by decide +kernel) (by decide +kernel) (by decide) (lw_run LG h hi hc K)
      · exact v_tableIn (off := 741) (tgt := 780) G dL_law_39 (by decide +kernel) (by decide +kernel) (by decide +kernel) (by decide) (lw_cell LG h hi hc K)
      · exact v_tableIn (off := 797) (tgt := 836) G dL_law_39 (by decide +kernel) (by decide +kernel) (by decide +kernel) (by decide) (lw_result LG h hi hc K)
      · exact v_tableOut (tgt := 904) G dL_law_39 (by decide +kernel) (by decide) (K _ _ _ _ h (by omega) (by omega))
