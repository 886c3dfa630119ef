/-! ===== the law from its first instruction ===== -/
set_option maxHeartbeats 8000000 in
set_option maxRecDepth 100000 in
theorem law_main {Γ : apC} {b L0 : Nat} {xs : Nat → Int32} (LG : lwG Γ b L0 xs) (hend : ∀ (w : va_W) (cn sn : Nat) (L : List (Nat × Value)), cn ≤ 600384 → sn ≤ 7290858 → apV Γ 7 w cn sn 911 L [.int 1]) (hov : (Cond.arrayOver (.array .int)).before Γ.2.1.2.1 (apS Γ) = true) (hnest : va_Nw (.methodLinkNest RX6 9 yX1_init "ArenaPlan") (apS Γ)) : apV Γ 7 [] 0 0 0 [(0, .ref b)] [] := by
  have G := LG.1
  refine v_newO (C := RX6) (T := TX6) (N := 9) (ci := 8) (fs := [.null, .null, .null, .null, .null, .null, .int 0, .int 0, .int 0]) G rfl inlX6 tyX6 tyX6_ok (by decide +kernel) (by decide +kernel) (by decide +kernel) (fun j hj => by rcases (show j = 0 ∨ j = 1 ∨ j = 2 ∨ j = 3 ∨ j = 4 ∨ j = 5 ∨ j = 6 ∨ j = 7 ∨ j = 8 by omega) with rfl | rfl | rfl | rfl | rfl | rfl | rfl | rfl | rfl <;> rfl) ⟨Nat.le_of_ble_eq_true rfl, Nat.le_of_ble_eq_true rfl⟩ dL_law_0 (fun a0 => ?_)
  refine v_dup G dL_law_3 rfl ?_
  refine v_callI (n := 0) (wr := []) (As := []) (st := [.ref a0]) G (k_X6_init Γ.1.2.1 a0) gL_law_X6_init rfl (by decide +kernel) (by decide +kernel) (by decide +kernel) rfl (by decide +kernel) ⟨by decide, by decide⟩ rfl [0] [] rfl rfl rfl (by decide) (by decide) (by decide) (Nat.le_of_ble_eq_true rfl) ⟨Nat.le_of_ble_eq_true rfl, Nat.le_of_ble_eq_true rfl⟩ rfl dL_law_4 (fun U g mk a h => ⟨aov_al (V := U.calling g mk a) (Vm.Alike.refl U.vm) h.1, va_Nw.same rfl rfl h.2⟩) (fun U hW => ⟨aov_al hW.alike hov, va_Nw.warmM hW hnest⟩) (fun w1 hq => ?_)
  obtain ⟨q, hq0, rfl⟩ := hq
  subst hq0
  refine v_astore_n (L' := [(1, .ref (q 0)), (0, .ref b)]) G dL_law_7 rfl (by decide) rfl ?_
  refine v_w (w' := apL q (apd Γ) (fun _ _ => 0) 0 layC1 ++ apL q (apd Γ) (fun _ _ => 0) 29 layC2) (by rw [List.nil_append]; exact apU_cut) ?_
  obtain ⟨E, hE⟩ : ∃ E, E = apL q (apd Γ) (fun _ _ => 0) 0 layC1 ++ apL q (apd Γ) (fun _ _ => 0) 29 layC2 := ⟨_, rfl⟩
  have h1 : (apL q (apd Γ) (fun _ _ => 0) 0 layC1).length = 28 := (apL_len _ _).trans rfl
  have h2 : (apL q (apd Γ) (fun _ _ => 0) 29 layC2).length = 24 := (apL_len _ _).trans rfl
  have hlen : E.length = 52 := by rw [hE, List.length_append, h1, h2]
  rw [← hE]
  refine v_newO (C := RX7) (T := TX7) (N := 30) (ci := 9) (fs := [.int 0, .int 0, .null, .null, .null, .null, .null, .null, .null, .int 0, .null, .int 0, .int 0, .null, .null, .null, .null, .null, .null, .int 0, .int 0, .int 0, .null, .null, .null, .int 0, .null, .int 0, .null, .null]) G rfl inlX7 tyX7 tyX7_ok (by decide +kernel) (by decide +kernel) (by decide +kernel) (fun j hj => by rcases (show j = 0 ∨ j = 1 ∨ j = 2 ∨ j = 3 ∨ j = 4 ∨ j = 5 ∨ j = 6 ∨ j = 7 ∨ j = 8 ∨ j = 9 ∨ j = 10 ∨ j = 11 ∨ j = 12 ∨ j = 13 ∨ j = 14 ∨ j = 15 ∨ j = 16 ∨ j = 17 ∨ j = 18 ∨ j = 19 ∨ j = 20 ∨ j = 21 ∨ j = 22 ∨ j = 23 ∨ j = 24 ∨ j = 25 ∨ j = 26 ∨ j = 27 ∨ j = 28 ∨ j = 29 by omega) with rfl | rfl | rfl | rfl | rfl | rfl | rfl | rfl | rfl | rfl | rfl | rfl | rfl | rfl | rfl | rfl | rfl | rfl | rfl | rfl | rfl | rfl | rfl | rfl | rfl | rfl | rfl | rfl | rfl | rfl <;> rfl) ⟨Nat.le_of_ble_eq_true rfl, Nat.le_of_ble_eq_true rfl⟩ dL_law_8 (fun a1 => ?_)
  have hC : (List.range' 52 1).map (fun i => (E ++ [(a1, (.inr (9, [.int 0, .int 0, .null, .null, .null, .null, .null, .null, .null, .int 0, .null, .int 0, .int 0, .null, .null, .null, .null, .null, .null, .int 0, .int 0, .int 0, .null, .null, .null, .int 0, .null, .int 0, .null, .null]) : va_E))])[i]?) = [(a1, (.inr (9, [.int 0, .int 0, .null, .null, .null, .null, .null, .null, .null, .int 0, .null, .int 0, .int 0, .null, .null, .null, .null, .null, .null, .int 0, .int 0, .int 0, .null, .null, .null, .int 0, .null, .int 0, .null, .null]) : va_E))].map some := by
    have h := ap_mapR E [(a1, (.inr (9, [.int 0, .int 0, .null, .null, .null, .null, .null, .null, .null, .int 0, .null, .int 0, .int 0, .null, .null, .null, .null, .null, .null, .int 0, .int 0, .int 0, .null, .null, .null, .int 0, .null, .int 0, .null, .null]) : va_E))]
    rw [hlen] at h
    exact h
  have hR : (List.range 52).map (fun i => (E ++ [(a1, (.inr (9, [.int 0, .int 0, .null, .null, .null, .null, .null, .null, .null, .int 0, .null, .int 0, .int 0, .null, .null, .null, .null, .null, .null, .int 0, .int 0, .int 0, .null, .null, .null, .int 0, .null, .int 0, .null, .null]) : va_E))])[i]?) = E.map some := by
    have h := ap_mapL E [(a1, (.inr (9, [.int 0, .int 0, .null, .null, .null, .null, .null, .null, .null, .int 0, .null, .int 0, .int 0, .null, .null, .null, .null, .null, .null, .int 0, .int 0, .int 0, .null, .null, .null, .int 0, .null, .int 0, .null, .null]) : va_E))]
    rw [hlen] at h
    exact h
  refine v_dup G dL_law_11 rfl ?_
  refine v_callI (n := 0) (wr := E) (As := []) (st := [.ref a1]) G (k_X7_init Γ.1.2.1 a1) gL_law_X7_init rfl (by decide +kernel) (by decide +kernel) (by decide +kernel) rfl (by decide +kernel) ⟨by decide, by decide⟩ rfl _ _ hC (fm_of hC) hR (by decide) (by decide +kernel) (by decide +kernel) (Nat.le_of_ble_eq_true rfl) ⟨Nat.le_of_ble_eq_true rfl, Nat.le_of_ble_eq_true rfl⟩ rfl dL_law_12 (fun U g mk a h => trivial) (fun U hW => trivial) (fun w1 hq => ?_)
  obtain ⟨q7, q15, q23, q31, q39, q48, q56, q64, q72, q80, q88, q96, q104, q112, q120, q128, q136, q145, q154, q163, rfl⟩ := hq
  refine v_astore_n (L' := [(2, .ref a1), (1, .ref (q 0)), (0, .ref b)]) G dL_law_15 rfl (by decide) rfl ?_
  obtain ⟨q2, hq2⟩ : ∃ q2 : Nat → Nat, q2 = fun k => match k with | 0 => a1 | 1 => q7 | 2 => q15 | 3 => q23 | 4 => q31 | 5 => q39 | 6 => q48 | 7 => q56 | 8 => q64 | 9 => q72 | 10 => q80 | 11 => q88 | 12 => q96 | 13 => q104 | 14 => q112 | 15 => q120 | 16 => q128 | 17 => q136 | 18 => q145 | 19 => q154 | _ => q163 := ⟨_, rfl⟩
  refine v_w (w' := E ++ apU layM q2 (apd Γ) (fun _ _ => 0)) (by rw [hq2]; rfl) ?_
  have e2 : a1 = q2 0 := by subst hq2; rfl
  rw [e2]
  refine v_iconst (v := 1) G dL_law_16 (by decide) ?_
  refine v_newJ (N := 1) G (by decide +kernel) (by decide) (by decide) (by decide) ⟨Nat.le_of_ble_eq_true rfl, Nat.le_of_ble_eq_true rfl⟩ dL_law_17 (fun a2 => ?_)
  refine v_astore_n (L' := [(3, .ref a2), (2, .ref (q2 0)), (1, .ref (q 0)), (0, .ref b)]) G dL_law_19 rfl (by decide) rfl ?_
  refine v_iconst (v := nI 0) G dL_law_20 (by decide) ?_
  refine v_istore (L' := [(4, .int (nI 0)), (3, .ref a2), (2, .ref (q2 0)), (1, .ref (q 0)), (0, .ref b)]) G dL_law_21 (by decide) rfl ?_
  obtain ⟨q', hq'⟩ : ∃ q' : Nat → Nat, q' = fun k => if k = 28 then a2 else q k := ⟨_, rfl⟩
  have f1 : ∀ k, k ≠ 28 → q' k = q k := fun k hk => by rw [hq']; exact if_neg hk
  have f2 : q' 28 = a2 := by rw [hq']; exact if_pos rfl
  have hU : apU layC q' (apd Γ) (fun _ _ => 0) = apL q (apd Γ) (fun _ _ => 0) 0 layC1 ++ ((a2, (.inl (apd Γ 3, (1, .inr (.inl (fun _ => (0 : Int64))))) : va_E)) :: apL q (apd Γ) (fun _ _ => 0) 29 layC2) := by
    have h := apU_put (d := apd Γ) (σ := fun _ _ => 0) f1
    rw [f2] at h
    exact h
  have hT : (List.range' 52 21 ++ (List.range' 0 28 ++ (List.range' 73 1 ++ List.range' 28 24))).map (fun i => ((E ++ apU layM q2 (apd Γ) (fun _ _ => 0)) ++ [(a2, (.inl (apd Γ 3, (1, .inr (.inl (fun _ => (0 : Int64))))) : va_E))])[i]?) = (lwW q' q2 (apd Γ) (fun _ _ => 0) (fun _ _ => 0)).map some := by
    unfold lwW
    rw [hU, hE]
    exact ap_segs h1 h2 lenM
  refine v_sub _ (fm_of hT) hT (by decide +kernel) ?_
  refine v_locs (L' := lwL b q' q2 0) [4, 3, 2, 1, 0] (by show _ = ([(0, .ref b), (1, .ref (q' 0)), (2, .ref (q2 0)), (3, .ref (q' 28)), (4, .int (nI 0))] : List (Nat × Value)); rw [f1 0 (by decide), f2]; rfl) ?_
  exact law_loop LG hend (L0 + 1) 0 _ _ _ _ (by omega) (Nat.zero_le _) q_init (Nat.le_of_ble_eq_true rfl) (Nat.le_of_ble_eq_true rfl)
