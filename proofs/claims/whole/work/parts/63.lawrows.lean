/-! ===== the law's frame: the script, the two memories side by side ===== -/
theorem fm_of {α β : Type} {f : α → Option β} {is : List α} {A : List β} (h : is.map f = A.map some) : is.filterMap f = A := by
  have e : is.filterMap f = (is.map f).filterMap id := by rw [List.filterMap_map]; rfl
  rw [e, h, List.filterMap_map]
  exact List.filterMap_some
theorem ap_seg {α : Type} (P Q R : List α) : (List.range' P.length Q.length).map (fun i => (P ++ (Q ++ R))[i]?) = Q.map some := by
  apply List.ext_getElem?
  intro i
  rw [List.getElem?_map, List.getElem?_map]
  by_cases h : i < Q.length
  · have e1 : (List.range' P.length Q.length)[i]? = some (P.length + 1 * i) := List.getElem?_range' h
    have e2 : (P ++ (Q ++ R))[P.length + 1 * i]? = (Q ++ R)[P.length + 1 * i - P.length]? := List.getElem?_append_right (by omega)
    rw [e1]
    show some ((P ++ (Q ++ R))[P.length + 1 * i]?) = (Q[i]?).map some
    rw [e2, show P.length + 1 * i - P.length = i by omega, List.getElem?_append_left h, List.getElem?_eq_getElem h]
    rfl
  · have e1 : (List.range' P.length Q.length)[i]? = none := List.getElem?_eq_none (by rw [List.length_range']; omega)
    have e2 : Q[i]? = none := List.getElem?_eq_none (by omega)
    rw [e1, e2]
    rfl
theorem ap_mapL {α : Type} (A B : List α) : (List.range A.length).map (fun i => (A ++ B)[i]?) = A.map some := by
  have h := ap_seg [] A B
  rw [List.range_eq_range']
  exact h
theorem ap_mapR {α : Type} (A B : List α) : (List.range' A.length B.length).map (fun i => (A ++ B)[i]?) = B.map some := by
  have h := ap_seg A B []
  rw [List.append_nil] at h
  exact h
theorem apL_len {q : Nat → Nat} {d : Nat → ClassId} {σ : apM} : ∀ (lay : List apK) (b : Nat), (apL q d σ b lay).length = lay.length
  | [], _ => rfl
  | _ :: r, b => congrArg (· + 1) (apL_len r (b + 1))
def lwW (q q2 : Nat → Nat) (d : Nat → ClassId) (σC σM : apM) : va_W := apU layM q2 d σM ++ apU layC q d σC
section LWW
variable {q q2 : Nat → Nat} {d : Nat → ClassId} {σC σM : apM}
theorem lenM : (apU layM q2 d σM).length = 21 := (apL_len layM 0).trans rfl
theorem lenC : (apU layC q d σC).length = 53 := (apL_len layC 0).trans rfl
theorem lwW_M : (List.range 21).map (fun i => (lwW q q2 d σC σM)[i]?) = (apU layM q2 d σM).map some := by
  have h := ap_mapL (apU layM q2 d σM) (apU layC q d σC)
  rw [lenM] at h
  exact h
theorem lwW_C : (List.range' 21 53).map (fun i => (lwW q q2 d σC σM)[i]?) = (apU layC q d σC).map some := by
  have h := ap_mapR (apU layM q2 d σM) (apU layC q d σC)
  rw [lenM, lenC] at h
  exact h
theorem lwW_T : (List.range' 53 21 ++ List.range 53).map (fun i => (apU layC q d σC ++ apU layM q2 d σM)[i]?) = (lwW q q2 d σC σM).map some := by
  have h1 := ap_mapL (apU layC q d σC) (apU layM q2 d σM)
  have h2 := ap_mapR (apU layC q d σC) (apU layM q2 d σM)
  rw [lenC] at h1 h2
  rw [lenM] at h2
  rw [List.map_append, h1, h2]
  exact (List.map_append).symm
theorem lwW_o : (lwW q q2 d σC σM)[49]? = some (q 28, .inl (d 3, (1, .inr (.inl (fun i => (σC 28 i).toInt64))))) := by
  have e : (apU layM q2 d σM ++ apU layC q d σC)[49]? = (apU layC q d σC)[49 - (apU layM q2 d σM).length]? := List.getElem?_append_right (by rw [lenM]; omega)
  unfold lwW
  rw [e, lenM]
  exact apU_get (q := q) (d := d) (σ := σC) (lay := layC) (k := 28) (x := .inr (.inl (3, 1))) rfl
end LWW
theorem nd_C : va_nd (List.range' 21 53) = true := by decide +kernel
theorem nd_M : va_nd (List.range 21) = true := by decide +kernel
theorem nd_T : va_nd (List.range' 53 21 ++ List.range 53) = true := by decide +kernel
theorem dj_CM : ∀ i ∈ List.range 21, i ∉ List.range' 21 53 := by decide +kernel
theorem dj_MC : ∀ i ∈ List.range' 21 53, i ∉ List.range 21 := by decide +kernel
section APP
variable {Γ : apC} {cc : ByteArray} {nL : Nat} {own : String} {Ts : List Cond} {rm : Room} {X X0 : (Nat → Prop) → State → Prop} {w wr : va_W} {cn sn pc : Nat} {L : List (Nat × Value)} {st stk As : List Value}
variable {lay : List apK} {q : Nat → Nat} {σ σ' : apM} {y : MethodName} {ws ws' : List Cond} {k nx : Nat} {av : (Nat → Nat) → List Value} {r : Int32} {bytes : ByteArray} {maxL index n k0 ci N : Nat} {C : String} {T : u_T} {fl : List (Option Nat)} {ret : Option FieldType} {hh : List (Nat × Nat × Nat × Nat)}
/-- a call of a method over some of the cells -/
theorem v_pV (G : apG Γ cc nL own Ts rm X0) (hX : apXok X) (hXs : X (apA Γ) (apS Γ)) (hM : apMi Γ.1.2.1 lay X y ws k av σ r σ') (hG : GoodIn Ts (wsV own index C y ws)) (hw : ws = Cond.code y bytes maxL ret :: ws') (hd0 : y.cls = C ∧ y.cls ≠ "java/lang/invoke/MethodHandle" ∧ y.cls ≠ "java/lang/invoke/VarHandle" ∧ (parseMethodDescriptor y.desc).map (fun d => d.parameters.length) = some n) (hR : k + 1 ≤ rm.frames ∧ 8 + (maxL + 11) + 64 * k ≤ rm.locals) (hk0 : lay[k0]? = some (.inl (ci, fl))) (hc : vwCl[ci]? = some (C, T, N)) (hav : av q = .ref (q k0) :: As) (hn : As.length = n) (isC isR : List Nat) (hC : isC.map (fun i => w[i]?) = (apU lay q (apd Γ) σ).map some) (hR2 : isR.map (fun i => w[i]?) = wr.map some) (hnC : va_nd isC = true) (hnR : va_nd isR = true) (hdis : ∀ i ∈ isR, i ∉ isC) (hst : (st.map fun v => v.category).sum ≤ 8) (hcs : cn ≤ rm.cells ∧ sn ≤ rm.slots) (hstk : stk = As.reverse ++ .ref (q k0) :: st) (hd : decode cc pc = .ok (.invokevirtual index, 3))
    (kk : apV Γ nL (wr ++ apU lay q (apd Γ) σ') cn sn (pc + 3) L (.int r :: st)) : apV Γ nL w cn sn pc L stk := fun H locs ls hH hL => by
  subst hstk
  have hPc := hH.1.sub (ws' := apU lay q (apd Γ) σ) isC (fm_of hC)
  have hDc := hH.2.1.sub (ws' := apU lay q (apd Γ) σ) isC hnC hC
  have hFc := va_free (wc := apU lay q (apd Γ) σ) hH.2.1 hH.2.2 G.2.2.2.2.2.2.2.1 isC hC
  refine va_calli (va_runV (As := As) (rest := st) ⟨G.1, G.2.1, G.2.2.1, G.2.2.2.1, G.2.2.2.2.1⟩ (hM (apD Γ) (apd Γ) q H.size) (cwV n G.2.2.2.2.1 hG hw rfl rfl hd0 ⟨by rw [G.2.2.2.2.2.2.1]; exact hR.1, by rw [G.2.2.2.2.2.2.1]; exact hR.2⟩) ⟨apPc_blind hX, va_recv G.2.2.2.2.2.1 hPc hc (apU_get hk0), fun U hU hW => by rw [← hav]; exact ⟨rfl, by rw [hU], by rw [hU]; exact hPc, va_K.moved hW.alike G.2.2.2.2.2.1, hDc.weaken (fun _ _ _ _ => trivial), hX.2 _ _ _ _ hXs hW (fun q h1 h2 => by rw [hU]; exact hH.2.2.2.1 q h1 h2) hFc⟩⟩ rfl hn hL.1 rfl (lv_room hst) hd ⟨by rw [G.2.2.2.2.2.2.1]; exact hcs.1, by rw [G.2.2.2.2.2.2.1]; exact hcs.2⟩) hH.2.2 (fun q _ h => hFc q h) hFc (fun r1 u t H1 locs1 ht hvm hw1 hB hz1 hk1 hS => ?_)
  subst hw1
  obtain ⟨hP1, hD1⟩ := hB
  rw [ht] at hP1
  obtain ⟨hP, hD⟩ := va_join (wr := wr) (w1 := apU lay q (apd Γ) σ') hH.1 hH.2.1 isC isR hC hR2 hnR hdis hk1 hFc hP1 hD1
  exact kk H1 locs1 ls ⟨hP, hD, hS⟩ hL
theorem v_pH (G : apG Γ cc nL own Ts rm X0) (hX : apXok X) (hXs : X (apA Γ) (apS Γ)) (hM : apHi Γ.1.2.1 lay X y ws k nx av σ r σ') (hG : GoodIn Ts (va_wsS own index y ws)) (hw : ws = Cond.codeWith y bytes maxL ret hh :: ws') (hd0 : y.cls ≠ "java/lang/invoke/MethodHandle" ∧ y.cls ≠ "java/lang/invoke/VarHandle" ∧ (parseMethodDescriptor y.desc).map (fun d => d.parameters.length) = some n) (hR : k + 1 ≤ rm.frames ∧ 8 + (maxL + 11) + 64 * k ≤ rm.locals) (hav : av q = As) (hn : As.length = n) (isC isR : List Nat) (hC : isC.map (fun i => w[i]?) = (apU lay q (apd Γ) σ).map some) (hR2 : isR.map (fun i => w[i]?) = wr.map some) (hnC : va_nd isC = true) (hnR : va_nd isR = true) (hdis : ∀ i ∈ isR, i ∉ isC) (hst : (st.map fun v => v.category).sum ≤ 8) (hcs : cn + nx ≤ rm.cells ∧ sn + 6 * nx ≤ rm.slots) (hstk : stk = As.reverse ++ st) (hd : decode cc pc = .ok (.invokestatic index, 3))
    (kk : apV Γ nL (wr ++ apU lay q (apd Γ) σ') (cn + nx) (sn + 6 * nx) (pc + 3) L (.int r :: st)) : apV Γ nL w cn sn pc L stk := fun H locs ls hH hL => by
  subst hstk
  have hPc := hH.1.sub (ws' := apU lay q (apd Γ) σ) isC (fm_of hC)
  have hDc := hH.2.1.sub (ws' := apU lay q (apd Γ) σ) isC hnC hC
  have hFc := va_free (wc := apU lay q (apd Γ) σ) hH.2.1 hH.2.2 G.2.2.2.2.2.2.2.1 isC hC
  refine va_calli (vx_runSW (As := As) (rest := st) ⟨G.1, G.2.1, G.2.2.1, G.2.2.2.1, G.2.2.2.2.1⟩ (hM (apD Γ) (apd Γ) q H.size) (vx_cwSW n G.2.2.2.2.1 hG hw rfl rfl hd0 ⟨by rw [G.2.2.2.2.2.2.1]; exact hR.1, by rw [G.2.2.2.2.2.2.1]; exact hR.2⟩) ⟨apPc_blind hX, fun U hU hW => by rw [← hav]; exact ⟨rfl, by rw [hU], by rw [hU]; exact hPc, va_K.moved hW.alike G.2.2.2.2.2.1, hDc.weaken (fun _ _ _ _ => trivial), hX.2 _ _ _ _ hXs hW (fun q h1 h2 => by rw [hU]; exact hH.2.2.2.1 q h1 h2) hFc⟩⟩ rfl hn hL.1 rfl (lv_room hst) hd ⟨by rw [G.2.2.2.2.2.2.1]; exact hcs.1, by rw [G.2.2.2.2.2.2.1]; exact hcs.2⟩) hH.2.2 (fun q _ h => hFc q h) hFc (fun r1 u t H1 locs1 ht hvm hw1 hB hz1 hk1 hS => ?_)
  subst hw1
  obtain ⟨hP1, hD1⟩ := hB
  rw [ht] at hP1
  obtain ⟨hP, hD⟩ := va_join (wr := wr) (w1 := apU lay q (apd Γ) σ') hH.1 hH.2.1 isC isR hC hR2 hnR hdis hk1 hFc hP1 hD1
  exact kk H1 locs1 ls ⟨hP, hD, hS⟩ hL
end APP
/-- what holds all along the law -/
def lwG (Γ : apC) (b L0 : Nat) (xs : Nat → Int32) : Prop := apG Γ cL_law 7 RL wsL_law room_1 apXL ∧ Γ.1.2.1.stackTraces = false ∧ va_X b L0 xs (apS Γ) (apS Γ).heap ∧ b < (apS Γ).heap.size ∧ (¬ apA Γ b) ∧ L0 ≤ 256
abbrev lwL (b : Nat) (q q2 : Nat → Nat) (i : Nat) : List (Nat × Value) := [(0, .ref b), (1, .ref (q 0)), (2, .ref (q2 0)), (3, .ref (q 28)), (4, .int (nI i))]
/-- what remains behind an operation -/
def lwK (Γ : apC) (b : Nat) (q q2 : Nat → Nat) (i cn sn : Nat) : Prop := ∀ (σC σM : apM) (cn' sn' : Nat), qIN σC σM → cn' ≤ cn + 4 → sn' ≤ sn + 24 → apV Γ 7 (lwW q q2 (apd Γ) σC σM) cn' sn' 904 (lwL b q q2 i) []
section LWR
variable {Γ : apC} {b L0 : Nat} {xs : Nat → Int32} {w : va_W} {cn sn pc : Nat} {L : List (Nat × Value)} {st stk As : List Value}
variable {q q2 : Nat → Nat} {σC σM σ' : apM} {y : MethodName} {ws ws' : List Cond} {k nx : Nat} {av : (Nat → Nat) → List Value} {r : Int32} {bytes : ByteArray} {maxL index n : Nat} {ret : Option FieldType} {hh : List (Nat × Nat × Nat × Nat)}
theorem v_lwH (LG : lwG Γ b L0 xs) (hM : apHi Γ.1.2.1 layC apXL y ws k nx av σC r σ') (hG : GoodIn wsL_law (va_wsS RL index y ws)) (hw : ws = Cond.codeWith y bytes maxL ret hh :: ws') (hd0 : y.cls ≠ "java/lang/invoke/MethodHandle" ∧ y.cls ≠ "java/lang/invoke/VarHandle" ∧ (parseMethodDescriptor y.desc).map (fun d => d.parameters.length) = some n) (hR : k + 1 ≤ 20 ∧ 8 + (maxL + 11) + 64 * k ≤ 10822) (hav : av q = As) (hn : As.length = n) (hst : (st.map fun v => v.category).sum ≤ 8) (hcs : cn + nx ≤ 600384 ∧ sn + 6 * nx ≤ 7290858) (hstk : stk = As.reverse ++ st) (hd : decode cL_law pc = .ok (.invokestatic index, 3))
    (kk : apV Γ 7 (lwW q q2 (apd Γ) σ' σM) (cn + nx) (sn + 6 * nx) (pc + 3) L (.int r :: st)) : apV Γ 7 (lwW q q2 (apd Γ) σC σM) cn sn pc L stk :=
  v_pH (wr := apU layM q2 (apd Γ) σM) LG.1 apXLok LG.1.2.2.2.2.2.2.2.2.1 hM hG hw hd0 hR hav hn _ _ lwW_C lwW_M nd_C nd_M dj_CM hst hcs hstk hd kk
theorem v_lwC (LG : lwG Γ b L0 xs) (hM : apMi Γ.1.2.1 layC apXC y ws k av σC r σ') (hG : GoodIn wsL_law (wsV RL index RX6 y ws)) (hw : ws = Cond.code y bytes maxL ret :: ws') (hd0 : y.cls = RX6 ∧ y.cls ≠ "java/lang/invoke/MethodHandle" ∧ y.cls ≠ "java/lang/invoke/VarHandle" ∧ (parseMethodDescriptor y.desc).map (fun d => d.parameters.length) = some n) (hR : k + 1 ≤ 20 ∧ 8 + (maxL + 11) + 64 * k ≤ 10822) (hav : av q = .ref (q 0) :: As) (hn : As.length = n) (hst : (st.map fun v => v.category).sum ≤ 8) (hcs : cn ≤ 600384 ∧ sn ≤ 7290858) (hstk : stk = As.reverse ++ .ref (q 0) :: st) (hd : decode cL_law pc = .ok (.invokevirtual index, 3))
    (kk : apV Γ 7 (lwW q q2 (apd Γ) σ' σM) cn sn (pc + 3) L (.int r :: st)) : apV Γ 7 (lwW q q2 (apd Γ) σC σM) cn sn pc L stk :=
  v_pV (wr := apU layM q2 (apd Γ) σM) (k0 := 0) LG.1 apXCok LG.1.2.2.2.2.2.2.2.2.1.1 hM hG hw hd0 hR rfl rfl hav hn _ _ lwW_C lwW_M nd_C nd_M dj_CM hst hcs hstk hd kk
theorem v_lwM (LG : lwG Γ b L0 xs) (hM : apMi Γ.1.2.1 layM apXM y ws k av σM r σ') (hG : GoodIn wsL_law (wsV RL index RX7 y ws)) (hw : ws = Cond.code y bytes maxL ret :: ws') (hd0 : y.cls = RX7 ∧ y.cls ≠ "java/lang/invoke/MethodHandle" ∧ y.cls ≠ "java/lang/invoke/VarHandle" ∧ (parseMethodDescriptor y.desc).map (fun d => d.parameters.length) = some n) (hR : k + 1 ≤ 20 ∧ 8 + (maxL + 11) + 64 * k ≤ 10822) (hav : av q2 = .ref (q2 0) :: As) (hn : As.length = n) (hst : (st.map fun v => v.category).sum ≤ 8) (hcs : cn ≤ 600384 ∧ sn ≤ 7290858) (hstk : stk = As.reverse ++ .ref (q2 0) :: st) (hd : decode cL_law pc = .ok (.invokevirtual index, 3))
    (kk : apV Γ 7 (lwW q q2 (apd Γ) σC σ') cn sn (pc + 3) L (.int r :: st)) : apV Γ 7 (lwW q q2 (apd Γ) σC σM) cn sn pc L stk :=
  v_pV (wr := apU layC q (apd Γ) σC) (k0 := 0) LG.1 apXMok trivial hM hG hw hd0 hR rfl rfl hav hn _ _ lwW_M lwW_C nd_M nd_C dj_MC hst hcs hstk hd (v_sub _ (fm_of lwW_T) lwW_T nd_T kk)
theorem v_sldX (LG : lwG Γ b L0 xs) {i : Int32} {v : Int32} (hin : vp_in i L0) (hv : xs i.toNatClampNeg = v) (hd : decode cL_law pc = .ok (.iaload, 1)) (kk : apV Γ 7 w cn sn (pc + 1) L (.int v :: st)) : apV Γ 7 w cn sn pc L (.int i :: .ref b :: st) := fun H locs ls hH hL => by
  subst hv
  exact va_sld LG.1.1 LG.1.2.1 LG.2.2.1 LG.2.2.2.1 LG.2.2.2.2.1 hH.2.2 hin hd (kk H locs ls hH hL)
theorem v_slnX (LG : lwG Γ b L0 xs) (hd : decode cL_law pc = .ok (.arraylength, 1)) (kk : apV Γ 7 w cn sn (pc + 1) L (.int (nI L0) :: st)) : apV Γ 7 w cn sn pc L (.ref b :: st) := fun H locs ls hH hL => va_slen LG.1.1 LG.1.2.1 LG.2.2.1 LG.2.2.2.1 LG.2.2.2.2.1 hH.2.2 hd (kk H locs ls hH hL)
/-- script[i + k] -/
theorem v_arg (LG : lwG Γ b L0 xs) {i k : Nat} (hk : i + k < L0) {n : Int} (hn : Int32.ofInt n = nI k) (j0 j4 : Nat) (h0 : L[j0]? = some (0, .ref b)) (h4 : L[j4]? = some (4, .int (nI i))) (d0 : decode cL_law pc = .ok (.aload_n 0, 1)) (d1 : decode cL_law (pc + 1) = .ok (.iload 4, 2)) (d2 : decode cL_law (pc + 3) = .ok (.iconst n, 1)) (d3 : decode cL_law (pc + 4) = .ok (.iadd, 1)) (d4 : decode cL_law (pc + 5) = .ok (.iaload, 1)) (kk : apV Γ 7 w cn sn (pc + 6) L (.int (xs (i + k)) :: st)) : apV Γ 7 w cn sn pc L st := by
  have h256 := LG.2.2.2.2.2
  refine v_aload_n LG.1 d0 rfl j0 h0 ?_
  refine v_iload LG.1 d1 j4 h4 ?_
  refine v_iconst (v := nI k) LG.1 d2 hn ?_
  refine v_iadd LG.1 d3 ?_
  rw [nI_add]
  exact v_sldX LG (nI_in hk (by omega)) (by rw [nI_clamp (by omega)]) d4 kk
end LWR
theorem qIN.out {σC σM : apM} {i : Nat} {v : Int32} (h : qIN σC σM) : qIN (mst σC 28 i v) σM := by
  obtain ⟨n, src, op, pn, qn, ke, gv, h1, h2, h3, h4, h5, h6⟩ := h
  have f : Fr [28] σC (mst σC 28 i v) := Fr.mst (List.mem_singleton.mpr rfl)
  refine ⟨n, src, op, pn, qn, ke, gv, h1, h2, h3, h4.fr h1.1 f (fun k hk => ?_), h5, h6.fr f (Fr.rf (ks := [])) (fun j _ => congrFun (mst_k (k' := 0) (k := 28) (by decide)) j) (fun j _ => rfl) (fun k hk => ?_) (fun k hk => nomatch hk)⟩
  · rw [List.mem_singleton] at hk
    omega
  · rw [List.mem_singleton] at hk
    omega
theorem q_init : qIN (fun _ _ => 0) (fun _ _ => 0) := by
  refine ⟨0, fun _ _ => none, fun _ => 0, fun _ => 0, fun _ => 0, fun _ => false, fun _ _ => 0, ⟨by omega, fun v i u h => nomatch h⟩, fun v h => absurd h (by omega), fun v h => absurd h (by omega), ⟨⟨nI_0.symm, fun v h => absurd h (by omega)⟩, fun v h => absurd h (by omega), fun v h => absurd h (by omega), fun v h => absurd h (by omega), fun v h => absurd h (by omega), fun _ _ _ => rfl, fun _ _ _ _ _ => rfl⟩, ⟨⟨nI_0.symm, fun v h => absurd h (by omega)⟩, fun v h => absurd h (by omega), fun v h => absurd h (by omega), fun v h => absurd h (by omega), fun v h => absurd h (by omega)⟩, Or.inl ⟨rfl, rfl⟩⟩
theorem hp_of {cd : List (String × Int32)} {rC : (String × apM) ⊕ (Int32 × apM)} {rM : Int32 × apM} (h : qAns cd rC rM) (hcd : ∀ z ∈ cd, z.2 ≠ 0) : ∃ (r : Int32) (σ' : apM), hRs cd rC r σ' ∧ rM.2 0 0 = r ∧ qIN σ' rM.2 ∧ (r = 0 → σ' 28 0 = rM.1) := by
  rcases rC with x | x
  · obtain ⟨h1, h2⟩ := h
    have hh : hRs cd (.inl x) (rM.2 0 0) x.2 := by
      unfold hRs
      exact ⟨h1, rfl⟩
    exact ⟨rM.2 0 0, x.2, hh, rfl, h2, fun e => absurd e (hcd _ h1)⟩
  · obtain ⟨h1, h2, h3⟩ := h
    have hh : hRs cd (.inr x) 0 (mst x.2 28 0 x.1) := by
      unfold hRs
      exact ⟨rfl, rfl⟩
    refine ⟨0, mst x.2 28 0 x.1, hh, h1, h3.out, fun _ => ?_⟩
    rw [mst_e]
    show upd (x.2 28) 0 x.1 0 = _
    unfold upd
    rw [if_pos rfl]
    exact h2
theorem and15 (x : Int32) : ∃ j : Nat, j < 16 ∧ x &&& 15 = nI j := by
  refine ⟨(x.toBitVec &&& 15#32).toNat, ?_, ?_⟩
  · rw [BitVec.toNat_and]
    exact Nat.lt_succ_of_le Nat.and_le_right
  · apply Int32.toBitVec_inj.mp
    rw [Int32.toBitVec_and]
    show _ = BitVec.ofNat 32 _
    rw [BitVec.ofNat_toNat, BitVec.setWidth_eq]
    rfl
