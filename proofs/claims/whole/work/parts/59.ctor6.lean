/-! ===== calls of constructors ===== -/
section API
variable {Γ : apC} {cc : ByteArray} {nL : Nat} {own : String} {Ts : List Cond} {rm : Room} {X : (Nat → Prop) → State → Prop} {w wc wr : va_W} {cn sn pc : Nat} {L : List (Nat × Value)} {st stk As : List Value}
variable {y : MethodName} {ws ws' : List Cond} {k mc ms b index maxL n : Nat} {bytes : ByteArray} {host : String} {Y : State → Prop} {Q : (Nat → ClassId) → va_W → Prop}
theorem v_callI (G : apG Γ cc nL own Ts rm X) (hM : apCt Γ.1.2.1 y ws k mc ms (.ref b :: As) wc Y Q) (hG : GoodIn Ts ws) (hw : ws = Cond.code y bytes maxL none :: ws') (hini : Cond.initialized y.cls ∈ Ts) (hl : Cond.methodLink own index y ∈ Ts) (hin : Cond.instanceMethod y ∈ Ts) (hy1 : y.name = "<init>") (hd0 : y.cls ≠ "java/lang/invoke/MethodHandle" ∧ y.cls ≠ "java/lang/invoke/VarHandle" ∧ (parseMethodDescriptor y.desc).map (fun d => d.parameters.length) = some n) (hR : k + 1 ≤ rm.frames ∧ 8 + (maxL + 11) + 64 * k ≤ rm.locals) (hn : As.length = n) (isC isR : List Nat) (hC : isC.map (fun i => w[i]?) = wc.map some) (hC2 : isC.filterMap (fun i => w[i]?) = wc) (hR2 : isR.map (fun i => w[i]?) = wr.map some) (hnC : va_nd isC = true) (hnR : va_nd isR = true) (hdis : ∀ i ∈ isR, i ∉ isC) (hst : (st.map fun v => v.category).sum ≤ 8) (hcs : cn + mc ≤ rm.cells ∧ sn + ms ≤ rm.slots) (hstk : stk = As.reverse ++ .ref b :: st) (hd : decode cc pc = .ok (.invokespecial index, 3)) (hYb : ∀ (U : State) g mk a, Y U → Y (U.calling g mk a)) (hYs : ∀ U : State, (apS Γ).WarmedH U.vm → Y U)
    (kk : ∀ w1, Q (apd Γ) w1 → apV Γ nL (wr ++ w1) (cn + mc) (sn + ms) (pc + 3) L st) : apV Γ nL w cn sn pc L stk := fun H locs ls hH hL => by
  subst hstk
  have T1 := G.2.2.2.2.1
  have hrm := G.2.2.2.2.2.2.1
  have hPc := hH.1.sub (ws' := wc) isC hC2
  have hDc := hH.2.1.sub (ws' := wc) isC hnC hC
  have hFc := va_free (wc := wc) hH.2.1 hH.2.2 G.2.2.2.2.2.2.2.1 isC hC
  refine va_callv (va_runI (As := As) (rest := st) ⟨G.1, G.2.1, G.2.2.1, G.2.2.2.1, G.2.2.2.2.1⟩ (hM (apD Γ) (apd Γ) H.size) (cwI n T1 hG hw rfl rfl (T1 _ hini) (T1 _ hl) (T1 _ hin) hy1 hd0 ⟨by rw [hrm]; exact hR.1, by rw [hrm]; exact hR.2⟩) ⟨fun a U g mk q => by obtain ⟨q0, q1, qP, qK, qD, qY⟩ := q; exact ⟨q0, q1, qP, va_K.moved (u := U) (U := U.calling g mk a) (Vm.Alike.refl U.vm) qK, qD, hYb _ _ _ _ qY⟩, fun U hU hW => ⟨rfl, by rw [hU], by rw [hU]; exact hPc, va_K.moved hW.alike G.2.2.2.2.2.1, hDc.weaken (fun _ _ _ _ => trivial), hYs U hW⟩⟩ rfl hn hL.1 rfl (lv_room hst) hd ⟨by rw [hrm]; exact hcs.1, by rw [hrm]; exact hcs.2⟩) hH.2.2 (fun q _ h => hFc q h) hFc (fun u t H1 locs1 ht hvm _ hB hz1 hk1 hS => ?_)
  obtain ⟨w1, hq, hP1, hD1⟩ := hB
  rw [ht] at hP1
  obtain ⟨hP, hD⟩ := va_join (wr := wr) (w1 := w1) hH.1 hH.2.1 isC isR hC hR2 hnR hdis hk1 hFc hP1 hD1
  exact kk w1 hq H1 locs1 ls ⟨hP, hD, hS⟩ hL
theorem v_callIN (G : apG Γ cc nL own Ts rm X) (hM : apCt Γ.1.2.1 y ws k mc ms (.ref b :: As) wc Y Q) (hG : GoodIn Ts ws) (hw : ws = Cond.code y bytes maxL none :: ws') (hini : Cond.initialized y.cls ∈ Ts) (hl : va_Nw (.methodLinkNest own index y host) (apS Γ)) (hin : Cond.instanceMethod y ∈ Ts) (hy1 : y.name = "<init>") (hd0 : y.cls ≠ "java/lang/invoke/MethodHandle" ∧ y.cls ≠ "java/lang/invoke/VarHandle" ∧ (parseMethodDescriptor y.desc).map (fun d => d.parameters.length) = some n) (hR : k + 1 ≤ rm.frames ∧ 8 + (maxL + 11) + 64 * k ≤ rm.locals) (hn : As.length = n) (isC isR : List Nat) (hC : isC.map (fun i => w[i]?) = wc.map some) (hC2 : isC.filterMap (fun i => w[i]?) = wc) (hR2 : isR.map (fun i => w[i]?) = wr.map some) (hnC : va_nd isC = true) (hnR : va_nd isR = true) (hdis : ∀ i ∈ isR, i ∉ isC) (hst : (st.map fun v => v.category).sum ≤ 8) (hcs : cn + mc ≤ rm.cells ∧ sn + ms ≤ rm.slots) (hstk : stk = As.reverse ++ .ref b :: st) (hd : decode cc pc = .ok (.invokespecial index, 3)) (hYb : ∀ (U : State) g mk a, Y U → Y (U.calling g mk a)) (hYs : ∀ U : State, (apS Γ).WarmedH U.vm → Y U)
    (kk : ∀ w1, Q (apd Γ) w1 → apV Γ nL (wr ++ w1) (cn + mc) (sn + ms) (pc + 3) L st) : apV Γ nL w cn sn pc L stk := fun H locs ls hH hL => by
  subst hstk
  have T1 := G.2.2.2.2.1
  have hrm := G.2.2.2.2.2.2.1
  have hPc := hH.1.sub (ws' := wc) isC hC2
  have hDc := hH.2.1.sub (ws' := wc) isC hnC hC
  have hFc := va_free (wc := wc) hH.2.1 hH.2.2 G.2.2.2.2.2.2.2.1 isC hC
  refine va_callv (va_runIN (As := As) (rest := st) ⟨G.1, G.2.1, G.2.2.1, G.2.2.2.1, G.2.2.2.2.1⟩ (hM (apD Γ) (apd Γ) H.size) ⟨va_cnB n T1 hG hw rfl rfl hl (T1 _ hini) hd0 ⟨by rw [hrm]; exact hR.1, by rw [hrm]; exact hR.2⟩, hy1, T1 _ hin⟩ ⟨fun a U g mk q => by obtain ⟨q0, q1, qP, qK, qD, qY⟩ := q; exact ⟨q0, q1, qP, va_K.moved (u := U) (U := U.calling g mk a) (Vm.Alike.refl U.vm) qK, qD, hYb _ _ _ _ qY⟩, fun U hU hW => ⟨rfl, by rw [hU], by rw [hU]; exact hPc, va_K.moved hW.alike G.2.2.2.2.2.1, hDc.weaken (fun _ _ _ _ => trivial), hYs U hW⟩⟩ rfl hn hL.1 rfl (lv_room hst) hd ⟨by rw [hrm]; exact hcs.1, by rw [hrm]; exact hcs.2⟩) hH.2.2 (fun q _ h => hFc q h) hFc (fun u t H1 locs1 ht hvm _ hB hz1 hk1 hS => ?_)
  obtain ⟨w1, hq, hP1, hD1⟩ := hB
  rw [ht] at hP1
  obtain ⟨hP, hD⟩ := va_join (wr := wr) (w1 := w1) hH.1 hH.2.1 isC isR hC hR2 hnR hdis hk1 hFc hP1 hD1
  exact kk w1 hq H1 locs1 ls ⟨hP, hD, hS⟩ hL
/-- other order, or fewer -/
theorem v_sub {w' : va_W} (is : List Nat) (h1 : is.filterMap (fun i => w[i]?) = w') (h2 : is.map (fun i => w[i]?) = w'.map some) (hn : va_nd is = true) (kk : apV Γ nL w' cn sn pc L st) : apV Γ nL w cn sn pc L st := fun H locs ls hH hL => kk H locs ls ⟨hH.1.sub is h1, hH.2.1.sub is hn h2, hH.2.2⟩ hL
theorem arrV_cg {c : ClassId} {N : Nat} {f g : Nat → Value} (h : ∀ j, j < N → f j = g j) : arrV c N f = arrV c N g := by
  unfold arrV
  congr 1
  congr 1
  funext j
  exact h j.val j.isLt
theorem v_rowq {i a N : Nat} {c : ClassId} {f g : Nat → Option Nat} (he : w[i]? = some (a, .inl (c, (N, .inr (.inr (.inr (.inr f))))))) (hfg : ∀ j, j < N → f j = g j) (kk : apV Γ nL (w.set i (a, .inl (c, (N, .inr (.inr (.inr (.inr g))))))) cn sn pc L st) : apV Γ nL w cn sn pc L st := fun H locs ls hH hL => by
  refine kk H locs ls ⟨fun k q hk => ?_, hH.2.1.set he, hH.2.2⟩ hL
  by_cases e : k = i
  · subst e
    have hlt : k < w.length := (List.getElem?_eq_some_iff.mp he).1
    rw [List.getElem?_set_self hlt] at hk
    cases hk
    have h0 := hH.1 k _ he
    show H[a]? = some (vp_cell c (N, .inr (.inr (.inr (.inr g)))))
    have h1 : H[a]? = some (vp_cell c (N, .inr (.inr (.inr (.inr f))))) := h0
    rw [h1, vp_cell_q, vp_cell_q, arrV_cg (fun j hj => by rw [hfg j hj])]
  · rw [List.getElem?_set_ne (fun h => e h.symm)] at hk
    exact hH.1 k q hk
end API
