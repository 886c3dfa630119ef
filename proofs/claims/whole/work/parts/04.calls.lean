/-! ===== contracts of methods over a layout's cells, and their calls ===== -/
def apRm (k n : Nat) : Room := { frames := k, cells := n, slots := 6 * n, locals := 64 * k }
/-- what else is known of the start stays known in a callee -/
def apXok (X : (Nat → Prop) → State → Prop) : Prop :=
  (∀ (A : Nat → Prop) (U : State) (g : JFrame) (mk : MethodId) (a : Array Value), X A U → X A (U.calling g mk a)) ∧
  ∀ (A A1 : Nat → Prop) (s U : State), X A s → s.WarmedH U.vm → (∀ q : Nat, q < s.heap.size → ¬ A q → U.heap[q]? = s.heap[q]?) → (∀ q : Nat, A1 q → A q) → X A1 U
def apPc (lay : List apK) (X : (Nat → Prop) → State → Prop) (D : va_G) (d : Nat → ClassId) (q : Nat → Nat) (sz : Nat) (σ : apM) (av : List Value) : Array Value → State → Prop :=
  va_Pc av (fun U => U.heap.size = sz ∧ va_P D vwCl (apU lay q d σ) U.heap ∧ va_K D vwCl (apT d) U ∧ va_D (fun _ => True) (apU lay q d σ) ∧ X (va_A (apU lay q d σ) sz) U)
def apB (lay : List apK) (D : va_G) (d : Nat → ClassId) (q : Nat → Nat) (sz : Nat) (σ σ' : apM) : State → Prop := fun t => va_P D vwCl (apU lay q d σ') t.heap ∧ va_D (va_A (apU lay q d σ) sz) (apU lay q d σ')
/-- called with av over σ the method answers r, over σ' -/
def apMi (l : Launch) (lay : List apK) (X : (Nat → Prop) → State → Prop) (y : MethodName) (ws : List Cond) (k : Nat) (av : (Nat → Nat) → List Value) (σ : apM) (r : Int32) (σ' : apM) : Prop :=
  ∀ (D : va_G) (d : Nat → ClassId) (q : Nat → Nat) (sz : Nat), Met l y ws (apRm k 0) (apPc lay X D d q sz σ (av q)) (va_Qi (fun r' (_ : Unit) => r' = r) (fun _ => apB lay D d q sz σ σ') (va_A (apU lay q d σ) sz)) 0 0 (va_A (apU lay q d σ) sz)
def apMv (l : Launch) (lay : List apK) (X : (Nat → Prop) → State → Prop) (y : MethodName) (ws : List Cond) (k : Nat) (av : (Nat → Nat) → List Value) (σ σ' : apM) : Prop :=
  ∀ (D : va_G) (d : Nat → ClassId) (q : Nat → Nat) (sz : Nat), Met l y ws (apRm k 0) (apPc lay X D d q sz σ (av q)) (va_Qv (fun (_ : Unit) => True) (fun _ => apB lay D d q sz σ σ') (va_A (apU lay q d σ) sz)) 0 0 (va_A (apU lay q d σ) sz)
theorem apPc_blind {lay : List apK} {X : (Nat → Prop) → State → Prop} (hX : apXok X) {D : va_G} {d : Nat → ClassId} {q : Nat → Nat} {sz : Nat} {σ : apM} {av : List Value} : FrameBlind (apPc lay X D d q sz σ av) := fun a U g mk h => by
  obtain ⟨h1, h2, h3, h4, h5, h6⟩ := h
  exact ⟨h1, h2, h3, va_K.moved (u := U) (U := U.calling g mk a) (Vm.Alike.refl U.vm) h4, h5, hX.1 _ _ _ _ _ h6⟩
theorem apMi_of {l : Launch} {lay : List apK} {X : (Nat → Prop) → State → Prop} {y : MethodName} {ws ws' : List Cond} {k : Nat} {av : (Nat → Nat) → List Value} {σ σ' : apM} {cc : ByteArray} {nL : Nat} {ty : FieldType} {r : Int32} (hy : plainName y.cls = true) (hw : ws = Cond.code y cc nL (some ty) :: ws') (hnar : narrow ty (.int r) = .int r) (hlen : ∀ q, (lg_sl (av q)).length ≤ nL)
    (body : ∀ (Γ : apC) (q : Nat → Nat), Γ.1.2.1 = l → apG Γ cc nL y.cls ws (apRm k 0) X → apR Γ cc 0 0 (some r) (apU lay q (apd Γ) σ') → apV Γ nL (apU lay q (apd Γ) σ) 0 0 0 (lv_args 0 (av q)) []) : apMi l lay X y ws k av σ r σ' := by
  intro D d q sz
  refine Met.ofW (cc := cc) (maxL := nL) (ret := some ty) hy hw ?_
  intro p e s m args below meth c s₁ B hml hv
  obtain ⟨rfl, hsz, hP, hK, hD0, hXs⟩ := hv
  subst hsz
  have hD := hD0.self (sz := s.heap.size)
  have hts := atoms_spec (ws := ws) B.pre
  have hb := body ((p, l, e, apRm k 0, s), ((m, (av q).toArray, below, meth, c), (MQ below (va_Qi (fun r' (_ : Unit) => r' = r) (fun _ => apB lay D d q s.heap.size σ σ') (va_A (apU lay q d σ) s.heap.size)) (av q).toArray s 0 0 (va_A (apU lay q d σ) s.heap.size), D, d, va_A (apU lay q d σ) s.heap.size))) q rfl
    ⟨B.exec, B.bytes, hml, findClass_of_methodNamed B.named, hts, hK, rfl, fun q h => Or.inr h, hXs, B.notSynchronized⟩
    (fun pc H locs ls hH hd => by exact W.zret B.exec B.bytes B.returns hnar (fun t ht hW => ⟨⟨r, (), rfl, rfl, by rw [ht]; exact hH.1, hH.2.1⟩, hH.2.2.F ht⟩) hH.2.2.2.2 hd B.notSynchronized)
  rw [lg_entry_eq]
  exact hb s.heap [] _ ⟨hP, hD, va_S.rf⟩ (lv_entry (av q) (n := nL) (hlen q))
theorem apMv_of {l : Launch} {lay : List apK} {X : (Nat → Prop) → State → Prop} {y : MethodName} {ws ws' : List Cond} {k : Nat} {av : (Nat → Nat) → List Value} {σ σ' : apM} {cc : ByteArray} {nL : Nat} (hy : plainName y.cls = true) (hw : ws = Cond.code y cc nL none :: ws') (hlen : ∀ q, (lg_sl (av q)).length ≤ nL)
    (body : ∀ (Γ : apC) (q : Nat → Nat), Γ.1.2.1 = l → apG Γ cc nL y.cls ws (apRm k 0) X → apR Γ cc 0 0 none (apU lay q (apd Γ) σ') → apV Γ nL (apU lay q (apd Γ) σ) 0 0 0 (lv_args 0 (av q)) []) : apMv l lay X y ws k av σ σ' := by
  intro D d q sz
  refine Met.ofW (cc := cc) (maxL := nL) (ret := none) hy hw ?_
  intro p e s m args below meth c s₁ B hml hv
  obtain ⟨rfl, hsz, hP, hK, hD0, hXs⟩ := hv
  subst hsz
  have hD := hD0.self (sz := s.heap.size)
  have hts := atoms_spec (ws := ws) B.pre
  have hb := body ((p, l, e, apRm k 0, s), ((m, (av q).toArray, below, meth, c), (MQ below (va_Qv (fun (_ : Unit) => True) (fun _ => apB lay D d q s.heap.size σ σ') (va_A (apU lay q d σ) s.heap.size)) (av q).toArray s 0 0 (va_A (apU lay q d σ) s.heap.size), D, d, va_A (apU lay q d σ) s.heap.size))) q rfl
    ⟨B.exec, B.bytes, hml, findClass_of_methodNamed B.named, hts, hK, rfl, fun q h => Or.inr h, hXs, B.notSynchronized⟩
    (fun pc H locs ls hH hd => by exact W.vret B.exec B.bytes B.returns (fun t ht hW => ⟨⟨(), rfl, trivial, by rw [ht]; exact hH.1, hH.2.1⟩, hH.2.2.F ht⟩) hH.2.2.2.2 hd B.notSynchronized)
  rw [lg_entry_eq]
  exact hb s.heap [] _ ⟨hP, hD, va_S.rf⟩ (lv_entry (av q) (n := nL) (hlen q))
section APC
variable {Γ : apC} {cc : ByteArray} {nL : Nat} {own : String} {Ts : List Cond} {rm : Room} {X : (Nat → Prop) → State → Prop} {cn sn pc : Nat} {L : List (Nat × Value)} {st stk As : List Value}
variable {lay : List apK} {q : Nat → Nat} {σ σ' : apM} {y : MethodName} {ws ws' : List Cond} {k : Nat} {av : (Nat → Nat) → List Value} {r : Int32} {bytes : ByteArray} {maxL index n k0 ci N : Nat} {C host : String} {T : u_T} {fl : List (Option Nat)} {ret : Option FieldType}
theorem ap_free (G : apG Γ cc nL own Ts rm X) {w : va_W} {H : Heap} {locs : List Loc} (hH : apH Γ w H locs) : ∀ q, va_A w H.size q → apA Γ q := by
  intro q h
  rcases h with ⟨k, e, h⟩ | h
  · exact hH.2.1.2 k (q, e) h
  · exact G.2.2.2.2.2.2.2.1 q (Nat.le_trans hH.2.2.1 h)
theorem ap_pre (G : apG Γ cc nL own Ts rm X) (hX : apXok X) {H : Heap} {locs : List Loc} (hH : apH Γ (apU lay q (apd Γ) σ) H locs) : ∀ U : State, U.heap = H → (apS Γ).WarmedH U.vm → apPc lay X (apD Γ) (apd Γ) q H.size σ (av q) (av q).toArray U := by
  intro U hU hW
  exact ⟨rfl, by rw [hU], by rw [hU]; exact hH.1, va_K.moved hW.alike G.2.2.2.2.2.1, hH.2.1.weaken (fun _ _ _ _ => trivial), hX.2 _ _ _ _ G.2.2.2.2.2.2.2.2.1 hW (fun q h1 h2 => by rw [hU]; exact hH.2.2.2.1 q h1 h2) (ap_free G hH)⟩
theorem v_calliV (G : apG Γ cc nL own Ts rm X) (hX : apXok X) (hM : apMi Γ.1.2.1 lay X y ws k av σ r σ') (hG : GoodIn Ts (wsV own index C y ws)) (hw : ws = Cond.code y bytes maxL ret :: ws') (hd0 : y.cls = C ∧ y.cls ≠ "java/lang/invoke/MethodHandle" ∧ y.cls ≠ "java/lang/invoke/VarHandle" ∧ (parseMethodDescriptor y.desc).map (fun d => d.parameters.length) = some n) (hR : k + 1 ≤ rm.frames ∧ 8 + (maxL + 11) + 64 * k ≤ rm.locals) (hk0 : lay[k0]? = some (.inl (ci, fl))) (hc : vwCl[ci]? = some (C, T, N)) (hav : av q = .ref (q k0) :: As) (hn : As.length = n) (hst : (st.map fun v => v.category).sum ≤ 8) (hcs : cn ≤ rm.cells ∧ sn ≤ rm.slots) (hstk : stk = As.reverse ++ .ref (q k0) :: st) (hd : decode cc pc = .ok (.invokevirtual index, 3))
    (kk : apV Γ nL (apU lay q (apd Γ) σ') cn sn (pc + 3) L (.int r :: st)) : apV Γ nL (apU lay q (apd Γ) σ) cn sn pc L stk := fun H locs ls hH hL => by
  subst hstk
  refine va_calli (va_runV (As := As) (rest := st) ⟨G.1, G.2.1, G.2.2.1, G.2.2.2.1, G.2.2.2.2.1⟩ (hM (apD Γ) (apd Γ) q H.size) (cwV n G.2.2.2.2.1 hG hw rfl rfl hd0 ⟨by rw [G.2.2.2.2.2.2.1]; exact hR.1, by rw [G.2.2.2.2.2.2.1]; exact hR.2⟩) ⟨apPc_blind hX, va_recv G.2.2.2.2.2.1 hH.1 hc (apU_get hk0), fun U hU hW => by rw [← hav]; exact ap_pre G hX hH U hU hW⟩ rfl hn hL.1 rfl (lv_room hst) hd ⟨by rw [G.2.2.2.2.2.2.1]; exact hcs.1, by rw [G.2.2.2.2.2.2.1]; exact hcs.2⟩) hH.2.2 (fun q _ h => ap_free G hH q h) (ap_free G hH) (fun r1 u t H1 locs1 ht hvm hw1 hB hz1 hk1 hS => ?_)
  subst hw1
  exact kk H1 locs1 ls ⟨by rw [← ht]; exact hB.1, hB.2.weaken (fun _ q _ h => ap_free G hH _ h), hS⟩ hL
theorem v_calliS (G : apG Γ cc nL own Ts rm X) (hX : apXok X) (hM : apMi Γ.1.2.1 lay X y ws k av σ r σ') (hG : GoodIn Ts (va_wsS own index y ws)) (hw : ws = Cond.code y bytes maxL ret :: ws') (hd0 : y.cls ≠ "java/lang/invoke/MethodHandle" ∧ y.cls ≠ "java/lang/invoke/VarHandle" ∧ (parseMethodDescriptor y.desc).map (fun d => d.parameters.length) = some n) (hR : k + 1 ≤ rm.frames ∧ 8 + (maxL + 11) + 64 * k ≤ rm.locals) (hav : av q = As) (hn : As.length = n) (hst : (st.map fun v => v.category).sum ≤ 8) (hcs : cn ≤ rm.cells ∧ sn ≤ rm.slots) (hstk : stk = As.reverse ++ st) (hd : decode cc pc = .ok (.invokestatic index, 3))
    (kk : apV Γ nL (apU lay q (apd Γ) σ') cn sn (pc + 3) L (.int r :: st)) : apV Γ nL (apU lay q (apd Γ) σ) cn sn pc L stk := fun H locs ls hH hL => by
  subst hstk
  refine va_calli (va_runS (As := As) (rest := st) ⟨G.1, G.2.1, G.2.2.1, G.2.2.2.1, G.2.2.2.2.1⟩ (hM (apD Γ) (apd Γ) q H.size) (va_cwS n G.2.2.2.2.1 hG hw rfl rfl hd0 ⟨by rw [G.2.2.2.2.2.2.1]; exact hR.1, by rw [G.2.2.2.2.2.2.1]; exact hR.2⟩) ⟨apPc_blind hX, fun U hU hW => by rw [← hav]; exact ap_pre G hX hH U hU hW⟩ rfl hn hL.1 rfl (lv_room hst) hd ⟨by rw [G.2.2.2.2.2.2.1]; exact hcs.1, by rw [G.2.2.2.2.2.2.1]; exact hcs.2⟩) hH.2.2 (fun q _ h => ap_free G hH q h) (ap_free G hH) (fun r1 u t H1 locs1 ht hvm hw1 hB hz1 hk1 hS => ?_)
  subst hw1
  exact kk H1 locs1 ls ⟨by rw [← ht]; exact hB.1, hB.2.weaken (fun _ q _ h => ap_free G hH _ h), hS⟩ hL
theorem v_calliN (G : apG Γ cc nL own Ts rm X) (hX : apXok X) (hM : apMi Γ.1.2.1 lay X y ws k av σ r σ') (hG : GoodIn Ts ws) (hw : ws = Cond.code y bytes maxL ret :: ws') (hl : va_Nw (.methodLinkNest own index y host) (apS Γ)) (hini : Cond.initialized y.cls ∈ Ts) (hsta : Cond.static y ∈ Ts) (hd0 : y.cls ≠ "java/lang/invoke/MethodHandle" ∧ y.cls ≠ "java/lang/invoke/VarHandle" ∧ (parseMethodDescriptor y.desc).map (fun d => d.parameters.length) = some n) (hR : k + 1 ≤ rm.frames ∧ 8 + (maxL + 11) + 64 * k ≤ rm.locals) (hav : av q = As) (hn : As.length = n) (hst : (st.map fun v => v.category).sum ≤ 8) (hcs : cn ≤ rm.cells ∧ sn ≤ rm.slots) (hstk : stk = As.reverse ++ st) (hd : decode cc pc = .ok (.invokestatic index, 3))
    (kk : apV Γ nL (apU lay q (apd Γ) σ') cn sn (pc + 3) L (.int r :: st)) : apV Γ nL (apU lay q (apd Γ) σ) cn sn pc L stk := fun H locs ls hH hL => by
  subst hstk
  refine va_calli (va_runSN (As := As) (rest := st) ⟨G.1, G.2.1, G.2.2.1, G.2.2.2.1, G.2.2.2.2.1⟩ (hM (apD Γ) (apd Γ) q H.size) ⟨va_cnB n G.2.2.2.2.1 hG hw rfl rfl hl (G.2.2.2.2.1 _ hini) hd0 ⟨by rw [G.2.2.2.2.2.2.1]; exact hR.1, by rw [G.2.2.2.2.2.2.1]; exact hR.2⟩, G.2.2.2.2.1 _ hsta, trivial⟩ ⟨apPc_blind hX, fun U hU hW => by rw [← hav]; exact ap_pre G hX hH U hU hW⟩ rfl hn hL.1 rfl (lv_room hst) hd ⟨by rw [G.2.2.2.2.2.2.1]; exact hcs.1, by rw [G.2.2.2.2.2.2.1]; exact hcs.2⟩) hH.2.2 (fun q _ h => ap_free G hH q h) (ap_free G hH) (fun r1 u t H1 locs1 ht hvm hw1 hB hz1 hk1 hS => ?_)
  subst hw1
  exact kk H1 locs1 ls ⟨by rw [← ht]; exact hB.1, hB.2.weaken (fun _ q _ h => ap_free G hH _ h), hS⟩ hL
theorem v_callvV (G : apG Γ cc nL own Ts rm X) (hX : apXok X) (hM : apMv Γ.1.2.1 lay X y ws k av σ σ') (hG : GoodIn Ts (wsV own index C y ws)) (hw : ws = Cond.code y bytes maxL ret :: ws') (hd0 : y.cls = C ∧ y.cls ≠ "java/lang/invoke/MethodHandle" ∧ y.cls ≠ "java/lang/invoke/VarHandle" ∧ (parseMethodDescriptor y.desc).map (fun d => d.parameters.length) = some n) (hR : k + 1 ≤ rm.frames ∧ 8 + (maxL + 11) + 64 * k ≤ rm.locals) (hk0 : lay[k0]? = some (.inl (ci, fl))) (hc : vwCl[ci]? = some (C, T, N)) (hav : av q = .ref (q k0) :: As) (hn : As.length = n) (hst : (st.map fun v => v.category).sum ≤ 8) (hcs : cn ≤ rm.cells ∧ sn ≤ rm.slots) (hstk : stk = As.reverse ++ .ref (q k0) :: st) (hd : decode cc pc = .ok (.invokevirtual index, 3))
    (kk : apV Γ nL (apU lay q (apd Γ) σ') cn sn (pc + 3) L st) : apV Γ nL (apU lay q (apd Γ) σ) cn sn pc L stk := fun H locs ls hH hL => by
  subst hstk
  refine va_callv (va_runV (As := As) (rest := st) ⟨G.1, G.2.1, G.2.2.1, G.2.2.2.1, G.2.2.2.2.1⟩ (hM (apD Γ) (apd Γ) q H.size) (cwV n G.2.2.2.2.1 hG hw rfl rfl hd0 ⟨by rw [G.2.2.2.2.2.2.1]; exact hR.1, by rw [G.2.2.2.2.2.2.1]; exact hR.2⟩) ⟨apPc_blind hX, va_recv G.2.2.2.2.2.1 hH.1 hc (apU_get hk0), fun U hU hW => by rw [← hav]; exact ap_pre G hX hH U hU hW⟩ rfl hn hL.1 rfl (lv_room hst) hd ⟨by rw [G.2.2.2.2.2.2.1]; exact hcs.1, by rw [G.2.2.2.2.2.2.1]; exact hcs.2⟩) hH.2.2 (fun q _ h => ap_free G hH q h) (ap_free G hH) (fun u t H1 locs1 ht hvm hw1 hB hz1 hk1 hS => ?_)
  exact kk H1 locs1 ls ⟨by rw [← ht]; exact hB.1, hB.2.weaken (fun _ q _ h => ap_free G hH _ h), hS⟩ hL
theorem v_callvS (G : apG Γ cc nL own Ts rm X) (hX : apXok X) (hM : apMv Γ.1.2.1 lay X y ws k av σ σ') (hG : GoodIn Ts (va_wsS own index y ws)) (hw : ws = Cond.code y bytes maxL ret :: ws') (hd0 : y.cls ≠ "java/lang/invoke/MethodHandle" ∧ y.cls ≠ "java/lang/invoke/VarHandle" ∧ (parseMethodDescriptor y.desc).map (fun d => d.parameters.length) = some n) (hR : k + 1 ≤ rm.frames ∧ 8 + (maxL + 11) + 64 * k ≤ rm.locals) (hav : av q = As) (hn : As.length = n) (hst : (st.map fun v => v.category).sum ≤ 8) (hcs : cn ≤ rm.cells ∧ sn ≤ rm.slots) (hstk : stk = As.reverse ++ st) (hd : decode cc pc = .ok (.invokestatic index, 3))
    (kk : apV Γ nL (apU lay q (apd Γ) σ') cn sn (pc + 3) L st) : apV Γ nL (apU lay q (apd Γ) σ) cn sn pc L stk := fun H locs ls hH hL => by
  subst hstk
  refine va_callv (va_runS (As := As) (rest := st) ⟨G.1, G.2.1, G.2.2.1, G.2.2.2.1, G.2.2.2.2.1⟩ (hM (apD Γ) (apd Γ) q H.size) (va_cwS n G.2.2.2.2.1 hG hw rfl rfl hd0 ⟨by rw [G.2.2.2.2.2.2.1]; exact hR.1, by rw [G.2.2.2.2.2.2.1]; exact hR.2⟩) ⟨apPc_blind hX, fun U hU hW => by rw [← hav]; exact ap_pre G hX hH U hU hW⟩ rfl hn hL.1 rfl (lv_room hst) hd ⟨by rw [G.2.2.2.2.2.2.1]; exact hcs.1, by rw [G.2.2.2.2.2.2.1]; exact hcs.2⟩) hH.2.2 (fun q _ h => ap_free G hH q h) (ap_free G hH) (fun u t H1 locs1 ht hvm hw1 hB hz1 hk1 hS => ?_)
  exact kk H1 locs1 ls ⟨by rw [← ht]; exact hB.1, hB.2.weaken (fun _ q _ h => ap_free G hH _ h), hS⟩ hL
theorem v_callvN (G : apG Γ cc nL own Ts rm X) (hX : apXok X) (hM : apMv Γ.1.2.1 lay X y ws k av σ σ') (hG : GoodIn Ts ws) (hw : ws = Cond.code y bytes maxL ret :: ws') (hl : va_Nw (.methodLinkNest own index y host) (apS Γ)) (hini : Cond.initialized y.cls ∈ Ts) (hsta : Cond.static y ∈ Ts) (hd0 : y.cls ≠ "java/lang/invoke/MethodHandle" ∧ y.cls ≠ "java/lang/invoke/VarHandle" ∧ (parseMethodDescriptor y.desc).map (fun d => d.parameters.length) = some n) (hR : k + 1 ≤ rm.frames ∧ 8 + (maxL + 11) + 64 * k ≤ rm.locals) (hav : av q = As) (hn : As.length = n) (hst : (st.map fun v => v.category).sum ≤ 8) (hcs : cn ≤ rm.cells ∧ sn ≤ rm.slots) (hstk : stk = As.reverse ++ st) (hd : decode cc pc = .ok (.invokestatic index, 3))
    (kk : apV Γ nL (apU lay q (apd Γ) σ') cn sn (pc + 3) L st) : apV Γ nL (apU lay q (apd Γ) σ) cn sn pc L stk := fun H locs ls hH hL => by
  subst hstk
  refine va_callv (va_runSN (As := As) (rest := st) ⟨G.1, G.2.1, G.2.2.1, G.2.2.2.1, G.2.2.2.2.1⟩ (hM (apD Γ) (apd Γ) q H.size) ⟨va_cnB n G.2.2.2.2.1 hG hw rfl rfl hl (G.2.2.2.2.1 _ hini) hd0 ⟨by rw [G.2.2.2.2.2.2.1]; exact hR.1, by rw [G.2.2.2.2.2.2.1]; exact hR.2⟩, G.2.2.2.2.1 _ hsta, trivial⟩ ⟨apPc_blind hX, fun U hU hW => by rw [← hav]; exact ap_pre G hX hH U hU hW⟩ rfl hn hL.1 rfl (lv_room hst) hd ⟨by rw [G.2.2.2.2.2.2.1]; exact hcs.1, by rw [G.2.2.2.2.2.2.1]; exact hcs.2⟩) hH.2.2 (fun q _ h => ap_free G hH q h) (ap_free G hH) (fun u t H1 locs1 ht hvm hw1 hB hz1 hk1 hS => ?_)
  exact kk H1 locs1 ls ⟨by rw [← ht]; exact hB.1, hB.2.weaken (fun _ q _ h => ap_free G hH _ h), hS⟩ hL
theorem v_mmax (G : apG Γ cc nL own Ts rm X) {w : va_W} {x y : Int32} (hl : Cond.methodLink own index Lib.Math.max.name ∈ Ts) (h2 : Cond.static Lib.Math.max.name ∈ Ts) (h3 : Cond.initialized "java/lang/Math" ∈ Ts) (h4 : Cond.code Lib.Math.max.name Lib.Math.max.code 2 (some .int) ∈ Ts) (hR : 1 ≤ rm.frames ∧ 21 ≤ rm.locals) (hst : (st.map fun v => v.category).sum ≤ 8) (hcs : cn ≤ rm.cells ∧ sn ≤ rm.slots) (hd : decode cc pc = .ok (.invokestatic index, 3))
    (kk : apV Γ nL w cn sn (pc + 3) L (.int (if x < y then y else x) :: st)) : apV Γ nL w cn sn pc L (.int y :: .int x :: st) := fun H locs ls hH hL => by
  have T1 := G.2.2.2.2.1
  have hr := G.2.2.2.2.2.2.1
  exact va_mmax G.1 G.2.1 (G.2.2.1.trans hL.1.symm) G.2.2.2.1 (T1 _ hl) (T1 _ h2) (T1 _ h3) (T1 _ h4) (by rw [hr]; exact hR.1) (by rw [hr]; have := hR.2; omega) (by rw [hr]; exact hcs.1) (by rw [hr]; exact hcs.2) hd (kk H locs ls hH hL)
theorem v_mmin (G : apG Γ cc nL own Ts rm X) {w : va_W} {x y : Int32} (hl : Cond.methodLink own index Lib.Math.min.name ∈ Ts) (h2 : Cond.static Lib.Math.min.name ∈ Ts) (h3 : Cond.initialized "java/lang/Math" ∈ Ts) (h4 : Cond.code Lib.Math.min.name Lib.Math.min.code 2 (some .int) ∈ Ts) (hR : 1 ≤ rm.frames ∧ 21 ≤ rm.locals) (hst : (st.map fun v => v.category).sum ≤ 8) (hcs : cn ≤ rm.cells ∧ sn ≤ rm.slots) (hd : decode cc pc = .ok (.invokestatic index, 3))
    (kk : apV Γ nL w cn sn (pc + 3) L (.int (if y < x then y else x) :: st)) : apV Γ nL w cn sn pc L (.int y :: .int x :: st) := fun H locs ls hH hL => by
  have T1 := G.2.2.2.2.1
  have hr := G.2.2.2.2.2.2.1
  exact va_mmin G.1 G.2.1 (G.2.2.1.trans hL.1.symm) G.2.2.2.1 (T1 _ hl) (T1 _ h2) (T1 _ h3) (T1 _ h4) (by rw [hr]; exact hR.1) (by rw [hr]; have := hR.2; omega) (by rw [hr]; exact hcs.1) (by rw [hr]; exact hcs.2) hd (kk H locs ls hH hL)
end APC
