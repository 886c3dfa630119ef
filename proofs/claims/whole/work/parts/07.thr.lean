/-! ===== methods that throw ===== -/
/-- the method may end by throwing an E over these cells -/
def apTh (Γ : apC) (mc ms : Nat) (E : String) (w : va_W) : Prop :=
  (∀ x ∈ Γ.2.1.2.2.2.2.exceptionTable.toList, False) ∧ ∃ (Qc : Array Value → State → Outcome → State → Prop) (XC : String → State → State → Prop) (free : Addr → Prop),
    Γ.2.2.1 = vx_MQ Γ.2.1.2.2.1 Qc XC Γ.2.1.2.1 (apS Γ) mc ms free ∧
    (∀ (H : Heap) (locs : List Loc) (t : State), apH Γ w H locs → (apS Γ).vm.Alike t.vm → H.size ≤ t.heap.size → (∀ q : Nat, q < H.size → t.heap[q]? = H[q]?) → XC E (apS Γ) t) ∧ (∀ z, apA Γ z → free z)
def apXv (l : Launch) (lay : List apK) (X : (Nat → Prop) → State → Prop) (y : MethodName) (ws : List Cond) (k n : Nat) (av : (Nat → Nat) → List Value) (σ : apM) (res : (String × apM) ⊕ apM) : Prop :=
  ∀ (D : va_G) (d : Nat → ClassId) (q : Nat → Nat) (sz : Nat), vx_Met l y ws (apRm k n) (apPc lay X D d q sz σ (av q)) (va_Qv (fun σ' : apM => res = .inr σ') (fun σ' => apB lay D d q sz σ σ') (va_A (apU lay q d σ) sz)) (vx_X (fun z : String × apM => res = .inl z) (fun E z t => E = z.1 ∧ apB lay D d q sz σ z.2 t) (va_A (apU lay q d σ) sz)) n (6 * n) (va_A (apU lay q d σ) sz)
def apXi (l : Launch) (lay : List apK) (X : (Nat → Prop) → State → Prop) (y : MethodName) (ws : List Cond) (k n : Nat) (av : (Nat → Nat) → List Value) (σ : apM) (res : (String × apM) ⊕ (Int32 × apM)) : Prop :=
  ∀ (D : va_G) (d : Nat → ClassId) (q : Nat → Nat) (sz : Nat), vx_Met l y ws (apRm k n) (apPc lay X D d q sz σ (av q)) (va_Qi (fun (r : Int32) (σ' : apM) => res = .inr (r, σ')) (fun σ' => apB lay D d q sz σ σ') (va_A (apU lay q d σ) sz)) (vx_X (fun z : String × apM => res = .inl z) (fun E z t => E = z.1 ∧ apB lay D d q sz σ z.2 t) (va_A (apU lay q d σ) sz)) n (6 * n) (va_A (apU lay q d σ) sz)
theorem apXv_of {l : Launch} {lay : List apK} {X : (Nat → Prop) → State → Prop} {y : MethodName} {ws ws' : List Cond} {k n : Nat} {av : (Nat → Nat) → List Value} {σ : apM} {res : (String × apM) ⊕ apM} {cc : ByteArray} {nL : Nat} (hy : plainName y.cls = true) (hw : ws = Cond.code y cc nL none :: ws') (hlen : ∀ q, (lg_sl (av q)).length ≤ nL)
    (body : ∀ (Γ : apC) (q : Nat → Nat), Γ.1.2.1 = l → apG Γ cc nL y.cls ws (apRm k n) X → (match res with | .inl z => apTh Γ n (6 * n) z.1 (apU lay q (apd Γ) z.2) | .inr z => apR Γ cc n (6 * n) none (apU lay q (apd Γ) z)) → apV Γ nL (apU lay q (apd Γ) σ) 0 0 0 (lv_args 0 (av q)) []) : apXv l lay X y ws k n av σ res := by
  intro D d q sz
  refine vx_ofW (cc := cc) (maxL := nL) (ret := none) hy hw ?_
  intro p e s m args below meth c s₁ B hml htab hv
  obtain ⟨rfl, hsz, hP, hK, hD0, hXs⟩ := hv
  subst hsz
  have hD := hD0.self (sz := s.heap.size)
  have hts := atoms_spec (ws := ws) B.pre
  have hb := body ((p, l, e, apRm k n, s), ((m, (av q).toArray, below, meth, c), (vx_MQ below (va_Qv (fun σ' : apM => res = .inr σ') (fun σ' => apB lay D d q s.heap.size σ σ') (va_A (apU lay q d σ) s.heap.size)) (vx_X (fun z : String × apM => res = .inl z) (fun E z t => E = z.1 ∧ apB lay D d q s.heap.size σ z.2 t) (va_A (apU lay q d σ) s.heap.size)) (av q).toArray s n (6 * n) (va_A (apU lay q d σ) s.heap.size), D, d, va_A (apU lay q d σ) s.heap.size))) q rfl
    ⟨B.exec, B.bytes, hml, findClass_of_methodNamed B.named, hts, hK, rfl, fun q h => Or.inr h, hXs, B.notSynchronized⟩
    (by
      rcases res with z | z
      · refine ⟨htab, _, _, _, rfl, ?_, fun _ h => h⟩
        intro H locs t hH hal hs1 hs2
        exact ⟨z, rfl, ⟨rfl, hH.1.kept (fun k9 q9 h9 => hs2 q9.1 (hH.1 k9 q9 h9).lt), hH.2.1⟩, ⟨Nat.le_trans hH.2.2.1 hs1, fun q9 h1 h2 => by rw [hs2 q9 (Nat.lt_of_lt_of_le h1 hH.2.2.1)]; exact hH.2.2.2.1 q9 h1 h2⟩⟩
      · intro pc H locs ls hH hd
        exact vx_ret (W.vret B.exec B.bytes B.returns (fun t ht hW => ⟨⟨z, rfl, rfl, by rw [ht]; exact hH.1, hH.2.1⟩, hH.2.2.F ht⟩) hH.2.2.2.2 hd B.notSynchronized))
  rw [lg_entry_eq]
  exact hb s.heap [] _ ⟨hP, hD, va_S.rf⟩ (lv_entry (av q) (n := nL) (hlen q))
theorem apXi_of {l : Launch} {lay : List apK} {X : (Nat → Prop) → State → Prop} {y : MethodName} {ws ws' : List Cond} {k n : Nat} {av : (Nat → Nat) → List Value} {σ : apM} {res : (String × apM) ⊕ (Int32 × apM)} {cc : ByteArray} {nL : Nat} (hy : plainName y.cls = true) (hw : ws = Cond.code y cc nL (some .int) :: ws') (hlen : ∀ q, (lg_sl (av q)).length ≤ nL)
    (body : ∀ (Γ : apC) (q : Nat → Nat), Γ.1.2.1 = l → apG Γ cc nL y.cls ws (apRm k n) X → (match res with | .inl z => apTh Γ n (6 * n) z.1 (apU lay q (apd Γ) z.2) | .inr z => apR Γ cc n (6 * n) (some z.1) (apU lay q (apd Γ) z.2)) → apV Γ nL (apU lay q (apd Γ) σ) 0 0 0 (lv_args 0 (av q)) []) : apXi l lay X y ws k n av σ res := by
  intro D d q sz
  refine vx_ofW (cc := cc) (maxL := nL) (ret := some .int) hy hw ?_
  intro p e s m args below meth c s₁ B hml htab hv
  obtain ⟨rfl, hsz, hP, hK, hD0, hXs⟩ := hv
  subst hsz
  have hD := hD0.self (sz := s.heap.size)
  have hts := atoms_spec (ws := ws) B.pre
  have hb := body ((p, l, e, apRm k n, s), ((m, (av q).toArray, below, meth, c), (vx_MQ below (va_Qi (fun (r : Int32) (σ' : apM) => res = .inr (r, σ')) (fun σ' => apB lay D d q s.heap.size σ σ') (va_A (apU lay q d σ) s.heap.size)) (vx_X (fun z : String × apM => res = .inl z) (fun E z t => E = z.1 ∧ apB lay D d q s.heap.size σ z.2 t) (va_A (apU lay q d σ) s.heap.size)) (av q).toArray s n (6 * n) (va_A (apU lay q d σ) s.heap.size), D, d, va_A (apU lay q d σ) s.heap.size))) q rfl
    ⟨B.exec, B.bytes, hml, findClass_of_methodNamed B.named, hts, hK, rfl, fun q h => Or.inr h, hXs, B.notSynchronized⟩
    (by
      rcases res with z | z
      · refine ⟨htab, _, _, _, rfl, ?_, fun _ h => h⟩
        intro H locs t hH hal hs1 hs2
        exact ⟨z, rfl, ⟨rfl, hH.1.kept (fun k9 q9 h9 => hs2 q9.1 (hH.1 k9 q9 h9).lt), hH.2.1⟩, ⟨Nat.le_trans hH.2.2.1 hs1, fun q9 h1 h2 => by rw [hs2 q9 (Nat.lt_of_lt_of_le h1 hH.2.2.1)]; exact hH.2.2.2.1 q9 h1 h2⟩⟩
      · intro pc H locs ls hH hd
        exact vx_ret (W.iret B.exec B.bytes B.returns (fun t ht hW => ⟨⟨z.1, z.2, rfl, rfl, by rw [ht]; exact hH.1, hH.2.1⟩, hH.2.2.F ht⟩) hH.2.2.2.2 hd B.notSynchronized))
  rw [lg_entry_eq]
  exact hb s.heap [] _ ⟨hP, hD, va_S.rf⟩ (lv_entry (av q) (n := nL) (hlen q))
section APX
variable {Γ : apC} {cc : ByteArray} {nL : Nat} {own : String} {Ts : List Cond} {rm : Room} {X : (Nat → Prop) → State → Prop} {w : va_W} {cn sn pc : Nat} {L : List (Nat × Value)} {st stk As : List Value}
variable {lay : List apK} {q : Nat → Nat} {σ : apM} {y : MethodName} {ws ws' : List Cond} {k nx : Nat} {av : (Nat → Nat) → List Value} {bytes : ByteArray} {maxL index n k0 ci N : Nat} {C : String} {T : u_T} {fl : List (Option Nat)} {ret : Option FieldType}
/-- throw new E("text") -/
theorem v_throw (G : apG Γ cc nL RX6 Ts rm apXC) (hfl : Γ.1.2.1.stackTraces = false) {mc ms ik is ic : Nat} {cls text : String} {names : List String} (K : apTh Γ mc ms cls w)
    (hcls : Bundle.fit cls = true) (hnames : ∀ n ∈ names, Bundle.fit n = true) (hk : Cond.classLink RX6 ik cls ∈ Ts) (hini : Cond.initialized cls ∈ Ts) (hstr : (is, text) ∈ apStr) (ha1 : ∀ w ∈ (vx_atS RX6 ic cls names).filter goodWord, w ∈ Ts) (ha2 : ∀ w ∈ (vx_atS RX6 ic cls names).filter (fun w => !goodWord w), w ∈ apOth)
    (hgood : (Cond.classLink RX6 ik cls :: Cond.initialized cls :: vx_atS RX6 ic cls names).all vx_ot = true)
    (hR : names.length + 3 < rm.frames ∧ 8 + (13 * (names.length + 1) + 43) ≤ rm.locals) (hst : (st.map fun v => v.category).sum ≤ 8) (hcs : cn + 1 ≤ rm.cells ∧ sn + 6 ≤ rm.slots) (hc : cn + 1 ≤ mc) (hs : sn + 6 ≤ ms)
    (d0 : decode cc pc = .ok (.new ik, 3)) (d3 : decode cc (pc + 3) = .ok (.dup, 1)) (d4 : decode cc (pc + 4) = .ok (.ldc is, 2)) (d6 : decode cc (pc + 6) = .ok (.invokespecial ic, 3)) (d9 : decode cc (pc + 9) = .ok (.athrow, 1)) :
    apV Γ nL w cn sn pc L st := fun H locs ls hH hL => by
  obtain ⟨htab, Qc, XC, free, hQ, hx, hf⟩ := K
  obtain ⟨sa, hsa⟩ := G.2.2.2.2.2.2.2.2.1.2.2.2.2.2.1 _ hstr
  have hrm := G.2.2.2.2.2.2.1
  show W _ _ _ _ _ _ _ _ _ _ _ _ _ _ Γ.2.2.1 _
  rw [hQ]
  exact vx_throwS G.1 G.2.1 hfl G.2.2.2.1 hcls hnames (G.2.2.2.2.1 _ hk) (G.2.2.2.2.1 _ hini) hsa (vx_hat (fun w hw => G.2.2.2.2.1 _ (ha1 w hw)) ha2 (apOth_of G.2.2.2.2.2.2.2.2.1)) (List.all_eq_true.mp hgood) G.2.2.2.2.2.2.2.2.1.2.2.2.1 G.2.2.2.2.2.2.2.2.1.2.2.2.2.1 hH.2.2 (hL.1.trans G.2.2.1.symm) d0 d3 d4 d6 d9 (fun x hx => (htab x hx).elim) (by rw [hrm]; exact hR.1) (by rw [hrm]; have := hR.2; omega) (by rw [hrm]; exact hcs.1) (by rw [hrm]; exact hcs.2) G.2.2.2.2.2.2.2.2.2
    (fun t h1 h2 h3 => hx H locs t hH h1 h2 h3) (fun z hz => hf _ (hH.2.2.2.2 z hz)) hc hs
/-- a callee has thrown: it goes on to the caller -/
theorem ap_out (G : apG Γ cc nL own Ts rm X) {mc ms : Nat} {E : String} (K : apTh Γ mc ms E w) {H : Heap} {locs : List Loc} {ls : Array Slot} {ce : Cell} {q9 : Addr} (hH : apH Γ w H locs) (hcell : H[q9]? = some ce) (hv : ce.vm = .none) (hcl : (apS Γ).vm.findClass E = some ce.cls) (hc : cn ≤ mc) (hs : sn ≤ ms) :
    vx_W Γ.1.1 Γ.1.2.1 Γ.1.2.2.1 Γ.1.2.2.2.1 (apS Γ) Γ.2.1.1 Γ.2.1.2.1 Γ.2.1.2.2.1 Γ.2.1.2.2.2.1 Γ.2.1.2.2.2.2 H locs cn sn Γ.2.2.1 (F0 Γ.2.1.1 pc ls st) q9 := by
  obtain ⟨htab, Qc, XC, free, hQ, hx, hf⟩ := K
  rw [hQ]
  exact vx_out (fun x hx => (htab x hx).elim) G.2.2.2.2.2.2.2.2.2 hcell hv hcl (fun t ht hal => hx H locs t hH hal (by rw [ht]; exact Nat.le_refl _) (fun q _ => by rw [ht])) (fun z hz => hf _ (hH.2.2.2.2 z hz)) hc hs
theorem v_xvV_t (G : apG Γ cc nL own Ts rm X) (hX : apXok X) {z : String × apM} (hM : apXv Γ.1.2.1 lay X y ws k nx av σ (.inl z)) (hG : GoodIn Ts (wsV own index C y ws)) (hw : ws = Cond.code y bytes maxL ret :: ws') (hd0 : y.cls = C ∧ y.cls ≠ "java/lang/invoke/MethodHandle" ∧ y.cls ≠ "java/lang/invoke/VarHandle" ∧ (parseMethodDescriptor y.desc).map (fun d => d.parameters.length) = some n) (hR : k + 1 ≤ rm.frames ∧ 8 + (maxL + 11) + 64 * k ≤ rm.locals) (hk0 : lay[k0]? = some (.inl (ci, fl))) (hc : vwCl[ci]? = some (C, T, N)) (hav : av q = .ref (q k0) :: As) (hn : As.length = n) (hst : (st.map fun v => v.category).sum ≤ 8) (hcs : cn + nx ≤ rm.cells ∧ sn + 6 * nx ≤ rm.slots) (hstk : stk = As.reverse ++ .ref (q k0) :: st) {mc ms : Nat} (hm : cn + nx ≤ mc ∧ sn + 6 * nx ≤ ms) (hd : decode cc pc = .ok (.invokevirtual index, 3))
    (K : apTh Γ mc ms z.1 (apU lay q (apd Γ) z.2)) : apV Γ nL (apU lay q (apd Γ) σ) cn sn pc L stk := fun H locs ls hH hL => by
  subst hstk
  refine vx_callv (vx_runV (As := As) (rest := st) ⟨G.1, G.2.1, G.2.2.1, G.2.2.2.1, G.2.2.2.2.1⟩ (hM (apD Γ) (apd Γ) q H.size) (cwV n G.2.2.2.2.1 hG hw rfl rfl hd0 ⟨by rw [G.2.2.2.2.2.2.1]; exact hR.1, by rw [G.2.2.2.2.2.2.1]; exact hR.2⟩) ⟨apPc_blind hX, va_recv G.2.2.2.2.2.1 hH.1 hc (apU_get hk0), fun U hU hW => by rw [← hav]; exact ap_pre G hX hH U hU hW⟩ rfl hn hL.1 rfl (lv_room hst) hd ⟨by rw [G.2.2.2.2.2.2.1]; exact hcs.1, by rw [G.2.2.2.2.2.2.1]; exact hcs.2⟩) hH.2.2 (fun q _ h => ap_free G hH q h) (ap_free G hH) (fun q _ h => ap_free G hH q h) (fun E ce q9 u t H1 locs1 ht hal hpx hB hz1 hk1 hS hce hcv hcl => ?_) (fun u t H1 locs1 ht hvm hw1 hB hz1 hk1 hS => nomatch hw1)
  cases hpx
  obtain ⟨rfl, hB⟩ := hB
  exact ap_out G K ⟨by rw [← ht]; exact hB.1, hB.2.weaken (fun _ q _ h => ap_free G hH _ h), hS⟩ hce hcv hcl hm.1 hm.2
theorem v_xvV (G : apG Γ cc nL own Ts rm X) (hX : apXok X) {σ' : apM} (hM : apXv Γ.1.2.1 lay X y ws k nx av σ (.inr σ')) (hG : GoodIn Ts (wsV own index C y ws)) (hw : ws = Cond.code y bytes maxL ret :: ws') (hd0 : y.cls = C ∧ y.cls ≠ "java/lang/invoke/MethodHandle" ∧ y.cls ≠ "java/lang/invoke/VarHandle" ∧ (parseMethodDescriptor y.desc).map (fun d => d.parameters.length) = some n) (hR : k + 1 ≤ rm.frames ∧ 8 + (maxL + 11) + 64 * k ≤ rm.locals) (hk0 : lay[k0]? = some (.inl (ci, fl))) (hc : vwCl[ci]? = some (C, T, N)) (hav : av q = .ref (q k0) :: As) (hn : As.length = n) (hst : (st.map fun v => v.category).sum ≤ 8) (hcs : cn + nx ≤ rm.cells ∧ sn + 6 * nx ≤ rm.slots) (hstk : stk = As.reverse ++ .ref (q k0) :: st) (hd : decode cc pc = .ok (.invokevirtual index, 3))
    (kk : apV Γ nL (apU lay q (apd Γ) σ') (cn + nx) (sn + 6 * nx) (pc + 3) L st) : apV Γ nL (apU lay q (apd Γ) σ) cn sn pc L stk := fun H locs ls hH hL => by
  subst hstk
  refine vx_callv (vx_runV (As := As) (rest := st) ⟨G.1, G.2.1, G.2.2.1, G.2.2.2.1, G.2.2.2.2.1⟩ (hM (apD Γ) (apd Γ) q H.size) (cwV n G.2.2.2.2.1 hG hw rfl rfl hd0 ⟨by rw [G.2.2.2.2.2.2.1]; exact hR.1, by rw [G.2.2.2.2.2.2.1]; exact hR.2⟩) ⟨apPc_blind hX, va_recv G.2.2.2.2.2.1 hH.1 hc (apU_get hk0), fun U hU hW => by rw [← hav]; exact ap_pre G hX hH U hU hW⟩ rfl hn hL.1 rfl (lv_room hst) hd ⟨by rw [G.2.2.2.2.2.2.1]; exact hcs.1, by rw [G.2.2.2.2.2.2.1]; exact hcs.2⟩) hH.2.2 (fun q _ h => ap_free G hH q h) (ap_free G hH) (fun q _ h => ap_free G hH q h) (fun E ce q9 u t H1 locs1 ht hal hpx hB hz1 hk1 hS hce hcv hcl => nomatch hpx) (fun u t H1 locs1 ht hvm hw1 hB hz1 hk1 hS => ?_)
  cases hw1
  exact kk H1 locs1 ls ⟨by rw [← ht]; exact hB.1, hB.2.weaken (fun _ q _ h => ap_free G hH _ h), hS⟩ hL
theorem v_xvS_t (G : apG Γ cc nL own Ts rm X) (hX : apXok X) {z : String × apM} (hM : apXv Γ.1.2.1 lay X y ws k nx av σ (.inl z)) (hG : GoodIn Ts (va_wsS own index y ws)) (hw : ws = Cond.code y bytes maxL ret :: ws') (hd0 : y.cls ≠ "java/lang/invoke/MethodHandle" ∧ y.cls ≠ "java/lang/invoke/VarHandle" ∧ (parseMethodDescriptor y.desc).map (fun d => d.parameters.length) = some n) (hR : k + 1 ≤ rm.frames ∧ 8 + (maxL + 11) + 64 * k ≤ rm.locals) (hav : av q = As) (hn : As.length = n) (hst : (st.map fun v => v.category).sum ≤ 8) (hcs : cn + nx ≤ rm.cells ∧ sn + 6 * nx ≤ rm.slots) (hstk : stk = As.reverse ++ st) {mc ms : Nat} (hm : cn + nx ≤ mc ∧ sn + 6 * nx ≤ ms) (hd : decode cc pc = .ok (.invokestatic index, 3))
    (K : apTh Γ mc ms z.1 (apU lay q (apd Γ) z.2)) : apV Γ nL (apU lay q (apd Γ) σ) cn sn pc L stk := fun H locs ls hH hL => by
  subst hstk
  refine vx_callv (vx_runS (As := As) (rest := st) ⟨G.1, G.2.1, G.2.2.1, G.2.2.2.1, G.2.2.2.2.1⟩ (hM (apD Γ) (apd Γ) q H.size) (va_cwS n G.2.2.2.2.1 hG hw rfl rfl hd0 ⟨by rw [G.2.2.2.2.2.2.1]; exact hR.1, by rw [G.2.2.2.2.2.2.1]; exact hR.2⟩) ⟨apPc_blind hX, fun U hU hW => by rw [← hav]; exact ap_pre G hX hH U hU hW⟩ rfl hn hL.1 rfl (lv_room hst) hd ⟨by rw [G.2.2.2.2.2.2.1]; exact hcs.1, by rw [G.2.2.2.2.2.2.1]; exact hcs.2⟩) hH.2.2 (fun q _ h => ap_free G hH q h) (ap_free G hH) (fun q _ h => ap_free G hH q h) (fun E ce q9 u t H1 locs1 ht hal hpx hB hz1 hk1 hS hce hcv hcl => ?_) (fun u t H1 locs1 ht hvm hw1 hB hz1 hk1 hS => nomatch hw1)
  cases hpx
  obtain ⟨rfl, hB⟩ := hB
  exact ap_out G K ⟨by rw [← ht]; exact hB.1, hB.2.weaken (fun _ q _ h => ap_free G hH _ h), hS⟩ hce hcv hcl hm.1 hm.2
theorem v_xvS (G : apG Γ cc nL own Ts rm X) (hX : apXok X) {σ' : apM} (hM : apXv Γ.1.2.1 lay X y ws k nx av σ (.inr σ')) (hG : GoodIn Ts (va_wsS own index y ws)) (hw : ws = Cond.code y bytes maxL ret :: ws') (hd0 : y.cls ≠ "java/lang/invoke/MethodHandle" ∧ y.cls ≠ "java/lang/invoke/VarHandle" ∧ (parseMethodDescriptor y.desc).map (fun d => d.parameters.length) = some n) (hR : k + 1 ≤ rm.frames ∧ 8 + (maxL + 11) + 64 * k ≤ rm.locals) (hav : av q = As) (hn : As.length = n) (hst : (st.map fun v => v.category).sum ≤ 8) (hcs : cn + nx ≤ rm.cells ∧ sn + 6 * nx ≤ rm.slots) (hstk : stk = As.reverse ++ st) (hd : decode cc pc = .ok (.invokestatic index, 3))
    (kk : apV Γ nL (apU lay q (apd Γ) σ') (cn + nx) (sn + 6 * nx) (pc + 3) L st) : apV Γ nL (apU lay q (apd Γ) σ) cn sn pc L stk := fun H locs ls hH hL => by
  subst hstk
  refine vx_callv (vx_runS (As := As) (rest := st) ⟨G.1, G.2.1, G.2.2.1, G.2.2.2.1, G.2.2.2.2.1⟩ (hM (apD Γ) (apd Γ) q H.size) (va_cwS n G.2.2.2.2.1 hG hw rfl rfl hd0 ⟨by rw [G.2.2.2.2.2.2.1]; exact hR.1, by rw [G.2.2.2.2.2.2.1]; exact hR.2⟩) ⟨apPc_blind hX, fun U hU hW => by rw [← hav]; exact ap_pre G hX hH U hU hW⟩ rfl hn hL.1 rfl (lv_room hst) hd ⟨by rw [G.2.2.2.2.2.2.1]; exact hcs.1, by rw [G.2.2.2.2.2.2.1]; exact hcs.2⟩) hH.2.2 (fun q _ h => ap_free G hH q h) (ap_free G hH) (fun q _ h => ap_free G hH q h) (fun E ce q9 u t H1 locs1 ht hal hpx hB hz1 hk1 hS hce hcv hcl => nomatch hpx) (fun u t H1 locs1 ht hvm hw1 hB hz1 hk1 hS => ?_)
  cases hw1
  exact kk H1 locs1 ls ⟨by rw [← ht]; exact hB.1, hB.2.weaken (fun _ q _ h => ap_free G hH _ h), hS⟩ hL
end APX
