/-! ===== the law's helpers: a call whose exceptions are caught ===== -/
def apNcs : List (String × String) := [("java/lang/UnsupportedOperationException", "java/lang/IllegalArgumentException"), ("java/util/NoSuchElementException", "java/lang/IllegalArgumentException"), ("java/lang/IllegalStateException", "java/lang/IllegalArgumentException"), ("java/lang/ArithmeticException", "java/lang/IllegalArgumentException"), ("java/lang/IllegalStateException", "java/util/NoSuchElementException"), ("java/lang/ArithmeticException", "java/util/NoSuchElementException"), ("java/lang/ArithmeticException", "java/lang/IllegalStateException"), ("java/lang/IndexOutOfBoundsException", "java/lang/IllegalStateException"), ("java/util/NoSuchElementException", "java/lang/IllegalStateException"), ("java/lang/IndexOutOfBoundsException", "java/util/NoSuchElementException")]
def apXL : (Nat → Prop) → State → Prop := fun A U => apXC A U ∧ ∀ z ∈ apNcs, va_Nc z.1 z.2 U
theorem apXLok : apXok apXL := ⟨fun A U g mk a h => ⟨apXCok.1 A U g mk a h.1, fun z hz => va_Nc.moved (u := U) (U := U.calling g mk a) (Vm.Alike.refl U.vm) (h.2 z hz)⟩, fun A A1 s U h hW hk hA => ⟨apXCok.2 A A1 s U h.1 hW hk hA, fun z hz => va_Nc.moved hW.alike (h.2 z hz)⟩⟩
/-- called with av over σ the method, which has a table of handlers, answers r, over σ'; n exceptions were made -/
def apHi (l : Launch) (lay : List apK) (X : (Nat → Prop) → State → Prop) (y : MethodName) (ws : List Cond) (k n : Nat) (av : (Nat → Nat) → List Value) (σ : apM) (r : Int32) (σ' : apM) : Prop :=
  ∀ (D : va_G) (d : Nat → ClassId) (q : Nat → Nat) (sz : Nat), Met l y ws (apRm k n) (apPc lay X D d q sz σ (av q)) (va_Qi (fun r' (_ : Unit) => r' = r) (fun _ => apB lay D d q sz σ σ') (va_A (apU lay q d σ) sz)) n (6 * n) (va_A (apU lay q d σ) sz)
theorem apHi_of {l : Launch} {lay : List apK} {X : (Nat → Prop) → State → Prop} {y : MethodName} {ws ws' : List Cond} {k n : Nat} {av : (Nat → Nat) → List Value} {σ σ' : apM} {cc : ByteArray} {nL : Nat} {r : Int32} {hh : List (Nat × Nat × Nat × Nat)} (hy : plainName y.cls = true) (hw : ws = Cond.codeWith y cc nL (some .int) hh :: ws') (hlen : ∀ q, (lg_sl (av q)).length ≤ nL)
    (body : ∀ (Γ : apC) (q : Nat → Nat), Γ.1.2.1 = l → apG Γ cc nL y.cls ws (apRm k n) X → Γ.2.1.2.2.2.2.exceptionTable.toList = tableOf hh → apR Γ cc n (6 * n) (some r) (apU lay q (apd Γ) σ') → apV Γ nL (apU lay q (apd Γ) σ) 0 0 0 (lv_args 0 (av q)) []) : apHi l lay X y ws k n av σ r σ' := by
  intro D d q sz
  refine MetFree.of_bodyS (code := cc) (maxLocals := nL) (ret := some .int) hy ?_ ?_
  · intro args s m h hn
    obtain ⟨m9, meth, c, hn9, h1, h2, h3, h4, h5, h6, h7, -⟩ := Cond.codeWith_spec (atoms_spec (ws := ws) h _ (by rw [hw]; exact List.mem_cons_self))
    cases Option.some.inj (hn9.symm.trans hn)
    exact ⟨meth, c, h1, h2, h3, h4, h6, h7⟩
  · intro p e s m args below meth c s₁ B hml hPc _
    obtain ⟨rfl, hsz, hP, hK, hD0, hXs⟩ := hPc
    subst hsz
    have hD := hD0.self (sz := s.heap.size)
    have hts := atoms_spec (ws := ws) B.pre
    have htab := vx_table (x := y) (y := y) B (hts _ (by rw [hw]; exact List.mem_cons_self))
    have hb := body ((p, l, e, apRm k n, s), ((m, (av q).toArray, below, meth, c), (MQ below (va_Qi (fun r' (_ : Unit) => r' = r) (fun _ => apB lay D d q s.heap.size σ σ') (va_A (apU lay q d σ) s.heap.size)) (av q).toArray s n (6 * n) (va_A (apU lay q d σ) s.heap.size), D, d, va_A (apU lay q d σ) s.heap.size))) q rfl
      ⟨B.exec, B.bytes, hml, findClass_of_methodNamed B.named, hts, hK, rfl, fun q h => Or.inr h, hXs, B.notSynchronized⟩ htab
      (fun pc H locs ls hH hd => by exact W.zret B.exec B.bytes B.returns rfl (fun t ht hW => ⟨⟨r, (), rfl, rfl, by rw [ht]; exact hH.1, hH.2.1⟩, hH.2.2.F ht⟩) hH.2.2.2.2 hd B.notSynchronized)
    have hh0 : s₁.heap = s.heap := by rw [B.state]; rfl
    have KK : W p l e (apRm k n) s m (av q).toArray below meth c s.heap [] 0 0 (MQ below (va_Qi (fun r' (_ : Unit) => r' = r) (fun _ => apB lay D d q s.heap.size σ σ') (va_A (apU lay q d σ) s.heap.size)) (av q).toArray s n (6 * n) (va_A (apU lay q d σ) s.heap.size)) (entryFrame m (av q).toArray nL) := by
      rw [lg_entry_eq]
      exact hb s.heap [] _ ⟨hP, hD, va_S.rf⟩ (lv_entry (av q) (n := nL) (hlen q))
    obtain ⟨t, a1, o, b1, b2, b3⟩ := KK s₁ hh0 (Stand.of_body B)
    exact ⟨t, o, a1, b1, b2, b3⟩
/-- what a helper answers of the class's answer -/
def hRs (cd : List (String × Int32)) (res : (String × apM) ⊕ (Int32 × apM)) (r : Int32) (σ' : apM) : Prop := match res with
  | .inl z => (z.1, r) ∈ cd ∧ σ' = z.2
  | .inr z => r = 0 ∧ σ' = mst z.2 28 0 z.1
theorem vp_in01 : vp_in 0 1 := by
  unfold vp_in
  decide
section APH
variable {Γ : apC} {cc : ByteArray} {nL : Nat} {own : String} {Ts : List Cond} {rm : Room} {X : (Nat → Prop) → State → Prop} {w : va_W} {cn sn pc : Nat} {L : List (Nat × Value)} {st stk As : List Value}
variable {lay : List apK} {q : Nat → Nat} {σ : apM} {y : MethodName} {ws ws' : List Cond} {k nx : Nat} {av : (Nat → Nat) → List Value} {bytes : ByteArray} {maxL index n k0 ci N : Nat} {C : String} {T : u_T} {fl : List (Option Nat)} {ret : Option FieldType}
theorem apG_L (G : apG Γ cc nL own Ts rm apXL) : apG Γ cc nL own Ts rm apXC := ⟨G.1, G.2.1, G.2.2.1, G.2.2.2.1, G.2.2.2.2.1, G.2.2.2.2.2.1, G.2.2.2.2.2.2.1, G.2.2.2.2.2.2.2.1, G.2.2.2.2.2.2.2.2.1.1, G.2.2.2.2.2.2.2.2.2⟩
theorem apG_nc (G : apG Γ cc nL own Ts rm apXL) {a b : String} (h : (a, b) ∈ apNcs) : va_Nc a b (apS Γ) := G.2.2.2.2.2.2.2.2.1.2 _ h
theorem apG_cs (G : apG Γ cc nL own Ts rm apXL) {a : String} (h : a ∈ apExc) : (Cond.castable a a).before Γ.2.1.2.1 (apS Γ) = true := va_Nw.use rfl (G.2.2.2.2.2.2.2.2.1.1.2.2.2.2.2.2.2 a h)
theorem v_xiC (G : apG Γ cc nL own Ts rm X) (hX : apXok X) {res : (String × apM) ⊕ (Int32 × apM)} (hM : apXi Γ.1.2.1 lay X y ws k nx av σ res) (hG : GoodIn Ts (wsV own index C y ws)) (hw : ws = Cond.code y bytes maxL ret :: ws') (hd0 : y.cls = C ∧ y.cls ≠ "java/lang/invoke/MethodHandle" ∧ y.cls ≠ "java/lang/invoke/VarHandle" ∧ (parseMethodDescriptor y.desc).map (fun d => d.parameters.length) = some n) (hR : k + 1 ≤ rm.frames ∧ 8 + (maxL + 11) + 64 * k ≤ rm.locals) (hk0 : lay[k0]? = some (.inl (ci, fl))) (hc : vwCl[ci]? = some (C, T, N)) (hav : av q = .ref (q k0) :: As) (hn : As.length = n) (hst : (st.map fun v => v.category).sum ≤ 8) (hcs : cn + nx ≤ rm.cells ∧ sn + 6 * nx ≤ rm.slots) (hstk : stk = As.reverse ++ .ref (q k0) :: st) (hd : decode cc pc = .ok (.invokevirtual index, 3))
    (kx : ∀ z, res = .inl z → ∃ (pre : List ExceptionTableEntry) (x : ExceptionTableEntry) (suf : List ExceptionTableEntry) (name : String), Γ.2.1.2.2.2.2.exceptionTable.toList = pre ++ x :: suf ∧ (∀ z9 ∈ pre, covers z9 pc = false ∨ (z9.catchType ≠ 0 ∧ ∃ nm : String, Cond.classLink own z9.catchType nm ∈ Ts ∧ va_Nc z.1 nm (apS Γ))) ∧ covers x pc = true ∧ x.catchType ≠ 0 ∧ Cond.classLink own x.catchType name ∈ Ts ∧ (Cond.castable z.1 name).before Γ.2.1.2.1 (apS Γ) = true ∧ ∀ q9, apV Γ nL (apU lay q (apd Γ) z.2) (cn + nx) (sn + 6 * nx) x.handlerPc L [.ref q9])
    (kk : ∀ r σ', res = .inr (r, σ') → apV Γ nL (apU lay q (apd Γ) σ') (cn + nx) (sn + 6 * nx) (pc + 3) L (.int r :: st)) : apV Γ nL (apU lay q (apd Γ) σ) cn sn pc L stk := fun H locs ls hH hL => by
  subst hstk
  refine vx_calli (vx_runV (As := As) (rest := st) ⟨G.1, G.2.1, G.2.2.1, G.2.2.2.1, G.2.2.2.2.1⟩ (hM (apD Γ) (apd Γ) q H.size) (cwV n G.2.2.2.2.1 hG hw rfl rfl hd0 ⟨by rw [G.2.2.2.2.2.2.1]; exact hR.1, by rw [G.2.2.2.2.2.2.1]; exact hR.2⟩) ⟨apPc_blind hX, va_recv G.2.2.2.2.2.1 hH.1 hc (apU_get hk0), fun U hU hW => by rw [← hav]; exact ap_pre G hX hH U hU hW⟩ rfl hn hL.1 rfl (lv_room hst) hd ⟨by rw [G.2.2.2.2.2.2.1]; exact hcs.1, by rw [G.2.2.2.2.2.2.1]; exact hcs.2⟩) hH.2.2 (fun q _ h => ap_free G hH q h) (ap_free G hH) (fun q _ h => ap_free G hH q h) (fun E ce q9 u t H1 locs1 ht hal hpx hB hz1 hk1 hS hce hcv hcl => ?_) (fun r u t H1 locs1 ht hvm hw1 hB hz1 hk1 hS => ?_)
  · obtain ⟨rfl, hB⟩ := hB
    obtain ⟨pre, x, suf, name, e1, e2, e3, e4, e5, e6, e7⟩ := kx u hpx
    exact vx_catch G.2.2.2.1 pre x suf e1 (fun z9 h9 => (e2 z9 h9).imp id (fun h => ⟨h.1, h.2.elim fun nm h => ⟨nm, G.2.2.2.2.1 _ h.1, h.2⟩⟩)) e3 e4 (G.2.2.2.2.1 _ e5) e6 hce hcv hcl (e7 q9 H1 locs1 ls ⟨by rw [← ht]; exact hB.1, hB.2.weaken (fun _ q _ h => ap_free G hH _ h), hS⟩ hL)
  · exact kk r u hw1 H1 locs1 ls ⟨by rw [← ht]; exact hB.1, hB.2.weaken (fun _ q _ h => ap_free G hH _ h), hS⟩ hL
theorem v_i2l (G : apG Γ cc nL own Ts rm X) {x : Int32} (hd : decode cc pc = .ok (.i2l, 1)) (kk : apV Γ nL w cn sn (pc + 1) L (.long x.toInt64 :: st)) : apV Γ nL w cn sn pc L (.int x :: st) := fun H locs ls hH hL => lv_i2l G.1 G.2.1 hd rfl (kk H locs ls hH hL)
theorem v_lcmpE (G : apG Γ cc nL own Ts rm X) {x : Int64} (hd : decode cc pc = .ok (.lcmp, 1)) (kk : apV Γ nL w cn sn (pc + 1) L (.int 0 :: st)) : apV Γ nL w cn sn pc L (.long x :: .long x :: st) := fun H locs ls hH hL => by
  intro T hT X
  obtain ⟨t, a, b⟩ := kk H locs ls hH hL T hT X
  refine ⟨t, ?_, b⟩
  jvm_step X.here [X.here.top, G.1, G.2.1, hd]
  simpa using a
theorem v_lald (G : apG Γ cc nL own Ts rm X) {i0 a n : Nat} {f : Nat → Int64} {i : Int32} {v : Int64} (he : w[i0]? = some (a, .inl (apd Γ 3, n, .inr (.inl f)))) (hi : vp_in i n) (hv : f i.toNatClampNeg = v) (hd : decode cc pc = .ok (.laload, 1)) (kk : apV Γ nL w cn sn (pc + 1) L (.long v :: st)) : apV Γ nL w cn sn pc L (.int i :: .ref a :: st) := fun H locs ls hH hL => by
  subst hv
  exact va_lald G.1 G.2.1 G.2.2.2.2.2.1 hH.1 i0 3 he rfl hi hd (kk H locs ls hH hL)
theorem v_last {n : Nat} (G : apG Γ cc nL own Ts rm X) {k j : Nat} (hk : lay[k]? = some (.inr (.inl (3, n)))) {i v : Int32} {x : Int64} (hx : v.toInt64 = x) (hi : vp_in i n) (hj : i.toNatClampNeg = j) (hd : decode cc pc = .ok (.lastore, 1)) (kk : apV Γ nL (apU lay q (apd Γ) (mst σ k j v)) cn sn (pc + 1) L st) : apV Γ nL (apU lay q (apd Γ) σ) cn sn pc L (.long x :: .int i :: .ref (q k) :: st) := fun H locs ls hH hL => by
  subst hj
  have hg : (apU lay q (apd Γ) σ)[k]? = some (q k, .inl (apd Γ 3, (n, .inr (.inl (fun i => (σ k i).toInt64))))) := apU_get (q := q) (d := apd Γ) (σ := σ) hk
  have hs := apU_set (q := q) (d := apd Γ) (σ := σ) (σ' := mst σ k i.toNatClampNeg v) hk (fun k' h => mst_k h)
  have he : apE q (apd Γ) (mst σ k i.toNatClampNeg v k) (.inr (.inl (3, n))) = .inl (apd Γ 3, (n, .inr (.inl (vp_updL (fun i => (σ k i).toInt64) i.toNatClampNeg x)))) := by
    rw [mst_e]
    show Sum.inl (apd Γ 3, (n, Sum.inr (Sum.inl (fun j => (upd (σ k) i.toNatClampNeg v j).toInt64)))) = _
    have e : (fun j => (upd (σ k) i.toNatClampNeg v j).toInt64) = vp_updL (fun i => (σ k i).toInt64) i.toNatClampNeg x := by
      funext j
      unfold upd vp_updL
      by_cases c : j = i.toNatClampNeg
      · rw [if_pos c, if_pos c, hx]
      · rw [if_neg c, if_neg c]
    rw [e]
  rw [he] at hs
  refine va_last G.1 G.2.1 G.2.2.2.2.2.1 hH.1 hH.2.1 hH.2.2 k 3 hg rfl hi hd (fun H1 locs1 h1 h2 h3 => kk H1 locs1 ls ⟨?_, ?_, h3⟩ hL)
  · rw [← hs]; exact h1
  · rw [← hs]; exact h2
end APH
