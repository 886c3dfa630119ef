/-! ===== (as printed; what the tables say of the array over arrays is given by its word) new T[n][m]: the outer array a place, the inner ones among the pooled ===== -/
/-- f, but v at every address of l -/
def vr_up {α : Type} (f : Nat → α) (l : List Nat) (v : α) : Nat → α := fun a => if a ∈ l then v else f a
theorem vr_up_in {α : Type} {f : Nat → α} {l : List Nat} {v : α} {a : Nat} (h : a ∈ l) : vr_up f l v a = v := if_pos h
theorem vr_up_ne {α : Type} {f : Nat → α} {l : List Nat} {v : α} {a : Nat} (h : a ∉ l) : vr_up f l v a = f a := if_neg h
theorem vr_rows {L l : List Nat} {f : Nat → va_E} {e : va_E} (h : ∀ a, a ∈ l → a ∉ L) : va_pl L f ++ l.map (fun a => (a, e)) = va_pl (L ++ l) (vr_up f l e) := by
  unfold va_pl
  rw [List.map_append]
  congr 1
  · apply List.map_congr_left
    intro a ha
    rw [vr_up_ne (fun q => h a q ha)]
  · apply List.map_congr_left
    intro a ha
    rw [vr_up_in ha]
theorem vr_lay {X rows : va_W} {x : Nat × va_E} {pl : va_W} {D : va_G} {cl : List vw_C} {H : Heap} (hP : va_P D cl (((X ++ pl) ++ [x]) ++ rows) H) : va_P D cl ((X ++ [x]) ++ (pl ++ rows)) H := by
  rw [List.append_assoc (X ++ pl)] at hP
  have h := va_P.swap hP
  rw [← List.append_assoc X] at h
  have h2 := va_P.swap h
  rw [List.append_assoc (X ++ [x])] at h2
  exact h2
theorem vr_layD {X rows : va_W} {x : Nat × va_E} {pl : va_W} {A : Nat → Prop} (hD : va_D A (((X ++ pl) ++ [x]) ++ rows)) : va_D A ((X ++ [x]) ++ (pl ++ rows)) := by
  rw [List.append_assoc (X ++ pl)] at hD
  have h := va_D.swap hD
  rw [← List.append_assoc X] at h
  have h2 := va_D.swap h
  rw [List.append_assoc (X ++ [x])] at h2
  exact h2
theorem vr_outer (c : ClassId) (N h0 : Nat) : ∀ i : Nat, Jvm.Free.Multi.outerC c N h0 i = arrV c N (fun j => va_rf (if j < i then some (h0 + 1 + j) else none))
  | 0 => by
    show ({ cls := c, slots := Array.replicate N .null, vm := .none } : Cell) = _
    rw [arrV_new]
    refine congrArg (arrV c N) (funext fun j => ?_)
    simp [va_rf]
  | i + 1 => by
    show (Jvm.Free.Multi.outerC c N h0 i).setSlot i (.ref (h0 + 1 + i)) = _
    rw [vr_outer c N h0 i, arrV_store]
    refine congrArg (arrV c N) (funext fun j => ?_)
    by_cases e : j = i
    · subst e
      simp [updV, va_rf]
    · by_cases h : j < i
      · simp [updV, e, h, Nat.lt_succ_of_lt h]
      · simp [updV, e, h, show ¬ j < i + 1 by omega]
section VGM
variable {p : Program} {l : Launch} {e : Env} {R : Room} {s : State} {m : MethodId} {args : Array Value} {below : List Frame} {meth : Method} {c : Code} {H : Heap} {locs : List Loc} {cells slots : Nat} {Q : State → Prop}
variable {cc : ByteArray} {pc : Nat} {ls : Array Slot} {rest : List Value} {D : va_G} {cl : List vw_C} {A : Nat → Prop} {a : Nat} {tys : List (ClassId × FieldType)} {ws : va_W} {H0 : Heap}
theorem va_mna {X : va_W} {L : List Nat} {f : Nat → va_E} {cc : ByteArray} (hexec : p.tables.exec = Jvm.exec) (hb : c.code = cc) {own : String} {index : Nat} {ty : FieldType} {cy : ClassId} (hown : s.vm.findClass own = some m.cls) (hclink : (Cond.classLink own index ("[" ++ (FieldType.array ty).toString)).before args s = true) (hover : (Cond.arrayOver (.array ty)).before args s = true) (harr : (Cond.arrayClass ty).before args s = true) (hcy : s.vm.findClass (FieldType.array ty).toString = some cy)
    (hK : va_K D cl tys s) (hP : va_P D cl (X ++ va_pl L f) H) (hD : va_D A (X ++ va_pl L f)) (hS : va_S A H0 H locs) (hA : ∀ q, H0.size ≤ q → A q) {n k : Int32} {N' K' : Nat} {z : vp_A} (hn : ¬ n < 0) (hk : ¬ k < 0) (hN : n.toNatClampNeg = N') (hM : k.toNatClampNeg = K')
    (hb1 : N' * 4 ≤ 536870912) (hb2 : K' * componentBytes ty ≤ 536870912) (hb3 : K' ≤ 536870912) (hdf : fits ty (defaultValue ty) = true) (hdd : (defaultValue ty).isDefault = true) (hcells : cells + (1 + N') ≤ R.cells) (hslots : slots + (N' + N' * K') ≤ R.slots) (hz : ∀ c : ClassId, Jvm.Free.Multi.innerC c K' (defaultValue ty) = vp_cell c z) (hdg : decode cc pc = .ok (.multianewarray index 2, 4))
    (kk : ∀ (q : Nat) (r : Nat → Nat) (cA : ClassId) (H1 : Heap), (∀ i j : Nat, i < N' → j < N' → r i = r j → i = j) → (∀ i : Nat, i < N' → r i ∉ L) → va_K D cl (tys ++ [(cA, .array ty)]) s →
      va_P D cl ((X ++ [(q, .inl (cA, N', .inr (.inr (.inr (.inr (fun i => if i < N' then some (r i) else none))))))]) ++ va_pl (L ++ (List.range N').map r) (vr_up f ((List.range N').map r) (.inl (cy, z)))) H1 → va_D A ((X ++ [(q, .inl (cA, N', .inr (.inr (.inr (.inr (fun i => if i < N' then some (r i) else none))))))]) ++ va_pl (L ++ (List.range N').map r) (vr_up f ((List.range N').map r) (.inl (cy, z)))) → va_S A H0 H1 locs →
      W p l e R s m args below meth c H1 locs (cells + 1 + N') (slots + N' + N' * K') Q (F0 m (pc + 4) ls (.ref q :: rest))) : W p l e R s m args below meth c H locs cells slots Q (F0 m pc ls (.int k :: .int n :: rest)) := by
  subst hN
  subst hM
  intro T hT Xs
  obtain ⟨vm₁, cA, comp, -, fA, fC, hO, -, X', step⟩ := Xs.multianewarray2F hexec hown hclink hover harr (g := F0 m pc ls (.int k :: .int n :: rest)) rfl (by rw [hb]; exact hdg) rfl hn hk hb1 hb2 hb3 hdf hdd hcells hslots
  have ec : some cy = some comp := hcy.symm.trans fC
  cases ec
  generalize hF : Jvm.Free.Multi.fill (T.setVm vm₁) cA cy n.toNatClampNeg k.toNatClampNeg (defaultValue ty) n.toNatClampNeg = F at X' step
  have hTh : (T.setVm vm₁).heap = H := hT
  obtain ⟨f1, f2, -, -⟩ := Jvm.Free.Multi.fill_facts (T.setVm vm₁) cA cy n.toNatClampNeg k.toNatClampNeg (defaultValue ty) n.toNatClampNeg
  rw [hF, hTh] at f1 f2
  have hold : ∀ x : Nat, x < H.size → F.heap[x]? = H[x]? := fun x hx => by
    have := Jvm.Free.Multi.fill_old (T.setVm vm₁) cA cy n.toNatClampNeg k.toNatClampNeg (defaultValue ty) (a := x) (by rw [hTh]; exact hx) n.toNatClampNeg
    rw [hF, hTh] at this
    exact this
  have hrow : ∀ j : Nat, j < n.toNatClampNeg → F.heap[H.size + 1 + j]? = some (vp_cell cy z) := fun j hj => by
    have := Jvm.Free.Multi.fill_inner (T.setVm vm₁) cA cy n.toNatClampNeg k.toNatClampNeg (defaultValue ty) n.toNatClampNeg j hj
    rw [hF, hTh, hz] at this
    exact this
  have hout : Jvm.Free.Multi.outerC cA n.toNatClampNeg H.size n.toNatClampNeg = vp_cell cA (n.toNatClampNeg, .inr (.inr (.inr (.inr (fun i => if i < n.toNatClampNeg then some (H.size + 1 + i) else none))))) := by
    rw [vp_cell_q]
    exact vr_outer cA n.toNatClampNeg H.size n.toNatClampNeg
  rw [hout] at f2
  have hlt : ∀ a, a ∈ L → a < H.size := fun a ha => by
    obtain ⟨k9, hk9⟩ := va_pl_get (X := X) (f := f) ha
    exact (hP k9 _ hk9).lt
  have hnl : ∀ i : Nat, i < n.toNatClampNeg → H.size + 1 + i ∉ L := fun i _ h => by
    have := hlt _ h
    omega
  have hnm : ∀ a, a ∈ (List.range n.toNatClampNeg).map (fun i => H.size + 1 + i) → a ∉ L := fun a ha h => by
    obtain ⟨i, -, rfl⟩ := List.mem_map.mp ha
    have := hlt _ h
    omega
  have hP0 : va_P D cl (X ++ va_pl L f) F.heap := hP.kept (fun k9 x hx => hold x.1 ((hP k9 x hx).lt))
  have hP1 : va_P D cl ((X ++ va_pl L f) ++ [(H.size, .inl (cA, n.toNatClampNeg, .inr (.inr (.inr (.inr (fun i => if i < n.toNatClampNeg then some (H.size + 1 + i) else none))))))]) F.heap := hP0.app (fun k9 x hx => by
    have h0 : k9 < 1 := (List.getElem?_eq_some_iff.mp hx).1
    rw [show k9 = 0 by omega] at hx
    cases hx
    exact f2)
  have hP2 : va_P D cl (((X ++ va_pl L f) ++ [(H.size, .inl (cA, n.toNatClampNeg, .inr (.inr (.inr (.inr (fun i => if i < n.toNatClampNeg then some (H.size + 1 + i) else none))))))]) ++ ((List.range n.toNatClampNeg).map (fun i => H.size + 1 + i)).map (fun a => (a, .inl (cy, z)))) F.heap := hP1.app (fun k9 x hx => by
    obtain ⟨a, ha, rfl⟩ := List.mem_map.mp (List.mem_of_getElem? hx)
    obtain ⟨i, hi, rfl⟩ := List.mem_map.mp ha
    exact hrow i (List.mem_range.mp hi))
  have hD2 : va_D A (((X ++ va_pl L f) ++ [(H.size, .inl (cA, n.toNatClampNeg, .inr (.inr (.inr (.inr (fun i => if i < n.toNatClampNeg then some (H.size + 1 + i) else none))))))]) ++ ((List.range n.toNatClampNeg).map (fun i => H.size + 1 + i)).map (fun a => (a, .inl (cy, z)))) := by
    have hD1 := hD.push (e := .inl (cA, n.toNatClampNeg, .inr (.inr (.inr (.inr (fun i => if i < n.toNatClampNeg then some (H.size + 1 + i) else none)))))) hP rfl (hA _ hS.1)
    generalize hW1 : (X ++ va_pl L f) ++ [(H.size, .inl (cA, n.toNatClampNeg, .inr (.inr (.inr (.inr (fun i => if i < n.toNatClampNeg then some (H.size + 1 + i) else none))))))] = W1 at hD1 hP1 ⊢
    have hle : ∀ (k9 : Nat) (x : Nat × va_E), W1[k9]? = some x → x.1 ≤ H.size := fun k9 x hx => by
      rw [← hW1] at hx
      by_cases hl : k9 < (X ++ va_pl L f).length
      · rw [List.getElem?_append_left hl] at hx
        exact Nat.le_of_lt ((hP k9 x hx).lt)
      · rw [List.getElem?_append_right (by omega)] at hx
        have h0 : k9 - (X ++ va_pl L f).length < 1 := (List.getElem?_eq_some_iff.mp hx).1
        rw [show k9 - (X ++ va_pl L f).length = 0 by omega] at hx
        cases hx
        exact Nat.le_refl _
    have hr : ∀ (k9 : Nat) (x : Nat × va_E), (((List.range n.toNatClampNeg).map (fun i => H.size + 1 + i)).map (fun a => ((a, .inl (cy, z)) : Nat × va_E)))[k9]? = some x → x.1 = H.size + 1 + k9 := fun k9 x hx => by
      rw [List.getElem?_map, List.getElem?_map] at hx
      by_cases h9 : k9 < n.toNatClampNeg
      · rw [List.getElem?_range h9] at hx
        cases hx
        rfl
      · have hn0 : (List.range n.toNatClampNeg)[k9]? = none := List.getElem?_eq_none (by rw [List.length_range]; omega)
        rw [hn0] at hx
        cases hx
    refine ⟨fun i j x y hi hj hxy => ?_, fun k9 x hx => ?_⟩
    · by_cases h1 : i < W1.length <;> by_cases h2 : j < W1.length
      · rw [List.getElem?_append_left h1] at hi
        rw [List.getElem?_append_left h2] at hj
        exact hD1.1 i j x y hi hj hxy
      · rw [List.getElem?_append_left h1] at hi
        rw [List.getElem?_append_right (by omega)] at hj
        have := hle _ _ hi
        have := hr _ _ hj
        omega
      · rw [List.getElem?_append_right (by omega)] at hi
        rw [List.getElem?_append_left h2] at hj
        have := hle _ _ hj
        have := hr _ _ hi
        omega
      · rw [List.getElem?_append_right (by omega)] at hi hj
        have := hr _ _ hi
        have := hr _ _ hj
        omega
    · by_cases h1 : k9 < W1.length
      · rw [List.getElem?_append_left h1] at hx
        exact hD1.2 k9 x hx
      · rw [List.getElem?_append_right (by omega)] at hx
        have := hr _ _ hx
        exact hA _ (by have := hS.1; omega)
  have hAr : ArrOfT s cA (.array ty) := fun N9 z9 => by
    obtain ⟨-, k9, hk9, cm9, hkk9⟩ := (hO 0 0 0).1
    exact ⟨(fun q hq => by cases hq), k9, hk9, cm9, hkk9⟩
  have hK2 : va_K D cl (tys ++ [(cA, .array ty)]) s := ⟨hK.1, fun k9 x hx => by
    by_cases hl : k9 < tys.length
    · rw [List.getElem?_append_left hl] at hx
      exact hK.2 k9 x hx
    · rw [List.getElem?_append_right (by omega)] at hx
      have h0 : k9 - tys.length < 1 := (List.getElem?_eq_some_iff.mp hx).1
      rw [show k9 - tys.length = 0 by omega] at hx
      cases hx
      exact ⟨hAr, fA⟩⟩
  obtain ⟨t, a1, b1⟩ := kk H.size (fun i => H.size + 1 + i) cA F.heap (fun i j _ _ h => by have h9 : H.size + 1 + i = H.size + 1 + j := h; omega) hnl hK2 (by rw [← vr_rows hnm]; exact vr_lay hP2) (by rw [← vr_rows hnm]; exact vr_layD hD2) ⟨by rw [f1]; have := hS.1; omega, fun x h1 h2 => (hold x (Nat.lt_of_lt_of_le h1 hS.1)).trans (hS.2.1 x h1 h2), hS.2.2⟩ F rfl X'
  refine ⟨t, step t ?_, b1⟩
  have e : T.heap.size = H.size := by rw [hT]
  rw [e]
  exact a1
end VGM
/-! ===== rows of constructors ===== -/
theorem vr_all {l : List Nat} {f : Nat → va_E} {e : va_E} : va_pl ([] ++ l) (vr_up f l e) = l.map (fun a => (a, e)) := by
  unfold va_pl
  rw [List.nil_append]
  apply List.map_congr_left
  intro a ha
  rw [vr_up_in ha]
/-- a constructor: over the cells w0 (its own object among them) it comes to cells that are as Q says -/
def apCt (l : Launch) (y : MethodName) (ws : List Cond) (k mc ms : Nat) (av : List Value) (w0 : va_W) (Y : State → Prop) (Q : (Nat → ClassId) → va_W → Prop) : Prop :=
  ∀ (D : va_G) (d : Nat → ClassId) (sz : Nat), Met l y ws { frames := k, cells := mc, slots := ms, locals := 64 * k } (va_Pc av (fun U => U.heap.size = sz ∧ va_P D vwCl w0 U.heap ∧ va_K D vwCl (apT d) U ∧ va_D (fun _ => True) w0 ∧ Y U)) (va_Qv (fun _ : Unit => True) (fun _ t => ∃ w1, Q d w1 ∧ va_P D vwCl w1 t.heap ∧ va_D (va_A w0 sz) w1) (va_A w0 sz)) mc ms (va_A w0 sz)
theorem apCt_of {l : Launch} {y : MethodName} {ws ws' : List Cond} {k mc ms : Nat} {av : List Value} {w0 : va_W} {Y : State → Prop} {Q : (Nat → ClassId) → va_W → Prop} {cc : ByteArray} {nL : Nat} (hy : plainName y.cls = true) (hname : y.name = "<init>") (hw : ws = Cond.code y cc nL none :: ws') (hlen : (lg_sl av).length ≤ nL)
    (body : ∀ (Γ : apC), Γ.1.2.1 = l → apG Γ cc nL y.cls ws { frames := k, cells := mc, slots := ms, locals := 64 * k } apXM → Γ.2.1.2.2.2.1.name = "<init>" → Y (apS Γ) → (∀ (pc : Nat) (H : Heap) (locs : List Loc) (ls : Array Slot) (w1 : va_W), Q (apd Γ) w1 → apH Γ w1 H locs → decode cc pc = .ok (.return_, 1) → apW Γ H locs mc ms (F0 Γ.2.1.1 pc ls [])) → apV Γ nL w0 0 0 0 (lv_args 0 av) []) : apCt l y ws k mc ms av w0 Y Q := by
  intro D d sz
  refine Met.ofW (cc := cc) (maxL := nL) (ret := none) hy hw ?_
  intro p e s m args below meth c s₁ B hml hv
  obtain ⟨rfl, hsz, hP, hK, hD0, hY⟩ := hv
  subst hsz
  have hD := hD0.self (sz := s.heap.size)
  have hts := atoms_spec (ws := ws) B.pre
  have hin : meth.name = "<init>" := (name_of_methodNamed B.named B.method).1.trans hname
  have hb := body ((p, l, e, { frames := k, cells := mc, slots := ms, locals := 64 * k }, s), ((m, av.toArray, below, meth, c), (MQ below (va_Qv (fun (_ : Unit) => True) (fun _ t => ∃ w1, Q d w1 ∧ va_P D vwCl w1 t.heap ∧ va_D (va_A w0 s.heap.size) w1) (va_A w0 s.heap.size)) av.toArray s mc ms (va_A w0 s.heap.size), D, d, va_A w0 s.heap.size))) rfl
    ⟨B.exec, B.bytes, hml, findClass_of_methodNamed B.named, hts, hK, rfl, fun q h => Or.inr h, trivial, B.notSynchronized⟩ hin hY
    (fun pc H locs ls w1 hq hH hd => by exact W.vret B.exec B.bytes B.returns (fun t ht hW => ⟨⟨(), rfl, trivial, w1, hq, by rw [ht]; exact hH.1, hH.2.1⟩, hH.2.2.F ht⟩) hH.2.2.2.2 hd B.notSynchronized)
  rw [lg_entry_eq]
  exact hb s.heap [] _ ⟨hP, hD, va_S.rf⟩ (lv_entry av (n := nL) hlen)
section APN
variable {Γ : apC} {cc : ByteArray} {nL : Nat} {own : String} {Ts : List Cond} {rm : Room} {X : (Nat → Prop) → State → Prop} {w : va_W} {cn sn pc : Nat} {L : List (Nat × Value)} {st stk As : List Value}
theorem v_objI (G : apG Γ cc nL own Ts rm X) {idx q : Nat} (hl : Cond.methodLink own idx objectInit ∈ Ts) (hi : Cond.instanceMethod objectInit ∈ Ts) (hc : Cond.code objectInit ⟨#[0xb1]⟩ 1 none ∈ Ts) (hR : 1 ≤ rm.frames ∧ 20 ≤ rm.locals) (hst : (st.map fun v => v.category).sum ≤ 8) (hd : decode cc pc = .ok (.invokespecial idx, 3))
    (kk : apV Γ nL w cn sn (pc + 3) L st) : apV Γ nL w cn sn pc L (.ref q :: st) := fun H locs ls hH hL => by
  have T1 := G.2.2.2.2.1
  have hrm := G.2.2.2.2.2.2.1
  refine W.objInit G.1 G.2.1 G.2.2.2.1 (T1 _ hl) (T1 _ hi) (T1 _ hc) rfl (hL.1.trans G.2.2.1.symm) rfl hd (by rw [hrm]; exact hR.1) ?_ ?_
  · show 2 * 0 + (st.map fun v => v.category).sum + 12 ≤ Γ.1.2.2.2.1.locals
    rw [hrm]
    have := hR.2
    omega
  · exact W.eq (g2 := F0 Γ.2.1.1 (pc + 3) ls st) rfl (kk H locs ls hH hL)
/-- a new row of ints or booleans -/
theorem v_newI (G : apG Γ cc nL own Ts rm X) {N : Nat} {n : Int32} (harr : Cond.arrayClass .int ∈ Ts) (hn : ¬ n < 0) (hN : n.toNatClampNeg = N) (hb : N * 4 ≤ 536870912) (hcs : cn + 1 ≤ rm.cells ∧ sn + N ≤ rm.slots) (hd : decode cc pc = .ok (.newarray .int, 2))
    (kk : ∀ q : Nat, apV Γ nL (w ++ [(q, .inl (apd Γ 0, (N, .inl (fun _ => (0 : Int32)))))]) (cn + 1) (sn + N) (pc + 2) L (.ref q :: st)) : apV Γ nL w cn sn pc L (.int n :: st) := fun H locs ls hH hL => by
  have T1 := G.2.2.2.2.1
  have hrm := G.2.2.2.2.2.2.1
  refine va_newa (atype := .int) (ty := .int) (D := apD Γ) (cl := vwCl) (tys := apT (apd Γ)) (N' := N) (a0 := (N, .inl (fun _ => (0 : Int32)))) G.1 G.2.1 (T1 _ harr) rfl G.2.2.2.2.2.1 hH.1 hH.2.1 hH.2.2 G.2.2.2.2.2.2.2.1 (fun _ => rfl) hn hN hb (by rw [hrm]; exact hcs.1) (by rw [hrm]; exact hcs.2) hd (fun q cA H1 hK hP hD hS => ?_)
  have e1 : (apS Γ).vm.findClass ("[" ++ (FieldType.int).toString) = some cA := (hK.2 4 (cA, .int) rfl).2
  have e2 : (apS Γ).vm.findClass ("[" ++ (FieldType.int).toString) = some (apd Γ 0) := (G.2.2.2.2.2.1.2 0 (apd Γ 0, .int) rfl).2
  have e : cA = apd Γ 0 := Option.some.inj (e1.symm.trans e2)
  subst e
  exact kk q H1 locs ls ⟨hP, hD, hS⟩ hL
theorem v_newZ (G : apG Γ cc nL own Ts rm X) {N : Nat} {n : Int32} (harr : Cond.arrayClass .boolean ∈ Ts) (hn : ¬ n < 0) (hN : n.toNatClampNeg = N) (hb : N * 1 ≤ 536870912) (hcs : cn + 1 ≤ rm.cells ∧ sn + N ≤ rm.slots) (hd : decode cc pc = .ok (.newarray .boolean, 2))
    (kk : ∀ q : Nat, apV Γ nL (w ++ [(q, .inl (apd Γ 1, (N, .inl (fun _ => (0 : Int32)))))]) (cn + 1) (sn + N) (pc + 2) L (.ref q :: st)) : apV Γ nL w cn sn pc L (.int n :: st) := fun H locs ls hH hL => by
  have T1 := G.2.2.2.2.1
  have hrm := G.2.2.2.2.2.2.1
  refine va_newa (atype := .boolean) (ty := .boolean) (D := apD Γ) (cl := vwCl) (tys := apT (apd Γ)) (N' := N) (a0 := (N, .inl (fun _ => (0 : Int32)))) G.1 G.2.1 (T1 _ harr) rfl G.2.2.2.2.2.1 hH.1 hH.2.1 hH.2.2 G.2.2.2.2.2.2.2.1 (fun _ => rfl) hn hN hb (by rw [hrm]; exact hcs.1) (by rw [hrm]; exact hcs.2) hd (fun q cA H1 hK hP hD hS => ?_)
  have e1 : (apS Γ).vm.findClass ("[" ++ (FieldType.boolean).toString) = some cA := (hK.2 4 (cA, .boolean) rfl).2
  have e2 : (apS Γ).vm.findClass ("[" ++ (FieldType.boolean).toString) = some (apd Γ 1) := (G.2.2.2.2.2.1.2 1 (apd Γ 1, .boolean) rfl).2
  have e : cA = apd Γ 1 := Option.some.inj (e1.symm.trans e2)
  subst e
  exact kk q H1 locs ls ⟨hP, hD, hS⟩ hL
theorem v_newJ (G : apG Γ cc nL own Ts rm X) {N : Nat} {n : Int32} (harr : Cond.arrayClass .long ∈ Ts) (hn : ¬ n < 0) (hN : n.toNatClampNeg = N) (hb : N * 8 ≤ 536870912) (hcs : cn + 1 ≤ rm.cells ∧ sn + N ≤ rm.slots) (hd : decode cc pc = .ok (.newarray .long, 2))
    (kk : ∀ q : Nat, apV Γ nL (w ++ [(q, .inl (apd Γ 3, (N, .inr (.inl (fun _ => (0 : Int64))))))]) (cn + 1) (sn + N) (pc + 2) L (.ref q :: st)) : apV Γ nL w cn sn pc L (.int n :: st) := fun H locs ls hH hL => by
  have T1 := G.2.2.2.2.1
  have hrm := G.2.2.2.2.2.2.1
  refine va_newa (atype := .long) (ty := .long) (D := apD Γ) (cl := vwCl) (tys := apT (apd Γ)) (N' := N) (a0 := (N, .inr (.inl (fun _ => (0 : Int64))))) G.1 G.2.1 (T1 _ harr) rfl G.2.2.2.2.2.1 hH.1 hH.2.1 hH.2.2 G.2.2.2.2.2.2.2.1 (fun _ => rfl) hn hN hb (by rw [hrm]; exact hcs.1) (by rw [hrm]; exact hcs.2) hd (fun q cA H1 hK hP hD hS => ?_)
  have e1 : (apS Γ).vm.findClass ("[" ++ (FieldType.long).toString) = some cA := (hK.2 4 (cA, .long) rfl).2
  have e2 : (apS Γ).vm.findClass ("[" ++ (FieldType.long).toString) = some (apd Γ 3) := (G.2.2.2.2.2.1.2 3 (apd Γ 3, .long) rfl).2
  have e : cA = apd Γ 3 := Option.some.inj (e1.symm.trans e2)
  subst e
  exact kk q H1 locs ls ⟨hP, hD, hS⟩ hL
/-- a final field is put in a constructor -/
theorem v_putFr (G : apG Γ cc nL own Ts rm X) (hin2 : Γ.2.1.2.2.2.1.name = "<init>") {C D0 : String} {T : u_T} {N ci k index : Nat} {a : Nat} {fs : List Value} {v : Value} {ty : FieldType} (q0 : Nat) (he : w[q0]? = some (a, .inr (ci, fs))) (hc : vwCl[ci]? = some (C, T, N)) (hin : ∀ x ∈ u_ws C T N, x ∈ Ts) (ty0 : Nat → FieldType) (hty : ∀ k, k < N → parseFieldDescriptor (T k).2.2.1 = some (ty0 k)) (hnm : ∀ a, a < N → ∀ b, b < N → a ≠ b → (T a).2.1 ≠ (T b).2.1) (hk : k < N) (hl : Cond.fieldLink own index (T k).1 (T k).2.1 (T k).2.2.1 ∈ Ts) (hfin : (T k).2.2.2 = true) (hdecl : (T k).1 = own) (hd : parseFieldDescriptor (T k).2.2.1 = some ty) (hnr : narrow ty v = v) (hfit : fits ty v = true) (hkl : k < fs.length) (hdg : decode cc pc = .ok (.putfield index, 3))
    (kk : apV Γ nL (w.set q0 (a, .inr (ci, fs.set k v))) cn sn (pc + 3) L st) : apV Γ nL w cn sn pc L (v :: .ref a :: st) := fun H locs ls hH hL => by
  have T1 := G.2.2.2.2.1
  exact va_putF G.1 G.2.1 T1 hin ty0 hty hnm G.2.2.2.1 G.2.2.2.2.2.1 hH.1 hH.2.1 hH.2.2 q0 he hc k hk (T1 _ hl) (fun _ h => h) hfin hin2 hdecl hd hnr hfit hkl hdg (fun H1 locs1 hP hD hS => kk H1 locs1 ls ⟨hP, hD, hS⟩ hL)
theorem v_getW (G : apG Γ cc nL own Ts rm X) {C : String} {T : u_T} {N ci k index : Nat} {a : Nat} {fs : List Value} {v : Value} (q0 : Nat) (he : w[q0]? = some (a, .inr (ci, fs))) (hc : vwCl[ci]? = some (C, T, N)) (hin : ∀ x ∈ u_ws C T N, x ∈ Ts) (hk : k < N) (hl : Cond.fieldLink own index (T k).1 (T k).2.1 (T k).2.2.1 ∈ Ts) (hv : fs[k]? = some v) (hdg : decode cc pc = .ok (.getfield index, 3))
    (kk : apV Γ nL w cn sn (pc + 3) L (v :: st)) : apV Γ nL w cn sn pc L (.ref a :: st) := fun H locs ls hH hL => by
  have T1 := G.2.2.2.2.1
  exact va_get G.1 G.2.1 T1 hin G.2.2.2.1 G.2.2.2.2.2.1 hH.1 q0 he hc k hk (T1 _ hl) (fun _ h => h) hv hdg (kk H locs ls hH hL)
theorem v_newO (G : apG Γ cc nL own Ts rm X) {C : String} {T : u_T} {N ci index : Nat} {fs : List Value} (hc : vwCl[ci]? = some (C, T, N)) (hin : ∀ x ∈ u_ws C T N, x ∈ Ts) (ty0 : Nat → FieldType) (hty : ∀ k, k < N → parseFieldDescriptor (T k).2.2.1 = some (ty0 k)) (hl : Cond.classLink own index C ∈ Ts) (hi : Cond.instantiable C N ∈ Ts) (hini : Cond.initialized C ∈ Ts) (hfs : ∀ j, j < N → defaultValue (ty0 j) = vp_V fs j) (hcs : cn + 1 ≤ rm.cells ∧ sn + N ≤ rm.slots) (hdg : decode cc pc = .ok (.new index, 3))
    (kk : ∀ q : Nat, apV Γ nL (w ++ [(q, .inr (ci, fs))]) (cn + 1) (sn + N) (pc + 3) L (.ref q :: st)) : apV Γ nL w cn sn pc L st := fun H locs ls hH hL => by
  have T1 := G.2.2.2.2.1
  have hrm := G.2.2.2.2.2.2.1
  exact va_new G.1 G.2.1 T1 hin ty0 hty G.2.2.2.1 (T1 _ hl) (T1 _ hi) (T1 _ hini) G.2.2.2.2.2.1 hH.1 hH.2.1 hH.2.2 G.2.2.2.2.2.2.2.1 hc hfs (by rw [hrm]; exact hcs.1) (by rw [hrm]; exact hcs.2) hdg (fun q H1 hP hD hS => kk q H1 locs ls ⟨hP, hD, hS⟩ hL)
/-- new int[N][K] -/
theorem v_mnaI (G : apG Γ cc nL own Ts rm X) {N K index : Nat} {n k : Int32} (hcl : Cond.classLink own index "[[I" ∈ Ts) (hov : (Cond.arrayOver (.array .int)).before Γ.2.1.2.1 (apS Γ) = true) (harr : Cond.arrayClass .int ∈ Ts) (hn : ¬ n < 0) (hk : ¬ k < 0) (hN : n.toNatClampNeg = N) (hK : k.toNatClampNeg = K) (hb1 : N * 4 ≤ 536870912) (hb2 : K * 4 ≤ 536870912) (hcs : cn + (1 + N) ≤ rm.cells ∧ sn + (N + N * K) ≤ rm.slots) (hdg : decode cc pc = .ok (.multianewarray index 2, 4))
    (kk : ∀ (q : Nat) (r : Nat → Nat), apV Γ nL (w ++ ([(q, .inl (apd Γ 2, (N, .inr (.inr (.inr (.inr (fun i => if i < N then some (r i) else none))))))) ] ++ (List.range N).map (fun i => (r i, .inl (apd Γ 0, (K, .inl (fun _ => (0 : Int32)))))))) (cn + 1 + N) (sn + N + N * K) (pc + 4) L (.ref q :: st)) : apV Γ nL w cn sn pc L (.int k :: .int n :: st) := fun H locs ls hH hL => by
  have T1 := G.2.2.2.2.1
  have hrm := G.2.2.2.2.2.2.1
  have hKn := G.2.2.2.2.2.1
  have e2 : (apS Γ).vm.findClass ("[" ++ (FieldType.int).toString) = some (apd Γ 0) := (hKn.2 0 (apd Γ 0, .int) rfl).2
  refine va_mna (X := w) (L := []) (f := fun _ => .inl (apd Γ 0, (K, .inl (fun _ => (0 : Int32))))) (ty := .int) (cy := apd Γ 0) (D := apD Γ) (cl := vwCl) (tys := apT (apd Γ)) (z := (K, .inl (fun _ => (0 : Int32)))) G.1 G.2.1 G.2.2.2.1 (T1 _ hcl) hov (T1 _ harr) e2 hKn (by rw [show w ++ va_pl [] _ = w from List.append_nil w]; exact hH.1) (by rw [show w ++ va_pl [] _ = w from List.append_nil w]; exact hH.2.1) hH.2.2 G.2.2.2.2.2.2.2.1 hn hk hN hK hb1 hb2 (by omega) rfl rfl (by rw [hrm]; exact hcs.1) (by rw [hrm]; exact hcs.2) (fun c => by show ({ cls := c, slots := Array.replicate K (.int 0), vm := .none } : Cell) = _; rw [arrV_new]; rfl) hdg (fun q r cA H1 _ _ hK2 hP hD hS => ?_)
  have f1 : (apS Γ).vm.findClass ("[" ++ (FieldType.array .int).toString) = some cA := (hK2.2 4 (cA, .array .int) rfl).2
  have f2 : (apS Γ).vm.findClass ("[" ++ (FieldType.array .int).toString) = some (apd Γ 2) := (hKn.2 2 (apd Γ 2, .array .int) rfl).2
  have e : cA = apd Γ 2 := Option.some.inj (f1.symm.trans f2)
  subst e
  rw [vr_all, List.append_assoc, List.map_map] at hP hD
  exact kk q r H1 locs ls ⟨hP, hD, hS⟩ hL
end APN
