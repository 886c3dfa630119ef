/-! ===== the cells of the class and of the model; what else is known of a start ===== -/
def layC : List apK := [.inl (8, [some 1, some 2, some 3, some 4, some 5, some 6, none, none, none]), .inl (3, [some 7, some 8, some 9, some 10, some 11, some 12, none]), .inl (7, [some 1, some 13, some 14, some 15, none]), .inl (6, [some 1, some 16, some 17, some 18, some 19, some 20, some 21, some 22, some 23, none, none, none]), .inl (5, [some 3, some 24, some 25, none]), .inl (2, [some 1, some 3, some 4, some 26]), .inl (4, [some 3, some 27]), .inr (.inl (0, 12)), .inr (.inl (0, 12)), .inr (.inl (0, 12)), .inr (.inr (2, 12, 29)), .inr (.inr (2, 12, 41)), .inr (.inl (1, 12)), .inr (.inl (0, 12)), .inr (.inl (0, 12)), .inr (.inl (0, 12)), .inr (.inl (0, 12)), .inr (.inl (0, 12)), .inr (.inl (0, 12)), .inr (.inl (0, 12)), .inr (.inl (0, 12)), .inr (.inl (0, 12)), .inr (.inl (0, 12)), .inr (.inl (0, 12)), .inr (.inl (0, 12)), .inr (.inl (0, 12)), .inr (.inl (0, 480)), .inr (.inl (0, 4096)), .inr (.inl (3, 1)), .inr (.inl (0, 16)), .inr (.inl (0, 16)), .inr (.inl (0, 16)), .inr (.inl (0, 16)), .inr (.inl (0, 16)), .inr (.inl (0, 16)), .inr (.inl (0, 16)), .inr (.inl (0, 16)), .inr (.inl (0, 16)), .inr (.inl (0, 16)), .inr (.inl (0, 16)), .inr (.inl (0, 16)), .inr (.inl (0, 2)), .inr (.inl (0, 2)), .inr (.inl (0, 2)), .inr (.inl (0, 2)), .inr (.inl (0, 2)), .inr (.inl (0, 2)), .inr (.inl (0, 2)), .inr (.inl (0, 2)), .inr (.inl (0, 2)), .inr (.inl (0, 2)), .inr (.inl (0, 2)), .inr (.inl (0, 2))]
def layM : List apK := [.inl (9, [none, none, some 1, some 2, some 3, some 4, some 5, some 6, some 7, none, some 8, none, none, some 9, some 10, some 11, some 12, some 13, some 14, none, none, none, some 15, some 16, some 17, none, some 18, none, some 19, some 20]), .inr (.inl (0, 12)), .inr (.inl (0, 12)), .inr (.inl (0, 12)), .inr (.inl (0, 24)), .inr (.inl (1, 12)), .inr (.inl (0, 192)), .inr (.inl (0, 12)), .inr (.inl (0, 12)), .inr (.inl (0, 12)), .inr (.inl (0, 12)), .inr (.inl (0, 12)), .inr (.inl (0, 12)), .inr (.inl (0, 12)), .inr (.inl (0, 12)), .inr (.inl (0, 12)), .inr (.inl (1, 12)), .inr (.inl (0, 24)), .inr (.inl (0, 4096)), .inr (.inl (0, 480)), .inr (.inl (0, 480))]
theorem layR_29 {j : Nat} {i : Int32} (h : rix 12 i = some j) : layC[29 + j]? = some (.inr (.inl (0, 16))) := by
  obtain ⟨-, -, h⟩ := rix_some h
  rcases (show j = 0 ∨ j = 1 ∨ j = 2 ∨ j = 3 ∨ j = 4 ∨ j = 5 ∨ j = 6 ∨ j = 7 ∨ j = 8 ∨ j = 9 ∨ j = 10 ∨ j = 11 by omega) with rfl | rfl | rfl | rfl | rfl | rfl | rfl | rfl | rfl | rfl | rfl | rfl <;> rfl
theorem layR_41 {j : Nat} {i : Int32} (h : rix 12 i = some j) : layC[41 + j]? = some (.inr (.inl (0, 2))) := by
  obtain ⟨-, -, h⟩ := rix_some h
  rcases (show j = 0 ∨ j = 1 ∨ j = 2 ∨ j = 3 ∨ j = 4 ∨ j = 5 ∨ j = 6 ∨ j = 7 ∨ j = 8 ∨ j = 9 ∨ j = 10 ∨ j = 11 by omega) with rfl | rfl | rfl | rfl | rfl | rfl | rfl | rfl | rfl | rfl | rfl | rfl <;> rfl
def apXM : (Nat → Prop) → State → Prop := fun _ _ => True
theorem apXMok : apXok apXM := ⟨fun _ _ _ _ _ _ => trivial, fun _ _ _ _ _ _ _ _ => trivial⟩
/-- the links to private members of nest mates -/
def apNest : List (String × Nat × MethodName) := [(RX1, 37, yX6_isWithin), (RX1, 54, yX6_setOf), (RX2, 42, yX6_contains), (RX2, 49, yX6_isPartOf), (RX2, 52, yX6_setOf), (RX4, 83, yX6_contains), (RX4, 87, yX6_setOf), (RX4, 138, yX6_isPartOf), (RX5, 37, yX6_contains), (RX6, 9, yX1_init)]
def apStr : List (Nat × String) := [(63, "no such operation, p or q"), (74, "there are twelve nodes"), (122, "the ring has no such node"), (128, "no such way"), (134, "no node, or an input is not wired"), (138, "a node is in a ring"), (146, "sizes do not fit"), (212, "no such node is kept"), (214, "there is no plan"), (216, "the plan was not run"), (220, "no such index")]
def apIn : Nat → Int32 := fun n => match n with | 0 => 0 | 1 => 1 | 2 => 2 | 3 => 2 | 4 => 2 | 5 => 1 | 6 => 1 | _ => 1
def ain (i : Int32) : Option Int32 := if 0 ≤ i ∧ i.toNatClampNeg < 8 then some (apIn i.toNatClampNeg) else none
theorem ain_some {i v : Int32} (h : ain i = some v) : vp_in i 8 ∧ apIn i.toNatClampNeg = v := by
  unfold ain at h
  split at h
  · next c => exact ⟨ix_in c, Option.some.inj h⟩
  · cases h
/-- the static row of inputs -/
def apI (t : Nat) (A : Nat → Prop) (U : State) (H : Heap) : Prop := va_Z "ArenaPlan" "INPUTS" "[I" (.ref t) A U H ∧ va_T .int t 8 (fun j => .int (apIn j)) A U H
def apDcl : List MethodName := [Bundle.initS "java/lang/RuntimeException", Bundle.initS "java/lang/Exception", Bundle.initS Bundle.tN]
def apExc : List String := ["java/lang/IllegalStateException", "java/lang/IllegalArgumentException", "java/lang/IndexOutOfBoundsException", "java/lang/ArithmeticException", "java/lang/UnsupportedOperationException", "java/util/NoSuchElementException"]
def apOth : List Cond := apDcl.map Cond.declares ++ apExc.map (fun c => Cond.castable c c)
def apXC : (Nat → Prop) → State → Prop := fun A U =>
  (∀ z ∈ apNest, va_Nw (.methodLinkNest z.1 z.2.1 z.2.2 "ArenaPlan") U) ∧ va_Nw (.fieldLinkNest RX1 41 "ArenaPlan" "INPUTS" "[I" "ArenaPlan") U ∧ (∃ t, apI t A U U.heap) ∧
  vx_Zq Bundle.tN "UNASSIGNED_STACK" Bundle.steD A U U.heap ∧ vx_Zq Bundle.tN "SUPPRESSED_SENTINEL" Bundle.listD A U U.heap ∧ (∀ z ∈ apStr, ∃ a, vk_R RX6 z.1 z.2 a U) ∧ (∀ y ∈ apDcl, va_Nw (.declares y) U) ∧ ∀ c ∈ apExc, va_Nw (.castable c c) U
theorem apXCok : apXok apXC := by
  refine ⟨fun A U g mk a h => ?_, fun A A1 s U h hW hk hA => ?_⟩
  · obtain ⟨h1, h2, ⟨t, h3⟩, h4, h5, h6, h7, h8⟩ := h
    have al : U.vm.Alike (U.calling g mk a).vm := Vm.Alike.refl U.vm
    exact ⟨fun z hz => va_Nw.same rfl rfl (h1 z hz), va_Nw.same rfl rfl h2, ⟨t, va_Z.moved al h3.1, va_T.moved al h3.2⟩, vx_Zq.moved al h4, vx_Zq.moved al h5, fun z hz => (h6 z hz).elim (fun a ha => ⟨a, vk_R.same rfl ha⟩), fun y hy => va_Nw.same rfl rfl (h7 y hy), fun c hc => va_Nw.same rfl rfl (h8 c hc)⟩
  · obtain ⟨h1, h2, ⟨t, h3⟩, h4, h5, h6, h7, h8⟩ := h
    have al := hW.alike
    exact ⟨fun z hz => va_Nw.warmM hW (h1 z hz), va_Nw.warmF hW h2, ⟨t, va_Z.narrow (va_Z.moved al (h3.1.kept hk)) hA, va_T.narrow (va_T.moved al (h3.2.kept hk)) hA⟩, vx_Zq.narrow (vx_Zq.moved al (h4.kept hk)) hA, vx_Zq.narrow (vx_Zq.moved al (h5.kept hk)) hA, fun z hz => (h6 z hz).elim (fun a ha => ⟨a, vk_R.warm hW ha⟩), fun y hy => va_Nw.warmD hW (h7 y hy), fun c hc => va_Nw.warmC hW (h8 c hc)⟩
theorem apOth_of {A : Nat → Prop} {U : State} {a : Array Value} (h : apXC A U) : ∀ w ∈ apOth, w.before a U = true := by
  intro w hw
  obtain ⟨-, -, -, -, -, -, h7, h8⟩ := h
  rcases List.mem_append.mp hw with hw | hw
  · obtain ⟨y, hy, rfl⟩ := List.mem_map.mp hw
    exact va_Nw.use rfl (h7 y hy)
  · obtain ⟨c, hc, rfl⟩ := List.mem_map.mp hw
    exact va_Nw.use rfl (h8 c hc)
section APS
variable {Γ : apC} {cc : ByteArray} {nL : Nat} {own : String} {Ts : List Cond} {rm : Room} {w : va_W} {cn sn pc : Nat} {L : List (Nat × Value)} {st : List Value}
theorem apNest_in (G : apG Γ cc nL own Ts rm apXC) {x : String} {i : Nat} {y : MethodName} (h : (x, i, y) ∈ apNest) : va_Nw (.methodLinkNest x i y "ArenaPlan") (apS Γ) := G.2.2.2.2.2.2.2.2.1.1 _ h
theorem v_sget (G : apG Γ cc nL own Ts rm apXC) {index : Nat} (hl : Cond.fieldLink own index "ArenaPlan" "INPUTS" "[I" ∈ Ts) (hd : decode cc pc = .ok (.getstatic index, 3))
    (kk : ∀ t, apI t (apA Γ) (apS Γ) (apS Γ).heap → apV Γ nL w cn sn (pc + 3) L (.ref t :: st)) : apV Γ nL w cn sn pc L st := fun H locs ls hH hL => by
  obtain ⟨t, ht⟩ := G.2.2.2.2.2.2.2.2.1.2.2.1
  exact va_gets G.1 G.2.1 ht.1 hH.2.2 G.2.2.2.1 (G.2.2.2.2.1 _ hl) (fun x h => h) hd (kk t ht H locs ls hH hL)
theorem v_sgetN (G : apG Γ cc nL RX1 Ts rm apXC) (hd : decode cc pc = .ok (.getstatic 41, 3))
    (kk : ∀ t, apI t (apA Γ) (apS Γ) (apS Γ).heap → apV Γ nL w cn sn (pc + 3) L (.ref t :: st)) : apV Γ nL w cn sn pc L st := fun H locs ls hH hL => by
  obtain ⟨t, ht⟩ := G.2.2.2.2.2.2.2.2.1.2.2.1
  exact va_getsN G.1 G.2.1 ht.1 hH.2.2 G.2.2.2.1 (va_Nw.use rfl G.2.2.2.2.2.2.2.2.1.2.1) (fun x h => h) hd (kk t ht H locs ls hH hL)
theorem v_sild {X : (Nat → Prop) → State → Prop} (G : apG Γ cc nL own Ts rm X) {t : Nat} {i v : Int32} (ht : apI t (apA Γ) (apS Γ) (apS Γ).heap) (hv : ain i = some v) (hd : decode cc pc = .ok (.iaload, 1))
    (kk : apV Γ nL w cn sn (pc + 1) L (.int v :: st)) : apV Γ nL w cn sn pc L (.int i :: .ref t :: st) := fun H locs ls hH hL => by
  obtain ⟨h1, h2⟩ := ain_some hv
  exact va_ti G.1 G.2.1 ht.2 hH.2.2 h1 (by rw [h2]) hd (kk H locs ls hH hL)
theorem v_slen {X : (Nat → Prop) → State → Prop} (G : apG Γ cc nL own Ts rm X) {t : Nat} (ht : apI t (apA Γ) (apS Γ) (apS Γ).heap) (hd : decode cc pc = .ok (.arraylength, 1))
    (kk : apV Γ nL w cn sn (pc + 1) L (.int 8 :: st)) : apV Γ nL w cn sn pc L (.ref t :: st) := fun H locs ls hH hL => va_tlen G.1 G.2.1 ht.2 hH.2.2 rfl hd (kk H locs ls hH hL)
theorem v_tableI {X : (Nat → Prop) → State → Prop} (G : apG Γ cc nL own Ts rm X) {dflt lo hi : Int} {offs : Array Int} {len tgt : Nat} {x c : Int32} {off : Int} (hd : decode cc pc = .ok (.tableswitch dflt lo hi offs, len)) (hx : x = c) (h1 : ¬ c.toInt < lo) (h2 : ¬ hi < c.toInt) (ho : offs[(c.toInt - lo).toNat]? = some off) (ht : (pc : Int) + off = (tgt : Int))
    (kk : apV Γ nL w cn sn tgt L st) : apV Γ nL w cn sn pc L (.int x :: st) := by
  subst hx
  exact v_tableIn G hd h1 h2 ho ht kk
theorem v_lookupI {X : (Nat → Prop) → State → Prop} (G : apG Γ cc nL own Ts rm X) {dflt : Int} {ps : Array (Int × Int)} {len tgt : Nat} {x c : Int32} {off : Int} (hd : decode cc pc = .ok (.lookupswitch dflt ps, len)) (hx : x = c) (hp : (ps.toList.zip (ps.toList.drop 1)).all (fun (a, next) => a.1 < next.1) = true) (ho : Op.lookupswitch.offset ps.toList dflt c.toInt = off) (ht : (pc : Int) + off = (tgt : Int))
    (kk : apV Γ nL w cn sn tgt L st) : apV Γ nL w cn sn pc L (.int x :: st) := by
  subst hx
  exact v_lookup G hd hp ho ht kk
end APS
/-- Arrays.fill -/
theorem w_fill {Γ : apC} {q : Nat → Nat} {lay : List apK} {X : (Nat → Prop) → State → Prop} {k n : Nat} {v : Int32} {s : apM} (G : apG Γ cJ7_fill_53178 4 RJ7 wsJ7_fill_53178 (apRm 0 0) X) (hk : lay[k]? = some (.inr (.inl (0, n)))) (hn : n < 2 ^ 31) (K : apR Γ cJ7_fill_53178 0 0 none (apU lay q (apd Γ) (mfl s k v n))) :
    ∀ (z i : Nat), i + z = n → apV Γ 4 (apU lay q (apd Γ) (mfl s k v i)) 0 0 5 [(0, .ref (q k)), (1, .int v), (2, .int (nI i)), (3, .int (nI n))] [] := by
  intro z
  induction z with
  | zero =>
    intro i hi
    have hi : i = n := by omega
    subst hi
    refine v_iload_n G dJ7_fill_53178_5 rfl 2 rfl ?_
    refine v_iload_n G dJ7_fill_53178_6 rfl 3 rfl ?_
    refine v_icmp_ge (tgt := 20) G dJ7_fill_53178_7 (by decide) (fun c => ?_) (fun c => absurd (nI_le (Nat.le_refl _) hn) c)
    exact v_vret G K (by decide) (by decide) dJ7_fill_53178_20
  | succ z ih =>
    intro i hi
    refine v_iload_n G dJ7_fill_53178_5 rfl 2 rfl ?_
    refine v_iload_n G dJ7_fill_53178_6 rfl 3 rfl ?_
    refine v_icmp_ge (tgt := 20) G dJ7_fill_53178_7 (by decide) (fun c => absurd c (nI_ge (by omega) hn)) (fun c => ?_)
    refine v_aload_n G dJ7_fill_53178_10 rfl 0 rfl ?_
    refine v_iload_n G dJ7_fill_53178_11 rfl 2 rfl ?_
    refine v_iload_n G dJ7_fill_53178_12 rfl 1 rfl ?_
    have hc : (nI i).toNatClampNeg = i := nI_clamp (by omega)
    refine v_iast (lay := lay) (k := k) (n := n) (σ' := mfl s k v (i + 1)) G hk (by
      unfold ast
      rw [if_pos ⟨nI_pos' (by omega), by rw [hc]; omega⟩, hc]
      rfl) dJ7_fill_53178_13 ?_
    refine v_iinc (v := nI (i + 1)) (L' := [(2, .int (nI (i + 1))), (0, .ref (q k)), (1, .int v), (3, .int (nI n))]) G dJ7_fill_53178_14 2 rfl (by rw [nI_succ]; rfl) (by decide) rfl ?_
    refine v_goto (tgt := 5) G dJ7_fill_53178_17 (by decide) ?_
    refine v_locs (L' := [(0, .ref (q k)), (1, .int v), (2, .int (nI (i + 1))), (3, .int (nI n))]) [1, 2, 0, 3] rfl ?_
    exact ih (i + 1) (by omega)
theorem c_fill (l : Launch) {lay : List apK} {X : (Nat → Prop) → State → Prop} {k n : Nat} {v : Int32} {s : apM} (hk : lay[k]? = some (.inr (.inl (0, n)))) (hn : n < 2 ^ 31) : apMv l lay X yJ7_fill_53178 wsJ7_fill_53178 0 (fun q => [.ref (q k), .int v]) s (mfl s k v n) := by
  refine apMv_of (cc := cJ7_fill_53178) (nL := 4) (by decide) rfl (fun _ => Nat.le_of_ble_eq_true rfl) (fun Γ q hl G K => ?_)
  refine v_iconst (v := 0) G dJ7_fill_53178_0 (by decide) ?_
  refine v_istore_n (L' := [(2, .int 0), (0, .ref (q k)), (1, .int v)]) G dJ7_fill_53178_1 rfl (by decide) rfl ?_
  refine v_aload_n G dJ7_fill_53178_2 rfl 1 rfl ?_
  refine v_alen (lay := lay) (k := k) (n := n) (t := 0) (v := nI n) G (by decide) hk rfl dJ7_fill_53178_3 ?_
  refine v_istore_n (L' := [(3, .int (nI n)), (2, .int 0), (0, .ref (q k)), (1, .int v)]) G dJ7_fill_53178_4 rfl (by decide) rfl ?_
  refine v_locs (L' := [(0, .ref (q k)), (1, .int v), (2, .int (nI 0)), (3, .int (nI n))]) [2, 3, 1, 0] rfl ?_
  exact w_fill G hk hn K n 0 (by omega)
