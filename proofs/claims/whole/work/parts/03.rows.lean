/-! ===== the rows of apV, an instruction a row ===== -/
section APR
variable {Γ : apC} {cc : ByteArray} {nL : Nat} {own : String} {Ts : List Cond} {rm : Room} {X : (Nat → Prop) → State → Prop} {w : va_W} {cn sn pc : Nat} {L L' : List (Nat × Value)} {st : List Value}
theorem v_iconst (G : apG Γ cc nL own Ts rm X) {n : Int} {v : Int32} (hd : decode cc pc = .ok (.iconst n, 1)) (hv : Int32.ofInt n = v) (kk : apV Γ nL w cn sn (pc + 1) L (.int v :: st)) : apV Γ nL w cn sn pc L st := fun H locs ls hH hL => lv_iconst G.1 G.2.1 hd hv (kk H locs ls hH hL)
theorem v_bipush (G : apG Γ cc nL own Ts rm X) {n : Int} {v : Int32} (hd : decode cc pc = .ok (.bipush n, 2)) (hv : (Int8.ofInt n).toInt32 = v) (kk : apV Γ nL w cn sn (pc + 2) L (.int v :: st)) : apV Γ nL w cn sn pc L st := fun H locs ls hH hL => lv_bipush G.1 G.2.1 hd hv (kk H locs ls hH hL)
theorem v_sipush (G : apG Γ cc nL own Ts rm X) {n : Int} {v : Int32} (hd : decode cc pc = .ok (.sipush n, 3)) (hv : (Int16.ofInt n).toInt32 = v) (kk : apV Γ nL w cn sn (pc + 3) L (.int v :: st)) : apV Γ nL w cn sn pc L st := fun H locs ls hH hL => lv_sipush G.1 G.2.1 hd hv (kk H locs ls hH hL)
theorem v_iload_n (G : apG Γ cc nL own Ts rm X) {k : Fin 4} {i : Nat} {x : Int32} (hd : decode cc pc = .ok (.iload_n k, 1)) (hi : (k : Nat) = i) (j : Nat) (hl : L[j]? = some (i, .int x)) (kk : apV Γ nL w cn sn (pc + 1) L (.int x :: st)) : apV Γ nL w cn sn pc L st := fun H locs ls hH hL => lv_iload_n G.1 G.2.1 hd hi (lv_at hL j hl) (kk H locs ls hH hL)
theorem v_iload (G : apG Γ cc nL own Ts rm X) {i : Nat} {x : Int32} (hd : decode cc pc = .ok (.iload i, 2)) (j : Nat) (hl : L[j]? = some (i, .int x)) (kk : apV Γ nL w cn sn (pc + 2) L (.int x :: st)) : apV Γ nL w cn sn pc L st := fun H locs ls hH hL => lv_iload G.1 G.2.1 hd (lv_at hL j hl) (kk H locs ls hH hL)
theorem v_aload_n (G : apG Γ cc nL own Ts rm X) {k : Fin 4} {i x : Nat} (hd : decode cc pc = .ok (.aload_n k, 1)) (hi : (k : Nat) = i) (j : Nat) (hl : L[j]? = some (i, .ref x)) (kk : apV Γ nL w cn sn (pc + 1) L (.ref x :: st)) : apV Γ nL w cn sn pc L st := fun H locs ls hH hL => lv_aload_n G.1 G.2.1 hd hi (lv_at hL j hl) (kk H locs ls hH hL)
theorem v_aload (G : apG Γ cc nL own Ts rm X) {i x : Nat} (hd : decode cc pc = .ok (.aload i, 2)) (j : Nat) (hl : L[j]? = some (i, .ref x)) (kk : apV Γ nL w cn sn (pc + 2) L (.ref x :: st)) : apV Γ nL w cn sn pc L st := fun H locs ls hH hL => lv_aload G.1 G.2.1 hd (lv_at hL j hl) (kk H locs ls hH hL)
theorem v_istore_n (G : apG Γ cc nL own Ts rm X) {k : Fin 4} {i : Nat} {x : Int32} (hd : decode cc pc = .ok (.istore_n k, 1)) (hi : (k : Nat) = i) (hn : i < nL) (hl : (i, Value.int x) :: L.filter (fun q => !(q.1 == i) && !(q.1 + 1 == i && q.2.category == 2)) = L') (kk : apV Γ nL w cn sn (pc + 1) L' st) : apV Γ nL w cn sn pc L (.int x :: st) := fun H locs ls hH hL => lv_istore_n G.1 G.2.1 hd hi hL hn hl (fun ls' hL' => kk H locs ls' hH hL')
theorem v_istore (G : apG Γ cc nL own Ts rm X) {i : Nat} {x : Int32} (hd : decode cc pc = .ok (.istore i, 2)) (hn : i < nL) (hl : (i, Value.int x) :: L.filter (fun q => !(q.1 == i) && !(q.1 + 1 == i && q.2.category == 2)) = L') (kk : apV Γ nL w cn sn (pc + 2) L' st) : apV Γ nL w cn sn pc L (.int x :: st) := fun H locs ls hH hL => lv_istore G.1 G.2.1 hd hL hn hl (fun ls' hL' => kk H locs ls' hH hL')
theorem v_astore_n (G : apG Γ cc nL own Ts rm X) {k : Fin 4} {i x : Nat} (hd : decode cc pc = .ok (.astore_n k, 1)) (hi : (k : Nat) = i) (hn : i < nL) (hl : (i, Value.ref x) :: L.filter (fun q => !(q.1 == i) && !(q.1 + 1 == i && q.2.category == 2)) = L') (kk : apV Γ nL w cn sn (pc + 1) L' st) : apV Γ nL w cn sn pc L (.ref x :: st) := fun H locs ls hH hL => lv_astore_n G.1 G.2.1 hd hi hL hn hl (fun ls' hL' => kk H locs ls' hH hL')
theorem v_astore (G : apG Γ cc nL own Ts rm X) {i x : Nat} (hd : decode cc pc = .ok (.astore i, 2)) (hn : i < nL) (hl : (i, Value.ref x) :: L.filter (fun q => !(q.1 == i) && !(q.1 + 1 == i && q.2.category == 2)) = L') (kk : apV Γ nL w cn sn (pc + 2) L' st) : apV Γ nL w cn sn pc L (.ref x :: st) := fun H locs ls hH hL => lv_astore G.1 G.2.1 hd hL hn hl (fun ls' hL' => kk H locs ls' hH hL')
theorem v_iinc (G : apG Γ cc nL own Ts rm X) {i : Nat} {n : Int} {x v : Int32} (hd : decode cc pc = .ok (.iinc i n, 3)) (j : Nat) (hj : L[j]? = some (i, .int x)) (hv : x + Int32.ofInt n = v) (hn : i < nL) (hl : (i, Value.int v) :: L.filter (fun q => !(q.1 == i) && !(q.1 + 1 == i && q.2.category == 2)) = L') (kk : apV Γ nL w cn sn (pc + 3) L' st) : apV Γ nL w cn sn pc L st := fun H locs ls hH hL => lv_iinc G.1 G.2.1 hd hL hj hv hn hl (fun ls' hL' => kk H locs ls' hH hL')
theorem v_iadd (G : apG Γ cc nL own Ts rm X) {x y : Int32} (hd : decode cc pc = .ok (.iadd, 1)) (kk : apV Γ nL w cn sn (pc + 1) L (.int (x + y) :: st)) : apV Γ nL w cn sn pc L (.int y :: .int x :: st) := fun H locs ls hH hL => lv_iadd G.1 G.2.1 hd (kk H locs ls hH hL)
theorem v_isub (G : apG Γ cc nL own Ts rm X) {x y : Int32} (hd : decode cc pc = .ok (.isub, 1)) (kk : apV Γ nL w cn sn (pc + 1) L (.int (x - y) :: st)) : apV Γ nL w cn sn pc L (.int y :: .int x :: st) := fun H locs ls hH hL => lv_isub G.1 G.2.1 hd (kk H locs ls hH hL)
theorem v_imul (G : apG Γ cc nL own Ts rm X) {x y : Int32} (hd : decode cc pc = .ok (.imul, 1)) (kk : apV Γ nL w cn sn (pc + 1) L (.int (x * y) :: st)) : apV Γ nL w cn sn pc L (.int y :: .int x :: st) := fun H locs ls hH hL => lv_imul G.1 G.2.1 hd (kk H locs ls hH hL)
theorem v_iand (G : apG Γ cc nL own Ts rm X) {x y : Int32} (hd : decode cc pc = .ok (.iand, 1)) (kk : apV Γ nL w cn sn (pc + 1) L (.int (x &&& y) :: st)) : apV Γ nL w cn sn pc L (.int y :: .int x :: st) := fun H locs ls hH hL => lv_iand G.1 G.2.1 hd (kk H locs ls hH hL)
theorem v_ior (G : apG Γ cc nL own Ts rm X) {x y : Int32} (hd : decode cc pc = .ok (.ior, 1)) (kk : apV Γ nL w cn sn (pc + 1) L (.int (x ||| y) :: st)) : apV Γ nL w cn sn pc L (.int y :: .int x :: st) := fun H locs ls hH hL => lv_ior G.1 G.2.1 hd (kk H locs ls hH hL)
theorem v_ixor (G : apG Γ cc nL own Ts rm X) {x y : Int32} (hd : decode cc pc = .ok (.ixor, 1)) (kk : apV Γ nL w cn sn (pc + 1) L (.int (x ^^^ y) :: st)) : apV Γ nL w cn sn pc L (.int y :: .int x :: st) := fun H locs ls hH hL => lv_ixor G.1 G.2.1 hd (kk H locs ls hH hL)
theorem v_ishl (G : apG Γ cc nL own Ts rm X) {x y : Int32} (hd : decode cc pc = .ok (.ishl, 1)) (kk : apV Γ nL w cn sn (pc + 1) L (.int (x <<< (y &&& 31)) :: st)) : apV Γ nL w cn sn pc L (.int y :: .int x :: st) := fun H locs ls hH hL => lv_ishl G.1 G.2.1 hd (kk H locs ls hH hL)
theorem v_ishr (G : apG Γ cc nL own Ts rm X) {x y : Int32} (hd : decode cc pc = .ok (.ishr, 1)) (kk : apV Γ nL w cn sn (pc + 1) L (.int (x >>> (y &&& 31)) :: st)) : apV Γ nL w cn sn pc L (.int y :: .int x :: st) := fun H locs ls hH hL => lv_ishr G.1 G.2.1 hd (kk H locs ls hH hL)
theorem v_idiv (G : apG Γ cc nL own Ts rm X) {x y : Int32} (hd : decode cc pc = .ok (.idiv, 1)) (hne : ¬ y = 0) (kk : apV Γ nL w cn sn (pc + 1) L (.int (x / y) :: st)) : apV Γ nL w cn sn pc L (.int y :: .int x :: st) := fun H locs ls hH hL => lv_idiv G.1 G.2.1 hd hne (kk H locs ls hH hL)
theorem v_ineg (G : apG Γ cc nL own Ts rm X) {x : Int32} (hd : decode cc pc = .ok (.ineg, 1)) (kk : apV Γ nL w cn sn (pc + 1) L (.int (-x) :: st)) : apV Γ nL w cn sn pc L (.int x :: st) := fun H locs ls hH hL => lv_ineg G.1 G.2.1 hd (kk H locs ls hH hL)
theorem v_dup (G : apG Γ cc nL own Ts rm X) {a : Value} (hd : decode cc pc = .ok (.dup, 1)) (ha : a.category = 1) (kk : apV Γ nL w cn sn (pc + 1) L (a :: a :: st)) : apV Γ nL w cn sn pc L (a :: st) := fun H locs ls hH hL => lv_dup G.1 G.2.1 hd ha (kk H locs ls hH hL)
theorem v_dup2 (G : apG Γ cc nL own Ts rm X) {a b : Value} (hd : decode cc pc = .ok (.dup2, 1)) (ha : a.category = 1) (hb : b.category = 1) (kk : apV Γ nL w cn sn (pc + 1) L (a :: b :: a :: b :: st)) : apV Γ nL w cn sn pc L (a :: b :: st) := fun H locs ls hH hL => lv_dup2_11 G.1 G.2.1 hd ha hb (kk H locs ls hH hL)
theorem v_pop (G : apG Γ cc nL own Ts rm X) {a : Value} (hd : decode cc pc = .ok (.pop, 1)) (ha : a.category = 1) (kk : apV Γ nL w cn sn (pc + 1) L st) : apV Γ nL w cn sn pc L (a :: st) := fun H locs ls hH hL => lv_pop G.1 G.2.1 hd ha (kk H locs ls hH hL)
theorem v_goto (G : apG Γ cc nL own Ts rm X) {off : Int} {tgt : Nat} (hd : decode cc pc = .ok (.goto off, 3)) (ht : (pc : Int) + off = (tgt : Int)) (kk : apV Γ nL w cn sn tgt L st) : apV Γ nL w cn sn pc L st := fun H locs ls hH hL => lv_goto G.1 G.2.1 hd ht (kk H locs ls hH hL)
theorem v_if_eq (G : apG Γ cc nL own Ts rm X) {x : Int32} {off : Int} {tgt : Nat} (hd : decode cc pc = .ok (.ifCond .eq off, 3)) (ht : (pc : Int) + off = (tgt : Int)) (kt : x = 0 → apV Γ nL w cn sn tgt L st) (kf : ¬ x = 0 → apV Γ nL w cn sn (pc + 3) L st) : apV Γ nL w cn sn pc L (.int x :: st) := fun H locs ls hH hL => lv_if_eq G.1 G.2.1 hd ht (fun c9 => kt c9 H locs ls hH hL) (fun c9 => kf c9 H locs ls hH hL)
theorem v_icmp_eq (G : apG Γ cc nL own Ts rm X) {x y : Int32} {off : Int} {tgt : Nat} (hd : decode cc pc = .ok (.if_icmp .eq off, 3)) (ht : (pc : Int) + off = (tgt : Int)) (kt : x = y → apV Γ nL w cn sn tgt L st) (kf : ¬ x = y → apV Γ nL w cn sn (pc + 3) L st) : apV Γ nL w cn sn pc L (.int y :: .int x :: st) := fun H locs ls hH hL => lv_icmp_eq G.1 G.2.1 hd ht (fun c9 => kt c9 H locs ls hH hL) (fun c9 => kf c9 H locs ls hH hL)
theorem v_if_ne (G : apG Γ cc nL own Ts rm X) {x : Int32} {off : Int} {tgt : Nat} (hd : decode cc pc = .ok (.ifCond .ne off, 3)) (ht : (pc : Int) + off = (tgt : Int)) (kt : ¬ x = 0 → apV Γ nL w cn sn tgt L st) (kf : x = 0 → apV Γ nL w cn sn (pc + 3) L st) : apV Γ nL w cn sn pc L (.int x :: st) := fun H locs ls hH hL => lv_if_ne G.1 G.2.1 hd ht (fun c9 => kt c9 H locs ls hH hL) (fun c9 => kf c9 H locs ls hH hL)
theorem v_icmp_ne (G : apG Γ cc nL own Ts rm X) {x y : Int32} {off : Int} {tgt : Nat} (hd : decode cc pc = .ok (.if_icmp .ne off, 3)) (ht : (pc : Int) + off = (tgt : Int)) (kt : ¬ x = y → apV Γ nL w cn sn tgt L st) (kf : x = y → apV Γ nL w cn sn (pc + 3) L st) : apV Γ nL w cn sn pc L (.int y :: .int x :: st) := fun H locs ls hH hL => lv_icmp_ne G.1 G.2.1 hd ht (fun c9 => kt c9 H locs ls hH hL) (fun c9 => kf c9 H locs ls hH hL)
theorem v_if_lt (G : apG Γ cc nL own Ts rm X) {x : Int32} {off : Int} {tgt : Nat} (hd : decode cc pc = .ok (.ifCond .lt off, 3)) (ht : (pc : Int) + off = (tgt : Int)) (kt : x < 0 → apV Γ nL w cn sn tgt L st) (kf : ¬ x < 0 → apV Γ nL w cn sn (pc + 3) L st) : apV Γ nL w cn sn pc L (.int x :: st) := fun H locs ls hH hL => lv_if_lt G.1 G.2.1 hd ht (fun c9 => kt c9 H locs ls hH hL) (fun c9 => kf c9 H locs ls hH hL)
theorem v_icmp_lt (G : apG Γ cc nL own Ts rm X) {x y : Int32} {off : Int} {tgt : Nat} (hd : decode cc pc = .ok (.if_icmp .lt off, 3)) (ht : (pc : Int) + off = (tgt : Int)) (kt : x < y → apV Γ nL w cn sn tgt L st) (kf : ¬ x < y → apV Γ nL w cn sn (pc + 3) L st) : apV Γ nL w cn sn pc L (.int y :: .int x :: st) := fun H locs ls hH hL => lv_icmp_lt G.1 G.2.1 hd ht (fun c9 => kt c9 H locs ls hH hL) (fun c9 => kf c9 H locs ls hH hL)
theorem v_if_ge (G : apG Γ cc nL own Ts rm X) {x : Int32} {off : Int} {tgt : Nat} (hd : decode cc pc = .ok (.ifCond .ge off, 3)) (ht : (pc : Int) + off = (tgt : Int)) (kt : 0 ≤ x → apV Γ nL w cn sn tgt L st) (kf : ¬ 0 ≤ x → apV Γ nL w cn sn (pc + 3) L st) : apV Γ nL w cn sn pc L (.int x :: st) := fun H locs ls hH hL => lv_if_ge G.1 G.2.1 hd ht (fun c9 => kt c9 H locs ls hH hL) (fun c9 => kf c9 H locs ls hH hL)
theorem v_icmp_ge (G : apG Γ cc nL own Ts rm X) {x y : Int32} {off : Int} {tgt : Nat} (hd : decode cc pc = .ok (.if_icmp .ge off, 3)) (ht : (pc : Int) + off = (tgt : Int)) (kt : y ≤ x → apV Γ nL w cn sn tgt L st) (kf : ¬ y ≤ x → apV Γ nL w cn sn (pc + 3) L st) : apV Γ nL w cn sn pc L (.int y :: .int x :: st) := fun H locs ls hH hL => lv_icmp_ge G.1 G.2.1 hd ht (fun c9 => kt c9 H locs ls hH hL) (fun c9 => kf c9 H locs ls hH hL)
theorem v_if_gt (G : apG Γ cc nL own Ts rm X) {x : Int32} {off : Int} {tgt : Nat} (hd : decode cc pc = .ok (.ifCond .gt off, 3)) (ht : (pc : Int) + off = (tgt : Int)) (kt : 0 < x → apV Γ nL w cn sn tgt L st) (kf : ¬ 0 < x → apV Γ nL w cn sn (pc + 3) L st) : apV Γ nL w cn sn pc L (.int x :: st) := fun H locs ls hH hL => lv_if_gt G.1 G.2.1 hd ht (fun c9 => kt c9 H locs ls hH hL) (fun c9 => kf c9 H locs ls hH hL)
theorem v_icmp_gt (G : apG Γ cc nL own Ts rm X) {x y : Int32} {off : Int} {tgt : Nat} (hd : decode cc pc = .ok (.if_icmp .gt off, 3)) (ht : (pc : Int) + off = (tgt : Int)) (kt : y < x → apV Γ nL w cn sn tgt L st) (kf : ¬ y < x → apV Γ nL w cn sn (pc + 3) L st) : apV Γ nL w cn sn pc L (.int y :: .int x :: st) := fun H locs ls hH hL => lv_icmp_gt G.1 G.2.1 hd ht (fun c9 => kt c9 H locs ls hH hL) (fun c9 => kf c9 H locs ls hH hL)
theorem v_if_le (G : apG Γ cc nL own Ts rm X) {x : Int32} {off : Int} {tgt : Nat} (hd : decode cc pc = .ok (.ifCond .le off, 3)) (ht : (pc : Int) + off = (tgt : Int)) (kt : x ≤ 0 → apV Γ nL w cn sn tgt L st) (kf : ¬ x ≤ 0 → apV Γ nL w cn sn (pc + 3) L st) : apV Γ nL w cn sn pc L (.int x :: st) := fun H locs ls hH hL => lv_if_le G.1 G.2.1 hd ht (fun c9 => kt c9 H locs ls hH hL) (fun c9 => kf c9 H locs ls hH hL)
theorem v_icmp_le (G : apG Γ cc nL own Ts rm X) {x y : Int32} {off : Int} {tgt : Nat} (hd : decode cc pc = .ok (.if_icmp .le off, 3)) (ht : (pc : Int) + off = (tgt : Int)) (kt : x ≤ y → apV Γ nL w cn sn tgt L st) (kf : ¬ x ≤ y → apV Γ nL w cn sn (pc + 3) L st) : apV Γ nL w cn sn pc L (.int y :: .int x :: st) := fun H locs ls hH hL => lv_icmp_le G.1 G.2.1 hd ht (fun c9 => kt c9 H locs ls hH hL) (fun c9 => kf c9 H locs ls hH hL)
theorem v_tableOut (G : apG Γ cc nL own Ts rm X) {dflt lo hi : Int} {offs : Array Int} {len tgt : Nat} {x : Int32} (hd : decode cc pc = .ok (.tableswitch dflt lo hi offs, len)) (h : x.toInt < lo ∨ hi < x.toInt) (ht : (pc : Int) + dflt = (tgt : Int)) (kk : apV Γ nL w cn sn tgt L st) : apV Γ nL w cn sn pc L (.int x :: st) := fun H locs ls hH hL => lv_tableOut G.1 G.2.1 hd h ht (kk H locs ls hH hL)
theorem v_tableIn (G : apG Γ cc nL own Ts rm X) {dflt lo hi : Int} {offs : Array Int} {len tgt : Nat} {x : Int32} {off : Int} (hd : decode cc pc = .ok (.tableswitch dflt lo hi offs, len)) (h1 : ¬ x.toInt < lo) (h2 : ¬ hi < x.toInt) (ho : offs[(x.toInt - lo).toNat]? = some off) (ht : (pc : Int) + off = (tgt : Int)) (kk : apV Γ nL w cn sn tgt L st) : apV Γ nL w cn sn pc L (.int x :: st) := fun H locs ls hH hL => lv_tableIn G.1 G.2.1 hd h1 h2 ho ht (kk H locs ls hH hL)
theorem v_lookup (G : apG Γ cc nL own Ts rm X) {dflt : Int} {ps : Array (Int × Int)} {len tgt : Nat} {x : Int32} {off : Int} (hd : decode cc pc = .ok (.lookupswitch dflt ps, len)) (hp : (ps.toList.zip (ps.toList.drop 1)).all (fun (a, next) => a.1 < next.1) = true) (ho : Op.lookupswitch.offset ps.toList dflt x.toInt = off) (ht : (pc : Int) + off = (tgt : Int)) (kk : apV Γ nL w cn sn tgt L st) : apV Γ nL w cn sn pc L (.int x :: st) := fun H locs ls hH hL => lv_lookup G.1 G.2.1 hd hp ho ht (kk H locs ls hH hL)
theorem v_locs (ks : List Nat) (hl : lv_pick L ks = L') (kk : apV Γ nL w cn sn pc L' st) : apV Γ nL w cn sn pc L st := fun H locs ls hH hL => kk H locs ls hH (lv_sub hL ks hl)
theorem v_w {w' : va_W} (h : w = w') (kk : apV Γ nL w' cn sn pc L st) : apV Γ nL w cn sn pc L st := h ▸ kk
section FLD
variable {lay : List apK} {q : Nat → Nat} {σ : apM}
theorem v_getr (G : apG Γ cc nL own Ts rm X) {ref C : String} {T : u_T} {N ci index k k' : Nat} {fl : List (Option Nat)} (hin : ∀ w ∈ u_ws C T N, w ∈ Ts) (hk : lay[k]? = some (.inl (ci, fl))) (hc : vwCl[ci]? = some (C, T, N)) (j : Nat) (hj : j < N) (hlink : Cond.fieldLink own index ref (T j).2.1 (T j).2.2.1 ∈ Ts) (href : (T j).1 = ref) (hv : fl[j]? = some (some k')) (hd : decode cc pc = .ok (.getfield index, 3))
    (kk : apV Γ nL (apU lay q (apd Γ) σ) cn sn (pc + 3) L (.ref (q k') :: st)) : apV Γ nL (apU lay q (apd Γ) σ) cn sn pc L (.ref (q k) :: st) := fun H locs ls hH hL =>
  va_get G.1 G.2.1 G.2.2.2.2.1 hin G.2.2.2.1 G.2.2.2.2.2.1 hH.1 k (apU_get hk) hc j hj (G.2.2.2.2.1 _ hlink) (fun x h => by rw [← href]; exact h) (apF_get (q := q) (f := σ k) (b := 0) hv) hd (kk H locs ls hH hL)
theorem v_geti (G : apG Γ cc nL own Ts rm X) {ref C : String} {T : u_T} {N ci index k : Nat} {fl : List (Option Nat)} (hin : ∀ w ∈ u_ws C T N, w ∈ Ts) (hk : lay[k]? = some (.inl (ci, fl))) (hc : vwCl[ci]? = some (C, T, N)) (j : Nat) (hj : j < N) (hlink : Cond.fieldLink own index ref (T j).2.1 (T j).2.2.1 ∈ Ts) (href : (T j).1 = ref) (hv : fl[j]? = some none) (hd : decode cc pc = .ok (.getfield index, 3))
    (kk : apV Γ nL (apU lay q (apd Γ) σ) cn sn (pc + 3) L (.int (σ k j) :: st)) : apV Γ nL (apU lay q (apd Γ) σ) cn sn pc L (.ref (q k) :: st) := fun H locs ls hH hL => by
  have h9 := apF_get (q := q) (f := σ k) (b := 0) hv
  rw [Nat.zero_add] at h9
  exact va_get G.1 G.2.1 G.2.2.2.2.1 hin G.2.2.2.1 G.2.2.2.2.2.1 hH.1 k (apU_get hk) hc j hj (G.2.2.2.2.1 _ hlink) (fun x h => by rw [← href]; exact h) h9 hd (kk H locs ls hH hL)
theorem v_put (G : apG Γ cc nL own Ts rm X) {ref C : String} {T : u_T} {N ci index k : Nat} {fl : List (Option Nat)} (hin : ∀ w ∈ u_ws C T N, w ∈ Ts) (ty0 : Nat → FieldType) (hty : ∀ k, k < N → parseFieldDescriptor (T k).2.2.1 = some (ty0 k)) (hnm : ∀ a, a < N → ∀ b, b < N → a ≠ b → (T a).2.1 ≠ (T b).2.1) (hk : lay[k]? = some (.inl (ci, fl))) (hc : vwCl[ci]? = some (C, T, N)) (j : Nat) (hj : j < N) (hlink : Cond.fieldLink own index ref (T j).2.1 (T j).2.2.1 ∈ Ts) (href : (T j).1 = ref) (hfin : (T j).2.2.2 = false) {v : Int32} (hn : narrow (ty0 j) (.int v) = .int v) (hfit : fits (ty0 j) (.int v) = true) (hv : fl[j]? = some none) (hd : decode cc pc = .ok (.putfield index, 3))
    (kk : apV Γ nL (apU lay q (apd Γ) (mst σ k j v)) cn sn (pc + 3) L st) : apV Γ nL (apU lay q (apd Γ) σ) cn sn pc L (.int v :: .ref (q k) :: st) := fun H locs ls hH hL => by
  have hl : j < (apF q (σ k) 0 fl).length := (List.getElem?_eq_some_iff.mp (apF_get (q := q) (f := σ k) (b := 0) hv)).1
  have he := apF_set (q := q) (f := σ k) (b := 0) (v := v) hv
  rw [Nat.zero_add] at he
  have hs := apU_set (q := q) (d := apd Γ) (σ := σ) (σ' := mst σ k j v) hk (fun k' h => mst_k h)
  rw [mst_e] at hs
  refine va_put G.1 G.2.1 G.2.2.2.2.1 hin ty0 hty hnm G.2.2.2.1 G.2.2.2.2.2.1 hH.1 hH.2.1 hH.2.2 k (apU_get hk) hc j hj (G.2.2.2.2.1 _ hlink) (fun x h => by rw [← href]; exact h) hfin (hty j hj) hn hfit hl hd (fun H1 locs1 h1 h2 h3 => kk H1 locs1 ls ⟨?_, ?_, h3⟩ hL)
  · rw [he] at h1
    rw [← hs]
    exact h1
  · rw [he] at h2
    rw [← hs]
    exact h2
theorem apE_int {q : Nat → Nat} {d : Nat → ClassId} {f : Nat → Int32} {t n : Nat} (ht : t < 3) : apE q d f (.inr (.inl (t, n))) = .inl (d t, (n, .inl f)) := by
  show (if t = 3 then _ else _) = _
  rw [if_neg (by omega)]
theorem v_iald (G : apG Γ cc nL own Ts rm X) {k n : Nat} {i v : Int32} (hk : lay[k]? = some (.inr (.inl (0, n)))) (hv : ald σ k n i = some v) (hd : decode cc pc = .ok (.iaload, 1))
    (kk : apV Γ nL (apU lay q (apd Γ) σ) cn sn (pc + 1) L (.int v :: st)) : apV Γ nL (apU lay q (apd Γ) σ) cn sn pc L (.int i :: .ref (q k) :: st) := fun H locs ls hH hL => by
  obtain ⟨h1, h2⟩ := ald_some hv
  subst h2
  have hg := apU_get (q := q) (d := apd Γ) (σ := σ) hk
  rw [apE_int (by omega)] at hg
  exact va_iald G.1 G.2.1 G.2.2.2.2.2.1 hH.1 k 0 hg rfl h1 hd (kk H locs ls hH hL)
theorem v_zald (G : apG Γ cc nL own Ts rm X) {k n : Nat} {i v : Int32} (hk : lay[k]? = some (.inr (.inl (1, n)))) (hv : ald σ k n i = some v) (hd : decode cc pc = .ok (.baload, 1))
    (kk : apV Γ nL (apU lay q (apd Γ) σ) cn sn (pc + 1) L (.int v :: st)) : apV Γ nL (apU lay q (apd Γ) σ) cn sn pc L (.int i :: .ref (q k) :: st) := fun H locs ls hH hL => by
  obtain ⟨h1, h2⟩ := ald_some hv
  subst h2
  have hg := apU_get (q := q) (d := apd Γ) (σ := σ) hk
  rw [apE_int (by omega)] at hg
  exact va_zald G.1 G.2.1 G.2.2.2.2.2.1 hH.1 k 1 hg rfl h1 hd (kk H locs ls hH hL)
theorem v_iast (G : apG Γ cc nL own Ts rm X) {k n : Nat} {i v : Int32} {σ' : apM} (hk : lay[k]? = some (.inr (.inl (0, n)))) (hv : ast σ k n i v = some σ') (hd : decode cc pc = .ok (.iastore, 1))
    (kk : apV Γ nL (apU lay q (apd Γ) σ') cn sn (pc + 1) L st) : apV Γ nL (apU lay q (apd Γ) σ) cn sn pc L (.int v :: .int i :: .ref (q k) :: st) := fun H locs ls hH hL => by
  obtain ⟨h1, h2⟩ := ast_some hv
  subst h2
  have hg := apU_get (q := q) (d := apd Γ) (σ := σ) hk
  rw [apE_int (by omega)] at hg
  have hs := apU_set (q := q) (d := apd Γ) (σ := σ) (σ' := mst σ k i.toNatClampNeg v) hk (fun k' h => mst_k h)
  rw [apE_int (by omega), mst_e] at hs
  refine va_iast G.1 G.2.1 G.2.2.2.2.2.1 hH.1 hH.2.1 hH.2.2 k 0 hg rfl h1 hd (fun H1 locs1 h1 h2 h3 => kk H1 locs1 ls ⟨?_, ?_, h3⟩ hL)
  · rw [← hs]; exact h1
  · rw [← hs]; exact h2
theorem v_zast (G : apG Γ cc nL own Ts rm X) {k n : Nat} {i v : Int32} {σ' : apM} (hk : lay[k]? = some (.inr (.inl (1, n)))) (hv : ast σ k n i (vp_nar .boolean v) = some σ') (hd : decode cc pc = .ok (.bastore, 1))
    (kk : apV Γ nL (apU lay q (apd Γ) σ') cn sn (pc + 1) L st) : apV Γ nL (apU lay q (apd Γ) σ) cn sn pc L (.int v :: .int i :: .ref (q k) :: st) := fun H locs ls hH hL => by
  obtain ⟨h1, h2⟩ := ast_some hv
  subst h2
  have hg := apU_get (q := q) (d := apd Γ) (σ := σ) hk
  rw [apE_int (by omega)] at hg
  have hs := apU_set (q := q) (d := apd Γ) (σ := σ) (σ' := mst σ k i.toNatClampNeg (vp_nar .boolean v)) hk (fun k' h => mst_k h)
  rw [apE_int (by omega), mst_e] at hs
  refine va_zast G.1 G.2.1 G.2.2.2.2.2.1 hH.1 hH.2.1 hH.2.2 k 1 hg rfl h1 hd (fun H1 locs1 h1 h2 h3 => kk H1 locs1 ls ⟨?_, ?_, h3⟩ hL)
  · rw [← hs]; exact h1
  · rw [← hs]; exact h2
theorem v_aald (G : apG Γ cc nL own Ts rm X) {k n b j : Nat} {i : Int32} (hk : lay[k]? = some (.inr (.inr (2, n, b)))) (hv : rix n i = some j) (hd : decode cc pc = .ok (.aaload, 1))
    (kk : apV Γ nL (apU lay q (apd Γ) σ) cn sn (pc + 1) L (.ref (q (b + j)) :: st)) : apV Γ nL (apU lay q (apd Γ) σ) cn sn pc L (.int i :: .ref (q k) :: st) := fun H locs ls hH hL => by
  obtain ⟨h1, h2, h3⟩ := rix_some hv
  subst h2
  have hg : (apU lay q (apd Γ) σ)[k]? = some (q k, .inl (apd Γ 2, (n, .inr (.inr (.inr (.inr (fun i => some (q (b + i)))))))))  := apU_get (q := q) (d := apd Γ) (σ := σ) hk
  exact W.aald (v := .ref (q (b + i.toNatClampNeg))) (ty := .array .int) G.1 G.2.1 (hH.1 k _ hg) ((G.2.2.2.2.2.1.2 2 (apd Γ 2, .array .int) rfl).1 n (fun j => va_rf (some (q (b + j))))) rfl (fun q => by cases q) (by show ¬ (i < 0 ∨ (arrV _ _ _).slots.size ≤ _); rw [arrV_size]; exact h1) (by show (arrV _ _ _).slots[_]? = _; rw [arrV_read _ _ h3]; rfl) rfl rfl hd (kk H locs ls hH hL)
theorem v_alen (G : apG Γ cc nL own Ts rm X) {k n t : Nat} {v : Int32} (ht : t < 3) (hk : lay[k]? = some (.inr (.inl (t, n)))) (hv : Int32.ofNat n = v) (hd : decode cc pc = .ok (.arraylength, 1))
    (kk : apV Γ nL (apU lay q (apd Γ) σ) cn sn (pc + 1) L (.int v :: st)) : apV Γ nL (apU lay q (apd Γ) σ) cn sn pc L (.ref (q k) :: st) := fun H locs ls hH hL => by
  have hg := apU_get (q := q) (d := apd Γ) (σ := σ) hk
  rw [apE_int ht] at hg
  have hty : ∃ ty, (apT (apd Γ))[t]? = some (apd Γ t, ty) := by
    rcases (show t = 0 ∨ t = 1 ∨ t = 2 by omega) with rfl | rfl | rfl
    · exact ⟨_, rfl⟩
    · exact ⟨_, rfl⟩
    · exact ⟨_, rfl⟩
  obtain ⟨ty, hty⟩ := hty
  exact va_alen G.1 G.2.1 G.2.2.2.2.2.1 hH.1 k t hg hty hv hd (kk H locs ls hH hL)
end FLD
theorem v_iret (G : apG Γ cc nL own Ts rm X) {v : Int32} {mc ms : Nat} (hr : apR Γ cc mc ms (some v) w) (hc : cn ≤ mc) (hs : sn ≤ ms) (hd : decode cc pc = .ok (.ireturn, 1)) : apV Γ nL w cn sn pc L [.int v] := fun H locs ls hH _ => W.widen hc hs (hr pc H locs ls hH hd)
theorem v_vret (G : apG Γ cc nL own Ts rm X) {mc ms : Nat} (hr : apR Γ cc mc ms none w) (hc : cn ≤ mc) (hs : sn ≤ ms) (hd : decode cc pc = .ok (.return_, 1)) : apV Γ nL w cn sn pc L [] := fun H locs ls hH _ => W.widen hc hs (hr pc H locs ls hH hd)
/-- a loop -/
theorem v_lp {S E : Type} {b : S → Option (S ⊕ E)} {I : S → Prop} {O : E → Prop} (hb : ∀ s r, b s = some r → (match r with | .inl s' => I s' | .inr e => O e) → I s) : ∀ (n : Nat) (s : S) (e : E), lp n b s = some e → O e → I s := by
  intro n
  induction n with
  | zero => intro s e h; cases h
  | succ n ih =>
    intro s e h ho
    unfold lp at h
    split at h
    · cases h
    · next s' hs => exact hb s _ hs (ih s' e h ho)
    · next e' hs =>
      cases h
      exact hb s _ hs ho
end APR
