/-! ===== the ground: a memory of ints by cell and place; what cells lie in the heap; the judgement apV ===== -/
/-- the ints of all cells: cell, place -/
abbrev apM : Type := Nat → Nat → Int32
def mst (σ : apM) (k i : Nat) (v : Int32) : apM := fun k' => if k' = k then upd (σ k) i v else σ k'
theorem mst_k {σ : apM} {k i k' : Nat} {v : Int32} (h : ¬ k' = k) : mst σ k i v k' = σ k' := by unfold mst; rw [if_neg h]
theorem mst_e {σ : apM} {k i : Nat} {v : Int32} : mst σ k i v k = upd (σ k) i v := by unfold mst; rw [if_pos rfl]
/-- a cell's kind: an object (class, fields: a cell's number, or none for an int), an array of ints (type, length), a row of references (type, length, first cell) -/
abbrev apK : Type := (Nat × List (Option Nat)) ⊕ ((Nat × Nat) ⊕ (Nat × Nat × Nat))
def apF (q : Nat → Nat) (f : Nat → Int32) : Nat → List (Option Nat) → List Value
  | _, [] => []
  | j, none :: r => .int (f j) :: apF q f (j + 1) r
  | j, some k :: r => .ref (q k) :: apF q f (j + 1) r
def apE (q : Nat → Nat) (d : Nat → ClassId) (f : Nat → Int32) : apK → va_E
  | .inl (c, fl) => .inr (c, apF q f 0 fl)
  | .inr (.inl (t, n)) => if t = 3 then .inl (d t, (n, .inr (.inl (fun i => (f i).toInt64)))) else .inl (d t, (n, .inl f))
  | .inr (.inr (t, n, b)) => .inl (d t, (n, .inr (.inr (.inr (.inr (fun i => some (q (b + i))))))))
def apL (q : Nat → Nat) (d : Nat → ClassId) (σ : apM) : Nat → List apK → va_W
  | _, [] => []
  | k, x :: r => (q k, apE q d (σ k) x) :: apL q d σ (k + 1) r
/-- the cells of a layout -/
def apU (lay : List apK) (q : Nat → Nat) (d : Nat → ClassId) (σ : apM) : va_W := apL q d σ 0 lay
abbrev apT (d : Nat → ClassId) : List (ClassId × FieldType) := [(d 0, .int), (d 1, .boolean), (d 2, .array .int), (d 3, .long)]
theorem apF_get {q : Nat → Nat} {f : Nat → Int32} : ∀ {fl : List (Option Nat)} {j b : Nat} {x : Option Nat}, fl[j]? = some x → (apF q f b fl)[j]? = some (match x with | none => .int (f (b + j)) | some k => .ref (q k)) := by
  intro fl
  induction fl with
  | nil => intro j b x h; simp at h
  | cons y r ih =>
    intro j b x h
    cases j with
    | zero =>
      rw [List.getElem?_cons_zero] at h
      cases h
      cases y <;> rfl
    | succ j =>
      rw [List.getElem?_cons_succ] at h
      have h2 := ih (b := b + 1) h
      cases y <;> (unfold apF; rw [List.getElem?_cons_succ, h2, show b + 1 + j = b + (j + 1) by omega])
theorem apF_set {q : Nat → Nat} {f : Nat → Int32} {v : Int32} : ∀ {fl : List (Option Nat)} {j b : Nat}, fl[j]? = some none → (apF q f b fl).set j (.int v) = apF q (upd f (b + j) v) b fl := by
  have keep : ∀ (fl : List (Option Nat)) (b j : Nat), j < b → apF q (upd f j v) b fl = apF q f b fl := by
    intro fl
    induction fl with
    | nil => intro b j h; rfl
    | cons y r ih =>
      intro b j h
      cases y with
      | none =>
        unfold apF
        rw [ih (b + 1) j (by omega)]
        simp [upd, show ¬ b = j by omega]
      | some k =>
        unfold apF
        rw [ih (b + 1) j (by omega)]
  intro fl
  induction fl with
  | nil => intro j b h; simp at h
  | cons y r ih =>
    intro j b h
    cases j with
    | zero =>
      rw [List.getElem?_cons_zero] at h
      cases h
      unfold apF
      rw [List.set_cons_zero, keep r (b + 1) (b + 0) (by omega)]
      simp [upd]
    | succ j =>
      rw [List.getElem?_cons_succ] at h
      have h2 := ih (b := b + 1) h
      cases y with
      | none =>
        unfold apF
        rw [List.set_cons_succ, h2, show b + 1 + j = b + (j + 1) by omega]
        simp [upd, show ¬ b = b + (j + 1) by omega]
      | some k =>
        unfold apF
        rw [List.set_cons_succ, h2, show b + 1 + j = b + (j + 1) by omega]
theorem apL_get {q : Nat → Nat} {d : Nat → ClassId} {σ : apM} : ∀ {lay : List apK} {k b : Nat} {x : apK}, lay[k]? = some x → (apL q d σ b lay)[k]? = some (q (b + k), apE q d (σ (b + k)) x) := by
  intro lay
  induction lay with
  | nil => intro k b x h; simp at h
  | cons y r ih =>
    intro k b x h
    cases k with
    | zero =>
      rw [List.getElem?_cons_zero] at h
      cases h
      rfl
    | succ k =>
      rw [List.getElem?_cons_succ] at h
      unfold apL
      rw [List.getElem?_cons_succ, ih (b := b + 1) h, show b + 1 + k = b + (k + 1) by omega]
theorem apU_get {lay : List apK} {q : Nat → Nat} {d : Nat → ClassId} {σ : apM} {k : Nat} {x : apK} (h : lay[k]? = some x) : (apU lay q d σ)[k]? = some (q k, apE q d (σ k) x) := by
  have := apL_get (q := q) (d := d) (σ := σ) (b := 0) h
  rw [Nat.zero_add] at this
  exact this
theorem apL_set {q : Nat → Nat} {d : Nat → ClassId} {σ σ' : apM} : ∀ {lay : List apK} {k b : Nat} {x : apK}, lay[k]? = some x → (∀ k', k' ≠ b + k → σ' k' = σ k') → (apL q d σ b lay).set k (q (b + k), apE q d (σ' (b + k)) x) = apL q d σ' b lay := by
  have keep : ∀ (lay : List apK) (b k : Nat), k < b → (∀ k', k' ≠ k → σ' k' = σ k') → apL q d σ' b lay = apL q d σ b lay := by
    intro lay
    induction lay with
    | nil => intro b k h hs; rfl
    | cons y r ih =>
      intro b k h hs
      unfold apL
      rw [ih (b + 1) k (by omega) hs, hs b (by omega)]
  intro lay
  induction lay with
  | nil => intro k b x h; simp at h
  | cons y r ih =>
    intro k b x h hs
    cases k with
    | zero =>
      rw [List.getElem?_cons_zero] at h
      cases h
      unfold apL
      rw [List.set_cons_zero, keep r (b + 1) (b + 0) (by omega) hs]
      rfl
    | succ k =>
      rw [List.getElem?_cons_succ] at h
      have h2 := ih (b := b + 1) h (fun k' hk => hs k' (by omega))
      unfold apL
      rw [List.set_cons_succ, ← h2, show b + 1 + k = b + (k + 1) by omega, hs b (by omega)]
theorem apU_set {lay : List apK} {q : Nat → Nat} {d : Nat → ClassId} {σ σ' : apM} {k : Nat} {x : apK} (h : lay[k]? = some x) (hs : ∀ k', k' ≠ k → σ' k' = σ k') : (apU lay q d σ).set k (q k, apE q d (σ' k) x) = apU lay q d σ' := by
  have := apL_set (q := q) (d := d) (σ := σ) (σ' := σ') (b := 0) h (by rw [Nat.zero_add]; exact hs)
  rw [Nat.zero_add] at this
  exact this
/-- an array's int; a store; none where the index is outside -/
def ald (σ : apM) (k n : Nat) (i : Int32) : Option Int32 := if 0 ≤ i ∧ i.toNatClampNeg < n then some (σ k i.toNatClampNeg) else none
def ast (σ : apM) (k n : Nat) (i : Int32) (v : Int32) : Option apM := if 0 ≤ i ∧ i.toNatClampNeg < n then some (mst σ k i.toNatClampNeg v) else none
def rix (n : Nat) (i : Int32) : Option Nat := if 0 ≤ i ∧ i.toNatClampNeg < n then some i.toNatClampNeg else none
def bz (v : Int32) : Option Int32 := if v = 0 ∨ v = 1 then some v else none
theorem ix_in {i : Int32} {n : Nat} (h : 0 ≤ i ∧ i.toNatClampNeg < n) : vp_in i n := by
  intro g
  rcases g with g | g
  · exact absurd g (by have := h.1; rw [Int32.lt_iff_toInt_lt]; rw [Int32.le_iff_toInt_le] at this; omega)
  · omega
theorem ald_some {σ : apM} {k n : Nat} {i v : Int32} (h : ald σ k n i = some v) : vp_in i n ∧ σ k i.toNatClampNeg = v := by
  unfold ald at h
  split at h
  · next c => exact ⟨ix_in c, Option.some.inj h⟩
  · cases h
theorem ast_some {σ σ' : apM} {k n : Nat} {i v : Int32} (h : ast σ k n i v = some σ') : vp_in i n ∧ mst σ k i.toNatClampNeg v = σ' := by
  unfold ast at h
  split at h
  · next c => exact ⟨ix_in c, Option.some.inj h⟩
  · cases h
theorem rix_some {n j : Nat} {i : Int32} (h : rix n i = some j) : vp_in i n ∧ i.toNatClampNeg = j ∧ j < n := by
  unfold rix at h
  split at h
  · next c => cases h; exact ⟨ix_in c, rfl, c.2⟩
  · cases h
theorem bz_some {v w : Int32} (h : bz v = some w) : v = w ∧ (v = 0 ∨ v = 1) := by
  unfold bz at h
  split at h
  · next c => exact ⟨Option.some.inj h, c⟩
  · cases h
/-- a loop: the body gives the next state or the end -/
def lp {S E : Type} : Nat → (S → Option (S ⊕ E)) → S → Option E
  | 0, _, _ => none
  | n + 1, b, s => match b s with
    | none => none
    | some (.inl s') => lp n b s'
    | some (.inr e) => some e
def FU : Nat := 5000
/-- the whole array filled, from the place i on, with v -/
def mfl (σ : apM) (k : Nat) (v : Int32) : Nat → apM
  | 0 => σ
  | n + 1 => mst (mfl σ k v n) k n v
/-! the frame of a method in which a judgement stands -/
abbrev apC : Type := (Program × Launch × Env × Room × State) × ((MethodId × Array Value × List Frame × Method × Code) × ((State → Prop) × va_G × (Nat → ClassId) × (Nat → Prop)))
abbrev apW (Γ : apC) (H : Heap) (locs : List Loc) (cn sn : Nat) (g : JFrame) : Prop := W Γ.1.1 Γ.1.2.1 Γ.1.2.2.1 Γ.1.2.2.2.1 Γ.1.2.2.2.2 Γ.2.1.1 Γ.2.1.2.1 Γ.2.1.2.2.1 Γ.2.1.2.2.2.1 Γ.2.1.2.2.2.2 H locs cn sn Γ.2.2.1 g
abbrev apS (Γ : apC) : State := Γ.1.2.2.2.2
abbrev apA (Γ : apC) : Nat → Prop := Γ.2.2.2.2.2
abbrev apD (Γ : apC) : va_G := Γ.2.2.2.1
abbrev apd (Γ : apC) : Nat → ClassId := Γ.2.2.2.2.1
/-- the heap H holds the cells w; since the start nothing else has changed -/
def apH (Γ : apC) (w : va_W) (H : Heap) (locs : List Loc) : Prop := va_P (apD Γ) vwCl w H ∧ va_D (apA Γ) w ∧ va_S (apA Γ) (apS Γ).heap H locs
/-- from pc, with these locals, this stack and these cells, the machine comes to the method's due end -/
def apV (Γ : apC) (nL : Nat) (w : va_W) (cn sn : Nat) (pc : Nat) (L : List (Nat × Value)) (st : List Value) : Prop :=
  ∀ (H : Heap) (locs : List Loc) (ls : Array Slot), apH Γ w H locs → lv_has ls nL L → apW Γ H locs cn sn (F0 Γ.2.1.1 pc ls st)
/-- what a method's body may use: code, names, tables, room, what it may change, what else is known of the start -/
def apG (Γ : apC) (cc : ByteArray) (nL : Nat) (own : String) (Ts : List Cond) (rm : Room) (X : (Nat → Prop) → State → Prop) : Prop :=
  Γ.1.1.tables.exec = Jvm.exec ∧ Γ.2.1.2.2.2.2.code = cc ∧ Γ.2.1.2.2.2.2.maxLocals = nL ∧ (apS Γ).vm.findClass own = some Γ.2.1.1.cls ∧ (∀ w ∈ Ts, w.before Γ.2.1.2.1 (apS Γ) = true) ∧
  va_K (apD Γ) vwCl (apT (apd Γ)) (apS Γ) ∧ Γ.1.2.2.2.1 = rm ∧ (∀ q : Nat, (apS Γ).heap.size ≤ q → apA Γ q) ∧ X (apA Γ) (apS Γ) ∧ Γ.2.1.2.2.2.1.locks = false
/-- the method may end with this answer over these cells -/
def apR (Γ : apC) (cc : ByteArray) (mc ms : Nat) (r : Option Int32) (w : va_W) : Prop :=
  match r with
  | some v => ∀ (pc : Nat) (H : Heap) (locs : List Loc) (ls : Array Slot), apH Γ w H locs → decode cc pc = .ok (.ireturn, 1) → apW Γ H locs mc ms (F0 Γ.2.1.1 pc ls [.int v])
  | none => ∀ (pc : Nat) (H : Heap) (locs : List Loc) (ls : Array Slot), apH Γ w H locs → decode cc pc = .ok (.return_, 1) → apW Γ H locs mc ms (F0 Γ.2.1.1 pc ls [])
