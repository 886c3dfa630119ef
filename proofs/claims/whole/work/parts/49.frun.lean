/-! ===== the run ===== -/
theorem rec_exg {α : Type} (d : α) {n : Nat} {src : Nat → Nat → Option Nat} {sq : Nat → Nat} {st : Nat → Option Nat} {F : Nat → (Nat → α) → α} (hQ : SQ n n sq st) (hT : TP n src sq) (hF : ∀ v, v < n → ∀ f g, (∀ u, ed src v u = true → f u = g u) → F v f = F v g) : ∃ Z : Nat → α, ∀ v, v < n → Z v = F v Z := by
  have key : ∀ k, k ≤ n → ∃ Z : Nat → α, ∀ i, i < k → Z (sq i) = F (sq i) Z := by
    intro k
    induction k with
    | zero => intro _; exact ⟨fun _ => d, fun i hi => by omega⟩
    | succ k ih =>
      intro hk
      obtain ⟨Z, hZ⟩ := ih (by omega)
      have hne : ∀ i, i < k → sq i ≠ sq k := fun i hi e => by
        have h1 := (hQ.2.1 (sq k) i).mpr ⟨by omega, e⟩
        have h2 := (hQ.2.1 (sq k) k).mpr ⟨by omega, rfl⟩
        rw [h1] at h2
        cases h2
        omega
      refine ⟨upN Z (sq k) (F (sq k) Z), fun i hi => ?_⟩
      have cg : ∀ j, j ≤ k → F (sq j) (upN Z (sq k) (F (sq k) Z)) = F (sq j) Z := fun j hj => hF _ (hQ.2.2 j (by omega)) _ _ (fun u hu => by
        obtain ⟨i2, hi2, e⟩ := hT j (by omega) u hu
        unfold upN
        rw [if_neg (by rw [← e]; exact hne i2 (by omega))])
      rw [cg i (by omega)]
      by_cases e : i = k
      · subst e; unfold upN; rw [if_pos rfl]
      · unfold upN; rw [if_neg (hne i (by omega))]; exact hZ i (by omega)
  obtain ⟨Z, hZ⟩ := key n (Nat.le_refl _)
  refine ⟨Z, fun v hv => ?_⟩
  obtain ⟨i, hi, -, e⟩ := SQ_all hQ hv
  rw [← e]
  exact hZ i hi
def tot (f : Nat → Int32) : Nat → Int32
  | 0 => 0
  | k + 1 => tot f k + f k
def sg (src : Nat → Nat → Option Nat) (v i : Nat) : Nat := (src v i).getD 0
def WV (src : Nat → Nat → Option Nat) (op pn Z : Nat → Nat) (gv : Nat → Nat → Int32) (v : Nat) (V : Nat → Nat → Int32) : Nat → Int32 := fun i =>
  if op v = 0 then gv v i else if op v = 1 then -(V (sg src v 0) i) else if op v = 2 then V (sg src v 0) i + V (sg src v 1) i else if op v = 3 then V (sg src v 0) i * V (sg src v 1) i
  else if op v = 4 then (if i < Z (sg src v 0) then V (sg src v 0) i else V (sg src v 1) (i - Z (sg src v 0))) else if op v = 5 then V (sg src v 0) (pn v + i) else if op v = 6 then tot (V (sg src v 0)) (Z (sg src v 0)) else V (sg src v 0) 0
def IsV (n : Nat) (src : Nat → Nat → Option Nat) (op pn Z : Nat → Nat) (gv V : Nat → Nat → Int32) : Prop := ∀ v, v < n → V v = WV src op pn Z gv v V
theorem sg_some {n v i : Nat} {src : Nat → Nat → Option Nat} {op : Nat → Nat} (hW : Wd n src op) (hv : v < n) (hi : i < ar (op v)) : src v i = some (sg src v i) := by
  cases e : src v i with
  | none => exact absurd e (hW v hv i hi)
  | some u => unfold sg; rw [e]; rfl
theorem WV_cg {n : Nat} {src : Nat → Nat → Option Nat} {op pn Z : Nat → Nat} {gv : Nat → Nat → Int32} (hW : Wd n src op) (v : Nat) (hv : v < n) (f g : Nat → Nat → Int32) (h : ∀ u, ed src v u = true → f u = g u) : WV src op pn Z gv v f = WV src op pn Z gv v g := by
  funext i
  have ha := ar_le (op v)
  have h0 : 0 < ar (op v) → f (sg src v 0) = g (sg src v 0) := fun q => h _ (ed_of (by omega) (sg_some hW hv q))
  have h1 : 1 < ar (op v) → f (sg src v 1) = g (sg src v 1) := fun q => h _ (ed_of (by omega) (sg_some hW hv q))
  unfold WV
  by_cases c0 : op v = 0
  · rw [if_pos c0, if_pos c0]
  · have e0 := h0 (by unfold ar; rw [if_neg c0]; split <;> (try split) <;> (try split) <;> omega)
    rw [if_neg c0, if_neg c0, e0]
    by_cases c1 : op v = 1
    · rw [if_pos c1, if_pos c1]
    · rw [if_neg c1, if_neg c1]
      by_cases c2 : op v = 2
      · rw [if_pos c2, if_pos c2, h1 (by rw [c2]; decide)]
      · rw [if_neg c2, if_neg c2]
        by_cases c3 : op v = 3
        · rw [if_pos c3, if_pos c3, h1 (by rw [c3]; decide)]
        · rw [if_neg c3, if_neg c3]
          by_cases c4 : op v = 4
          · rw [if_pos c4, if_pos c4, h1 (by rw [c4]; decide)]
          · rw [if_neg c4, if_neg c4]
/-- what the sizes of a node and of its sources have to do with one another -/
theorem Z_of {n v : Nat} {src : Nat → Nat → Option Nat} {op pn qn Z : Nat → Nat} (hW : Wd n src op) (hZ : IsZ n src op pn qn Z) (hF : AFT n src op pn qn Z) (hv : v < n) : (op v = 0 → Z v = pn v) ∧ (op v = 1 → Z v = Z (sg src v 0)) ∧ (op v = 2 ∨ op v = 3 → Z v = Z (sg src v 0) ∧ Z (sg src v 1) = Z (sg src v 0)) ∧ (op v = 4 → Z v = Z (sg src v 0) + Z (sg src v 1)) ∧ (op v = 5 → Z v = qn v ∧ pn v + qn v ≤ Z (sg src v 0)) ∧ (op v = 7 → Z (sg src v 0) = 1) := by
  have hz := hZ v hv
  have hf := hF v hv
  unfold ZF szf at hz
  unfold FT fit at hf
  have s0 : 0 < ar (op v) → sv Z (src v 0) = Z (sg src v 0) := fun q => by rw [sg_some hW hv q]; rfl
  have s1 : 1 < ar (op v) → sv Z (src v 1) = Z (sg src v 1) := fun q => by rw [sg_some hW hv q]; rfl
  refine ⟨fun c => ?_, fun c => ?_, fun c => ?_, fun c => ?_, fun c => ?_, fun c => ?_⟩
  · rw [c] at hz; exact hz
  · rw [hz]
    rw [← s0 (by rw [c]; decide)]
    simp [c]
  · rcases c with c | c
    · have := hf.1 (Or.inl c)
      rw [hz, ← s0 (by rw [c]; decide), ← s1 (by rw [c]; decide)]
      simp [c, this]
    · have := hf.1 (Or.inr c)
      rw [hz, ← s0 (by rw [c]; decide), ← s1 (by rw [c]; decide)]
      simp [c, this]
  · rw [hz, ← s0 (by rw [c]; decide), ← s1 (by rw [c]; decide)]
    simp [c]
  · have := hf.2.2.1 c
    rw [← s0 (by rw [c]; decide)]
    refine ⟨?_, this⟩
    rw [hz]
    simp [c]
  · have := hf.2.2.2 c
    rw [← s0 (by rw [c]; decide)]
    exact this
/-! the class -/
theorem f_valueOf {σ : apM} {n u i p : Nat} (hn : n ≤ 12) (hu : u < n) (h : σ 25 u = nI p) (hb : p + i < 480) : m_X0_valueOf σ (nI u) (nI i) = some (σ 26 (p + i)) := by
  unfold m_X0_valueOf
  simp (disch := omega) only [e_ald]
  rw [h, nI_add]
  simp (disch := omega) only [e_ald]
theorem f_totalOf {σ : apM} {n u p : Nat} {Z : Nat → Nat} {f : Nat → Int32} (hn : n ≤ 12) (hu : u < n) (h : σ 25 u = nI p) (hZ : Nu σ 18 n Z) (hb : p + Z u ≤ 480) (hf : ∀ i, i < Z u → σ 26 (p + i) = f i) : m_X0_totalOf σ (nI u) = some (tot f (Z u)) := by
  unfold m_X0_totalOf
  refine Ok.eq (Ok.bind (P := fun x => x.1 = tot f (Z u)) (lp_for0 (fun j (y : Int32) => (y, nI j)) (fun j y => y = tot f j) (Z u) (FU_big (by omega)) ?_ ?_ 0 rfl) ?_)
  · intro j y hj hy
    simp only [m_X0_totalOf_L4]
    simp (disch := omega) only [e_ald]
    rw [hZ u hu, if_neg (nI_ge hj (by omega)), f_valueOf hn hu h (by omega), ob, hf j hj]
    exact Ok.pure ⟨_, by rw [nI_1], by rw [hy]; rfl⟩
  · intro y hy
    simp only [m_X0_totalOf_L4]
    simp (disch := omega) only [e_ald]
    rw [hZ u hu, if_pos (nI_le (Nat.le_refl _) (by omega))]
    exact Ok.pure ⟨_, rfl, hy⟩
  · rintro ⟨x1, x2⟩ hx
    exact Ok.pure hx
theorem f_workOut {σ : apM} {n v i : Nat} {src : Nat → Nat → Option Nat} {op pn qn Z pl : Nat → Nat} {gv V : Nat → Nat → Int32} (h : GS n src) (hw : GW n src op) (hW : Wd n src op) (hC : GC σ n src) (hO : Nu σ 7 n op) (hG : GP σ 8 9 n op pn qn) (hB : PB n op pn qn) (hgv : ∀ v, v < n → ∀ i, i < 16 → σ (29 + v) i = gv v i) (hZ : IsZ n src op pn qn Z) (hF : AFT n src op pn qn Z) (hZm : Nu σ 18 n Z) (hb : ∀ v, v < n → 1 ≤ Z v ∧ Z v ≤ 40) (hP : Nu σ 25 n pl) (hpb : ∀ v, v < n → pl v + Z v ≤ 480) (hv : v < n) (hi : i < Z v) (hs : ∀ u, ed src v u = true → ∀ i, i < Z u → σ 26 (pl u + i) = V u i) : m_X0_workOut σ (nI v) (nI i) = some (WV src op pn Z gv v V i) := by
  have hn := h.1
  have h7 := (hw v hv).1
  obtain ⟨z0, z1, z23, z4, z5, z7⟩ := Z_of hW hZ hF hv
  have hzv := hb v hv
  have hBv := hB v hv
  have hGv := hG v hv
  have s0 : 0 < ar (op v) → src v 0 = some (sg src v 0) ∧ sg src v 0 < n ∧ ed src v (sg src v 0) = true := fun q => ⟨sg_some hW hv q, h.2 _ _ _ (sg_some hW hv q), ed_of (by omega) (sg_some hW hv q)⟩
  have s1 : 1 < ar (op v) → src v 1 = some (sg src v 1) ∧ sg src v 1 < n ∧ ed src v (sg src v 1) = true := fun q => ⟨sg_some hW hv q, h.2 _ _ _ (sg_some hW hv q), ed_of (by omega) (sg_some hW hv q)⟩
  have val : ∀ u i, u < n → ed src v u = true → i < Z u → m_X0_valueOf σ (nI u) (nI i) = some (V u i) := fun u i hu he hi => by
    have := hpb u hu
    rw [f_valueOf hn hu (hP u hu) (by omega), hs u he i hi]
  unfold m_X0_workOut WV
  have er : rix 12 (nI v) = some v := rix_nI (by omega) (by decide)
  have e0 : ald σ (41 + v) 2 0 = some (eo (src v 0)) := by rw [← (hC.2 v hv).1]; exact ald_nI (i := 0) (by decide) (by decide)
  have e1 : ald σ (41 + v) 2 1 = some (eo (src v 1)) := by rw [← (hC.2 v hv).2]; exact ald_nI (i := 1) (by decide) (by decide)
  have e7 : ald σ 7 12 (nI v) = some (nI (op v)) := by rw [ald_nI (by omega) (by decide), hO v hv]
  have e8 : ald σ 8 12 (nI v) = some (σ 8 v) := ald_nI (by omega) (by decide)
  rw [er, ob, e0, ob, ob, e1, ob, e7, ob, ob, e8]
  rcases (show op v = 0 ∨ op v = 1 ∨ op v = 2 ∨ op v = 3 ∨ op v = 4 ∨ op v = 5 ∨ op v = 6 ∨ op v = 7 by omega) with c | c | c | c | c | c | c | c
  · rw [c, if_pos (by decide), if_pos rfl]
    have := hBv.1 (Or.inl c)
    have := z0 c
    rw [ald_nI (by omega) (by decide), ob, hgv v hv i (by omega)]
  · obtain ⟨a1, a2, a3⟩ := s0 (by rw [c]; decide)
    rw [c, if_neg (by decide), if_pos (by decide), if_neg (by decide), if_pos rfl, a1, show eo (some (sg src v 0)) = nI (sg src v 0) from rfl, val _ i a2 a3 (by have := z1 c; omega), ob]
  · obtain ⟨a1, a2, a3⟩ := s0 (by rw [c]; decide)
    obtain ⟨b1, b2, b3⟩ := s1 (by rw [c]; decide)
    have := z23 (Or.inl c)
    rw [c, if_neg (by decide), if_neg (by decide), if_pos (by decide), if_neg (by decide), if_neg (by decide), if_pos rfl, a1, b1, show eo (some (sg src v 0)) = nI (sg src v 0) from rfl, show eo (some (sg src v 1)) = nI (sg src v 1) from rfl, val _ i a2 a3 (by omega), val _ i b2 b3 (by omega), ob, ob]
  · obtain ⟨a1, a2, a3⟩ := s0 (by rw [c]; decide)
    obtain ⟨b1, b2, b3⟩ := s1 (by rw [c]; decide)
    have := z23 (Or.inr c)
    rw [c, if_neg (by decide), if_neg (by decide), if_neg (by decide), if_pos (by decide), if_neg (by decide), if_neg (by decide), if_neg (by decide), if_pos rfl, a1, b1, show eo (some (sg src v 0)) = nI (sg src v 0) from rfl, show eo (some (sg src v 1)) = nI (sg src v 1) from rfl, val _ i a2 a3 (by omega), val _ i b2 b3 (by omega), ob, ob]
  · obtain ⟨a1, a2, a3⟩ := s0 (by rw [c]; decide)
    obtain ⟨b1, b2, b3⟩ := s1 (by rw [c]; decide)
    have := z4 c
    have := hb _ a2
    have := hb _ b2
    rw [c, if_neg (by decide), if_neg (by decide), if_neg (by decide), if_neg (by decide), if_pos (by decide), if_neg (by decide), if_neg (by decide), if_neg (by decide), if_neg (by decide), if_pos rfl, a1, b1, show eo (some (sg src v 0)) = nI (sg src v 0) from rfl, show eo (some (sg src v 1)) = nI (sg src v 1) from rfl]
    simp (disch := omega) only [e_ald]
    rw [hZm _ a2]
    by_cases d : i < Z (sg src v 0)
    · rw [if_neg (nI_ge d (by omega)), if_pos d, val _ i a2 a3 d, ob]
    · rw [if_pos (nI_le (by omega) (by omega)), if_neg d, pk_sub (by omega), val _ _ b2 b3 (by omega), ob]
  · obtain ⟨a1, a2, a3⟩ := s0 (by rw [c]; decide)
    have := z5 c
    rw [c, if_neg (by decide), if_neg (by decide), if_neg (by decide), if_neg (by decide), if_neg (by decide), if_pos (by decide), if_neg (by decide), if_neg (by decide), if_neg (by decide), if_neg (by decide), if_neg (by decide), if_pos rfl, a1, show eo (some (sg src v 0)) = nI (sg src v 0) from rfl, ob, hGv.1 (by omega), nI_add, val _ _ a2 a3 (by omega), ob]
  · obtain ⟨a1, a2, a3⟩ := s0 (by rw [c]; decide)
    rw [c, if_neg (by decide), if_neg (by decide), if_neg (by decide), if_neg (by decide), if_neg (by decide), if_neg (by decide), if_pos (by decide), if_neg (by decide), if_neg (by decide), if_neg (by decide), if_neg (by decide), if_neg (by decide), if_neg (by decide), if_pos rfl, a1, show eo (some (sg src v 0)) = nI (sg src v 0) from rfl, f_totalOf hn a2 (hP _ a2) hZm (hpb _ a2) (hs _ a3), ob]
  · obtain ⟨a1, a2, a3⟩ := s0 (by rw [c]; decide)
    have := z7 c
    rw [c, if_neg (by decide), if_neg (by decide), if_neg (by decide), if_neg (by decide), if_neg (by decide), if_neg (by decide), if_neg (by decide), if_neg (by decide), if_neg (by decide), if_neg (by decide), if_neg (by decide), if_neg (by decide), if_neg (by decide), if_neg (by decide), a1, show eo (some (sg src v 0)) = nI (sg src v 0) from rfl, show (0 : Int32) = nI 0 from rfl, val _ 0 a2 a3 (by omega), ob]
/-- the cells after the first k nodes -/
def wr (sq Z pl : Nat → Nat) (V : Nat → Nat → Int32) : Nat → Nat → Int32
  | 0 => fun _ => 0
  | k + 1 => fun c => if pl (sq k) ≤ c ∧ c < pl (sq k) + Z (sq k) then V (sq k) (c - pl (sq k)) else wr sq Z pl V k c
theorem Pl_clr {n u v : Nat} {sq Z po la pl : Nat → Nat} (hQ : PO n sq po) (hPl : IsPl n Z po la pl) (hu : u < n) (hv : v < n) (hne : u ≠ v) (ht : tog po la u v) : pl v + Z v ≤ pl u ∨ pl u + Z u ≤ pl v := by
  have hpo : po u ≠ po v := fun q => hne (by rw [← (hQ.1 u hu).2, q, (hQ.1 v hv).2])
  by_cases c : bef Z po u v
  · exact (hPl v hv).1 u hu c ht
  · have c2 : bef Z po v u := by unfold bef at c ⊢; omega
    have := (hPl u hu).1 v hv c2 ⟨ht.2, ht.1⟩
    unfold clr at this
    omega
theorem wr_live {n : Nat} {sq Z po la pl : Nat → Nat} {V : Nat → Nat → Int32} (hQ : PO n sq po) (hPl : IsPl n Z po la pl) (hla : ∀ v, v < n → po v ≤ la v) : ∀ k, k ≤ n → ∀ u, u < n → po u < k → k ≤ la u + 1 → ∀ i, i < Z u → wr sq Z pl V k (pl u + i) = V u i := by
  intro k
  induction k with
  | zero => intro _ u _ q; omega
  | succ k ih =>
    intro hk u hu h1 h2 i hi
    obtain ⟨hsk, hpk⟩ := hQ.2 k (by omega)
    show (if pl (sq k) ≤ pl u + i ∧ pl u + i < pl (sq k) + Z (sq k) then V (sq k) (pl u + i - pl (sq k)) else wr sq Z pl V k (pl u + i)) = V u i
    by_cases c : u = sq k
    · subst c
      rw [if_pos (by omega), show pl (sq k) + i - pl (sq k) = i by omega]
    · have hpu : po u ≠ k := fun q => c (by rw [← q]; exact (hQ.1 u hu).2.symm)
      have hl := hla _ hsk
      have := Pl_clr hQ hPl hu hsk c ⟨by omega, by omega⟩
      rw [if_neg (by omega)]
      exact ih (by omega) u hu (by omega) (by omega) i hi
def smn (sq Z : Nat → Nat) : Nat → Nat
  | 0 => 0
  | k + 1 => smn sq Z k + Z (sq k)
theorem smn_b {n : Nat} {sq Z : Nat → Nat} (h : ∀ k, k < n → Z (sq k) ≤ 40) : ∀ k, k ≤ n → smn sq Z k ≤ 40 * k := by
  intro k
  induction k with
  | zero => intro _; exact Nat.le_refl _
  | succ k ih => intro hk; have := ih (by omega); have := h k (by omega); show smn sq Z k + Z (sq k) ≤ _; omega
theorem f_work4 {σ : apM} {n : Nat} {src : Nat → Nat → Option Nat} {ke : Nat → Bool} {op pn qn Z pl po la sq : Nat → Nat} {gv V : Nat → Nat → Int32} (h : GS n src) (hw : GW n src op) (hW : Wd n src op) (hC : GC σ n src) (hO : Nu σ 7 n op) (hG : GP σ 8 9 n op pn qn) (hB : PB n op pn qn) (hgv : ∀ v, v < n → ∀ i, i < 16 → σ (29 + v) i = gv v i) (hZ : IsZ n src op pn qn Z) (hF : AFT n src op pn qn Z) (hZm : Nu σ 18 n Z) (hb : ∀ v, v < n → 1 ≤ Z v ∧ Z v ≤ 40) (hP : Nu σ 25 n pl) (hpb : ∀ v, v < n → pl v + Z v ≤ 480) (hl : σ 3 10 = nI n) (hS : Nu σ 20 n sq) (hQ : PO n sq po) (hT : TP n src sq) (hLa : ∀ v, v < n → IsLa n src ke po v (la v)) (hPl : IsPl n Z po la pl) (hV : IsV n src op pn Z gv V) : Ok (m_X0_work σ) (fun x => x.1 = nI (smn sq Z n) ∧ Fr [26] σ x.2 ∧ ∀ c, c < 480 → x.2 26 c = wr sq Z pl V n c) := by
  have hn := h.1
  have nn : n < 2 ^ 31 := by omega
  have hpo : ∀ v, v < n → po v < n := fun v hv => (hQ.1 v hv).1
  have hla : ∀ v, v < n → po v ≤ la v := fun v hv => (IsLa_b hpo hv (hLa v hv)).2.1
  unfold m_X0_work
  refine Ok.bind (P := fun x => x.2.1 = nI (smn sq Z n) ∧ Fr [26] σ x.1 ∧ ∀ c, c < 480 → x.1 26 c = wr sq Z pl V n c) (lp_for0 (fun k (t : apM × Nat) => (t.1, nI t.2, nI k)) (fun k t => t.2 = smn sq Z k ∧ Fr [26] σ t.1 ∧ ∀ c, c < 480 → t.1 26 c = wr sq Z pl V k c) n (FU_big (by omega)) ?_ ?_ (mfl σ 26 0 480, 0) ⟨rfl, Fr.mfl (by decide), fun c hc => by dsimp only; rw [mfl_at, if_pos hc]; rfl⟩) ?_
  · rintro k ⟨t, y⟩ hk ⟨hy, hf, hc26⟩
    dsimp only at hy hf hc26
    obtain ⟨hsk, hpk⟩ := hQ.2 k hk
    have hzk := hb _ hsk
    have hpk2 := hpb _ hsk
    simp only [m_X0_work_L12]
    rw [hf 3 (by decide), hl, if_neg (nI_ge hk nn)]
    simp (disch := omega) only [e_ald]
    rw [hf 20 (by decide), hS k hk]
    refine Ok.bind (P := fun x => Fr [26] σ x.1 ∧ ∀ c, c < 480 → x.1 26 c = wr sq Z pl V (k + 1) c) (lp_for0 (fun j (t : apM) => (t, nI j)) (fun j u => Fr [26] σ u ∧ ∀ c, c < 480 → u 26 c = if pl (sq k) ≤ c ∧ c < pl (sq k) + j then V (sq k) (c - pl (sq k)) else wr sq Z pl V k c) (Z (sq k)) (FU_big (by omega)) ?_ ?_ t ⟨hf, fun c hc => by rw [if_neg (by omega)]; exact hc26 c hc⟩) ?_
    · intro j u hj ⟨hfu, hcu⟩
      have hCu := hC.fr hn hfu (by decide) (by decide)
      simp only [m_X0_work_L36]
      simp (disch := omega) only [e_ald]
      rw [hfu 18 (by decide), hZm _ hsk, if_neg (nI_ge hj (by omega)), hfu 25 (by decide), hP _ hsk, f_workOut (σ := u) (V := V) (gv := gv) (pl := pl) h hw hW hCu (hO.fr hfu (by decide)) (fun v hv => by rw [hfu 8 (by decide), hfu 9 (by decide)]; exact hG v hv) hB (fun v hv i hi => by rw [hfu (29 + v) (by simp; omega)]; exact hgv v hv i hi) hZ hF (hZm.fr hfu (by decide)) hb (hP.fr hfu (by decide)) hpb hsk hj (fun w hw i hi => by
        have hwn := ed_lt h hw
        obtain ⟨i2, hi2, e2⟩ := hT k hk w hw
        have hpw : po w = i2 := by rw [← e2]; exact (hQ.2 i2 (by omega)).2
        have hlw := (IsLa_b hpo hwn (hLa w hwn)).2.2 _ hsk hw
        have hlk := hla _ hsk
        have hcl := Pl_clr hQ hPl hwn hsk (fun q => by rw [q] at hpw; omega) ⟨by omega, by omega⟩
        have hpw2 := hpb w hwn
        rw [hcu _ (by omega), if_neg (by omega)]
        exact wr_live hQ hPl hla k (by omega) w hwn (by omega) (by omega) i hi), ob, nI_add]
      simp (disch := omega) only [e_ast]
      refine Ok.pure ⟨_, by rw [nI_1], hfu.tr (Fr.mst (by decide)), fun c hc => ?_⟩
      rw [mst_ap, ← hV _ hsk]
      by_cases d : c = pl (sq k) + j
      · rw [if_pos ⟨rfl, d⟩, if_pos (by omega), show c - pl (sq k) = j by omega]
      · rw [if_neg (fun q => d q.2), hcu c hc]
        by_cases e : pl (sq k) ≤ c ∧ c < pl (sq k) + j
        · rw [if_pos e, if_pos (by omega)]
        · rw [if_neg e, if_neg (by omega)]
    · intro u ⟨hfu, hcu⟩
      simp only [m_X0_work_L36]
      simp (disch := omega) only [e_ald]
      rw [hfu 18 (by decide), hZm _ hsk, if_pos (nI_le (Nat.le_refl _) (by omega))]
      exact Ok.pure ⟨_, rfl, hfu, hcu⟩
    · rintro ⟨u, v2⟩ ⟨hfu, hcu⟩
      dsimp only at hfu hcu ⊢
      simp (disch := omega) only [e_ald]
      rw [hfu 18 (by decide), hZm _ hsk, nI_add]
      exact Ok.pure ⟨(u, y + Z (sq k)), by rw [nI_1], by show y + Z (sq k) = smn sq Z k + Z (sq k); rw [hy], hfu, hcu⟩
  · rintro ⟨t, y⟩ ⟨hy, hf, hc26⟩
    dsimp only at hy hf hc26
    simp only [m_X0_work_L12]
    rw [hf 3 (by decide), hl, if_pos (nI_le (Nat.le_refl _) nn)]
    exact Ok.pure ⟨_, rfl, by rw [hy], hf, hc26⟩
  · rintro ⟨t, y, z⟩ hP
    exact Ok.pure hP
