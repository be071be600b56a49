/-! THE WALK'S OWN WORDS: a memory of numbered cells; a method is a function of it; 'the machine computes what the function says, where the function says something' -/
/-- a word: a number, or the number of a cell (none: null); numbers below 16 are arrays that stood there before -/
abbrev mV : Type := Int32 ⊕ Option Nat
/-- refs, kinds (0 none, 1 int array, 2 boolean array, 3 .. 9 arrays of references, 10 + c an object of class c), lengths, how many cells, how many slots -/
abbrev mS : Type := (Nat → Nat → Option Nat) × (Nat → Nat) × (Nat → Nat) × Nat × Nat
abbrev mM : Type := (Nat → Nat → Int32) × mS
/-- a method: name, code, locals, what it answers -/
abbrev mI : Type := MethodName × ByteArray × Nat × Option FieldType
/-- launch, classes and slots, array classes, where the cells begin, where the old arrays lie, the script's length, the script -/
abbrev mE : Type := Launch × va_G × (Nat → ClassId) × Nat × (Nat → Nat) × Nat × (Nat → Int32)
abbrev mRf (M : mM) : Nat → Nat → Option Nat := M.2.1
abbrev mKd (M : mM) : Nat → Nat := M.2.2.1
abbrev mLn (M : mM) : Nat → Nat := M.2.2.2.1
abbrev mN (M : mM) : Nat := M.2.2.2.2.1
abbrev mSl (M : mM) : Nat := M.2.2.2.2.2
abbrev eD (E : mE) : va_G := E.2.1
abbrev eA (E : mE) : Nat → ClassId := E.2.2.1
abbrev eB (E : mE) : Nat := E.2.2.2.1
abbrev eS (E : mE) : Nat → Nat := E.2.2.2.2.1
abbrev eL (E : mE) : Nat := E.2.2.2.2.2.1
abbrev eX (E : mE) : Nat → Int32 := E.2.2.2.2.2.2
def mad (E : mE) (r : Nat) : Nat := if r < 16 then eS E r else eB E + (r - 16)
def mval (E : mE) : mV → Value
  | .inl x => .int x
  | .inr none => .null
  | .inr (some r) => .ref (mad E r)
theorem mval_r (E : mE) (o : Option Nat) : mval E (.inr o) = va_rf (o.map (mad E)) := by cases o <;> rfl
theorem mval_cat (E : mE) (v : mV) : (mval E v).category = 1 := by
  rcases v with x | _ | r <;> rfl
/-- a row of a table of rows is another one -/
def mrow {β : Type} (f : Nat → β) (r : Nat) (g : β) : Nat → β := fun a => if a = r then g else f a
theorem mrow_s {β : Type} (f : Nat → β) (r : Nat) (g : β) : mrow f r g r = g := if_pos rfl
theorem mrow_n {β : Type} (f : Nat → β) {r a : Nat} (g : β) (h : a ≠ r) : mrow f r g a = f a := if_neg h
def mnf (c : Nat) : Nat := match vwCl[c]? with
  | some q => q.2.2
  | none => 0
def mfr (c j : Nat) : Bool := refKind (mft c j)
def mfv (E : mE) (M : mM) (c r j : Nat) : Value := if mfr c j = true then va_rf ((mRf M r j).map (mad E)) else .int (M.1 r j)
def mfs (E : mE) (M : mM) (c r : Nat) : List Value := (List.range (mnf c)).map (mfv E M c r)
def mcell (E : mE) (M : mM) (r : Nat) : va_E :=
  if mKd M r < 3 then .inl (eA E (mKd M r - 1), mLn M r, .inl (M.1 r))
  else if mKd M r < 10 then .inl (eA E (mKd M r - 1), mLn M r, .inr (.inr (.inr (.inr (fun j => (mRf M r j).map (mad E))))))
  else .inr (mKd M r - 10, mfs E M (mKd M r - 10) r)
def mws (E : mE) (M : mM) : va_W := (List.range (mN M)).map (fun k => (eB E + k, mcell E M (k + 16)))
def mA (E : mE) : Nat → Prop := fun q => eB E ≤ q
def mP (E : mE) (M : mM) (H : Heap) : Prop := va_P (eD E) vwCl (mws E M) H ∧ H.size = eB E + mN M ∧ ∀ r, mKd M r ≠ 0 → 16 ≤ r ∧ r < 16 + mN M
def mtys (E : mE) : List (ClassId × FieldType) := (List.range mtl.length).map (fun k => (eA E k, mtl.getD k .int))
def mG (E : mE) (U : State) : Prop := va_K (eD E) vwCl (mtys E) U ∧ (∀ q ∈ mst, va_Z q.2.1 q.2.2.1 q.2.2.2 (.ref (eS E q.1)) (mA E) U U.heap ∧ va_T .int (eS E q.1) (mtN q.1) (fun j => .int (mtF q.1 j)) (mA E) U U.heap) ∧ va_T .int (eS E 0) (eL E) (fun j => .int (eX E j)) (mA E) U U.heap ∧ ∀ w ∈ mnw, va_Nw w U
def mRm (d c sl : Nat) : Room := { frames := d, cells := c, slots := sl, locals := 40 * d }
def mWs (y : mI) : List Cond := Cond.code y.1 y.2.1 y.2.2.1 y.2.2.2 :: mtb
def mQ (E : mE) (r : Option mV) (M : mM) : Array Value → State → Outcome → State → Prop := fun _ st oc t => (oc = .returned (r.map (mval E)) ∧ mP E M t.heap) ∧ va_F (mA E) st t
/-- the contract: where the function says something, the method does it -/
def mSnd (E : mE) (y : mI) (d : Nat) (vs : List mV) (M : mM) {α : Type} (en : α → Option mV) (o : Option (α × mM)) : Prop := ∀ a M', o = some (a, M') → mN M ≤ mN M' ∧ mSl M ≤ mSl M' ∧
  Met E.1 y.1 (mWs y) (mRm d (mN M' - mN M) (mSl M' - mSl M)) (va_Pc (vs.map (mval E)) (fun U => mG E U ∧ mP E M U.heap)) (mQ E (en a) M') (mN M' - mN M) (mSl M' - mSl M) (mA E)
def mC (E : mE) (y : mI) (p : Program) (s : State) (m : MethodId) (args : Array Value) (meth : Method) (c : Code) : Prop :=
  p.tables.exec = Jvm.exec ∧ c.code = y.2.1 ∧ meth.sig.returnType = y.2.2.2 ∧ c.maxLocals = y.2.2.1 ∧ s.vm.findClass y.1.cls = some m.cls ∧ (∀ w ∈ mtb, w.before args s = true) ∧ meth.locks = false ∧ (y.1.name = "<init>" → meth.name = "<init>") ∧ mG E s ∧ eB E ≤ s.heap.size
def mL (E : mE) (la : Array Slot) (n : Nat) (ls : List (Option mV)) : Prop := la.size = n ∧ lv_wf la ∧ ∀ (k : Nat) (v : mV), ls[k]? = some (some v) → la[k]? = some (.val (mval E v))
/-- the instruction that ends a method -/
def mri (t : Option FieldType) : Instr := match t with
  | none => .return_
  | some (.object _) => .areturn
  | some (.array _) => .areturn
  | some _ => .ireturn
/-- room enough, and the end: at the method's return, with its answer and its memory, the goal is reached -/
def mZ (E : mE) (y : mI) (d : Nat) (v : Option mV) (Mf : mM) (n0 s0 : Nat) (p : Program) (e : Env) (s : State) (m : MethodId) (args : Array Value) (below : List Frame) (meth : Method) (c : Code) (R : Room) (Q : State → Prop) : Prop :=
  d ≤ R.frames ∧ 40 * d ≤ R.locals ∧ mN Mf - n0 ≤ R.cells ∧ mSl Mf - s0 ≤ R.slots ∧ ∀ (pc' : Nat) (H' : Heap) (locs' : List Loc) (la' : Array Slot), va_S (mA E) s.heap H' locs' → mP E Mf H' → decode y.2.1 pc' = .ok (mri y.2.2.2, 1) → (y.2.2.2 = some .boolean → v = some (.inl 0) ∨ v = some (.inl 1)) → W p E.1 e R s m args below meth c H' locs' (mN Mf - n0) (mSl Mf - s0) Q (F0 m pc' la' (v.toList.map (mval E)))
/-- the machine, at pc of method y with these locals, this stack and this memory, computes o -/
def mVr (E : mE) (y : mI) (d pc : Nat) (ls : List (Option mV)) (st : List mV) (M : mM) {α : Type} (en : α → Option mV) (o : Option (α × mM)) : Prop := ∀ a Mf, o = some (a, Mf) → mN M ≤ mN Mf ∧ mSl M ≤ mSl Mf ∧
  ∀ (p : Program) (e : Env) (s : State) (m : MethodId) (args : Array Value) (below : List Frame) (meth : Method) (c : Code) (H : Heap) (locs : List Loc) (la : Array Slot) (n0 s0 : Nat) (R : Room) (Q : State → Prop), mC E y p s m args meth c → va_S (mA E) s.heap H locs → mP E M H → mL E la y.2.2.1 ls → n0 ≤ mN M → s0 ≤ mSl M → mZ E y d (en a) Mf n0 s0 p e s m args below meth c R Q →
    W p E.1 e R s m args below meth c H locs (mN M - n0) (mSl M - s0) Q (F0 m pc la (st.map (mval E)))
abbrev enI : Int32 → Option mV := fun x => some (.inl x)
abbrev enR : Option Nat → Option mV := fun x => some (.inr x)
abbrev enU : Unit → Option mV := fun _ => none
/-! of the world -/
theorem mcell_congr {E : mE} {M M' : mM} {r : Nat} (h1 : M'.1 r = M.1 r) (h2 : mRf M' r = mRf M r) (h3 : mKd M' r = mKd M r) (h4 : mLn M' r = mLn M r) : mcell E M' r = mcell E M r := by
  unfold mcell mfs
  have h5 : ∀ c, mfv E M' c r = mfv E M c r := fun c => by
    funext j
    unfold mfv
    rw [h1, h2]
  rw [h1, h2, h3, h4, h5]
theorem mws_get {E : mE} {M : mM} {H : Heap} (hP : mP E M H) {r : Nat} (h : mKd M r ≠ 0) : (mws E M)[r - 16]? = some (mad E r, mcell E M r) := by
  obtain ⟨h1, h2⟩ := hP.2.2 r h
  unfold mws mad
  rw [List.getElem?_map, List.getElem?_range (by omega), if_neg (by omega)]
  simp only [Option.map_some]
  rw [show r - 16 + 16 = r by omega]
theorem mws_D (E : mE) (M : mM) : va_D (mA E) (mws E M) := by
  have key : ∀ (k : Nat) (q : Nat × va_E), (mws E M)[k]? = some q → q.1 = eB E + k := by
    intro k q hq
    unfold mws at hq
    rw [List.getElem?_map] at hq
    cases hk : (List.range (mN M))[k]? with
    | none => rw [hk] at hq; cases hq
    | some z =>
      rw [hk] at hq
      have hz : z = k := by
        have hlt := (List.getElem?_eq_some_iff.mp hk).1
        rw [List.length_range] at hlt
        rw [List.getElem?_range hlt] at hk
        exact (Option.some.inj hk).symm
      subst hz
      cases hq
      rfl
  refine ⟨fun i j x z hi hj hxz => ?_, fun k q hq => ?_⟩
  · have a := key i x hi
    have b := key j z hj
    omega
  · have a := key k q hq
    unfold mA
    omega
theorem mws_set {E : mE} {M M' : mM} {r : Nat} {x : va_E} (hr : 16 ≤ r) (hn : mN M' = mN M) (hx : x = mcell E M' r) (ho : ∀ q, q ≠ r → mcell E M' q = mcell E M q) : (mws E M).set (r - 16) (mad E r, x) = mws E M' := by
  apply List.ext_getElem?
  intro k
  unfold mws
  by_cases hk : k = r - 16
  · subst hk
    by_cases hl : r - 16 < mN M
    · rw [List.getElem?_set_self (by simpa using hl), List.getElem?_map, hn, List.getElem?_range hl]
      simp only [Option.map_some]
      rw [show r - 16 + 16 = r by omega, hx]
      unfold mad
      rw [if_neg (by omega)]
    · rw [List.set_eq_of_length_le (by simp; omega), hn]
      rw [List.getElem?_eq_none (by simp; omega), List.getElem?_eq_none (by simp; omega)]
  · rw [List.getElem?_set_ne (by omega), List.getElem?_map, List.getElem?_map, hn]
    cases hz : (List.range (mN M))[k]? with
    | none => rfl
    | some z =>
      have hlt := (List.getElem?_eq_some_iff.mp hz).1
      rw [List.length_range] at hlt
      rw [List.getElem?_range hlt] at hz
      cases hz
      simp only [Option.map_some]
      rw [ho (k + 16) (by omega)]
theorem mfs_get {E : mE} {M : mM} {c r j : Nat} (h : j < mnf c) : (mfs E M c r)[j]? = some (mfv E M c r j) := by
  unfold mfs
  rw [List.getElem?_map, List.getElem?_range h]
  rfl
theorem mfs_len (E : mE) (M : mM) (c r : Nat) : (mfs E M c r).length = mnf c := by simp [mfs]
theorem mcell_i {E : mE} {M : mM} {r t : Nat} (h : mKd M r = t + 1) (ht : t < 2) : mcell E M r = .inl (eA E t, mLn M r, .inl (M.1 r)) := by
  unfold mcell
  rw [if_pos (by omega), h]
  rfl
theorem mcell_q {E : mE} {M : mM} {r t : Nat} (h : mKd M r = t + 3) (ht : t < 7) : mcell E M r = .inl (eA E (t + 2), mLn M r, .inr (.inr (.inr (.inr (fun j => (mRf M r j).map (mad E)))))) := by
  unfold mcell
  rw [if_neg (by omega), if_pos (by omega), h]
  rfl
theorem mcell_o {E : mE} {M : mM} {r c : Nat} (h : mKd M r = c + 10) : mcell E M r = .inr (c, mfs E M c r) := by
  unfold mcell
  rw [if_neg (by omega), if_neg (by omega), h]
  rfl
