section MR
variable {E : mE} {y : mI} {d pc : Nat} {ls : List (Option mV)} {st : List mV} {M : mM} {α : Type} {en : α → Option mV} {o : Option (α × mM)}
theorem m_none : mVr E y d pc ls st M en (none : Option (α × mM)) := fun _ _ h => by cases h
/-- a step that leaves locals and memory -/
theorem m_go {pc' : Nat} {st' : List mV} (k : mVr E y d pc' ls st' M en o) (h : ∀ {p : Program} {e : Env} {R : Room} {s : State} {m : MethodId} {args : Array Value} {below : List Frame} {meth : Method} {c : Code} {H : Heap} {locs : List Loc} {cells slots : Nat} {Q : State → Prop} {la : Array Slot}, mC E y p s m args meth c → mL E la y.2.2.1 ls → W p E.1 e R s m args below meth c H locs cells slots Q (F0 m pc' la (st'.map (mval E))) → W p E.1 e R s m args below meth c H locs cells slots Q (F0 m pc la (st.map (mval E)))) : mVr E y d pc ls st M en o := by
  intro a Mf ho
  obtain ⟨h1, h2, kk⟩ := k a Mf ho
  exact ⟨h1, h2, fun p e s m args below meth c H locs la n0 s0 R Q C hS hP hL hn hs hz9 => h C hL (kk p e s m args below meth c H locs la n0 s0 R Q C hS hP hL hn hs hz9)⟩
theorem m_iconst {n : Int} {v : Int32} (hd : decode y.2.1 pc = .ok (.iconst n, 1)) (hv : Int32.ofInt n = v) (k : mVr E y d (pc + 1) ls (.inl v :: st) M en o) : mVr E y d pc ls st M en o := m_go k (fun C _ w => lv_iconst C.1 C.2.1 hd hv w)
theorem m_bipush {n : Int} {v : Int32} (hd : decode y.2.1 pc = .ok (.bipush n, 2)) (hv : (Int8.ofInt n).toInt32 = v) (k : mVr E y d (pc + 2) ls (.inl v :: st) M en o) : mVr E y d pc ls st M en o := m_go k (fun C _ w => lv_bipush C.1 C.2.1 hd hv w)
theorem m_sipush {n : Int} {v : Int32} (hd : decode y.2.1 pc = .ok (.sipush n, 3)) (hv : (Int16.ofInt n).toInt32 = v) (k : mVr E y d (pc + 3) ls (.inl v :: st) M en o) : mVr E y d pc ls st M en o := m_go k (fun C _ w => lv_sipush C.1 C.2.1 hd hv w)
theorem m_ldc {i : Nat} {v : Int32} (hd : decode y.2.1 pc = .ok (.ldc i, 2)) (hw : Cond.constant y.1.cls i v ∈ mtb) (k : mVr E y d (pc + 2) ls (.inl v :: st) M en o) : mVr E y d pc ls st M en o := m_go k (fun C _ w => lv_ldc C.1 C.2.1 C.2.2.2.2.1 (C.2.2.2.2.2.1 _ hw) hd w)
theorem m_ldcw {i : Nat} {v : Int32} (hd : decode y.2.1 pc = .ok (.ldc_w i, 3)) (hw : Cond.constant y.1.cls i v ∈ mtb) (k : mVr E y d (pc + 3) ls (.inl v :: st) M en o) : mVr E y d pc ls st M en o := m_go k (fun C _ w => lv_ldcw C.1 C.2.1 C.2.2.2.2.1 (C.2.2.2.2.2.1 _ hw) hd w)
theorem m_null (hd : decode y.2.1 pc = .ok (.aconst_null, 1)) (k : mVr E y d (pc + 1) ls (.inr none :: st) M en o) : mVr E y d pc ls st M en o := m_go k (fun C _ w => lv_null C.1 C.2.1 hd w)
theorem m_iload {i : Nat} {x : Int32} (hd : decode y.2.1 pc = .ok (.iload i, 2)) (hl : ls[i]? = some (some (.inl x))) (k : mVr E y d (pc + 2) ls (.inl x :: st) M en o) : mVr E y d pc ls st M en o := m_go k (fun C hL w => lv_iload C.1 C.2.1 hd (hL.2.2 _ _ hl) w)
theorem m_iload_n {n : Fin 4} {x : Int32} (hd : decode y.2.1 pc = .ok (.iload_n n, 1)) (hl : ls[(n : Nat)]? = some (some (.inl x))) (k : mVr E y d (pc + 1) ls (.inl x :: st) M en o) : mVr E y d pc ls st M en o := m_go k (fun C hL w => lv_iload_n C.1 C.2.1 hd rfl (hL.2.2 _ _ hl) w)
theorem m_aload {i : Nat} {x : Option Nat} (hd : decode y.2.1 pc = .ok (.aload i, 2)) (hl : ls[i]? = some (some (.inr x))) (k : mVr E y d (pc + 2) ls (.inr x :: st) M en o) : mVr E y d pc ls st M en o := by
  cases x with
  | none => exact m_go k (fun C hL w => lv_aloadN C.1 C.2.1 hd (hL.2.2 _ _ hl) w)
  | some x => exact m_go k (fun C hL w => lv_aload C.1 C.2.1 hd (hL.2.2 _ _ hl) w)
theorem m_aload_n {n : Fin 4} {x : Option Nat} (hd : decode y.2.1 pc = .ok (.aload_n n, 1)) (hl : ls[(n : Nat)]? = some (some (.inr x))) (k : mVr E y d (pc + 1) ls (.inr x :: st) M en o) : mVr E y d pc ls st M en o := by
  cases x with
  | none => exact m_go k (fun C hL w => lv_aload_nN C.1 C.2.1 hd rfl (hL.2.2 _ _ hl) w)
  | some x => exact m_go k (fun C hL w => lv_aload_n C.1 C.2.1 hd rfl (hL.2.2 _ _ hl) w)
theorem m_iadd {a b : Int32} (hd : decode y.2.1 pc = .ok (.iadd, 1)) (k : mVr E y d (pc + 1) ls (.inl (a + b) :: st) M en o) : mVr E y d pc ls (.inl b :: .inl a :: st) M en o := m_go k (fun C _ w => lv_iadd C.1 C.2.1 hd w)
theorem m_isub {a b : Int32} (hd : decode y.2.1 pc = .ok (.isub, 1)) (k : mVr E y d (pc + 1) ls (.inl (a - b) :: st) M en o) : mVr E y d pc ls (.inl b :: .inl a :: st) M en o := m_go k (fun C _ w => lv_isub C.1 C.2.1 hd w)
theorem m_imul {a b : Int32} (hd : decode y.2.1 pc = .ok (.imul, 1)) (k : mVr E y d (pc + 1) ls (.inl (a * b) :: st) M en o) : mVr E y d pc ls (.inl b :: .inl a :: st) M en o := m_go k (fun C _ w => lv_imul C.1 C.2.1 hd w)
theorem m_iand {a b : Int32} (hd : decode y.2.1 pc = .ok (.iand, 1)) (k : mVr E y d (pc + 1) ls (.inl (a &&& b) :: st) M en o) : mVr E y d pc ls (.inl b :: .inl a :: st) M en o := m_go k (fun C _ w => lv_iand C.1 C.2.1 hd w)
theorem m_ior {a b : Int32} (hd : decode y.2.1 pc = .ok (.ior, 1)) (k : mVr E y d (pc + 1) ls (.inl (a ||| b) :: st) M en o) : mVr E y d pc ls (.inl b :: .inl a :: st) M en o := m_go k (fun C _ w => lv_ior C.1 C.2.1 hd w)
theorem m_ixor {a b : Int32} (hd : decode y.2.1 pc = .ok (.ixor, 1)) (k : mVr E y d (pc + 1) ls (.inl (a ^^^ b) :: st) M en o) : mVr E y d pc ls (.inl b :: .inl a :: st) M en o := m_go k (fun C _ w => lv_ixor C.1 C.2.1 hd w)
theorem m_ineg {a : Int32} (hd : decode y.2.1 pc = .ok (.ineg, 1)) (k : mVr E y d (pc + 1) ls (.inl (0 - a) :: st) M en o) : mVr E y d pc ls (.inl a :: st) M en o := m_go k (fun C _ w => lv_ineg C.1 C.2.1 hd w)
/-- a >>> b as the machine does it -/
def mush (a b : Int32) : Int32 := (a.toUInt32 >>> (b.toUInt32 &&& Int32.toUInt32 31)).toInt32
theorem m_ishl {a b : Int32} (hd : decode y.2.1 pc = .ok (.ishl, 1)) (k : mVr E y d (pc + 1) ls (.inl (a <<< (b &&& 31)) :: st) M en o) : mVr E y d pc ls (.inl b :: .inl a :: st) M en o := m_go k (fun C _ w => lv_ishl C.1 C.2.1 hd w)
theorem m_ishr {a b : Int32} (hd : decode y.2.1 pc = .ok (.ishr, 1)) (k : mVr E y d (pc + 1) ls (.inl (a >>> (b &&& 31)) :: st) M en o) : mVr E y d pc ls (.inl b :: .inl a :: st) M en o := m_go k (fun C _ w => lv_ishr C.1 C.2.1 hd w)
theorem m_iushr {a b : Int32} (hd : decode y.2.1 pc = .ok (.iushr, 1)) (k : mVr E y d (pc + 1) ls (.inl (mush a b) :: st) M en o) : mVr E y d pc ls (.inl b :: .inl a :: st) M en o := m_go k (fun C _ w => lv_iushr C.1 C.2.1 hd rfl w)
theorem m_dup {a : mV} (hd : decode y.2.1 pc = .ok (.dup, 1)) (k : mVr E y d (pc + 1) ls (a :: a :: st) M en o) : mVr E y d pc ls (a :: st) M en o := m_go k (fun C _ w => lv_dup C.1 C.2.1 hd (mval_cat E a) w)
theorem m_pop {a : mV} (hd : decode y.2.1 pc = .ok (.pop, 1)) (k : mVr E y d (pc + 1) ls st M en o) : mVr E y d pc ls (a :: st) M en o := m_go k (fun C _ w => lv_pop C.1 C.2.1 hd (mval_cat E a) w)
theorem m_dup_x1 {a b : mV} (hd : decode y.2.1 pc = .ok (.dup_x1, 1)) (k : mVr E y d (pc + 1) ls (a :: b :: a :: st) M en o) : mVr E y d pc ls (a :: b :: st) M en o := m_go k (fun C _ w => lv_dup_x1 C.1 C.2.1 hd (mval_cat E a) (mval_cat E b) w)
theorem m_dup_x2 {a b c : mV} (hd : decode y.2.1 pc = .ok (.dup_x2, 1)) (k : mVr E y d (pc + 1) ls (a :: b :: c :: a :: st) M en o) : mVr E y d pc ls (a :: b :: c :: st) M en o := m_go k (fun C _ w => lv_dup_x2 C.1 C.2.1 hd (mval_cat E a) (mval_cat E b) (mval_cat E c) w)
theorem m_dup2 {a b : mV} (hd : decode y.2.1 pc = .ok (.dup2, 1)) (k : mVr E y d (pc + 1) ls (a :: b :: a :: b :: st) M en o) : mVr E y d pc ls (a :: b :: st) M en o := m_go k (fun C _ w => lv_dup2_11 C.1 C.2.1 hd (mval_cat E a) (mval_cat E b) w)
theorem m_goto {off : Int} {tgt : Nat} (hd : decode y.2.1 pc = .ok (.goto off, 3)) (ht : (pc : Int) + off = (tgt : Int)) (k : mVr E y d tgt ls st M en o) : mVr E y d pc ls st M en o := m_go k (fun C _ w => lv_goto C.1 C.2.1 hd ht w)
/-- fewer known locals -/
theorem m_less {ls' : List (Option mV)} (h : ∀ (k : Nat) (v : mV), ls'[k]? = some (some v) → ls[k]? = some (some v)) (k : mVr E y d pc ls' st M en o) : mVr E y d pc ls st M en o := by
  intro a Mf ho
  obtain ⟨h1, h2, kk⟩ := k a Mf ho
  exact ⟨h1, h2, fun p e s m args below meth c H locs la n0 s0 R Q C hS hP hL hn hs hz9 => kk p e s m args below meth c H locs la n0 s0 R Q C hS hP ⟨hL.1, hL.2.1, fun k v q => hL.2.2 k v (h k v q)⟩ hn hs hz9⟩
def mles : List (Option mV) → List (Option mV) → Prop
  | [], _ => True
  | none :: l, _ :: l' => mles l l'
  | some v :: l, w :: l' => w = some v ∧ mles l l'
  | none :: l, [] => mles l []
  | some _ :: _, [] => False
theorem mles_at : ∀ (l l' : List (Option mV)), mles l l' → ∀ (k : Nat) (v : mV), l[k]? = some (some v) → l'[k]? = some (some v)
  | [], _, _, k, v, h => by simp at h
  | none :: l, a :: l', h, 0, v, q => by simp at q
  | none :: l, a :: l', h, k + 1, v, q => by
    rw [List.getElem?_cons_succ] at q ⊢
    exact mles_at l l' h k v q
  | some x :: l, a :: l', h, 0, v, q => by
    rw [List.getElem?_cons_zero] at q ⊢
    rw [h.1]; exact q
  | some x :: l, a :: l', h, k + 1, v, q => by
    rw [List.getElem?_cons_succ] at q ⊢
    exact mles_at l l' h.2 k v q
  | none :: l, [], h, 0, v, q => by simp at q
  | none :: l, [], h, k + 1, v, q => by
    rw [List.getElem?_cons_succ] at q
    have := mles_at l [] h k v q
    simp at this
  | some _ :: _, [], h, _, _, _ => h.elim
theorem m_drop {ls' : List (Option mV)} (h : mles ls' ls) (k : mVr E y d pc ls' st M en o) : mVr E y d pc ls st M en o := m_less (mles_at _ _ h) k
/-- a branch -/
theorem m_br {cnd : Prop} [Decidable cnd] {st' : List mV} {p1 p2 : Nat} {o1 o2 : Option (α × mM)} (k1 : mVr E y d p1 ls st M en o1) (k2 : mVr E y d p2 ls st M en o2) (h : ∀ {p : Program} {e : Env} {R : Room} {s : State} {m : MethodId} {args : Array Value} {below : List Frame} {meth : Method} {c : Code} {H : Heap} {locs : List Loc} {cells slots : Nat} {Q : State → Prop} {la : Array Slot}, mC E y p s m args meth c → (cnd → W p E.1 e R s m args below meth c H locs cells slots Q (F0 m p1 la (st.map (mval E)))) → (¬ cnd → W p E.1 e R s m args below meth c H locs cells slots Q (F0 m p2 la (st.map (mval E)))) → W p E.1 e R s m args below meth c H locs cells slots Q (F0 m pc la (st'.map (mval E)))) : mVr E y d pc ls st' M en (if cnd then o1 else o2) := by
  intro a Mf ho
  by_cases hc : cnd
  · rw [if_pos hc] at ho
    obtain ⟨h1, h2, kk⟩ := k1 a Mf ho
    exact ⟨h1, h2, fun p e s m args below meth c H locs la n0 s0 R Q C hS hP hL hn hs hz9 => h C (fun _ => kk p e s m args below meth c H locs la n0 s0 R Q C hS hP hL hn hs hz9) (fun n => absurd hc n)⟩
  · rw [if_neg hc] at ho
    obtain ⟨h1, h2, kk⟩ := k2 a Mf ho
    exact ⟨h1, h2, fun p e s m args below meth c H locs la n0 s0 R Q C hS hP hL hn hs hz9 => h C (fun n => absurd n hc) (fun _ => kk p e s m args below meth c H locs la n0 s0 R Q C hS hP hL hn hs hz9)⟩
section BR
variable {a b : Int32} {off : Int} {tgt : Nat} {o1 o2 : Option (α × mM)}
theorem m_icmp_eq (hd : decode y.2.1 pc = .ok (.if_icmp .eq off, 3)) (ht : (pc : Int) + off = (tgt : Int)) (k1 : mVr E y d tgt ls st M en o1) (k2 : mVr E y d (pc + 3) ls st M en o2) : mVr E y d pc ls (.inl b :: .inl a :: st) M en (if a = b then o1 else o2) := m_br k1 k2 (fun C w1 w2 => lv_icmp_eq C.1 C.2.1 hd ht w1 w2)
theorem m_icmp_ne (hd : decode y.2.1 pc = .ok (.if_icmp .ne off, 3)) (ht : (pc : Int) + off = (tgt : Int)) (k1 : mVr E y d (pc + 3) ls st M en o1) (k2 : mVr E y d tgt ls st M en o2) : mVr E y d pc ls (.inl b :: .inl a :: st) M en (if a = b then o1 else o2) := m_br k1 k2 (fun C w1 w2 => lv_icmp_ne C.1 C.2.1 hd ht w2 w1)
theorem m_icmp_lt (hd : decode y.2.1 pc = .ok (.if_icmp .lt off, 3)) (ht : (pc : Int) + off = (tgt : Int)) (k1 : mVr E y d tgt ls st M en o1) (k2 : mVr E y d (pc + 3) ls st M en o2) : mVr E y d pc ls (.inl b :: .inl a :: st) M en (if a < b then o1 else o2) := m_br k1 k2 (fun C w1 w2 => lv_icmp_lt C.1 C.2.1 hd ht w1 w2)
theorem m_icmp_ge (hd : decode y.2.1 pc = .ok (.if_icmp .ge off, 3)) (ht : (pc : Int) + off = (tgt : Int)) (k1 : mVr E y d (pc + 3) ls st M en o1) (k2 : mVr E y d tgt ls st M en o2) : mVr E y d pc ls (.inl b :: .inl a :: st) M en (if a < b then o1 else o2) := m_br k1 k2 (fun C w1 w2 => lv_icmp_ge C.1 C.2.1 hd ht (fun q => w2 (Int32.not_lt.mpr q)) (fun q => w1 (Int32.not_le.mp q)))
theorem m_icmp_gt (hd : decode y.2.1 pc = .ok (.if_icmp .gt off, 3)) (ht : (pc : Int) + off = (tgt : Int)) (k1 : mVr E y d tgt ls st M en o1) (k2 : mVr E y d (pc + 3) ls st M en o2) : mVr E y d pc ls (.inl b :: .inl a :: st) M en (if b < a then o1 else o2) := m_br k1 k2 (fun C w1 w2 => lv_icmp_gt C.1 C.2.1 hd ht w1 w2)
theorem m_icmp_le (hd : decode y.2.1 pc = .ok (.if_icmp .le off, 3)) (ht : (pc : Int) + off = (tgt : Int)) (k1 : mVr E y d (pc + 3) ls st M en o1) (k2 : mVr E y d tgt ls st M en o2) : mVr E y d pc ls (.inl b :: .inl a :: st) M en (if b < a then o1 else o2) := m_br k1 k2 (fun C w1 w2 => lv_icmp_le C.1 C.2.1 hd ht (fun q => w2 (Int32.not_lt.mpr q)) (fun q => w1 (Int32.not_le.mp q)))
theorem m_if_eq (hd : decode y.2.1 pc = .ok (.ifCond .eq off, 3)) (ht : (pc : Int) + off = (tgt : Int)) (k1 : mVr E y d tgt ls st M en o1) (k2 : mVr E y d (pc + 3) ls st M en o2) : mVr E y d pc ls (.inl a :: st) M en (if a = 0 then o1 else o2) := m_br k1 k2 (fun C w1 w2 => lv_if_eq C.1 C.2.1 hd ht w1 w2)
theorem m_if_ne (hd : decode y.2.1 pc = .ok (.ifCond .ne off, 3)) (ht : (pc : Int) + off = (tgt : Int)) (k1 : mVr E y d (pc + 3) ls st M en o1) (k2 : mVr E y d tgt ls st M en o2) : mVr E y d pc ls (.inl a :: st) M en (if a = 0 then o1 else o2) := m_br k1 k2 (fun C w1 w2 => lv_if_ne C.1 C.2.1 hd ht w2 w1)
theorem m_if_lt (hd : decode y.2.1 pc = .ok (.ifCond .lt off, 3)) (ht : (pc : Int) + off = (tgt : Int)) (k1 : mVr E y d tgt ls st M en o1) (k2 : mVr E y d (pc + 3) ls st M en o2) : mVr E y d pc ls (.inl a :: st) M en (if a < 0 then o1 else o2) := m_br k1 k2 (fun C w1 w2 => lv_if_lt C.1 C.2.1 hd ht w1 w2)
theorem m_if_ge (hd : decode y.2.1 pc = .ok (.ifCond .ge off, 3)) (ht : (pc : Int) + off = (tgt : Int)) (k1 : mVr E y d (pc + 3) ls st M en o1) (k2 : mVr E y d tgt ls st M en o2) : mVr E y d pc ls (.inl a :: st) M en (if a < 0 then o1 else o2) := m_br k1 k2 (fun C w1 w2 => lv_if_ge C.1 C.2.1 hd ht (fun q => w2 (Int32.not_lt.mpr q)) (fun q => w1 (Int32.not_le.mp q)))
theorem m_if_gt (hd : decode y.2.1 pc = .ok (.ifCond .gt off, 3)) (ht : (pc : Int) + off = (tgt : Int)) (k1 : mVr E y d tgt ls st M en o1) (k2 : mVr E y d (pc + 3) ls st M en o2) : mVr E y d pc ls (.inl a :: st) M en (if 0 < a then o1 else o2) := m_br k1 k2 (fun C w1 w2 => lv_if_gt C.1 C.2.1 hd ht w1 w2)
theorem m_if_le (hd : decode y.2.1 pc = .ok (.ifCond .le off, 3)) (ht : (pc : Int) + off = (tgt : Int)) (k1 : mVr E y d (pc + 3) ls st M en o1) (k2 : mVr E y d tgt ls st M en o2) : mVr E y d pc ls (.inl a :: st) M en (if 0 < a then o1 else o2) := m_br k1 k2 (fun C w1 w2 => lv_if_le C.1 C.2.1 hd ht (fun q => w2 (Int32.not_lt.mpr q)) (fun q => w1 (Int32.not_le.mp q)))
end BR
/-- null or not -/
def x_nl {β : Type} (a : Option Nat) (x z : β) : β := match a with
  | none => x
  | some _ => z
theorem m_ifnull {a : Option Nat} {off : Int} {tgt : Nat} {o1 o2 : Option (α × mM)} (hd : decode y.2.1 pc = .ok (.ifnull off, 3)) (ht : (pc : Int) + off = (tgt : Int)) (k1 : mVr E y d tgt ls st M en o1) (k2 : mVr E y d (pc + 3) ls st M en o2) : mVr E y d pc ls (.inr a :: st) M en (x_nl a o1 o2) := by
  cases a with
  | none => exact m_go k1 (fun C _ w => lv_ifnullN C.1 C.2.1 hd ht w)
  | some r => exact m_go k2 (fun C _ w => lv_ifnull C.1 C.2.1 hd w)
theorem m_ifnonnull {a : Option Nat} {off : Int} {tgt : Nat} {o1 o2 : Option (α × mM)} (hd : decode y.2.1 pc = .ok (.ifnonnull off, 3)) (ht : (pc : Int) + off = (tgt : Int)) (k1 : mVr E y d (pc + 3) ls st M en o1) (k2 : mVr E y d tgt ls st M en o2) : mVr E y d pc ls (.inr a :: st) M en (x_nl a o1 o2) := by
  cases a with
  | none => exact m_go k1 (fun C _ w => lv_ifnonnullN C.1 C.2.1 hd w)
  | some r => exact m_go k2 (fun C _ w => lv_ifnonnull C.1 C.2.1 hd ht w)
/-- division -/
def x_dv {β : Type} (a b : Int32) (k : Int32 → Option β) : Option β := if b = 0 then none else k (a / b)
def x_rm {β : Type} (a b : Int32) (k : Int32 → Option β) : Option β := if b = 0 then none else k (a - a / b * b)
theorem m_idiv {a b : Int32} {k : Int32 → Option (α × mM)} (hd : decode y.2.1 pc = .ok (.idiv, 1)) (kk : ∀ x, mVr E y d (pc + 1) ls (.inl x :: st) M en (k x)) : mVr E y d pc ls (.inl b :: .inl a :: st) M en (x_dv a b k) := by
  unfold x_dv
  split
  · exact m_none
  · rename_i h
    exact m_go (kk _) (fun C _ w => lv_idiv C.1 C.2.1 hd h w)
theorem m_irem {a b : Int32} {k : Int32 → Option (α × mM)} (hd : decode y.2.1 pc = .ok (.irem, 1)) (kk : ∀ x, mVr E y d (pc + 1) ls (.inl x :: st) M en (k x)) : mVr E y d pc ls (.inl b :: .inl a :: st) M en (x_rm a b k) := by
  unfold x_rm
  split
  · exact m_none
  · rename_i h
    exact m_go (kk _) (fun C _ w => lv_irem C.1 C.2.1 hd h w)
/-- storing in a local -/
theorem mL_set {la : Array Slot} {n i : Nat} {v : mV} {l : List (Nat × Value)} {la' : Array Slot} (h : mL E la n ls) (hl : ∀ k w, ls[k]? = some (some w) → (k, mval E w) ∈ l) (h' : lv_has la' n ((i, mval E v) :: l.filter (fun q => !(q.1 == i) && !(q.1 + 1 == i && q.2.category == 2)))) : mL E la' n (ls.set i (some v)) := by
  refine ⟨h'.1, h'.2.1, fun k w hk => ?_⟩
  by_cases hki : k = i
  · subst hki
    have hlt := (List.getElem?_eq_some_iff.mp hk).1
    rw [List.getElem?_set_self (by simpa using hlt)] at hk
    cases hk
    exact h'.2.2 (k, mval E v) List.mem_cons_self
  · rw [List.getElem?_set_ne (Ne.symm hki)] at hk
    refine h'.2.2 (k, mval E w) (List.mem_cons_of_mem _ (List.mem_filter.mpr ⟨hl k w hk, ?_⟩))
    simp [hki, mval_cat]
def mlv (E : mE) (ls : List (Option mV)) : List (Nat × Value) := (List.range ls.length).filterMap (fun k => match ls[k]? with
  | some (some w) => some (k, mval E w)
  | _ => none)
theorem mlv_in {k : Nat} {w : mV} (h : ls[k]? = some (some w)) : (k, mval E w) ∈ mlv E ls := by
  unfold mlv
  refine List.mem_filterMap.mpr ⟨k, List.mem_range.mpr (List.getElem?_eq_some_iff.mp h).1, ?_⟩
  rw [h]
theorem mlv_has {la : Array Slot} {n : Nat} (h : mL E la n ls) : lv_has la n (mlv E ls) := by
  refine ⟨h.1, h.2.1, fun q hq => ?_⟩
  unfold mlv at hq
  obtain ⟨k, -, hk⟩ := List.mem_filterMap.mp hq
  split at hk
  · rename_i w hw
    cases hk
    exact h.2.2 k w hw
  · cases hk
theorem m_lo {pc' i : Nat} {v : mV} {st' : List mV} (hi : i < y.2.2.1) (k : mVr E y d pc' (ls.set i (some v)) st' M en o) (h : ∀ {p : Program} {e : Env} {R : Room} {s : State} {m : MethodId} {args : Array Value} {below : List Frame} {meth : Method} {c : Code} {H : Heap} {locs : List Loc} {cells slots : Nat} {Q : State → Prop} {la : Array Slot}, mC E y p s m args meth c → lv_has la y.2.2.1 (mlv E ls) → (∀ la' : Array Slot, lv_has la' y.2.2.1 ((i, mval E v) :: (mlv E ls).filter (fun q => !(q.1 == i) && !(q.1 + 1 == i && q.2.category == 2))) → W p E.1 e R s m args below meth c H locs cells slots Q (F0 m pc' la' (st'.map (mval E)))) → W p E.1 e R s m args below meth c H locs cells slots Q (F0 m pc la (st.map (mval E)))) : mVr E y d pc ls st M en o := by
  intro a Mf ho
  obtain ⟨h1, h2, kk⟩ := k a Mf ho
  exact ⟨h1, h2, fun p e s m args below meth c H locs la n0 s0 R Q C hS hP hL hn hs hz9 => h C (mlv_has hL) (fun la' h' => kk p e s m args below meth c H locs la' n0 s0 R Q C hS hP (mL_set hL (fun _ _ q => mlv_in q) h') hn hs hz9)⟩
theorem m_istore {i : Nat} {x : Int32} (hd : decode y.2.1 pc = .ok (.istore i, 2)) (hi : i < y.2.2.1) (k : mVr E y d (pc + 2) (ls.set i (some (.inl x))) st M en o) : mVr E y d pc ls (.inl x :: st) M en o := m_lo hi k (fun C hL w => lv_istore C.1 C.2.1 hd hL hi rfl w)
theorem m_istore_n {n : Fin 4} {x : Int32} (hd : decode y.2.1 pc = .ok (.istore_n n, 1)) (hi : (n : Nat) < y.2.2.1) (k : mVr E y d (pc + 1) (ls.set n (some (.inl x))) st M en o) : mVr E y d pc ls (.inl x :: st) M en o := m_lo hi k (fun C hL w => lv_istore_n C.1 C.2.1 hd rfl hL hi rfl w)
theorem m_astore {i : Nat} {x : Option Nat} (hd : decode y.2.1 pc = .ok (.astore i, 2)) (hi : i < y.2.2.1) (k : mVr E y d (pc + 2) (ls.set i (some (.inr x))) st M en o) : mVr E y d pc ls (.inr x :: st) M en o := by
  cases x with
  | none => exact m_lo hi k (fun C hL w => lv_astoreN C.1 C.2.1 hd hL hi rfl w)
  | some r => exact m_lo hi k (fun C hL w => lv_astore C.1 C.2.1 hd hL hi rfl w)
theorem m_astore_n {n : Fin 4} {x : Option Nat} (hd : decode y.2.1 pc = .ok (.astore_n n, 1)) (hi : (n : Nat) < y.2.2.1) (k : mVr E y d (pc + 1) (ls.set n (some (.inr x))) st M en o) : mVr E y d pc ls (.inr x :: st) M en o := by
  cases x with
  | none => exact m_lo hi k (fun C hL w => lv_astore_nN C.1 C.2.1 hd rfl hL hi rfl w)
  | some r => exact m_lo hi k (fun C hL w => lv_astore_n C.1 C.2.1 hd rfl hL hi rfl w)
theorem m_iinc {i : Nat} {n : Int} {x v : Int32} (hd : decode y.2.1 pc = .ok (.iinc i n, 3)) (hl : ls[i]? = some (some (.inl x))) (hv : Int32.ofInt n = v) (hi : i < y.2.2.1) (k : mVr E y d (pc + 3) (ls.set i (some (.inl (x + v)))) st M en o) : mVr E y d pc ls st M en o := by
  subst hv
  refine m_lo (v := .inl (x + Int32.ofInt n)) hi k (fun C hL w => ?_)
  obtain ⟨q, hq⟩ := List.getElem?_of_mem (mlv_in (E := E) hl)
  exact lv_iinc C.1 C.2.1 hd hL hq rfl hi rfl w
/-- a switch, by its table of answers -/
def x_sw {β : Type} (x : Int32) : List (Int32 × β) → β → β
  | [], z => z
  | (k, b) :: l, z => if x = k then b else x_sw x l z
end MR
