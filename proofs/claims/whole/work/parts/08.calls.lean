/-! statics, the script, copies, least and greatest, switches -/
def x_sI {β : Type} (a : Option Nat) (i : Int32) (k : Int32 → Option β) : Option β := match a with
  | none => none
  | some q => if ¬ i < 0 ∧ i.toNatClampNeg < mtN q then k (mtF q i.toNatClampNeg) else none
def x_sl {β : Type} (a : Option Nat) (k : Int32 → Option β) : Option β := match a with
  | none => none
  | some q => if 0 < mtN q then k (Int32.ofNat (mtN q)) else none
def x_xI {β : Type} (L : Nat) (xs : Nat → Int32) (i : Int32) (k : Int32 → Option β) : Option β := if ¬ i < 0 ∧ i.toNatClampNeg < L then k (xs i.toNatClampNeg) else none
theorem mst_of {q : Nat} (h : 0 < mtN q) : q < 16 ∧ ∃ x ∈ mst, x.1 = q := by
  match q, h with
  | 0, h => simp [mtN, mtV] at h
  | 1, _ => exact ⟨by omega, _, List.mem_of_getElem? (i := 0) rfl, rfl⟩
  | 2, _ => exact ⟨by omega, _, List.mem_of_getElem? (i := 1) rfl, rfl⟩
  | 3, _ => exact ⟨by omega, _, List.mem_of_getElem? (i := 2) rfl, rfl⟩
  | 4, _ => exact ⟨by omega, _, List.mem_of_getElem? (i := 3) rfl, rfl⟩
  | q + 5, h => simp [mtN, mtV] at h
theorem mad_st (E : mE) {q : Nat} (h : q < 16) : mad E q = eS E q := if_pos h
section MS
variable {E : mE} {y : mI} {d pc : Nat} {ls : List (Option mV)} {st : List mV} {M : mM} {α : Type} {en : α → Option mV}
theorem m_gets {index q : Nat} {S n dd : String} {o : Option (α × mM)} (hq : (q, S, n, dd) ∈ mst) (hq2 : q < 16) (hd : decode y.2.1 pc = .ok (.getstatic index, 3)) (hl : Cond.fieldLink y.1.cls index S n dd ∈ mtb) (k : mVr E y d (pc + 3) ls (.inr (some q) :: st) M en o) : mVr E y d pc ls st M en o := by
  intro b Mf ho
  obtain ⟨h1, h2, kk⟩ := k b Mf ho
  refine ⟨h1, h2, fun p e s m args below meth cd H locs la n0 s0 R Q C hS hP hL hn hs hz9 => ?_⟩
  have hz := (C.2.2.2.2.2.2.2.2.1.2.1 _ hq).1
  have w := kk p e s m args below meth cd H locs la n0 s0 R Q C hS hP hL hn hs hz9
  rw [show List.map (mval E) (.inr (some q) :: st) = .ref (eS E q) :: st.map (mval E) by show Value.ref (mad E q) :: _ = _; rw [mad_st E hq2]] at w
  exact va_gets C.1 C.2.1 hz hS C.2.2.2.2.1 (C.2.2.2.2.2.1 _ hl) (fun _ h => h) hd w
theorem m_getsN {index q : Nat} {S n dd host : String} {o : Option (α × mM)} (hq : (q, S, n, dd) ∈ mst) (hq2 : q < 16) (hd : decode y.2.1 pc = .ok (.getstatic index, 3)) (hl : Cond.fieldLinkNest y.1.cls index S n dd host ∈ mnw) (k : mVr E y d (pc + 3) ls (.inr (some q) :: st) M en o) : mVr E y d pc ls st M en o := by
  intro b Mf ho
  obtain ⟨h1, h2, kk⟩ := k b Mf ho
  refine ⟨h1, h2, fun p e s m args below meth cd H locs la n0 s0 R Q C hS hP hL hn hs hz9 => ?_⟩
  have hz := (C.2.2.2.2.2.2.2.2.1.2.1 _ hq).1
  have w := kk p e s m args below meth cd H locs la n0 s0 R Q C hS hP hL hn hs hz9
  rw [show List.map (mval E) (.inr (some q) :: st) = .ref (eS E q) :: st.map (mval E) by show Value.ref (mad E q) :: _ = _; rw [mad_st E hq2]] at w
  exact va_getsN C.1 C.2.1 hz hS C.2.2.2.2.1 (va_Nw.use rfl (C.2.2.2.2.2.2.2.2.1.2.2.2 _ hl)) (fun _ h => h) hd w
theorem m_sld {a : Option Nat} {i : Int32} {k : Int32 → Option (α × mM)} (hd : decode y.2.1 pc = .ok (.iaload, 1)) (kk : ∀ x, mVr E y d (pc + 1) ls (.inl x :: st) M en (k x)) : mVr E y d pc ls (.inl i :: .inr a :: st) M en (x_sI a i k) := by
  cases a with
  | none => exact m_none
  | some q =>
    unfold x_sI
    dsimp only
    split
    · rename_i hk
      intro b Mf ho
      obtain ⟨h1, h2, kk⟩ := kk _ b Mf ho
      refine ⟨h1, h2, fun p e s m args below meth cd H locs la n0 s0 R Q C hS hP hL hn hs hz9 => ?_⟩
      obtain ⟨hq, x, hx, rfl⟩ := mst_of (q := q) (by omega)
      have hT := (C.2.2.2.2.2.2.2.2.1.2.1 _ hx).2
      rw [show List.map (mval E) (.inl i :: .inr (some x.1) :: st) = .int i :: .ref (eS E x.1) :: st.map (mval E) by show Value.int i :: Value.ref (mad E x.1) :: _ = _; rw [mad_st E hq]]
      exact va_ti C.1 C.2.1 hT hS (fun z => z.elim hk.1 (fun z => absurd z (Nat.not_le.mpr hk.2))) rfl hd (kk p e s m args below meth cd H locs la n0 s0 R Q C hS hP hL hn hs hz9)
    · exact m_none
theorem m_slen {a : Option Nat} {k : Int32 → Option (α × mM)} (hd : decode y.2.1 pc = .ok (.arraylength, 1)) (kk : ∀ x, mVr E y d (pc + 1) ls (.inl x :: st) M en (k x)) : mVr E y d pc ls (.inr a :: st) M en (x_sl a k) := by
  cases a with
  | none => exact m_none
  | some q =>
    unfold x_sl
    dsimp only
    split
    · rename_i hk
      intro b Mf ho
      obtain ⟨h1, h2, kk⟩ := kk _ b Mf ho
      refine ⟨h1, h2, fun p e s m args below meth cd H locs la n0 s0 R Q C hS hP hL hn hs hz9 => ?_⟩
      obtain ⟨hq, x, hx, rfl⟩ := mst_of hk
      have hT := (C.2.2.2.2.2.2.2.2.1.2.1 _ hx).2
      rw [show List.map (mval E) (.inr (some x.1) :: st) = .ref (eS E x.1) :: st.map (mval E) by show Value.ref (mad E x.1) :: _ = _; rw [mad_st E hq]]
      exact va_tlen C.1 C.2.1 hT hS rfl hd (kk p e s m args below meth cd H locs la n0 s0 R Q C hS hP hL hn hs hz9)
    · exact m_none
theorem m_xld {i : Int32} {k : Int32 → Option (α × mM)} (hd : decode y.2.1 pc = .ok (.iaload, 1)) (kk : ∀ x, mVr E y d (pc + 1) ls (.inl x :: st) M en (k x)) : mVr E y d pc ls (.inl i :: .inr (some 0) :: st) M en (x_xI (eL E) (eX E) i k) := by
  unfold x_xI
  split
  · rename_i hk
    intro b Mf ho
    obtain ⟨h1, h2, kk⟩ := kk _ b Mf ho
    refine ⟨h1, h2, fun p e s m args below meth cd H locs la n0 s0 R Q C hS hP hL hn hs hz9 => ?_⟩
    exact va_ti C.1 C.2.1 C.2.2.2.2.2.2.2.2.1.2.2.1 hS (fun z => z.elim hk.1 (fun z => absurd z (Nat.not_le.mpr hk.2))) rfl hd (kk p e s m args below meth cd H locs la n0 s0 R Q C hS hP hL hn hs hz9)
  · exact m_none
theorem m_xlen {o : Option (α × mM)} (hd : decode y.2.1 pc = .ok (.arraylength, 1)) (kk : mVr E y d (pc + 1) ls (.inl (Int32.ofNat (eL E)) :: st) M en o) : mVr E y d pc ls (.inr (some 0) :: st) M en o := by
  intro b Mf ho
  obtain ⟨h1, h2, kk⟩ := kk b Mf ho
  refine ⟨h1, h2, fun p e s m args below meth cd H locs la n0 s0 R Q C hS hP hL hn hs hz9 => ?_⟩
  exact va_tlen C.1 C.2.1 C.2.2.2.2.2.2.2.2.1.2.2.1 hS rfl hd (kk p e s m args below meth cd H locs la n0 s0 R Q C hS hP hL hn hs hz9)
/-- the lesser, the greater -/
theorem m_min {index : Nat} {a b : Int32} {o : Option (α × mM)} (hd : decode y.2.1 pc = .ok (.invokestatic index, 3)) (hl : Cond.methodLink y.1.cls index Lib.Math.min.name ∈ mtb) (hs : Cond.static Lib.Math.min.name ∈ mtb) (hi : Cond.initialized "java/lang/Math" ∈ mtb) (hc : Cond.code Lib.Math.min.name Lib.Math.min.code 2 (some .int) ∈ mtb) (hdd : st.length + 13 ≤ 40 * d) (k : mVr E y d (pc + 3) ls (.inl (if b < a then b else a) :: st) M en o) : mVr E y d pc ls (.inl b :: .inl a :: st) M en o := by
  intro z Mf ho
  obtain ⟨h1, h2, kk⟩ := k z Mf ho
  refine ⟨h1, h2, fun p e s m args below meth cd H locs la n0 s0 R Q C hS hP hL hn hs2 hz9 => ?_⟩
  have hts := C.2.2.2.2.2.1
  exact va_mmin C.1 C.2.1 (by rw [C.2.2.2.1, hL.1]) C.2.2.2.2.1 (hts _ hl) (hts _ hs) (hts _ hi) (hts _ hc) (Nat.le_trans (show 1 ≤ d by omega) hz9.1) (by rw [mcats]; exact Nat.le_trans hdd hz9.2.1) (Nat.le_trans (show mN M - n0 ≤ mN Mf - n0 by omega) hz9.2.2.1) (Nat.le_trans (show mSl M - s0 ≤ mSl Mf - s0 by omega) hz9.2.2.2.1) hd (kk p e s m args below meth cd H locs la n0 s0 R Q C hS hP hL hn hs2 hz9)
theorem m_max {index : Nat} {a b : Int32} {o : Option (α × mM)} (hd : decode y.2.1 pc = .ok (.invokestatic index, 3)) (hl : Cond.methodLink y.1.cls index Lib.Math.max.name ∈ mtb) (hs : Cond.static Lib.Math.max.name ∈ mtb) (hi : Cond.initialized "java/lang/Math" ∈ mtb) (hc : Cond.code Lib.Math.max.name Lib.Math.max.code 2 (some .int) ∈ mtb) (hdd : st.length + 13 ≤ 40 * d) (k : mVr E y d (pc + 3) ls (.inl (if a < b then b else a) :: st) M en o) : mVr E y d pc ls (.inl b :: .inl a :: st) M en o := by
  intro z Mf ho
  obtain ⟨h1, h2, kk⟩ := k z Mf ho
  refine ⟨h1, h2, fun p e s m args below meth cd H locs la n0 s0 R Q C hS hP hL hn hs2 hz9 => ?_⟩
  have hts := C.2.2.2.2.2.1
  exact va_mmax C.1 C.2.1 (by rw [C.2.2.2.1, hL.1]) C.2.2.2.2.1 (hts _ hl) (hts _ hs) (hts _ hi) (hts _ hc) (Nat.le_trans (show 1 ≤ d by omega) hz9.1) (by rw [mcats]; exact Nat.le_trans hdd hz9.2.1) (Nat.le_trans (show mN M - n0 ≤ mN Mf - n0 by omega) hz9.2.2.1) (Nat.le_trans (show mSl M - s0 ≤ mSl Mf - s0 by omega) hz9.2.2.2.1) hd (kk p e s m args below meth cd H locs la n0 s0 R Q C hS hP hL hn hs2 hz9)
/-- switches -/
theorem m_sw {x : Int32} {cs : List (Int32 × Option (α × mM))} {z : Option (α × mM)} (hc : ∀ c ∈ cs, mVr E y d pc ls (.inl c.1 :: st) M en c.2) (hz : (∀ c ∈ cs, x ≠ c.1) → mVr E y d pc ls (.inl x :: st) M en z) : mVr E y d pc ls (.inl x :: st) M en (x_sw x cs z) := by
  induction cs with
  | nil => exact hz (fun c h => by cases h)
  | cons c cs ih =>
    obtain ⟨k, b⟩ := c
    unfold x_sw
    split
    · rename_i h
      subst h
      exact hc _ List.mem_cons_self
    · rename_i h
      exact ih (fun c hm => hc c (List.mem_cons_of_mem _ hm)) (fun hne => hz (fun c hm => (List.mem_cons.mp hm).elim (fun e => by rw [e]; exact h) (hne c)))
theorem m_tin {dflt lo hi : Int} {offs : Array Int} {len tgt : Nat} {x : Int32} {off : Int} {o : Option (α × mM)} (hd : decode y.2.1 pc = .ok (.tableswitch dflt lo hi offs, len)) (h1 : ¬ x.toInt < lo) (h2 : ¬ hi < x.toInt) (h3 : offs[(x.toInt - lo).toNat]? = some off) (ht : (pc : Int) + off = (tgt : Int)) (k : mVr E y d tgt ls st M en o) : mVr E y d pc ls (.inl x :: st) M en o := m_go k (fun C _ w => lv_tableIn C.1 C.2.1 hd h1 h2 h3 ht w)
theorem m_tout {dflt lo hi : Int} {offs : Array Int} {len tgt : Nat} {x : Int32} {ks : List Int32} {o : Option (α × mM)} (hd : decode y.2.1 pc = .ok (.tableswitch dflt lo hi offs, len)) (hk : ∀ k ∈ ks, x ≠ k) (hks : ∀ j : Nat, j < (hi + 1 - lo).toNat → ∃ k ∈ ks, k.toInt = lo + j) (ht : (pc : Int) + dflt = (tgt : Int)) (k : mVr E y d tgt ls st M en o) : mVr E y d pc ls (.inl x :: st) M en o := by
  refine m_go k (fun C _ w => lv_tableOut C.1 C.2.1 hd ?_ ht w)
  by_cases h1 : x.toInt < lo
  · exact Or.inl h1
  · by_cases h2 : hi < x.toInt
    · exact Or.inr h2
    · exfalso
      obtain ⟨k, hk1, hk2⟩ := hks (x.toInt - lo).toNat (by omega)
      exact hk k hk1 (Int32.toInt_inj.mp (by rw [hk2]; omega))
theorem m_lin {dflt : Int} {ps : Array (Int × Int)} {len tgt : Nat} {x : Int32} {off : Int} {o : Option (α × mM)} (hd : decode y.2.1 pc = .ok (.lookupswitch dflt ps, len)) (hp : (ps.toList.zip (ps.toList.drop 1)).all (fun (a, next) => a.1 < next.1) = true) (ho : Op.lookupswitch.offset ps.toList dflt x.toInt = off) (ht : (pc : Int) + off = (tgt : Int)) (k : mVr E y d tgt ls st M en o) : mVr E y d pc ls (.inl x :: st) M en o := m_go k (fun C _ w => lv_lookup C.1 C.2.1 hd hp ho ht w)
theorem m_offs {x : Int32} {dflt : Int} : ∀ (ps : List (Int × Int)), (∀ q ∈ ps, x.toInt ≠ q.1) → Op.lookupswitch.offset ps dflt x.toInt = dflt
  | [], _ => rfl
  | (a, b) :: l, h => by
    rw [Op.lookupswitch.offset_cons, if_neg (fun q => h (a, b) List.mem_cons_self q.symm)]
    exact m_offs l (fun q hq => h q (List.mem_cons_of_mem _ hq))
theorem m_lout {dflt : Int} {ps : Array (Int × Int)} {len tgt : Nat} {x : Int32} {ks : List Int32} {o : Option (α × mM)} (hd : decode y.2.1 pc = .ok (.lookupswitch dflt ps, len)) (hp : (ps.toList.zip (ps.toList.drop 1)).all (fun (a, next) => a.1 < next.1) = true) (hk : ∀ k ∈ ks, x ≠ k) (hks : ks.map Int32.toInt = ps.toList.map Prod.fst) (ht : (pc : Int) + dflt = (tgt : Int)) (k : mVr E y d tgt ls st M en o) : mVr E y d pc ls (.inl x :: st) M en o := by
  refine m_lin hd hp (m_offs _ (fun q hq e => ?_)) ht k
  have h1 : q.1 ∈ ks.map Int32.toInt := by rw [hks]; exact List.mem_map_of_mem hq
  obtain ⟨z, hz, hze⟩ := List.mem_map.mp h1
  exact hk z hz (Int32.toInt_inj.mp (by rw [e, hze]))
/-- the end of a method -/
def x_rz (x : Int32) (M : mM) : Option (Int32 × mM) := if x = 0 ∨ x = 1 then some (x, M) else none
theorem m_iret {x : Int32} (hd : decode y.2.1 pc = .ok (.ireturn, 1)) (hr : y.2.2.2 = some .int) : mVr E y d pc ls [.inl x] M enI (some (x, M)) := by
  intro b Mf ho
  cases ho
  refine ⟨Nat.le_refl _, Nat.le_refl _, fun p e s m args below meth cd H locs la n0 s0 R Q C hS hP hL hn hs hz9 => ?_⟩
  exact hz9.2.2.2.2 pc H locs la hS hP (by rw [hr]; exact hd) (fun h => by rw [hr] at h; cases h)
theorem m_zret {x : Int32} (hd : decode y.2.1 pc = .ok (.ireturn, 1)) (hr : y.2.2.2 = some .boolean) : mVr E y d pc ls [.inl x] M enI (x_rz x M) := by
  unfold x_rz
  split
  · rename_i hx
    intro b Mf ho
    cases ho
    refine ⟨Nat.le_refl _, Nat.le_refl _, fun p e s m args below meth cd H locs la n0 s0 R Q C hS hP hL hn hs hz9 => ?_⟩
    exact hz9.2.2.2.2 pc H locs la hS hP (by rw [hr]; exact hd) (fun _ => by rcases hx with q | q <;> rw [q]; exact Or.inl rfl; exact Or.inr rfl)
  · exact m_none
theorem m_vret (hd : decode y.2.1 pc = .ok (.return_, 1)) (hr : y.2.2.2 = none) : mVr E y d pc ls [] M enU (some ((), M)) := by
  intro b Mf ho
  cases ho
  refine ⟨Nat.le_refl _, Nat.le_refl _, fun p e s m args below meth cd H locs la n0 s0 R Q C hS hP hL hn hs hz9 => ?_⟩
  exact hz9.2.2.2.2 pc H locs la hS hP (by rw [hr]; exact hd) (fun h => by rw [hr] at h; cases h)
theorem m_aret {x : Option Nat} {S : String} (hd : decode y.2.1 pc = .ok (.areturn, 1)) (hr : y.2.2.2 = some (.object S)) : mVr E y d pc ls [.inr x] M enR (some (x, M)) := by
  intro b Mf ho
  cases ho
  refine ⟨Nat.le_refl _, Nat.le_refl _, fun p e s m args below meth cd H locs la n0 s0 R Q C hS hP hL hn hs hz9 => ?_⟩
  exact hz9.2.2.2.2 pc H locs la hS hP (by rw [hr]; exact hd) (fun h => by rw [hr] at h; cases h)
end MS
