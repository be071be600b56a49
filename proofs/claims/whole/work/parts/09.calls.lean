/-! copies, calls, the entry -/
def mcp (M : mM) (r0 r1 sp dp n : Nat) : mM := (mrow M.1 r1 (va_cpy (M.1 r0) (M.1 r1) sp dp n), M.2)
def x_cp {β : Type} (M : mM) (a0 : Option Nat) (sp : Int32) (a1 : Option Nat) (dp n : Int32) (k : mM → Option β) : Option β := match a0, a1 with
  | some r0, some r1 => if mKd M r0 = 1 ∧ mKd M r1 = 1 ∧ ¬ sp < 0 ∧ ¬ dp < 0 ∧ ¬ n < 0 ∧ sp.toNatClampNeg + n.toNatClampNeg ≤ mLn M r0 ∧ dp.toNatClampNeg + n.toNatClampNeg ≤ mLn M r1 then k (mcp M r0 r1 sp.toNatClampNeg dp.toNatClampNeg n.toNatClampNeg) else none
  | _, _ => none
def x_cl {β γ : Type} (o : Option (β × mM)) (k : β → mM → Option γ) : Option γ := match o with
  | none => none
  | some (b, M) => k b M
def x_cv {β γ : Type} (M : mM) (c : Nat) (a : Option Nat) (o : Option (β × mM)) (k : β → mM → Option γ) : Option γ := match a with
  | none => none
  | some r => if mKd M r = c + 10 then x_cl o k else none
def x_ci {β γ : Type} (a : Option Nat) (o : Option (β × mM)) (k : β → mM → Option γ) : Option γ := match a with
  | none => none
  | some _ => x_cl o k
theorem mnw_warm {s U : State} (hW : s.WarmedH U.vm) : ∀ w ∈ mnw, va_Nw w s → va_Nw w U := by
  intro w hw h
  unfold mnw at hw
  repeat (first
    | (cases hw; done)
    | (rcases List.mem_cons.mp hw with rfl | hw
       · first
         | exact va_Nw.warmM hW h
         | exact va_Nw.warmF hW h
         | exact va_AO.moved hW.alike h))
theorem mnw_same {s U : State} (hvm : U.vm = s.vm) : ∀ w ∈ mnw, va_Nw w s → va_Nw w U := by
  intro w hw h
  unfold mnw at hw
  repeat (first
    | (cases hw; done)
    | (rcases List.mem_cons.mp hw with rfl | hw
       · first
         | exact va_Nw.same rfl hvm.symm h
         | exact va_AO.moved (by rw [hvm]; exact Vm.Alike.refl _) h))
theorem mG_same {E : mE} {U U' : State} (hvm : U'.vm = U.vm) (hh : U'.heap = U.heap) (h : mG E U) : mG E U' := by
  have ha : U.vm.Alike U'.vm := by rw [hvm]; exact Vm.Alike.refl _
  refine ⟨va_K.moved ha h.1, fun q hq => ?_, ?_, fun w hw => ?_⟩
  · obtain ⟨h1, h2⟩ := h.2.1 q hq
    rw [hh]
    exact ⟨h1.moved ha, h2.moved ha⟩
  · rw [hh]
    exact h.2.2.1.moved ha
  · exact mnw_same hvm w hw (h.2.2.2 w hw)
theorem mG_call {E : mE} {s U : State} {H : Heap} {locs : List Loc} (h : mG E s) (hS : va_S (mA E) s.heap H locs) (hU : U.heap = H) (hW : s.WarmedH U.vm) : mG E U := by
  have ha := hW.alike
  have hq : ∀ a : Nat, a < s.heap.size → ¬ (mA E) a → U.heap[a]? = s.heap[a]? := fun a h1 h2 => by rw [hU]; exact hS.2.1 a h1 h2
  refine ⟨va_K.moved ha h.1, fun q hm => ?_, (h.2.2.1.moved ha).kept hq, fun w hw => mnw_warm hW w hw (h.2.2.2 w hw)⟩
  obtain ⟨h1, h2⟩ := h.2.1 q hm
  exact ⟨(h1.moved ha).kept hq, (h2.moved ha).kept hq⟩
theorem mBlind (E : mE) (M : mM) (av : List Value) : FrameBlind (va_Pc av (fun U => mG E U ∧ mP E M U.heap)) := fun a U g mk h => ⟨h.1, mG_same (U := U) (U' := U.calling g mk a) rfl rfl h.2.1, h.2.2⟩
theorem mGood {y : mI} (h : Cond.code y.1 y.2.1 y.2.2.1 y.2.2.2 ∈ mtb) : GoodIn mtb (mWs y) := by
  intro w hw
  have hm : w ∈ mtb := (List.mem_cons.mp hw).elim (fun e => by rw [e]; exact h) id
  exact ⟨hm, good_of_word (List.mem_filter.mp hm).2⟩
/-- what the tables say of a call -/
def mCd (y : mI) (n : Nat) : Prop := Cond.code y.1 y.2.1 y.2.2.1 y.2.2.2 ∈ mtb ∧ Cond.initialized y.1.cls ∈ mtb ∧ y.2.2.1 ≤ 21 ∧ y.1.cls ≠ "java/lang/invoke/MethodHandle" ∧ y.1.cls ≠ "java/lang/invoke/VarHandle" ∧ (parseMethodDescriptor y.1.desc).map (fun d => d.parameters.length) = some n
section MCL
variable {E : mE} {y : mI} {d pc : Nat} {ls : List (Option mV)} {st : List mV} {M : mM} {α : Type} {en : α → Option mV}
theorem m_after {p : Program} {e : Env} {R : Room} {s : State} {m : MethodId} {args : Array Value} {below : List Frame} {meth : Method} {c : Code} {H : Heap} {locs : List Loc} {cells slots mc ms : Nat} {Q : State → Prop} {la : Array Slot} {st0 rest : List Value} {v : Option mV} {M2 : mM} {a : Array Value} (hr : va_Run p E.1 e R s m args below meth c H locs cells slots mc ms (F0 m pc la st0) rest (mQ E v M2 a) (mA E)) (hS : va_S (mA E) s.heap H locs)
    (kk : ∀ (H1 : Heap) (locs1 : List Loc), mP E M2 H1 → va_S (mA E) s.heap H1 locs1 → W p E.1 e R s m args below meth c H1 locs1 (cells + mc) (slots + ms) Q (F0 m (pc + 3) la ((v.map (mval E)).toList ++ rest))) : W p E.1 e R s m args below meth c H locs cells slots Q (F0 m pc la st0) := by
  intro T hT X
  obtain ⟨v', st₀, t, T', L, h0, X', hL, e1, e2, ⟨⟨hv, hp⟩, hz, hk⟩, stp⟩ := hr T hT X
  have hv := Outcome.returned.inj hv
  subst hv
  rw [h0] at hz hk
  obtain ⟨t2, a1, b1⟩ := kk T'.heap (locs ++ L) (by rw [e1]; exact hp) ⟨Nat.le_trans hS.1 (by rw [e1]; exact hz), fun q h1 h2 => by rw [e1, hk q (Nat.lt_of_lt_of_le h1 hS.1) h2]; exact hS.2.1 q h1 h2, fun q hq => by
      rcases List.mem_append.mp hq with h | h
      · exact hS.2.2 q h
      · exact hL q h⟩ T' rfl X'
  exact ⟨t2, stp t2 a1, b1⟩
section ONE
variable {y' : mI} {d' index : Nat} {vs : List mV} {β : Type} {en' : β → Option mV} {o' : Option (β × mM)} {k : β → mM → Option (α × mM)} {st0 : List mV}
theorem m_callV {c : Nat} {a : Option Nat} {T : u_T} {N : Nat} (hd : decode y.2.1 pc = .ok (.invokevirtual index, 3)) (hs : mSnd E y' d' (.inr a :: vs) M en' o') (hcd : mCd y' vs.length) (hl : Cond.methodLink y.1.cls index y'.1 ∈ mtb) (hi : Cond.instanceMethod y'.1 ∈ mtb) (hsel : Cond.selects y'.1.cls y'.1 y'.1 ∈ mtb) (hc : vwCl[c]? = some (y'.1.cls, T, N)) (hdd : d' < d) (hst : st0 = vs.reverse ++ .inr a :: st) (hlen : st.length ≤ 8) (kk : ∀ b M', mVr E y d (pc + 3) ls ((en' b).toList ++ st) M' en (k b M')) : mVr E y d pc ls st0 M en (x_cv M c a o' k) := by
  cases a with
  | none => exact m_none
  | some r =>
    unfold x_cv
    dsimp only
    split
    · rename_i hk
      cases o' with
      | none => exact m_none
      | some q =>
        obtain ⟨b, M2⟩ := q
        intro z Mf ho
        obtain ⟨g1, g2, hM⟩ := hs b M2 rfl
        obtain ⟨h1, h2, kk⟩ := kk b M2 z Mf ho
        refine ⟨Nat.le_trans g1 h1, Nat.le_trans g2 h2, fun p e s m args below meth cd H locs la n0 s0 R Q C hS hP hL hn hs2 hz9 => ?_⟩
        have hts := C.2.2.2.2.2.1
        have hG := C.2.2.2.2.2.2.2.2.1
        have he := mws_get hP (r := r) (by omega)
        rw [mcell_o hk] at he
        subst hst
        refine m_after (va_runV (As := vs.map (mval E)) (rest := st.map (mval E)) (b := mad E r) (C := y'.1.cls) (n := vs.length) ⟨C.1, C.2.1, C.2.2.2.1, C.2.2.2.2.1, hts⟩ hM ⟨callB_of vs.length hts (mGood hcd.1) rfl rfl rfl (hts _ hcd.2.1) (hts _ hl) hcd.2.2.2 ⟨Nat.le_trans (show d' + 1 ≤ d by omega) hz9.1, Nat.le_trans (show 8 + (y'.2.2.1 + 11) + 40 * d' ≤ 40 * d by have := hcd.2.2.1; omega) hz9.2.1⟩, hts _ hi, hts _ hsel⟩ ⟨mBlind E M _, va_recv hG.1 hP.1 hc he, fun U hU hW => ⟨rfl, mG_call hG hS hU hW, by rw [hU]; exact hP⟩⟩ rfl (by simp) hL.1 (by simp [mval]) (lv_room (by rw [mcats]; exact hlen)) hd ⟨Nat.le_trans (show mN M - n0 + (mN M2 - mN M) ≤ mN Mf - n0 by omega) hz9.2.2.1, Nat.le_trans (show mSl M - s0 + (mSl M2 - mSl M) ≤ mSl Mf - s0 by omega) hz9.2.2.2.1⟩) hS (fun H1 locs1 hP1 hS1 => ?_)
        have w := kk p e s m args below meth cd H1 locs1 la n0 s0 R Q C hS1 hP1 hL (Nat.le_trans hn g1) (Nat.le_trans hs2 g2) hz9
        rw [show mN M2 - n0 = mN M - n0 + (mN M2 - mN M) by omega, show mSl M2 - s0 = mSl M - s0 + (mSl M2 - mSl M) by omega, List.map_append] at w
        cases hv : en' b with
        | none => rw [hv] at w; exact w
        | some v => rw [hv] at w; exact w
    · exact m_none
theorem m_callS (hd : decode y.2.1 pc = .ok (.invokestatic index, 3)) (hs : mSnd E y' d' vs M en' o') (hcd : mCd y' vs.length) (hl : Cond.methodLink y.1.cls index y'.1 ∈ mtb) (hi : Cond.static y'.1 ∈ mtb) (hdd : d' < d) (hst : st0 = vs.reverse ++ st) (hlen : st.length ≤ 8) (kk : ∀ b M', mVr E y d (pc + 3) ls ((en' b).toList ++ st) M' en (k b M')) : mVr E y d pc ls st0 M en (x_cl o' k) := by
  cases o' with
  | none => exact m_none
  | some q =>
    obtain ⟨b, M2⟩ := q
    intro z Mf ho
    obtain ⟨g1, g2, hM⟩ := hs b M2 rfl
    obtain ⟨h1, h2, kk⟩ := kk b M2 z Mf ho
    refine ⟨Nat.le_trans g1 h1, Nat.le_trans g2 h2, fun p e s m args below meth cd H locs la n0 s0 R Q C hS hP hL hn hs2 hz9 => ?_⟩
    have hts := C.2.2.2.2.2.1
    have hG := C.2.2.2.2.2.2.2.2.1
    subst hst
    refine m_after (va_runS (As := vs.map (mval E)) (rest := st.map (mval E)) (n := vs.length) ⟨C.1, C.2.1, C.2.2.2.1, C.2.2.2.2.1, hts⟩ hM ⟨callB_of vs.length hts (mGood hcd.1) rfl rfl rfl (hts _ hcd.2.1) (hts _ hl) hcd.2.2.2 ⟨Nat.le_trans (show d' + 1 ≤ d by omega) hz9.1, Nat.le_trans (show 8 + (y'.2.2.1 + 11) + 40 * d' ≤ 40 * d by have := hcd.2.2.1; omega) hz9.2.1⟩, hts _ hi⟩ ⟨mBlind E M _, fun U hU hW => ⟨rfl, mG_call hG hS hU hW, by rw [hU]; exact hP⟩⟩ rfl (by simp) hL.1 (by simp) (lv_room (by rw [mcats]; exact hlen)) hd ⟨Nat.le_trans (show mN M - n0 + (mN M2 - mN M) ≤ mN Mf - n0 by omega) hz9.2.2.1, Nat.le_trans (show mSl M - s0 + (mSl M2 - mSl M) ≤ mSl Mf - s0 by omega) hz9.2.2.2.1⟩) hS (fun H1 locs1 hP1 hS1 => ?_)
    have w := kk p e s m args below meth cd H1 locs1 la n0 s0 R Q C hS1 hP1 hL (Nat.le_trans hn g1) (Nat.le_trans hs2 g2) hz9
    rw [show mN M2 - n0 = mN M - n0 + (mN M2 - mN M) by omega, show mSl M2 - s0 = mSl M - s0 + (mSl M2 - mSl M) by omega, List.map_append] at w
    cases hv : en' b with
    | none => rw [hv] at w; exact w
    | some v => rw [hv] at w; exact w
theorem m_callSN {host : String} (hd : decode y.2.1 pc = .ok (.invokestatic index, 3)) (hs : mSnd E y' d' vs M en' o') (hcd : mCd y' vs.length) (hl : Cond.methodLinkNest y.1.cls index y'.1 host ∈ mnw) (hi : Cond.static y'.1 ∈ mtb) (hdd : d' < d) (hst : st0 = vs.reverse ++ st) (hlen : st.length ≤ 8) (kk : ∀ b M', mVr E y d (pc + 3) ls ((en' b).toList ++ st) M' en (k b M')) : mVr E y d pc ls st0 M en (x_cl o' k) := by
  cases o' with
  | none => exact m_none
  | some q =>
    obtain ⟨b, M2⟩ := q
    intro z Mf ho
    obtain ⟨g1, g2, hM⟩ := hs b M2 rfl
    obtain ⟨h1, h2, kk⟩ := kk b M2 z Mf ho
    refine ⟨Nat.le_trans g1 h1, Nat.le_trans g2 h2, fun p e s m args below meth cd H locs la n0 s0 R Q C hS hP hL hn hs2 hz9 => ?_⟩
    have hts := C.2.2.2.2.2.1
    have hG := C.2.2.2.2.2.2.2.2.1
    subst hst
    refine m_after (va_runSN (As := vs.map (mval E)) (rest := st.map (mval E)) (n := vs.length) ⟨C.1, C.2.1, C.2.2.2.1, C.2.2.2.2.1, hts⟩ hM ⟨va_cnB vs.length hts (mGood hcd.1) rfl rfl rfl (hG.2.2.2 _ hl) (hts _ hcd.2.1) hcd.2.2.2 ⟨Nat.le_trans (show d' + 1 ≤ d by omega) hz9.1, Nat.le_trans (show 8 + (y'.2.2.1 + 11) + 40 * d' ≤ 40 * d by have := hcd.2.2.1; omega) hz9.2.1⟩, hts _ hi, trivial⟩ ⟨mBlind E M _, fun U hU hW => ⟨rfl, mG_call hG hS hU hW, by rw [hU]; exact hP⟩⟩ rfl (by simp) hL.1 (by simp) (lv_room (by rw [mcats]; exact hlen)) hd ⟨Nat.le_trans (show mN M - n0 + (mN M2 - mN M) ≤ mN Mf - n0 by omega) hz9.2.2.1, Nat.le_trans (show mSl M - s0 + (mSl M2 - mSl M) ≤ mSl Mf - s0 by omega) hz9.2.2.2.1⟩) hS (fun H1 locs1 hP1 hS1 => ?_)
    have w := kk p e s m args below meth cd H1 locs1 la n0 s0 R Q C hS1 hP1 hL (Nat.le_trans hn g1) (Nat.le_trans hs2 g2) hz9
    rw [show mN M2 - n0 = mN M - n0 + (mN M2 - mN M) by omega, show mSl M2 - s0 = mSl M - s0 + (mSl M2 - mSl M) by omega, List.map_append] at w
    cases hv : en' b with
    | none => rw [hv] at w; exact w
    | some v => rw [hv] at w; exact w
theorem m_callI {a : Option Nat} (hd : decode y.2.1 pc = .ok (.invokespecial index, 3)) (hs : mSnd E y' d' (.inr a :: vs) M en' o') (hcd : mCd y' vs.length) (hnm : y'.1.name = "<init>") (hrt : y'.2.2.2 = none) (hl : Cond.methodLink y.1.cls index y'.1 ∈ mtb) (hi : Cond.instanceMethod y'.1 ∈ mtb) (hdd : d' < d) (hst : st0 = vs.reverse ++ .inr a :: st) (hlen : st.length ≤ 8) (kk : ∀ b M', mVr E y d (pc + 3) ls ((en' b).toList ++ st) M' en (k b M')) : mVr E y d pc ls st0 M en (x_ci a o' k) := by
  cases a with
  | none => exact m_none
  | some r =>
    unfold x_ci
    dsimp only
    cases o' with
    | none => exact m_none
    | some q =>
      obtain ⟨b, M2⟩ := q
      intro z Mf ho
      obtain ⟨g1, g2, hM⟩ := hs b M2 rfl
      obtain ⟨h1, h2, kk⟩ := kk b M2 z Mf ho
      refine ⟨Nat.le_trans g1 h1, Nat.le_trans g2 h2, fun p e s m args below meth cd H locs la n0 s0 R Q C hS hP hL hn hs2 hz9 => ?_⟩
      have hts := C.2.2.2.2.2.1
      have hG := C.2.2.2.2.2.2.2.2.1
      subst hst
      have hcB : CallB R s args y.1.cls index y'.1 y'.2.1 y'.2.2.1 none (mWs y') (mRm d' (mN M2 - mN M) (mSl M2 - mSl M)) (mN M2 - mN M) (mSl M2 - mSl M) vs.length := by
        rw [← hrt]
        exact callB_of vs.length hts (mGood hcd.1) rfl rfl rfl (hts _ hcd.2.1) (hts _ hl) hcd.2.2.2 ⟨Nat.le_trans (show d' + 1 ≤ d by omega) hz9.1, Nat.le_trans (show 8 + (y'.2.2.1 + 11) + 40 * d' ≤ 40 * d by have := hcd.2.2.1; omega) hz9.2.1⟩
      refine m_after (va_runI (As := vs.map (mval E)) (rest := st.map (mval E)) (b := mad E r) (n := vs.length) ⟨C.1, C.2.1, C.2.2.2.1, C.2.2.2.2.1, hts⟩ hM ⟨hcB, hnm, hts _ hi⟩ ⟨mBlind E M _, fun U hU hW => ⟨rfl, mG_call hG hS hU hW, by rw [hU]; exact hP⟩⟩ rfl (by simp) hL.1 (by simp [mval]) (lv_room (by rw [mcats]; exact hlen)) hd ⟨Nat.le_trans (show mN M - n0 + (mN M2 - mN M) ≤ mN Mf - n0 by omega) hz9.2.2.1, Nat.le_trans (show mSl M - s0 + (mSl M2 - mSl M) ≤ mSl Mf - s0 by omega) hz9.2.2.2.1⟩) hS (fun H1 locs1 hP1 hS1 => ?_)
      have w := kk p e s m args below meth cd H1 locs1 la n0 s0 R Q C hS1 hP1 hL (Nat.le_trans hn g1) (Nat.le_trans hs2 g2) hz9
      rw [show mN M2 - n0 = mN M - n0 + (mN M2 - mN M) by omega, show mSl M2 - s0 = mSl M - s0 + (mSl M2 - mSl M) by omega, List.map_append] at w
      cases hv : en' b with
      | none => rw [hv] at w; exact w
      | some v => rw [hv] at w; exact w
theorem m_callIN {a : Option Nat} {host : String} (hd : decode y.2.1 pc = .ok (.invokespecial index, 3)) (hs : mSnd E y' d' (.inr a :: vs) M en' o') (hcd : mCd y' vs.length) (hnm : y'.1.name = "<init>") (hrt : y'.2.2.2 = none) (hl : Cond.methodLinkNest y.1.cls index y'.1 host ∈ mnw) (hi : Cond.instanceMethod y'.1 ∈ mtb) (hdd : d' < d) (hst : st0 = vs.reverse ++ .inr a :: st) (hlen : st.length ≤ 8) (kk : ∀ b M', mVr E y d (pc + 3) ls ((en' b).toList ++ st) M' en (k b M')) : mVr E y d pc ls st0 M en (x_ci a o' k) := by
  cases a with
  | none => exact m_none
  | some r =>
    unfold x_ci
    dsimp only
    cases o' with
    | none => exact m_none
    | some q =>
      obtain ⟨b, M2⟩ := q
      intro z Mf ho
      obtain ⟨g1, g2, hM⟩ := hs b M2 rfl
      obtain ⟨h1, h2, kk⟩ := kk b M2 z Mf ho
      refine ⟨Nat.le_trans g1 h1, Nat.le_trans g2 h2, fun p e s m args below meth cd H locs la n0 s0 R Q C hS hP hL hn hs2 hz9 => ?_⟩
      have hts := C.2.2.2.2.2.1
      have hG := C.2.2.2.2.2.2.2.2.1
      subst hst
      have hcB : va_CN R s args y.1.cls index y'.1 host y'.2.1 y'.2.2.1 none (mWs y') (mRm d' (mN M2 - mN M) (mSl M2 - mSl M)) (mN M2 - mN M) (mSl M2 - mSl M) vs.length := by
        rw [← hrt]
        exact va_cnB vs.length hts (mGood hcd.1) rfl rfl rfl (hG.2.2.2 _ hl) (hts _ hcd.2.1) hcd.2.2.2 ⟨Nat.le_trans (show d' + 1 ≤ d by omega) hz9.1, Nat.le_trans (show 8 + (y'.2.2.1 + 11) + 40 * d' ≤ 40 * d by have := hcd.2.2.1; omega) hz9.2.1⟩
      refine m_after (va_runIN (As := vs.map (mval E)) (rest := st.map (mval E)) (b := mad E r) (n := vs.length) ⟨C.1, C.2.1, C.2.2.2.1, C.2.2.2.2.1, hts⟩ hM ⟨hcB, hnm, hts _ hi⟩ ⟨mBlind E M _, fun U hU hW => ⟨rfl, mG_call hG hS hU hW, by rw [hU]; exact hP⟩⟩ rfl (by simp) hL.1 (by simp [mval]) (lv_room (by rw [mcats]; exact hlen)) hd ⟨Nat.le_trans (show mN M - n0 + (mN M2 - mN M) ≤ mN Mf - n0 by omega) hz9.2.2.1, Nat.le_trans (show mSl M - s0 + (mSl M2 - mSl M) ≤ mSl Mf - s0 by omega) hz9.2.2.2.1⟩) hS (fun H1 locs1 hP1 hS1 => ?_)
      have w := kk p e s m args below meth cd H1 locs1 la n0 s0 R Q C hS1 hP1 hL (Nat.le_trans hn g1) (Nat.le_trans hs2 g2) hz9
      rw [show mN M2 - n0 = mN M - n0 + (mN M2 - mN M) by omega, show mSl M2 - s0 = mSl M - s0 + (mSl M2 - mSl M) by omega, List.map_append] at w
      cases hv : en' b with
      | none => rw [hv] at w; exact w
      | some v => rw [hv] at w; exact w
end ONE
theorem lg_one : ∀ (vs : List mV), (lg_sl (vs.map (mval E))).length = vs.length
  | [] => rfl
  | v :: vs => by
    unfold lg_sl
    rw [List.map_cons, List.flatMap_cons, List.length_append, if_neg (by rw [mval_cat]; decide)]
    have := lg_one vs
    unfold lg_sl at this
    rw [this]
    simp
    omega
theorem lv_one : ∀ (vs : List mV) (i k : Nat) (v : mV), vs[k]? = some v → (i + k, mval E v) ∈ lv_args i (vs.map (mval E))
  | [], _, k, v, h => by simp at h
  | a :: vs, i, 0, v, h => by
    cases h
    exact List.mem_cons_self
  | a :: vs, i, k + 1, v, h => by
    rw [List.getElem?_cons_succ] at h
    rw [List.map_cons]
    unfold lv_args
    rw [if_neg (by rw [mval_cat]; decide)]
    have := lv_one vs (i + 1) k v h
    rw [show i + 1 + k = i + (k + 1) by omega] at this
    exact List.mem_cons_of_mem _ this
theorem m_entry {vs : List mV} {o : Option (α × mM)} (hy : plainName y.1.cls = true) (hl : vs.length ≤ y.2.2.1) (h : mVr E y d 0 (vs.map some) [] M en o)
    (hend : ∀ {p : Program} {e : Env} {s : State} {m : MethodId} {args : Array Value} {below : List Frame} {meth : Method} {c : Code} {H' : Heap} {locs' : List Loc} {la' : Array Slot} {R : Room} {cells slots pc' : Nat} {a : α} {Mf : mM}, p.tables.exec = Jvm.exec → c.code = y.2.1 → meth.sig.returnType = y.2.2.2 → meth.locks = false → va_S (mA E) s.heap H' locs' → mP E Mf H' → decode y.2.1 pc' = .ok (mri y.2.2.2, 1) → (y.2.2.2 = some .boolean → en a = some (.inl 0) ∨ en a = some (.inl 1)) → W p E.1 e R s m args below meth c H' locs' cells slots (MQ below (mQ E (en a) Mf) args s cells slots (mA E)) (F0 m pc' la' ((en a).toList.map (mval E)))) : mSnd E y d vs M en o := by
  intro a M' ho
  obtain ⟨h1, h2, hw⟩ := h a M' ho
  refine ⟨h1, h2, Met.ofW (cc := y.2.1) (maxL := y.2.2.1) (ret := y.2.2.2) hy rfl ?_⟩
  intro p e s m args below meth c s₁ B hml hv
  obtain ⟨rfl, hG, hP⟩ := hv
  have hts := atoms_spec (ws := mWs y) B.pre
  have hown : s.vm.findClass y.1.cls = some m.cls := findClass_of_methodNamed B.named
  have hen := lv_entry (vs.map (mval E)) (n := y.2.2.1) (by rw [lg_one]; exact hl)
  rw [lg_entry_eq]
  generalize (lg_sl (vs.map (mval E)) ++ List.replicate (y.2.2.1 - (lg_sl (vs.map (mval E))).length) Slot.unset).toArray = la at hen ⊢
  have w := hw p e s m (vs.map (mval E)).toArray below meth c s.heap [] la (mN M) (mSl M) (mRm d (mN M' - mN M) (mSl M' - mSl M)) (MQ below (mQ E (en a) M') (vs.map (mval E)).toArray s (mN M' - mN M) (mSl M' - mSl M) (mA E)) ⟨B.exec, B.bytes, B.returns, hml, hown, fun w hw => hts w (List.mem_cons_of_mem _ hw), B.notSynchronized, fun h => (name_of_methodNamed B.named B.method).1.trans h, hG, by rw [hP.2.1]; omega⟩ va_S.rf hP ⟨hen.1, hen.2.1, fun k v hk => ?_⟩ (Nat.le_refl _) (Nat.le_refl _) ⟨Nat.le_refl _, Nat.le_refl _, Nat.le_refl _, Nat.le_refl _, fun pc' H' locs' la' q1 q2 q3 q4 => hend B.exec B.bytes B.returns B.notSynchronized q1 q2 q3 q4⟩
  · rw [Nat.sub_self, Nat.sub_self] at w
    exact w
  · rw [List.getElem?_map] at hk
    cases hq : vs[k]? with
    | none => rw [hq] at hk; cases hk
    | some u =>
      rw [hq] at hk
      cases hk
      have := lv_one (E := E) vs 0 k v hq
      rw [Nat.zero_add] at this
      exact hen.2.2 _ this
theorem m_entryU {vs : List mV} {o : Option (Unit × mM)} (hy : plainName y.1.cls = true) (hl : vs.length ≤ y.2.2.1) (hr : y.2.2.2 = none) (h : mVr E y d 0 (vs.map some) [] M enU o) : mSnd E y d vs M enU o :=
  m_entry hy hl h (fun g1 g2 g3 hlocks hS hP hd _ => by
    rw [hr] at hd
    exact W.vret g1 g2 (g3.trans hr) (fun t ht hW => ⟨⟨rfl, by rw [ht]; exact hP⟩, hS.F ht⟩) hS.2.2 hd)
theorem m_entryI {vs : List mV} {o : Option (Int32 × mM)} (hy : plainName y.1.cls = true) (hl : vs.length ≤ y.2.2.1) (hr : y.2.2.2 = some .int) (h : mVr E y d 0 (vs.map some) [] M enI o) : mSnd E y d vs M enI o :=
  m_entry hy hl h (fun g1 g2 g3 hlocks hS hP hd _ => by
    rw [hr] at hd
    exact W.iret g1 g2 (g3.trans hr) (fun t ht hW => ⟨⟨rfl, by rw [ht]; exact hP⟩, hS.F ht⟩) hS.2.2 hd)
theorem m_entryZ {vs : List mV} {o : Option (Int32 × mM)} (hy : plainName y.1.cls = true) (hl : vs.length ≤ y.2.2.1) (hr : y.2.2.2 = some .boolean) (h : mVr E y d 0 (vs.map some) [] M enI o) : mSnd E y d vs M enI o :=
  m_entry hy hl h (fun {p e s m args below meth c H' locs' la' R cells slots pc' a Mf} g1 g2 g3 hlocks hS hP hd hb => by
    rw [hr] at hd
    have hn : narrow .boolean (.int a) = .int a := by
      rcases hb hr with q | q
      · have q : a = 0 := Sum.inl.inj (Option.some.inj q)
        rw [q]; rfl
      · have q : a = 1 := Sum.inl.inj (Option.some.inj q)
        rw [q]; rfl
    exact W.zret g1 g2 (g3.trans hr) hn (fun t ht hW => ⟨⟨rfl, by rw [ht]; exact hP⟩, hS.F ht⟩) hS.2.2 hd)
theorem m_entryR {vs : List mV} {S : String} {o : Option (Option Nat × mM)} (hy : plainName y.1.cls = true) (hl : vs.length ≤ y.2.2.1) (hr : y.2.2.2 = some (.object S)) (h : mVr E y d 0 (vs.map some) [] M enR o) : mSnd E y d vs M enR o :=
  m_entry hy hl h (fun {p e s m args below meth c H' locs' la' R cells slots pc' a Mf} g1 g2 g3 hlocks hS hP hd _ => by
    rw [hr] at hd
    exact W.aret g1 g2 (g3.trans hr) (Or.inl ⟨_, rfl⟩) (by rcases a with _ | r; exact Or.inl rfl; exact Or.inr ⟨_, rfl⟩) (fun t ht hW => ⟨⟨rfl, by rw [ht]; exact hP⟩, hS.F ht⟩) hS.2.2 hd)
end MCL
