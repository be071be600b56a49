/-! the rules as a program lays them -/
def mFU : Nat := 100000
def x_lt {β : Type} (v : Int32) (k : Int32 → Option β) : Option β := k v
def x_oi {β : Type} (a : Option Nat) (k : Option β) : Option β := match a with
  | none => none
  | some _ => k
def mfin (c j : Nat) : Bool := match vwCl[c]? with
  | some q => (q.2.1 j).2.2.2
  | none => false
theorem mles_0 {l : List (Option mV)} : mles [] l := trivial
theorem mles_n {l l' : List (Option mV)} {w : Option mV} (h : mles l l') : mles (none :: l) (w :: l') := h
theorem mles_s {l l' : List (Option mV)} {v : mV} (h : mles l l') : mles (some v :: l) (some v :: l') := ⟨rfl, h⟩
theorem mles_e {l : List (Option mV)} (h : mles l []) : mles (none :: l) [] := h
section MX
variable {E : mE} {y : mI} {d pc : Nat} {ls ls' : List (Option mV)} {st : List mV} {M : mM} {α : Type} {en : α → Option mV} {o : Option (α × mM)}
theorem m_lt {v : Int32} {k : Int32 → Option (α × mM)} (kk : ∀ x, mVr E y d pc ls (.inl x :: st) M en (k x)) : mVr E y d pc ls (.inl v :: st) M en (x_lt v k) := kk v
theorem m_oi {index : Nat} {a : Option Nat} (hd : decode y.2.1 pc = .ok (.invokespecial index, 3)) (hl : Cond.methodLink y.1.cls index Lib.objectInit ∈ mtb) (hi : Cond.instanceMethod Lib.objectInit ∈ mtb) (hcd : Cond.code Lib.objectInit ⟨#[0xb1]⟩ 1 none ∈ mtb) (hdd : st.length + 12 ≤ 40 * d) (k : mVr E y d (pc + 3) ls st M en o) : mVr E y d pc ls (.inr a :: st) M en (x_oi a o) := by
  cases a with
  | none => exact m_none
  | some r => exact m_objInit hd hl hi hcd hdd k
theorem m_ist {i : Nat} {x : Int32} (hd : decode y.2.1 pc = .ok (.istore i, 2)) (hi : i < y.2.2.1) (hls : ls.set i (some (.inl x)) = ls') (k : mVr E y d (pc + 2) ls' st M en o) : mVr E y d pc ls (.inl x :: st) M en o := m_istore hd hi (hls ▸ k)
theorem m_ist_n {n : Fin 4} {x : Int32} (hd : decode y.2.1 pc = .ok (.istore_n n, 1)) (hi : (n : Nat) < y.2.2.1) (hls : ls.set n (some (.inl x)) = ls') (k : mVr E y d (pc + 1) ls' st M en o) : mVr E y d pc ls (.inl x :: st) M en o := m_istore_n hd hi (hls ▸ k)
theorem m_ast {i : Nat} {x : Option Nat} (hd : decode y.2.1 pc = .ok (.astore i, 2)) (hi : i < y.2.2.1) (hls : ls.set i (some (.inr x)) = ls') (k : mVr E y d (pc + 2) ls' st M en o) : mVr E y d pc ls (.inr x :: st) M en o := m_astore hd hi (hls ▸ k)
theorem m_ast_n {n : Fin 4} {x : Option Nat} (hd : decode y.2.1 pc = .ok (.astore_n n, 1)) (hi : (n : Nat) < y.2.2.1) (hls : ls.set n (some (.inr x)) = ls') (k : mVr E y d (pc + 1) ls' st M en o) : mVr E y d pc ls (.inr x :: st) M en o := m_astore_n hd hi (hls ▸ k)
theorem m_inc {i : Nat} {n : Int} {x v : Int32} (hd : decode y.2.1 pc = .ok (.iinc i n, 3)) (hl : ls[i]? = some (some (.inl x))) (hv : Int32.ofInt n = v) (hi : i < y.2.2.1) (hls : ls.set i (some (.inl (x + v))) = ls') (k : mVr E y d (pc + 3) ls' st M en o) : mVr E y d pc ls st M en o := m_iinc hd hl hv hi (hls ▸ k)
theorem mfin_of {c j : Nat} {nm : String} (h : mfin c j = true → y.1.name = nm) : (∃ (C : String) (T : u_T) (N : Nat), vwCl[c]? = some (C, T, N) ∧ (T j).2.2.2 = true) → y.1.name = nm := by
  rintro ⟨C, T, N, h1, h2⟩
  refine h ?_
  unfold mfin
  rw [h1]
  exact h2
theorem m_pI {index c j : Nat} {a : Option Nat} {v : Int32} {k : mM → Option (α × mM)} (hd : decode y.2.1 pc = .ok (.putfield index, 3)) (hf : mFp y.1.cls index c j) (hin : mfin c j = true → y.1.name = "<init>") (hr : mft c j = .int) (kk : ∀ M', mVr E y d (pc + 3) ls st M' en (k M')) : mVr E y d pc ls (.inl v :: .inr a :: st) M en (x_pI M c a j v k) := m_putI hd hf (mfin_of hin) hr kk
theorem m_pZ {index c j : Nat} {a : Option Nat} {v : Int32} {k : mM → Option (α × mM)} (hd : decode y.2.1 pc = .ok (.putfield index, 3)) (hf : mFp y.1.cls index c j) (hin : mfin c j = true → y.1.name = "<init>") (hr : mft c j = .boolean) (kk : ∀ M', mVr E y d (pc + 3) ls st M' en (k M')) : mVr E y d pc ls (.inl v :: .inr a :: st) M en (x_pZ M c a j v k) := m_putZ hd hf (mfin_of hin) hr kk
theorem m_pR {index c j : Nat} {a v : Option Nat} {k : mM → Option (α × mM)} (hd : decode y.2.1 pc = .ok (.putfield index, 3)) (hf : mFp y.1.cls index c j) (hin : mfin c j = true → y.1.name = "<init>") (hr : mfr c j = true) (kk : ∀ M', mVr E y d (pc + 3) ls st M' en (k M')) : mVr E y d pc ls (.inr v :: .inr a :: st) M en (x_pR M c a j v k) := m_putR hd hf (mfin_of hin) hr kk
theorem m_ks {x : Int32} {β : Type} {cs : List (Int32 × β)} (h : ∀ c ∈ cs, x ≠ c.1) : ∀ k ∈ cs.map Prod.fst, x ≠ k := fun k hk => by
  obtain ⟨c, hc, rfl⟩ := List.mem_map.mp hk
  exact h c hc
section TWO
variable {y' : mI} {d' index c : Nat} {a : Option Nat} {vs st0 : List mV} {T : u_T} {N : Nat} {host : String}
theorem m_cvI {o' : Option (Int32 × mM)} {k : Int32 → mM → Option (α × mM)} (hd : decode y.2.1 pc = .ok (.invokevirtual index, 3)) (hs : mSnd E y' d' (.inr a :: vs) M enI o') (hcd : mCd y' vs.length) (hl : Cond.methodLink y.1.cls index y'.1 ∈ mtb) (hi : Cond.instanceMethod y'.1 ∈ mtb) (hsel : Cond.selects y'.1.cls y'.1 y'.1 ∈ mtb) (hc : vwCl[c]? = some (y'.1.cls, T, N)) (hdd : d' < d) (hst : st0 = vs.reverse ++ .inr a :: st) (hlen : st.length ≤ 8) (kk : ∀ b M', mVr E y d (pc + 3) ls (.inl b :: st) M' en (k b M')) : mVr E y d pc ls st0 M en (x_cv M c a o' k) := m_callV hd hs hcd hl hi hsel hc hdd hst hlen kk
theorem m_cvU {o' : Option (Unit × mM)} {k : Unit → mM → Option (α × mM)} (hd : decode y.2.1 pc = .ok (.invokevirtual index, 3)) (hs : mSnd E y' d' (.inr a :: vs) M enU o') (hcd : mCd y' vs.length) (hl : Cond.methodLink y.1.cls index y'.1 ∈ mtb) (hi : Cond.instanceMethod y'.1 ∈ mtb) (hsel : Cond.selects y'.1.cls y'.1 y'.1 ∈ mtb) (hc : vwCl[c]? = some (y'.1.cls, T, N)) (hdd : d' < d) (hst : st0 = vs.reverse ++ .inr a :: st) (hlen : st.length ≤ 8) (kk : ∀ b M', mVr E y d (pc + 3) ls st M' en (k b M')) : mVr E y d pc ls st0 M en (x_cv M c a o' k) := m_callV hd hs hcd hl hi hsel hc hdd hst hlen kk
theorem m_cvR {o' : Option (Option Nat × mM)} {k : Option Nat → mM → Option (α × mM)} (hd : decode y.2.1 pc = .ok (.invokevirtual index, 3)) (hs : mSnd E y' d' (.inr a :: vs) M enR o') (hcd : mCd y' vs.length) (hl : Cond.methodLink y.1.cls index y'.1 ∈ mtb) (hi : Cond.instanceMethod y'.1 ∈ mtb) (hsel : Cond.selects y'.1.cls y'.1 y'.1 ∈ mtb) (hc : vwCl[c]? = some (y'.1.cls, T, N)) (hdd : d' < d) (hst : st0 = vs.reverse ++ .inr a :: st) (hlen : st.length ≤ 8) (kk : ∀ b M', mVr E y d (pc + 3) ls (.inr b :: st) M' en (k b M')) : mVr E y d pc ls st0 M en (x_cv M c a o' k) := m_callV hd hs hcd hl hi hsel hc hdd hst hlen kk
theorem m_csI {o' : Option (Int32 × mM)} {k : Int32 → mM → Option (α × mM)} (hd : decode y.2.1 pc = .ok (.invokestatic index, 3)) (hs : mSnd E y' d' vs M enI o') (hcd : mCd y' vs.length) (hl : Cond.methodLink y.1.cls index y'.1 ∈ mtb) (hi : Cond.static y'.1 ∈ mtb) (hdd : d' < d) (hst : st0 = vs.reverse ++ st) (hlen : st.length ≤ 8) (kk : ∀ b M', mVr E y d (pc + 3) ls (.inl b :: st) M' en (k b M')) : mVr E y d pc ls st0 M en (x_cl o' k) := m_callS hd hs hcd hl hi hdd hst hlen kk
theorem m_csU {o' : Option (Unit × mM)} {k : Unit → mM → Option (α × mM)} (hd : decode y.2.1 pc = .ok (.invokestatic index, 3)) (hs : mSnd E y' d' vs M enU o') (hcd : mCd y' vs.length) (hl : Cond.methodLink y.1.cls index y'.1 ∈ mtb) (hi : Cond.static y'.1 ∈ mtb) (hdd : d' < d) (hst : st0 = vs.reverse ++ st) (hlen : st.length ≤ 8) (kk : ∀ b M', mVr E y d (pc + 3) ls st M' en (k b M')) : mVr E y d pc ls st0 M en (x_cl o' k) := m_callS hd hs hcd hl hi hdd hst hlen kk
theorem m_csR {o' : Option (Option Nat × mM)} {k : Option Nat → mM → Option (α × mM)} (hd : decode y.2.1 pc = .ok (.invokestatic index, 3)) (hs : mSnd E y' d' vs M enR o') (hcd : mCd y' vs.length) (hl : Cond.methodLink y.1.cls index y'.1 ∈ mtb) (hi : Cond.static y'.1 ∈ mtb) (hdd : d' < d) (hst : st0 = vs.reverse ++ st) (hlen : st.length ≤ 8) (kk : ∀ b M', mVr E y d (pc + 3) ls (.inr b :: st) M' en (k b M')) : mVr E y d pc ls st0 M en (x_cl o' k) := m_callS hd hs hcd hl hi hdd hst hlen kk
theorem m_nsI {o' : Option (Int32 × mM)} {k : Int32 → mM → Option (α × mM)} (hd : decode y.2.1 pc = .ok (.invokestatic index, 3)) (hs : mSnd E y' d' vs M enI o') (hcd : mCd y' vs.length) (hl : Cond.methodLinkNest y.1.cls index y'.1 host ∈ mnw) (hi : Cond.static y'.1 ∈ mtb) (hdd : d' < d) (hst : st0 = vs.reverse ++ st) (hlen : st.length ≤ 8) (kk : ∀ b M', mVr E y d (pc + 3) ls (.inl b :: st) M' en (k b M')) : mVr E y d pc ls st0 M en (x_cl o' k) := m_callSN hd hs hcd hl hi hdd hst hlen kk
theorem m_ciU {o' : Option (Unit × mM)} {k : Unit → mM → Option (α × mM)} (hd : decode y.2.1 pc = .ok (.invokespecial index, 3)) (hs : mSnd E y' d' (.inr a :: vs) M enU o') (hcd : mCd y' vs.length) (hnm : y'.1.name = "<init>") (hrt : y'.2.2.2 = none) (hl : Cond.methodLink y.1.cls index y'.1 ∈ mtb) (hi : Cond.instanceMethod y'.1 ∈ mtb) (hdd : d' < d) (hst : st0 = vs.reverse ++ .inr a :: st) (hlen : st.length ≤ 8) (kk : ∀ b M', mVr E y d (pc + 3) ls st M' en (k b M')) : mVr E y d pc ls st0 M en (x_ci a o' k) := m_callI hd hs hcd hnm hrt hl hi hdd hst hlen kk
theorem m_niU {o' : Option (Unit × mM)} {k : Unit → mM → Option (α × mM)} (hd : decode y.2.1 pc = .ok (.invokespecial index, 3)) (hs : mSnd E y' d' (.inr a :: vs) M enU o') (hcd : mCd y' vs.length) (hnm : y'.1.name = "<init>") (hrt : y'.2.2.2 = none) (hl : Cond.methodLinkNest y.1.cls index y'.1 host ∈ mnw) (hi : Cond.instanceMethod y'.1 ∈ mtb) (hdd : d' < d) (hst : st0 = vs.reverse ++ .inr a :: st) (hlen : st.length ≤ 8) (kk : ∀ b M', mVr E y d (pc + 3) ls st M' en (k b M')) : mVr E y d pc ls st0 M en (x_ci a o' k) := m_callIN hd hs hcd hnm hrt hl hi hdd hst hlen kk
end TWO
end MX
