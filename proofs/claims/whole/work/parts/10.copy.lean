section MCP
variable {E : mE} {y : mI} {d pc : Nat} {ls : List (Option mV)} {st : List mV} {M : mM} {α : Type} {en : α → Option mV}
theorem m_nonneg (z : Int32) (hz : ¬ z < 0) : z.toInt = (z.toNatClampNeg : Int) := by
  have hz0 : (0 : Int) ≤ z.toInt := by
    have := Int32.not_lt.mp hz
    simpa using Int32.le_iff_toInt_le.mp this
  show z.toInt = ((z.toInt.toNat : Nat) : Int)
  omega
theorem m_copy {index : Nat} {a0 a1 : Option Nat} {sp dp n : Int32} {k : mM → Option (α × mM)} (hd : decode y.2.1 pc = .ok (.invokestatic index, 3)) (hl : Cond.methodLink y.1.cls index arraycopyName ∈ mtb) (hnat : Cond.native arraycopyName ∈ mtb) (hstat : Cond.static arraycopyName ∈ mtb) (hini : Cond.initialized "java/lang/System" ∈ mtb) (hdd : st.length + (nativeFrameWords "java/lang/System" "arraycopy" 5 + 11) ≤ 40 * d) (kk : ∀ M', mVr E y d (pc + 3) ls st M' en (k M')) : mVr E y d pc ls (.inl n :: .inl dp :: .inr a1 :: .inl sp :: .inr a0 :: st) M en (x_cp M a0 sp a1 dp n k) := by
  cases a0 with
  | none => exact m_none
  | some r0 =>
    cases a1 with
    | none => exact m_none
    | some r1 =>
      unfold x_cp
      dsimp only
      split
      · rename_i hk
        obtain ⟨k0, k1, g1, g2, g3, g4, g5⟩ := hk
        intro b Mf ho
        obtain ⟨h1, h2, kk⟩ := kk _ b Mf ho
        refine ⟨h1, h2, fun p e s m args below meth cd H locs la n0 s0 R Q C hS hP hL hn hs hz9 => ?_⟩
        have hts := C.2.2.2.2.2.1
        have hK := C.2.2.2.2.2.2.2.2.1.1
        have he0 := mws_get hP (r := r0) (by omega)
        rw [mcell_i (t := 0) k0 (by omega)] at he0
        have he1 := mws_get hP (r := r1) (by omega)
        rw [mcell_i (t := 0) k1 (by omega)] at he1
        have hr16 := (hP.2.2 r1 (by omega)).1
        have hD := mws_D E M
        have hc0 : H[mad E r0]? = some (vp_cell (eA E 0) (mLn M r0, .inl (M.1 r0))) := hP.1 _ _ he0
        have hc1 : H[mad E r1]? = some (vp_cell (eA E 0) (mLn M r1, .inl (M.1 r1))) := hP.1 _ _ he1
        intro T hT X
        obtain ⟨-, q0, hq0, cm0, hkk0⟩ := (hK.2 0 _ (mtys_at rfl)).1 (mLn M r0) (fun j => .int (M.1 r0 j))
        obtain ⟨-, q1, hq1, cm1, hkk1⟩ := (hK.2 0 _ (mtys_at rfl)).1 (mLn M r1) (fun j => .int (M.1 r1 j))
        obtain ⟨vm', X', step⟩ := X.arraycopy C.1 C.2.2.2.2.1 (hts _ hl) (hts _ hnat) (hts _ hstat) (hts _ hini) (src := mad E r0) (dst := mad E r1) (cs := vp_cell (eA E 0) (mLn M r0, .inl (M.1 r0))) (cd := vp_cell (eA E 0) (mLn M r1, .inl (M.1 r1))) (srcPos := sp) (destPos := dp) (n := n) (by rw [hT]; exact hc0) (by rw [hT]; exact hc1)
          (fun _ h => by cases h) (fun _ h => by cases h) (fun h => by cases h) (fun h => by cases h) hq0 hq1 hkk0 hkk1 (by simp [refKind]) g1 g2 g3
          (by rw [m_nonneg sp g1, m_nonneg n g3]; show ¬ _ > ((arrV (eA E 0) (mLn M r0) (fun j => .int (M.1 r0 j))).slots.size : Int); rw [arrV_size]; omega)
          (by rw [m_nonneg dp g2, m_nonneg n g3]; show ¬ _ > ((arrV (eA E 0) (mLn M r1) (fun j => .int (M.1 r1 j))).slots.size : Int); rw [arrV_size]; omega)
          (fun vm₁ _ i hi => by
            have e : (vp_cell (eA E 0) (mLn M r0, .inl (M.1 r0))).slots.getD (sp.toNatClampNeg + i) .null = .int (M.1 r0 (sp.toNatClampNeg + i)) := by
              show (arrV (eA E 0) (mLn M r0) (fun j => .int (M.1 r0 j))).slots.getD _ _ = _
              rw [Array.getD_eq_getD_getElem?, arrV_read _ _ (by omega)]
              rfl
            refine ⟨?_, ?_⟩
            · rw [e]
              rfl
            · rw [e]
              exact trivial)
          (g := F0 m pc la (.int n :: .int dp :: .ref (mad E r1) :: .int sp :: .ref (mad E r0) :: st.map (mval E))) rfl (by rw [C.2.2.2.1]; exact hL.1) (rest := st.map (mval E)) rfl (by rw [C.2.1]; exact hd) (Nat.le_trans (show 1 ≤ d by omega) hz9.1) (by rw [mcats]; exact Nat.le_trans (show 2 * 0 + st.length + (nativeFrameWords "java/lang/System" "arraycopy" 5 + 11) ≤ 40 * d by omega) hz9.2.1)
        have e1 : copied (vp_cell (eA E 0) (mLn M r0, .inl (M.1 r0))) (vp_cell (eA E 0) (mLn M r1, .inl (M.1 r1))) sp dp n = vp_cell (eA E 0) (mLn M r1, .inl (va_cpy (M.1 r0) (M.1 r1) sp.toNatClampNeg dp.toNatClampNeg n.toNatClampNeg)) := va_copied (fun z => .int z) (eA E 0) (eA E 0) (M.1 r0) (M.1 r1) g4
        rw [e1] at X' step
        have hl1 : mad E r1 < H.size := (Array.getElem?_eq_some_iff.mp hc1).1
        have hheap : ((T.setVm vm').setCell (mad E r1) (vp_cell (eA E 0) (mLn M r1, .inl (va_cpy (M.1 r0) (M.1 r1) sp.toNatClampNeg dp.toNatClampNeg n.toNatClampNeg)))).heap = H.setIfInBounds (mad E r1) (vp_cell (eA E 0) (mLn M r1, .inl (va_cpy (M.1 r0) (M.1 r1) sp.toNatClampNeg dp.toNatClampNeg n.toNatClampNeg))) := by rw [← hT]; rfl
        have oq : ∀ q : Nat, q ≠ mad E r1 → (H.setIfInBounds (mad E r1) (vp_cell (eA E 0) (mLn M r1, .inl (va_cpy (M.1 r0) (M.1 r1) sp.toNatClampNeg dp.toNatClampNeg n.toNatClampNeg))))[q]? = H[q]? := fun q hq => by simp [Array.getElem?_setIfInBounds, Ne.symm hq]
        have hx : mcell E (mcp M r0 r1 sp.toNatClampNeg dp.toNatClampNeg n.toNatClampNeg) r1 = .inl (eA E 0, mLn M r1, .inl (va_cpy (M.1 r0) (M.1 r1) sp.toNatClampNeg dp.toNatClampNeg n.toNatClampNeg)) := by
          rw [mcell_i (t := 0) (show mKd (mcp M r0 r1 sp.toNatClampNeg dp.toNatClampNeg n.toNatClampNeg) r1 = 0 + 1 from k1) (by omega)]
          simp [mcp, mrow]
        have hset := hP.1.set hD he1 (e := .inl (eA E 0, mLn M r1, .inl (va_cpy (M.1 r0) (M.1 r1) sp.toNatClampNeg dp.toNatClampNeg n.toNatClampNeg))) (show (H.setIfInBounds (mad E r1) _)[mad E r1]? = some _ by simp [Array.getElem?_setIfInBounds, hl1]) oq
        rw [← hx, mws_set hr16 (show mN (mcp M r0 r1 sp.toNatClampNeg dp.toNatClampNeg n.toNatClampNeg) = mN M from rfl) rfl (fun q hq => mcell_congr (mrow_n _ _ hq) rfl rfl rfl)] at hset
        obtain ⟨t, a1, b1⟩ := kk p e s m args below meth cd _ _ la n0 s0 R Q C ⟨by simp; exact hS.1, fun q z1 z2 => by
            rw [oq q (fun e => z2 (by rw [e]; exact hD.2 _ _ he1))]
            exact hS.2.1 q z1 z2, fun q hq => by
            rcases List.mem_append.mp hq with h | h
            · exact hS.2.2 q h
            · obtain ⟨z, -, hz⟩ := List.mem_map.mp h
              rw [← hz]
              exact hD.2 _ _ he1⟩ ⟨hset, by simp; exact hP.2.1, hP.2.2⟩ hL hn hs hz9 _ hheap X'
        exact ⟨t, step t a1, b1⟩
      · exact m_none
end MCP
