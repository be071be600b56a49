/-! call, leave, hears, raw -/
theorem CX_0 {I : mIm} {A : aT} (h : CInv I A) : CX I I A := ⟨h, fun _ _ => rfl, fun _ _ => rfl⟩
theorem RX_0 {I : mIm} {A : aT} (h : RInv I A) : RX I I A := ⟨h, fun _ _ => rfl, fun _ _ => rfl⟩
theorem CV_CP {S : mS} {I : mIm} {R : Int32 × aT} {o : Option (Int32 × mM)} (h : pw S o (CV I R)) : pw S o (CP I R) := pw_mono h (fun _ _ g => ⟨g.1, g.2.1, fun r hr => g.2.2.1 r (by omega)⟩)
theorem RV_RP {S : mS} {I : mIm} {R : Int32 × aT} {o : Option (Int32 × mM)} (h : pw S o (RV I R)) : pw S o (RP I R) := pw_mono h (fun _ _ g => ⟨g.1, g.2.1, fun r hr => g.2.2.1 r (Or.inl hr)⟩)
def aVia (i0 i1 i2 i3 : Int32) : Int32 := if i2 = -1 then (if i3 = -1 then 1 else 0) else if (sta i2).isSome = false then 0 else if i2 = i0 then 0 else if i2 = i1 then 0 else if i3 = -1 then 1 else if (sta i3).isSome = false then 0 else if i3 = i0 then 0 else if i3 = i1 then 0 else if i3 = i2 then 0 else 1
def aCall (A : aT) (i j v w : Int32) : Int32 × aT := match lnk i j with
  | none => (0, A)
  | some q => if A.1 20 (6 * q.1 + q.2) = 0 then (if aVia i j v w = 0 then (0, A) else (1, aCal (aI (aI A 21 (6 * q.1 + q.2) v) 22 (6 * q.1 + q.2) w) q.1 q.2)) else (0, A)
def aLea (A : aT) (i j : Int32) : Int32 × aT := match lnk i j with
  | none => (0, A)
  | some q => if A.1 20 (6 * q.1 + q.2) = 1 ∨ A.1 20 (6 * q.1 + q.2) = 2 then (1, aSay (aI (aI (aRst A (6 * q.1 + q.2) 3) 28 (6 * q.1 + q.2) 1) 27 (6 * q.1 + q.2) (A.1 1 (9 * q.1 + 4))) q.1 q.2 83 1) else (0, A)
section CL
variable {S : mS} {I I0 : mIm} {A : aT} {s o : Nat}
theorem pw_b (c : Bool) {β : Type} {Q : β → mIm → Prop} {o1 o2 : Option (β × mM)} (h1 : c = false → pw S o1 Q) (h2 : c = true → pw S o2 Q) : pw S (if (if c then (1 : Int32) else 0) = 0 then o1 else o2) Q := by
  cases c
  · exact h1 rfl
  · exact h2 rfl
theorem c_areVias (i0 i1 i2 i3 : Int32) : pw S (q_C_areVias i0 i1 i2 i3 (I, S)) (fun v J => J = I ∧ v = aVia i0 i1 i2 i3) := by
  have no : aVia i0 i1 i2 i3 = 0 → pw S (x_rz (0 : Int32) (I, S)) (fun v J => J = I ∧ v = aVia i0 i1 i2 i3) := fun h => pw_rz (Or.inl rfl) ⟨rfl, h.symm⟩
  have ye : aVia i0 i1 i2 i3 = 1 → pw S (x_rz (1 : Int32) (I, S)) (fun v J => J = I ∧ v = aVia i0 i1 i2 i3) := fun h => pw_rz (Or.inr rfl) ⟨rfl, h.symm⟩
  unfold q_C_areVias q_C_areVias_62
  refine pw_if (fun e1 => ?_) (fun e1 => ?_)
  · exact pw_if (fun e2 => ye (by unfold aVia; rw [if_pos e1, if_pos e2])) (fun e2 => no (by unfold aVia; rw [if_pos e1, if_neg e2]))
  · refine pw_cl (p_C_isStation i2) (fun x I2 h => ?_)
    obtain ⟨rfl, rfl⟩ := h
    refine pw_b _ (fun e2 => no (by unfold aVia; rw [if_neg e1, if_pos e2])) (fun e2 => ?_)
    have e2' : ¬ (sta i2).isSome = false := by rw [e2]; decide
    refine pw_if (fun e3 => no (by unfold aVia; rw [if_neg e1, if_neg e2', if_pos e3])) (fun e3 => ?_)
    refine pw_if (fun e4 => no (by unfold aVia; rw [if_neg e1, if_neg e2', if_neg e3, if_pos e4])) (fun e4 => ?_)
    refine pw_if (fun e5 => ye (by unfold aVia; rw [if_neg e1, if_neg e2', if_neg e3, if_neg e4, if_pos e5])) (fun e5 => ?_)
    refine pw_cl (p_C_isStation i3) (fun x I2 h => ?_)
    obtain ⟨rfl, rfl⟩ := h
    refine pw_b _ (fun e6 => no (by unfold aVia; rw [if_neg e1, if_neg e2', if_neg e3, if_neg e4, if_neg e5, if_pos e6])) (fun e6 => ?_)
    have e6' : ¬ (sta i3).isSome = false := by rw [e6]; decide
    refine pw_if (fun e7 => no (by unfold aVia; rw [if_neg e1, if_neg e2', if_neg e3, if_neg e4, if_neg e5, if_neg e6', if_pos e7])) (fun e7 => ?_)
    refine pw_if (fun e8 => no (by unfold aVia; rw [if_neg e1, if_neg e2', if_neg e3, if_neg e4, if_neg e5, if_neg e6', if_neg e7, if_pos e8])) (fun e8 => ?_)
    exact pw_if (fun e9 => no (by unfold aVia; rw [if_neg e1, if_neg e2', if_neg e3, if_neg e4, if_neg e5, if_neg e6', if_neg e7, if_neg e8, if_pos e9])) (fun e9 => ye (by unfold aVia; rw [if_neg e1, if_neg e2', if_neg e3, if_neg e4, if_neg e5, if_neg e6', if_neg e7, if_neg e8, if_neg e9]))
theorem p_C_call (hS : Shp S) (hC : CInv I A) (i j v w : Int32) : pw S (q_C_call (some 16) i j v w (I, S)) (CP I (aCall A i j v w)) := by
  refine CV_CP ?_
  unfold q_C_call aCall
  refine pw_cv hS.1.1 (p_C_linkAt hS i j) (fun a I h => ?_)
  obtain ⟨rfl, rfl⟩ := h
  cases h : lnk i j with
  | none => exact pw_nn (pw_rz (Or.inl rfl) ⟨rfl, CX_0 hC⟩)
  | some q =>
    obtain ⟨s, o⟩ := q
    obtain ⟨h1, h2, h3, rfl, rfl⟩ := lnk_s h
    have hl : isLk s o := ⟨h1, h2, h3⟩
    have hX := CX_0 hC
    refine pw_ns (gK hS hl hX (f := 20) rfl ?_)
    dsimp only
    refine pw_if (fun h0 => ?_) (fun h0 => ?_)
    · rw [if_pos h0]
      refine pw_cl (c_areVias _ _ _ _) (fun x I h => ?_)
      obtain ⟨rfl, rfl⟩ := h
      refine pw_if (fun h4 => ?_) (fun h4 => ?_)
      · rw [if_pos h4]; exact pw_rz (Or.inl rfl) ⟨rfl, hX⟩
      · rw [if_neg h4]
        refine rK hS hl (q := cK s o + 1) rfl (sP hS hl hX (f := 21) rfl (fun J1 g1 => rK hS hl (q := cK s o + 1) rfl (sP hS hl g1 (f := 22) rfl (fun J2 g2 => ?_))))
        exact pw_cl (c_callOther hS hl g2) (fun _ J3 g3 => pw_rz (Or.inr rfl) ⟨rfl, g3⟩)
    · rw [if_neg h0]
      exact pw_rz (Or.inl rfl) ⟨rfl, hX⟩
theorem sta_ne6 {i : Int32} (h : (sta i).isSome = true) : i ≠ 6 := by
  obtain ⟨s, hs⟩ := Option.isSome_iff_exists.mp h
  obtain ⟨h1, rfl⟩ := sta_s hs
  exact nI_ne6 h1
theorem aVia_6 {a b v w : Int32} (h : aVia a b v w ≠ 0) : v ≠ 6 ∧ w ≠ 6 := by
  unfold aVia at h
  by_cases h1 : v = -1
  · rw [if_pos h1] at h
    by_cases h2 : w = -1
    · rw [h1, h2]; decide
    · rw [if_neg h2] at h; exact absurd rfl h
  · rw [if_neg h1] at h
    cases h3 : (sta v).isSome with
    | false => rw [h3, if_pos rfl] at h; exact absurd rfl h
    | true =>
      rw [h3, if_neg (by decide)] at h
      refine ⟨sta_ne6 h3, ?_⟩
      split at h
      · exact absurd rfl h
      split at h
      · exact absurd rfl h
      split at h
      · rename_i h6; rw [h6]; decide
      cases h7 : (sta w).isSome with
      | false => rw [h7, if_pos rfl] at h; exact absurd rfl h
      | true => exact sta_ne6 h7
theorem aVi_I (hV : aVi A) {f k : Nat} {v : Int32} (h : (f ≠ 21 ∧ f ≠ 22) ∨ v ≠ 6) : aVi (aI A f k v) := by
  intro l hl
  have := hV l hl
  constructor
  · by_cases e : f = 21 ∧ l = k
    · obtain ⟨rfl, rfl⟩ := e
      rw [aI_s]
      exact h.resolve_left (fun q => q.1 rfl)
    · rw [aI_o _ _ (by omega)]; exact this.1
  · by_cases e : f = 22 ∧ l = k
    · obtain ⟨rfl, rfl⟩ := e
      rw [aI_s]
      exact h.resolve_left (fun q => q.2 rfl)
    · rw [aI_o _ _ (by omega)]; exact this.2
theorem aCs_I (hC : aCs A) {f k : Nat} {v : Int32} (h : f ≠ 32 ∨ ∃ n : Nat, n < 128 ∧ v = nI n) : aCs (aI A f k v) := by
  intro l hl
  by_cases e : f = 32 ∧ l = k
  · obtain ⟨rfl, rfl⟩ := e
    rw [aI_s]
    exact h.resolve_left (fun q => q rfl)
  · rw [aI_o _ _ (by omega)]; exact hC l hl
theorem p_M_call (hS : Shp S) (hR : RInv I A) (hV : aVi A) (hC : aCs A) (i j v w : Int32) : pw S (q_M_call (some 1282) i j v w (I, S)) (RP I (aCall A i j v w)) := by
  refine RV_RP ?_
  have hX := RX_0 hR
  have hm := M_k hS
  unfold q_M_call aCall
  refine pw_cl (p_M_isLink i j) (fun a I h => ?_)
  obtain ⟨rfl, rfl⟩ := h
  cases h : lnk i j with
  | none => exact pw_t (by simp) (pw_rz (Or.inl rfl) ⟨rfl, hX⟩)
  | some q =>
    obtain ⟨s, o⟩ := q
    obtain ⟨h1, h2, h3, rfl, rfl⟩ := lnk_s h
    have hl : isLk s o := ⟨h1, h2, h3⟩
    refine pw_f (by simp) (rM hS (r := 1316) rfl (gA hS hX (6 * s + o) rfl (n_lin 6 s o) (by omega) ?_))
    dsimp only
    refine pw_if (fun h0 => ?_) (fun h0 => ?_)
    · rw [if_pos h0]
      have fin : aVia (nI s) (nI o) v w = 1 → pw S (q_M_call_91 (some 1282) (nI s) (nI o) v w (I, S)) (RV I (if aVia (nI s) (nI o) v w = 0 then (0, A) else (1, aCal (aI (aI A 21 (6 * s + o) v) 22 (6 * s + o) w) s o))) := by
        intro hv
        rw [if_neg (by rw [hv]; decide)]
        have h6 := aVia_6 (a := nI s) (b := nI o) (v := v) (w := w) (by rw [hv]; decide)
        unfold q_M_call_91
        refine rM hS (r := 1317) rfl (sA hS hX (6 * s + o) rfl (by decide) (n_lin 6 s o) (by omega) (fun J1 g1 => rM hS (r := 1318) rfl (sA hS g1 (6 * s + o) rfl (by decide) (n_lin 6 s o) (by omega) (fun J2 g2 => ?_))))
        refine pw_cv hm (r_called hS hl g2 (aVi_I (aVi_I hV (Or.inr h6.1)) (Or.inr h6.2)) (aCs_I (aCs_I hC (Or.inl (by decide))) (Or.inl (by decide)))) (fun _ J3 g3 => pw_rz (Or.inr rfl) ⟨rfl, g3⟩)
      have no : aVia (nI s) (nI o) v w = 0 → pw S (x_rz (0 : Int32) (I, S)) (RV I (if aVia (nI s) (nI o) v w = 0 then (0, A) else (1, aCal (aI (aI A 21 (6 * s + o) v) 22 (6 * s + o) w) s o))) := by
        intro hv
        rw [if_pos hv]
        exact pw_rz (Or.inl rfl) ⟨rfl, hX⟩
      by_cases e1 : v = -1
      · rw [if_pos e1]
        by_cases e2 : w = -1
        · rw [if_pos e2]
          unfold q_M_call_57
          rw [if_pos e2]
          exact fin (by unfold aVia; rw [if_pos e1, if_pos e2])
        · rw [if_neg e2]
          exact no (by unfold aVia; rw [if_pos e1, if_neg e2])
      · rw [if_neg e1]
        refine pw_cl (p_M_isStation v) (fun x I2 h => ?_)
        obtain ⟨rfl, rfl⟩ := h
        refine pw_b _ (fun e2 => no (by unfold aVia; rw [if_neg e1, if_pos e2])) (fun e2 => ?_)
        have e2' : ¬ (sta v).isSome = false := by rw [e2]; decide
        refine pw_if (fun e3 => no (by unfold aVia; rw [if_neg e1, if_neg e2', if_pos e3])) (fun e3 => ?_)
        refine pw_if (fun e4 => no (by unfold aVia; rw [if_neg e1, if_neg e2', if_neg e3, if_pos e4])) (fun e4 => ?_)
        unfold q_M_call_57
        refine pw_if (fun e5 => fin (by unfold aVia; rw [if_neg e1, if_neg e2', if_neg e3, if_neg e4, if_pos e5])) (fun e5 => ?_)
        refine pw_cl (p_M_isStation w) (fun x I2 h => ?_)
        obtain ⟨rfl, rfl⟩ := h
        refine pw_b _ (fun e6 => no (by unfold aVia; rw [if_neg e1, if_neg e2', if_neg e3, if_neg e4, if_neg e5, if_pos e6])) (fun e6 => ?_)
        have e6' : ¬ (sta w).isSome = false := by rw [e6]; decide
        refine pw_if (fun e7 => no (by unfold aVia; rw [if_neg e1, if_neg e2', if_neg e3, if_neg e4, if_neg e5, if_neg e6', if_pos e7])) (fun e7 => ?_)
        refine pw_if (fun e8 => no (by unfold aVia; rw [if_neg e1, if_neg e2', if_neg e3, if_neg e4, if_neg e5, if_neg e6', if_neg e7, if_pos e8])) (fun e8 => ?_)
        exact pw_if (fun e9 => no (by unfold aVia; rw [if_neg e1, if_neg e2', if_neg e3, if_neg e4, if_neg e5, if_neg e6', if_neg e7, if_neg e8, if_pos e9])) (fun e9 => fin (by unfold aVia; rw [if_neg e1, if_neg e2', if_neg e3, if_neg e4, if_neg e5, if_neg e6', if_neg e7, if_neg e8, if_neg e9]))
    · rw [if_neg h0]
      exact pw_rz (Or.inl rfl) ⟨rfl, hX⟩
/-! leave -/
theorem p_C_leave (hS : Shp S) (hC : CInv I A) (i j : Int32) : pw S (q_C_leave (some 16) i j (I, S)) (CP I (aLea A i j)) := by
  refine CV_CP ?_
  unfold q_C_leave aLea
  refine pw_cv hS.1.1 (p_C_linkAt hS i j) (fun a I h => ?_)
  obtain ⟨rfl, rfl⟩ := h
  cases h : lnk i j with
  | none => exact pw_nn (pw_rz (Or.inl rfl) ⟨rfl, CX_0 hC⟩)
  | some q =>
    obtain ⟨s, o⟩ := q
    obtain ⟨h1, h2, h3, rfl, rfl⟩ := lnk_s h
    have hl : isLk s o := ⟨h1, h2, h3⟩
    have hX := CX_0 hC
    refine pw_ns (gK hS hl hX (f := 20) rfl ?_)
    dsimp only
    have fin : pw S (q_C_leave_29 (some (cK s o)) (I, S)) (CV I (1, aSay (aI (aI (aRst A (6 * s + o) 3) 28 (6 * s + o) 1) 27 (6 * s + o) (A.1 1 (9 * s + 4))) s o 83 1)) := by
      unfold q_C_leave_29
      refine pw_cv (cK_k hS hl) (c_restart hS hl hX 3) (fun _ J1 g1 => sK hS hl g1 (f := 28) rfl (by decide) (fun J2 g2 => rK hS hl (q := cN s) rfl (rN hS hl.1 (q := cN s + 1) rfl (gT hS hl.1 g2 4 rfl (by decide) (sK hS hl g2 (f := 27) rfl (by decide) (fun J3 g3 => ?_))))))
      rw [aI_f _ _ _ _ (by decide), aRst_f _ (by decide)] at g3
      exact rK hS hl (q := cN s) rfl (rK hS hl (q := cK s o + 1) rfl (pw_cl (c_say hS hl g3 83 1) (fun _ J4 g4 => pw_rz (Or.inr rfl) ⟨rfl, g4⟩)))
    refine pw_if (fun e1 => ?_) (fun e1 => gK hS hl hX (f := 20) rfl (pw_if (fun e2 => ?_) (fun e2 => ?_)))
    · rw [if_pos (Or.inl e1)]; exact fin
    · rw [if_pos (Or.inr e2)]; exact fin
    · rw [if_neg (fun q => q.elim e1 e2)]; exact pw_rz (Or.inl rfl) ⟨rfl, hX⟩
theorem aVi_same {B : aT} (hV : aVi A) (h1 : B.1 21 = A.1 21) (h2 : B.1 22 = A.1 22) : aVi B := fun l hl => by rw [h1, h2]; exact hV l hl
theorem aI_ff (A : aT) {f g : Nat} (k : Nat) (v : Int32) (h : g ≠ f) : (aI A f k v).1 g = A.1 g := by
  funext i
  exact aI_f _ _ _ _ h
theorem aRst_ff (A : aT) {l g : Nat} {m : Int32} (h : g < 20 ∨ 31 < g ∨ g = 21 ∨ g = 22 ∨ g = 23) : (aRst A l m).1 g = A.1 g := by
  unfold aRst
  rw [aQ_1, aL_1, aI_ff _ _ _ (by omega), aI_ff _ _ _ (by omega), aI_ff _ _ _ (by omega), aI_ff _ _ _ (by omega), aI_ff _ _ _ (by omega), aI_ff _ _ _ (by omega), aI_ff _ _ _ (by omega), aI_ff _ _ _ (by omega), aI_ff _ _ _ (by omega)]
theorem p_M_leave (hS : Shp S) (hR : RInv I A) (hV : aVi A) (i j : Int32) : pw S (q_M_leave (some 1282) i j (I, S)) (RP I (aLea A i j)) := by
  refine RV_RP ?_
  have hX := RX_0 hR
  have hm := M_k hS
  unfold q_M_leave aLea
  refine pw_cl (p_M_isLink i j) (fun a I h => ?_)
  obtain ⟨rfl, rfl⟩ := h
  cases h : lnk i j with
  | none => exact pw_t (by simp) (pw_rz (Or.inl rfl) ⟨rfl, hX⟩)
  | some q =>
    obtain ⟨s, o⟩ := q
    obtain ⟨h1, h2, h3, rfl, rfl⟩ := lnk_s h
    have hl : isLk s o := ⟨h1, h2, h3⟩
    refine pw_f (by simp) (pw_lt ?_)
    rw [show (6 : Int32) * nI s + nI o = nI (6 * s + o) from n_lin 6 s o]
    refine rM hS (r := 1316) rfl (gA hS hX (6 * s + o) rfl rfl (by omega) ?_)
    dsimp only
    have fin : pw S (q_M_leave_39 (some 1282) (nI s) (nI o) (nI (6 * s + o)) (I, S)) (RV I (1, aSay (aI (aI (aRst A (6 * s + o) 3) 28 (6 * s + o) 1) 27 (6 * s + o) (A.1 1 (9 * s + 4))) s o 83 1)) := by
      unfold q_M_leave_39
      refine pw_cv hm (r_reset hS (by omega) hX) (fun _ J1 g1 => rM hS (r := 1316) rfl (sA hS g1 (6 * s + o) rfl (by decide) rfl (by omega) (fun J2 g2 => ?_)))
      rw [aRst_m] at g2
      refine rM hS (r := 1324) rfl (sA hS g2 (6 * s + o) rfl (by decide) rfl (by omega) (fun J3 g3 => ?_))
      refine rM hS (r := 1323) rfl (rM hS (r := 1294) rfl (gA hS g3 (9 * s + 4) rfl (n_lin 9 s 4) (by omega) (sA hS g3 (6 * s + o) rfl (by decide) rfl (by omega) (fun J4 g4 => ?_))))
      rw [aI_f _ _ _ _ (by decide), aRst_f _ (by decide)] at g4
      refine pw_cv hm (r_say hS hl g4 (aVi_same hV ?_ ?_) 83 1) (fun _ J5 g5 => pw_rz (Or.inr rfl) ⟨rfl, g5⟩)
      · rw [aI_ff _ _ _ (by decide), aI_ff _ _ _ (by decide), aRst_ff _ (by decide)]
      · rw [aI_ff _ _ _ (by decide), aI_ff _ _ _ (by decide), aRst_ff _ (by decide)]
    refine pw_if (fun e1 => ?_) (fun e1 => rM hS (r := 1316) rfl (gA hS hX (6 * s + o) rfl rfl (by omega) (pw_if (fun e2 => ?_) (fun e2 => ?_))))
    · rw [if_pos (Or.inl e1)]; exact fin
    · rw [if_pos (Or.inr e2)]; exact fin
    · rw [if_neg (fun q => q.elim e1 e2)]; exact pw_rz (Or.inl rfl) ⟨rfl, hX⟩
end CL
