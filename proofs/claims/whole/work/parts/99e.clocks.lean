/-! what holds of every state; the clocks -/
def tnOk (f : Nat → Int32) (s : Nat) : Prop := (∃ n : Nat, 1 ≤ n ∧ n ≤ 16 ∧ f (9 * s + 2) = nI n) ∧ (∃ n : Nat, 100 ≤ n ∧ n ≤ 20000 ∧ f (9 * s + 4) = nI n) ∧ (∃ n : Nat, 1 ≤ n ∧ n ≤ 255 ∧ f (9 * s + 5) = nI n)
def lOk (A : aT) (l : Nat) : Prop := (A.1 21 l ≠ 6 ∧ A.1 22 l ≠ 6) ∧ (∃ n : Nat, n < 128 ∧ A.1 32 l = nI n) ∧ ((A.1 24 l - A.1 25 l) &&& 7 = nI (A.2.2 3 l).length) ∧ (A.1 30 l = 0 ∨ A.1 30 l = 1) ∧ (A.1 20 l = 0 ∨ A.1 20 l = 1 ∨ A.1 20 l = 2 ∨ A.1 20 l = 3) ∧ (∃ n : Nat, n ≤ 20000 ∧ A.1 27 l = nI n) ∧ (∃ n : Nat, n ≤ 6 ∧ A.1 28 l = nI n) ∧ (A.1 20 l = 0 → A.1 27 l = 0) ∧ (∃ n : Nat, n < 8 ∧ A.1 24 l = nI n) ∧ (A.2.2 3 l).length ≤ 4
def AInv (A : aT) : Prop := (∀ s, s < 6 → tnOk (A.1 1) s) ∧ aH01 A ∧ aS01 A ∧ aRk A ∧ (aQl A ∧ aRs A ∧ aSe A) ∧ ∀ l, l < 36 → lOk A l
def kf (f : Nat) : Bool := [1, 2, 5, 6, 7, 10, 11, 12, 20, 21, 22, 24, 25, 27, 28, 30, 32, 40].contains f
theorem lOk_c {A B : aT} {l : Nat} (h : lOk A l) (e : ∀ f, (f = 20 ∨ f = 21 ∨ f = 22 ∨ f = 24 ∨ f = 25 ∨ f = 27 ∨ f = 28 ∨ f = 30 ∨ f = 32) → B.1 f l = A.1 f l) (e3 : (B.2.2 3 l).length = (A.2.2 3 l).length) : lOk B l := by
  unfold lOk at h ⊢
  rw [e 20 (by omega), e 21 (by omega), e 22 (by omega), e 24 (by omega), e 25 (by omega), e 27 (by omega), e 28 (by omega), e 30 (by omega), e 32 (by omega), e3]
  exact h
theorem AInv_o {A B : aT} (h : AInv A) (e : ∀ f, kf f = true → B.1 f = A.1 f) (e2 : B.2.1 2 = A.2.1 2) (e3 : B.2.1 3 = A.2.1 3) (e4 : B.2.2 3 = A.2.2 3) : AInv B := by
  obtain ⟨h1, h2, h3, h4, ⟨h5, h6, h7⟩, h8⟩ := h
  refine ⟨fun s hs => by rw [e 1 rfl]; exact h1 s hs, fun k hk i hi => by rw [e 2 rfl]; exact h2 k hk i hi, aS01_c h3 (fun f i hf => ?_), fun k hk => ?_, ⟨fun k hk => by rw [e 40 rfl]; exact h5 k hk, fun s hs n hn => by rw [e 40 rfl]; exact h6 s hs n hn, fun s hs d hd => by rw [e 40 rfl]; exact h7 s hs d hd⟩, fun l hl => lOk_c (h8 l hl) (fun f hf => ?_) (by rw [e4])⟩
  · rcases hf with q | q | q <;> subst q
    · rw [e 5 rfl]
    · rw [e 6 rfl]
    · rw [e 7 rfl]
  · have : aRt B k = aRt A k := by
      unfold aRt
      rw [e 12 rfl, e 10 rfl, e 11 rfl, e2, e3]
    rw [this]
    exact h4 k hk
  · rcases hf with q | q | q | q | q | q | q | q | q <;> subst q
    · rw [e 20 rfl]
    · rw [e 21 rfl]
    · rw [e 22 rfl]
    · rw [e 24 rfl]
    · rw [e 25 rfl]
    · rw [e 27 rfl]
    · rw [e 28 rfl]
    · rw [e 30 rfl]
    · rw [e 32 rfl]
theorem AInv_lk {A B : aT} {l : Nat} (h : AInv A) (e : ∀ f, (f = 1 ∨ f = 2 ∨ f = 5 ∨ f = 6 ∨ f = 7 ∨ f = 10 ∨ f = 11 ∨ f = 12 ∨ f = 40) → B.1 f = A.1 f) (e2 : B.2.1 2 = A.2.1 2) (e3 : B.2.1 3 = A.2.1 3) (eo : ∀ j, j < 36 → j ≠ l → (∀ f, (f = 20 ∨ f = 21 ∨ f = 22 ∨ f = 24 ∨ f = 25 ∨ f = 27 ∨ f = 28 ∨ f = 30 ∨ f = 32) → B.1 f j = A.1 f j) ∧ B.2.2 3 j = A.2.2 3 j) (hl : l < 36 → lOk B l) : AInv B := by
  obtain ⟨h1, h2, h3, h4, ⟨h5, h6, h7⟩, h8⟩ := h
  refine ⟨fun s hs => by rw [e 1 (by omega)]; exact h1 s hs, fun k hk i hi => by rw [e 2 (by omega)]; exact h2 k hk i hi, aS01_c h3 (fun f i hf => by rw [e f (by omega)]), fun k hk => ?_, ⟨fun k hk => by rw [e 40 (by omega)]; exact h5 k hk, fun s hs n hn => by rw [e 40 (by omega)]; exact h6 s hs n hn, fun s hs d hd => by rw [e 40 (by omega)]; exact h7 s hs d hd⟩, fun j hj => ?_⟩
  · have : aRt B k = aRt A k := by
      unfold aRt
      rw [e 12 (by omega), e 10 (by omega), e 11 (by omega), e2, e3]
    rw [this]
    exact h4 k hk
  · by_cases q : j = l
    · subst q; exact hl hj
    · exact lOk_c (h8 j hj) (eo j hj q).1 (by rw [(eo j hj q).2])
section AI
variable {A : aT}
theorem AI_Vi (h : AInv A) : aVi A := fun l hl => (h.2.2.2.2.2 l hl).1
theorem AI_Cs (h : AInv A) : aCs A := fun l hl => (h.2.2.2.2.2 l hl).2.1
theorem AI_Sn (h : AInv A) : aSn A := fun l hl => (h.2.2.2.2.2 l hl).2.2.1
theorem AI_Bo (h : AInv A) : aBo A := fun l hl => (h.2.2.2.2.2 l hl).2.2.2.1
theorem AI_Mo (h : AInv A) : aMo A := fun l hl => (h.2.2.2.2.2 l hl).2.2.2.2.1
theorem AI_Ld (h : AInv A) : aLd A := fun s hs => (h.1 s hs).1
theorem AI_Se (h : AInv A) : aSe A := h.2.2.2.2.1.2.2
theorem AI_Ql (h : AInv A) : aQl A := h.2.2.2.2.1.1
theorem AI_Rs (h : AInv A) : aRs A := h.2.2.2.2.1.2.1
theorem AI_01 (h : AInv A) : aS01 A := h.2.2.1
theorem AI_Rk (h : AInv A) : aRk A := h.2.2.2.1
theorem AI_H (h : AInv A) : aH01 A := h.2.1
theorem kf_ne {f g : Nat} (hf : kf f = true) (hg : kf g = false) : f ≠ g := fun e => by rw [e, hg] at hf; exact absurd hf (by decide)
theorem AI_aI {g k : Nat} {v : Int32} (h : AInv A) (hg : kf g = false) : AInv (aI A g k v) := AInv_o h (fun f hf => aI_ff _ _ _ (kf_ne hf hg)) rfl rfl rfl
theorem AI_aL {g k : Nat} {v : List Int32} (h : AInv A) (hg : g ≠ 2 ∧ g ≠ 3) : AInv (aL A g k v) := AInv_o h (fun f hf => rfl) (mrow_n _ _ (Ne.symm hg.1)) (mrow_n _ _ (Ne.symm hg.2)) rfl
theorem AI_aQ {g k : Nat} {v : List (List Int32)} (h : AInv A) (hg : g ≠ 3) : AInv (aQ A g k v) := AInv_o h (fun f hf => rfl) rfl rfl (mrow_n _ _ (Ne.symm hg))
theorem AI_cnt {s w : Nat} (h : AInv A) : AInv (cnt A s w) := AI_aI h rfl
theorem AI_enq {s : Nat} {fr : List Int32} (h : AInv A) : AInv (aEnq A s fr) := by
  unfold aEnq
  split
  · exact AI_aQ h (by decide)
  · exact AI_cnt h
theorem AI_say {s o : Nat} {c i : Int32} (h : AInv A) : AInv (aSay A s o c i) := AI_enq h
theorem AI_num {s o : Nat} {k b c : Int32} (h : AInv A) : AInv (aNum A s o k b c) := AI_enq h
/-- one field of a link -/
theorem AI_lf {g l : Nat} {v : Int32} (h : AInv A) (hg : 20 ≤ g ∧ g ≤ 33) (hl : l < 36 → lOk (aI A g l v) l) : AInv (aI A g l v) := AInv_lk h (fun f hf => aI_ff _ _ _ (by omega)) rfl rfl (fun j hj hne => ⟨fun f hf => aI_o _ _ (Or.inr hne), rfl⟩) hl
/-- a link's clock is set, where its MODE is not DOWN -/
theorem AI_ck {l n : Nat} {v : Int32} (h : AInv A) (hv : v = nI n) (hn : n ≤ 20000) (hm : A.1 20 l = 0 → n = 0) : AInv (aI A 27 l v) := AI_lf h (by omega) (fun hl => by
  obtain ⟨h1, h2, h3, h4, h5, h6, h7, h8, h9⟩ := h.2.2.2.2.2 l hl
  unfold lOk
  rw [aI_s, aI_f _ _ _ _ (by decide), aI_f _ _ _ _ (by decide), aI_f _ _ _ _ (by decide), aI_f _ _ _ _ (by decide), aI_f _ _ _ _ (by decide), aI_f _ _ _ _ (by decide), aI_f _ _ _ _ (by decide), aI_f _ _ _ _ (by decide)]
  exact ⟨h1, h2, h3, h4, h5, ⟨n, hn, hv⟩, h7, fun q => by rw [hv, hm q]; rfl, h9⟩)
theorem AI_tr {l n : Nat} {v : Int32} (h : AInv A) (hv : v = nI n) (hn : n ≤ 6) : AInv (aI A 28 l v) := AI_lf h (by omega) (fun hl => by
  obtain ⟨h1, h2, h3, h4, h5, h6, h7, h8, h9⟩ := h.2.2.2.2.2 l hl
  unfold lOk
  rw [aI_s, aI_f _ _ _ _ (by decide), aI_f _ _ _ _ (by decide), aI_f _ _ _ _ (by decide), aI_f _ _ _ _ (by decide), aI_f _ _ _ _ (by decide), aI_f _ _ _ _ (by decide), aI_f _ _ _ _ (by decide), aI_f _ _ _ _ (by decide)]
  exact ⟨h1, h2, h3, h4, h5, h6, ⟨n, hn, hv⟩, h8, h9⟩)
theorem aRst_in {l f : Nat} {m : Int32} (hf : f = 24 ∨ f = 25 ∨ f = 26 ∨ f = 27 ∨ f = 28 ∨ f = 29 ∨ f = 30 ∨ f = 31) : (aRst A l m).1 f l = 0 := by
  unfold aRst
  rw [aQ_1, aL_1]
  rcases hf with q | q | q | q | q | q | q | q <;> subst q
  · rw [aI_f _ _ _ _ (by decide), aI_f _ _ _ _ (by decide), aI_f _ _ _ _ (by decide), aI_f _ _ _ _ (by decide), aI_f _ _ _ _ (by decide), aI_f _ _ _ _ (by decide), aI_f _ _ _ _ (by decide), aI_s]
  · rw [aI_f _ _ _ _ (by decide), aI_f _ _ _ _ (by decide), aI_f _ _ _ _ (by decide), aI_f _ _ _ _ (by decide), aI_f _ _ _ _ (by decide), aI_f _ _ _ _ (by decide), aI_s]
  · rw [aI_f _ _ _ _ (by decide), aI_f _ _ _ _ (by decide), aI_f _ _ _ _ (by decide), aI_f _ _ _ _ (by decide), aI_f _ _ _ _ (by decide), aI_s]
  · rw [aI_f _ _ _ _ (by decide), aI_f _ _ _ _ (by decide), aI_f _ _ _ _ (by decide), aI_f _ _ _ _ (by decide), aI_s]
  · rw [aI_f _ _ _ _ (by decide), aI_f _ _ _ _ (by decide), aI_f _ _ _ _ (by decide), aI_s]
  · rw [aI_f _ _ _ _ (by decide), aI_f _ _ _ _ (by decide), aI_s]
  · rw [aI_f _ _ _ _ (by decide), aI_s]
  · rw [aI_s]
theorem aRst_20 {l : Nat} {m : Int32} : (aRst A l m).1 20 l = m := by
  unfold aRst
  rw [aQ_1, aL_1, aI_f _ _ _ _ (by decide), aI_f _ _ _ _ (by decide), aI_f _ _ _ _ (by decide), aI_f _ _ _ _ (by decide), aI_f _ _ _ _ (by decide), aI_f _ _ _ _ (by decide), aI_f _ _ _ _ (by decide), aI_f _ _ _ _ (by decide), aI_s]
theorem aRst_o {l f i : Nat} {m : Int32} (h : i ≠ l ∨ (f < 20 ∨ 31 < f ∨ f = 21 ∨ f = 22 ∨ f = 23)) : (aRst A l m).1 f i = A.1 f i := by
  unfold aRst
  rw [aQ_1, aL_1, aI_o _ _ (by omega), aI_o _ _ (by omega), aI_o _ _ (by omega), aI_o _ _ (by omega), aI_o _ _ (by omega), aI_o _ _ (by omega), aI_o _ _ (by omega), aI_o _ _ (by omega), aI_o _ _ (by omega)]
theorem AI_rst {l : Nat} {m : Int32} (h : AInv A) (hm : m = 0 ∨ m = 1 ∨ m = 2 ∨ m = 3) : AInv (aRst A l m) := by
  refine AInv_lk h (fun f hf => ?_) ?_ ?_ (fun j hj hne => ⟨fun f hf => aRst_o (Or.inl hne), ?_⟩) (fun hl => ?_)
  · funext i
    exact aRst_o (Or.inr (by omega))
  · funext i
    unfold aRst
    rw [aQ_2, aL_f _ _ _ _ (by decide)]
    rfl
  · funext i
    unfold aRst
    rw [aQ_2, aL_f _ _ _ _ (by decide)]
    rfl
  · unfold aRst
    rw [aQ_k _ _ _ hne]
    rfl
  · obtain ⟨h1, h2, h3, h4, h5, h6, h7, h8⟩ := h.2.2.2.2.2 l hl
    unfold lOk
    rw [aRst_20, aRst_in (f := 24) (by omega), aRst_in (f := 25) (by omega), aRst_in (f := 27) (by omega), aRst_in (f := 28) (by omega), aRst_in (f := 30) (by omega), aRst_o (f := 21) (by omega), aRst_o (f := 22) (by omega), aRst_o (f := 32) (by omega)]
    refine ⟨h1, h2, ?_, Or.inl rfl, hm, ⟨0, by decide, rfl⟩, ⟨0, by decide, rfl⟩, fun _ => rfl, ⟨0, by decide, rfl⟩, ?_⟩
    · unfold aRst
      rw [aQ_s]
      decide
    · unfold aRst
      rw [aQ_s]
      decide
theorem AI_dn {l : Nat} (h : AInv A) : AInv (aDn A l) := AI_aQ (AI_rst h (Or.inl rfl)) (by decide)
end AI
/-! the clocks -/
def aTr2 (C : aT) (s o : Nat) : aT := if C.1 20 (6 * s + o) = 1 then aSay C s o 63 1 else if C.1 20 (6 * s + o) = 3 then aSay C s o 83 1 else aI (aNum C s o (rdy C (6 * s + o)) 16 1) 29 (6 * s + o) 1
def aTry (B : aT) (s o : Nat) : aT := if B.1 28 (6 * s + o) < 6 then aTr2 (aI (aI B 28 (6 * s + o) (B.1 28 (6 * s + o) + 1)) 27 (6 * s + o) (B.1 1 (9 * s + 4))) s o else aDn (if B.1 20 (6 * s + o) = 2 then aSay B s o 15 0 else B) (6 * s + o)
def aCk2 (B : aT) (s o : Nat) : aT := if B.1 27 (6 * s + o) = 0 then aTry B s o else B
def aClk (A : aT) (s o : Nat) : aT := if 0 < A.1 27 (6 * s + o) then aCk2 (aI A 27 (6 * s + o) (A.1 27 (6 * s + o) - 1)) s o else A
section CL
variable {S : mS} {I J I0 : mIm} {A : aT} {s o : Nat}
theorem c_tryAgain (hS : Shp S) (hl : isLk s o) (hX : CX I0 I A) : pw S (q_C_tryAgain (some (cK s o)) (I, S)) (CU I0 (aTry A s o)) := by
  unfold q_C_tryAgain aTry
  refine rK hS hl (q := cN s) rfl (gK hS hl hX (f := 28) rfl ?_)
  by_cases e : A.1 28 (6 * s + o) < 6
  · refine pw_t e ?_
    rw [if_pos e]
    refine gK hS hl hX (f := 28) rfl (sK hS hl hX (f := 28) rfl (by decide) (fun J1 g1 => rN hS hl.1 (q := cN s + 1) rfl (gT hS hl.1 g1 4 rfl (by decide) (sK hS hl g1 (f := 27) rfl (by decide) (fun J2 g2 => ?_)))))
    rw [aI_f _ _ _ _ (by decide)] at g2
    generalize aI (aI A 28 (6 * s + o) (A.1 28 (6 * s + o) + 1)) 27 (6 * s + o) (A.1 1 (9 * s + 4)) = C at g2 ⊢
    unfold aTr2
    refine gK hS hl g2 (f := 20) rfl ?_
    by_cases e1 : C.1 20 (6 * s + o) = 1
    · refine pw_t e1 ?_
      rw [if_pos e1]
      exact rK hS hl (q := cK s o + 1) rfl (pw_cl (c_say hS hl g2 63 1) (fun _ J3 g3 => pw_ret g3))
    · refine pw_f e1 ?_
      rw [if_neg e1]
      refine gK hS hl g2 (f := 20) rfl ?_
      by_cases e2 : C.1 20 (6 * s + o) = 3
      · refine pw_t e2 ?_
        rw [if_pos e2]
        exact rK hS hl (q := cK s o + 1) rfl (pw_cl (c_say hS hl g2 83 1) (fun _ J3 g3 => pw_ret g3))
      · refine pw_f e2 ?_
        rw [if_neg e2]
        exact pw_cl (c_sayReady hS hl g2 16 1) (fun _ J3 g3 => sKz hS hl g3 (f := 29) rfl (by decide) (Or.inr rfl) (fun J4 g4 => pw_ret g4))
  · refine pw_f e ?_
    rw [if_neg e]
    unfold q_C_tryAgain_34
    refine gK hS hl hX (f := 20) rfl ?_
    by_cases e1 : A.1 20 (6 * s + o) = 2
    · refine pw_t e1 ?_
      rw [if_pos e1]
      exact rK hS hl (q := cK s o + 1) rfl (pw_cl (c_say hS hl hX 15 0) (fun _ J3 g3 => pw_cv (cK_k hS hl) (c_goDown hS hl g3) (fun _ J4 g4 => pw_ret g4)))
    · refine pw_f e1 ?_
      rw [if_neg e1]
      exact pw_cv (cK_k hS hl) (c_goDown hS hl hX) (fun _ J4 g4 => pw_ret g4)
theorem AI_try (h : AInv A) (hl : isLk s o) (hm : A.1 20 (6 * s + o) ≠ 0) : AInv (aTry A s o) := by
  obtain ⟨h1, h2, h3⟩ := hl
  have hl36 : 6 * s + o < 36 := by omega
  obtain ⟨n, n1, n2, en⟩ := (h.1 s h1).2.1
  unfold aTry
  split
  · rename_i e
    obtain ⟨t, ht, et⟩ := (h.2.2.2.2.2 _ hl36).2.2.2.2.2.2.1
    rw [et] at e
    have := (nI_ltI (b := 6) (by omega) (by decide)).mp e
    have h4 : AInv (aI (aI A 28 (6 * s + o) (A.1 28 (6 * s + o) + 1)) 27 (6 * s + o) (A.1 1 (9 * s + 4))) := by
      refine AI_ck (AI_tr h (n := t + 1) (by rw [et]; exact nI_1 t) (by omega)) en n2 (fun q => ?_)
      rw [aI_f _ _ _ _ (by decide)] at q
      exact absurd q hm
    unfold aTr2
    split
    · exact AI_say h4
    · split
      · exact AI_say h4
      · exact AI_aI (AI_num h4) rfl
  · apply AI_dn
    split
    · exact AI_say h
    · exact h
theorem AI_clk (h : AInv A) (hl : isLk s o) : AInv (aClk A s o) := by
  obtain ⟨h1, h2, h3⟩ := id hl
  have hl36 : 6 * s + o < 36 := by omega
  obtain ⟨-, -, -, -, -, ⟨n, hn, en⟩, -, h8, -⟩ := h.2.2.2.2.2 _ hl36
  unfold aClk
  split
  · rename_i e
    have n0 : n ≠ 0 := fun q => by rw [en, q] at e; exact absurd e (by decide)
    have hm : A.1 20 (6 * s + o) ≠ 0 := fun q => by have := h8 q; rw [this] at e; exact absurd e (by decide)
    obtain ⟨m, rfl⟩ : ∃ m, n = m + 1 := ⟨n - 1, by omega⟩
    have hB : AInv (aI A 27 (6 * s + o) (A.1 27 (6 * s + o) - 1)) := AI_ck h (n := m) (by rw [en]; exact nI_pred m) (by omega) (fun q => absurd q hm)
    unfold aCk2
    split
    · exact AI_try hB hl (by rw [aI_f _ _ _ _ (by decide)]; exact hm)
    · exact hB
  · exact h
theorem r_clockGoes (hS : Shp S) (hl : isLk s o) (hX : RX I0 I A) (h : AInv A) : pw S (q_M_clockGoes (some 1282) (nI s) (nI o) (I, S)) (RU I0 (aClk A s o)) := by
  have hM := M_k hS
  obtain ⟨h1, h2, h3⟩ := id hl
  have hl36 : 6 * s + o < 36 := by omega
  obtain ⟨-, -, -, -, hmo, ⟨n, hn, en⟩, ⟨t, ht, et⟩, h8, -⟩ := h.2.2.2.2.2 _ hl36
  have ix : ((6 : Int32) * nI s) + nI o = nI (6 * s + o) := by rw [show (6 : Int32) * nI s = nI (6 * s) from pk_mul 6 s, nI_add]
  unfold q_M_clockGoes aClk
  rw [ix]
  refine pw_lt (rM hS (r := 1323) rfl (gA hS hX (r := 1323) (6 * s + o) rfl rfl hl36 ?_))
  by_cases e0 : n = 0
  · rw [if_neg (show ¬ 0 < A.1 27 (6 * s + o) by rw [en, e0]; decide)]
    exact pw_t (by rw [en, e0]; rfl) (pw_ret hX)
  · rw [if_pos (show 0 < A.1 27 (6 * s + o) by rw [en]; exact n_gt0 (by omega) (by omega))]
    have hm : A.1 20 (6 * s + o) ≠ 0 := fun q => by have := h8 q; rw [en] at this; exact nI_ne0 (by omega) (by omega) this
    obtain ⟨m, rfl⟩ : ∃ m, n = m + 1 := ⟨n - 1, by omega⟩
    refine pw_f (by rw [en]; exact nI_ne0 (by omega) (by omega)) (rM hS (r := 1323) rfl (gA hS hX (r := 1323) (6 * s + o) rfl rfl hl36 (sA hS hX (r := 1323) (6 * s + o) rfl (by decide) rfl hl36 (fun J1 g1 => ?_))))
    have hB : AInv (aI A 27 (6 * s + o) (A.1 27 (6 * s + o) - 1)) := AI_ck h (n := m) (by rw [en]; exact nI_pred m) (by omega) (fun q => absurd q hm)
    have ek : (aI A 27 (6 * s + o) (A.1 27 (6 * s + o) - 1)).1 27 (6 * s + o) = nI m := by rw [aI_s, en]; exact nI_pred m
    have eo : ∀ f, f ≠ 27 → (aI A 27 (6 * s + o) (A.1 27 (6 * s + o) - 1)).1 f = A.1 f := fun f hf => aI_ff _ _ _ hf
    rw [← eo 20 (by decide)] at hm hmo
    rw [← eo 28 (by decide)] at et
    generalize aI A 27 (6 * s + o) (A.1 27 (6 * s + o) - 1) = B at g1 hB ek hm hmo et ⊢
    unfold aCk2
    refine rM hS (r := 1323) rfl (gA hS g1 (r := 1323) (6 * s + o) rfl rfl hl36 ?_)
    rw [ek]
    by_cases em : m = 0
    · rw [if_pos (show nI m = 0 by rw [em]; rfl)]
      refine pw_f (by rw [em]; decide) (rM hS (r := 1324) rfl (gA hS g1 (r := 1324) (6 * s + o) rfl rfl hl36 ?_))
      unfold aTry
      by_cases e6 : t = 6
      · rw [if_neg (show ¬ B.1 28 (6 * s + o) < 6 by rw [et, e6]; decide)]
        unfold q_M_clockGoes_67
        refine pw_t (by rw [et, e6]; rfl) (rM hS (r := 1316) rfl (gA hS g1 (r := 1316) (6 * s + o) rfl rfl hl36 ?_))
        by_cases e1 : B.1 20 (6 * s + o) = 2
        · refine pw_t e1 ?_
          rw [if_pos e1]
          exact pw_cv hM (r_say hS hl g1 (AI_Vi hB) 15 0) (fun _ J2 g2 => pw_cv hM (r_goDown hS hl36 g2) (fun _ J3 g3 => pw_ret g3))
        · refine pw_f e1 ?_
          rw [if_neg e1]
          exact pw_cv hM (r_goDown hS hl36 g1) (fun _ J3 g3 => pw_ret g3)
      · rw [if_pos (show B.1 28 (6 * s + o) < 6 by rw [et]; exact nI_lt (b := 6) (by omega) (by decide))]
        refine pw_f (fun q => e6 (by rw [et] at q; exact (nI_eq (b := 6) (by omega) (by decide)).mp q)) (rM hS (r := 1324) rfl (gA hS g1 (r := 1324) (6 * s + o) rfl rfl hl36 (sA hS g1 (r := 1324) (6 * s + o) rfl (by decide) rfl hl36 (fun J2 g2 => rM hS (r := 1323) rfl (rM hS (r := 1294) rfl (gA hS g2 (r := 1294) (9 * s + 4) rfl (by rw [show (9 : Int32) * nI s = nI (9 * s) from pk_mul 9 s]; exact nI_add _ 4) (by omega) (sA hS g2 (r := 1323) (6 * s + o) rfl (by decide) rfl hl36 (fun J3 g3 => ?_))))))))
        rw [aI_f _ _ _ _ (by decide)] at g3
        have hC : AInv (aI (aI B 28 (6 * s + o) (B.1 28 (6 * s + o) + 1)) 27 (6 * s + o) (B.1 1 (9 * s + 4))) := by
          obtain ⟨n', n1, n2, en'⟩ := (hB.1 s h1).2.1
          refine AI_ck (AI_tr hB (n := t + 1) (by rw [et]; exact nI_1 t) (by omega)) en' n2 (fun q => ?_)
          rw [aI_f _ _ _ _ (by decide)] at q
          exact absurd q hm
        have e20 : (aI (aI B 28 (6 * s + o) (B.1 28 (6 * s + o) + 1)) 27 (6 * s + o) (B.1 1 (9 * s + 4))).1 20 (6 * s + o) = B.1 20 (6 * s + o) := by rw [aI_f _ _ _ _ (by decide), aI_f _ _ _ _ (by decide)]
        rw [← e20] at hm hmo
        generalize aI (aI B 28 (6 * s + o) (B.1 28 (6 * s + o) + 1)) 27 (6 * s + o) (B.1 1 (9 * s + 4)) = C at g3 hC hm hmo ⊢
        unfold aTr2 q_M_clockGoes_119 q_M_clockGoes_138
        have c13 : ¬ (1 : Int32) = 3 := by decide
        have c12 : ¬ (1 : Int32) = 2 := by decide
        have c32 : ¬ (3 : Int32) = 2 := by decide
        refine rM hS (r := 1316) rfl (gA hS g3 (r := 1316) (6 * s + o) rfl rfl hl36 ?_)
        by_cases e1 : C.1 20 (6 * s + o) = 1
        · refine pw_t e1 ?_
          rw [if_pos e1]
          refine pw_cv hM (r_say hS hl g3 (AI_Vi hC) 63 1) (fun _ J4 g4 => rM hS (r := 1316) rfl (gA hS g4 (r := 1316) (6 * s + o) rfl rfl hl36 ?_))
          have e20' : (aSay C s o 63 1).1 20 (6 * s + o) = 1 := by rw [aSay_1 (by decide)]; exact e1
          rw [e20']
          refine pw_f c13 (rM hS (r := 1316) rfl (gA hS g4 (r := 1316) (6 * s + o) rfl rfl hl36 ?_))
          rw [e20']
          exact pw_f c12 (pw_ret g4)
        · refine pw_f e1 ?_
          rw [if_neg e1]
          refine rM hS (r := 1316) rfl (gA hS g3 (r := 1316) (6 * s + o) rfl rfl hl36 ?_)
          by_cases e2 : C.1 20 (6 * s + o) = 3
          · refine pw_t e2 ?_
            rw [if_pos e2]
            refine pw_cv hM (r_say hS hl g3 (AI_Vi hC) 83 1) (fun _ J4 g4 => rM hS (r := 1316) rfl (gA hS g4 (r := 1316) (6 * s + o) rfl rfl hl36 ?_))
            have e20' : (aSay C s o 83 1).1 20 (6 * s + o) = 3 := by rw [aSay_1 (by decide)]; exact e2
            rw [e20']
            exact pw_f c32 (pw_ret g4)
          · refine pw_f e2 ?_
            rw [if_neg e2]
            have e3 : C.1 20 (6 * s + o) = 2 := by
              rcases hmo with q | q | q | q
              · exact absurd q hm
              · exact absurd q e1
              · exact q
              · exact absurd q e2
            refine rM hS (r := 1316) rfl (gA hS g3 (r := 1316) (6 * s + o) rfl rfl hl36 (pw_t e3 (pw_cv hM (r_ready hS hl36 g3) (fun v J4 g4 => ?_))))
            obtain ⟨hJ4, rfl⟩ := g4
            rw [hJ4]
            refine pw_cv hM (r_sayNumber hS hl g3 (AI_Vi hC) 1 (rdy C (6 * s + o)) 1) (fun _ J5 g5 => ?_)
            rw [if_neg (show ¬ (1 : Int32) = 0 by decide)] at g5
            exact rM hS (r := 1325) rfl (sZ hS g5 (r := 1325) (6 * s + o) rfl (by decide) (Or.inr rfl) rfl hl36 (fun J6 g6 => pw_ret g6))
    · rw [if_neg (show ¬ nI m = 0 from nI_ne0 (by omega) (by omega))]
      exact pw_t (n_gt0 (by omega) (by omega)) (pw_ret g1)
end CL
