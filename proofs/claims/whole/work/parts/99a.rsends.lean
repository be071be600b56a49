/-! sending: the reference sends -/
def rsQ (I : mIm) (s : Nat) (B : aT) : Unit → mIm → Prop := fun _ K => RInv K B ∧ (∀ r, r < 1282 → K r = I r) ∧ (∀ j, j ≠ s → K 1309 j = I 1309 j) ∧ (thr B s → K 1309 s = 1) ∧ (¬ thr B s → K 1309 s = 0)
section RN
variable {S : mS} {I J I0 : mIm} {A : aT} {s : Nat}
theorem fSx_low {K : mIm} (h : fSx I K s) {r : Nat} (hr : r < 1282) : K r = I r := h.1 r (by omega) (by omega) (by omega) (by omega) (by omega) (Or.inl (by omega))
theorem qOf_w {ll : List (List Int32)} {r : Nat} {v : Int32} (h : qOf J s ll) (hr : r ≠ 1296 ∧ r ≠ 1297 ∧ r ≠ 1298) : qOf (iput J r s v) s ll := ⟨by rw [iput_n _ _ _ (by omega)]; exact h.1, h.2.1, fun i l hl => ⟨(h.2.2 i l hl).1, by rw [iput_n _ _ _ (by omega)]; exact (h.2.2 i l hl).2.1, fun j x hj => by rw [iput_n _ _ _ (by omega)]; exact (h.2.2 i l hl).2.2 j x hj⟩⟩
theorem fmS_w {F : List Int32} {r : Nat} {v : Int32} (h : fmS J s F) (hr : r ≠ 1307 ∧ r ≠ 1308) : fmS (iput J r s v) s F := ⟨by rw [iput_n _ _ _ (by omega)]; exact h.1, h.2.1, fun j x hj => by rw [iput_n _ _ _ (by omega)]; exact h.2.2 j x hj⟩
theorem r_64 (hS : Shp S) (hs : s < 6) (hR : RInv I A) {v hd c b : Int32} {L F : List Int32} {ll : List (List Int32)} (hf : fSx I J s) (h5 : J 1301 s = v) (h6 : J 1302 s = 1) (h7 : J 1306 s = hd) (h8 : J 1310 (5 * s) = c) (hq : qOf J s ll) (hL : lnOf J s (b :: L)) (hF : 0 < hd → fmS J s F) : pw S (q_M_sends_64 (some 1282) (nI s) (J, S)) (rsQ I s (aSx A s (lvl v b) 1 hd L F ll c)) := by
  have hM := M_k hS
  have a01 := aK_in hS (r := 1301) (t := 0) (n := 6) rfl
  have a03 := aK_in hS (r := 1303) (t := 0) (n := 6) rfl
  have a04 := aK_in hS (r := 1304) (t := 0) (n := 6) rfl
  have a05 := aK_in hS (r := 1305) (t := 0) (n := 6144) rfl
  have a06 := aK_in hS (r := 1306) (t := 0) (n := 6) rfl
  have a09 := aK_in hS (r := 1309) (t := 1) (n := 6) rfl
  obtain ⟨a, l1, l2, l3, l4⟩ := hL
  rw [List.length_cons] at l2 l3
  have eb : J 1305 (1024 * s + a) = b := by
    have := l4 0 b rfl
    rw [Nat.add_zero] at this
    exact this
  unfold q_M_sends_64
  refine rM hS (r := 1305) rfl (rM hS (r := 1304) rfl (pw_aI s a04.1 rfl (by omega) (by omega) ?_))
  rw [l1]
  refine pw_aI (1024 * s + a) a05.1 (by rw [show (1024 : Int32) * nI s = nI (1024 * s) from pk_mul 1024 s, nI_add]) (by omega) (by omega) ?_
  rw [eb]
  refine rM hS (r := 1301) rfl ?_
  have go : pw S (q_M_sends_108 (some 1282) (nI s) (lvl v b) (nI s) (some 1301) (J, S)) (rsQ I s (aSx A s (lvl v b) 1 hd L F ll c)) := by
    unfold q_M_sends_108
    refine pw_wI s a01.1 rfl (by omega) (by omega) (rM hS (r := 1304) rfl (pw_aI s a04.1 rfl (by omega) (by omega) (pw_wI s a04.1 rfl (by omega) (by omega) ?_)))
    rw [iput_n _ _ _ (show 1304 ≠ 1301 by decide), l1, show nI a + 1 = nI (a + 1) from nI_1 a]
    have k5 : (iput (iput J 1301 s (lvl v b)) 1304 s (nI (a + 1))) 1301 s = lvl v b := by rw [iput_n _ _ _ (by decide), iput_s]
    have k6 : (iput (iput J 1301 s (lvl v b)) 1304 s (nI (a + 1))) 1302 s = 1 := by rw [iput_n _ _ _ (by decide), iput_n _ _ _ (by decide)]; exact h6
    have k7 : (iput (iput J 1301 s (lvl v b)) 1304 s (nI (a + 1))) 1306 s = hd := by rw [iput_n _ _ _ (by decide), iput_n _ _ _ (by decide)]; exact h7
    have k8 : (iput (iput J 1301 s (lvl v b)) 1304 s (nI (a + 1))) 1310 (5 * s) = c := by rw [iput_n _ _ _ (by decide), iput_n _ _ _ (by decide)]; exact h8
    have k4 : (iput (iput J 1301 s (lvl v b)) 1304 s (nI (a + 1))) 1304 s = nI (a + 1) := iput_s _ _ _ _
    have k3 : (iput (iput J 1301 s (lvl v b)) 1304 s (nI (a + 1))) 1303 s = nI (a + (L.length + 1)) := by rw [iput_n _ _ _ (by decide), iput_n _ _ _ (by decide)]; exact l2
    have kf : fSx I (iput (iput J 1301 s (lvl v b)) 1304 s (nI (a + 1))) s := fSx_t hf (fSx_t (fSx_w (by omega)) (fSx_w (by omega)))
    have kq : qOf (iput (iput J 1301 s (lvl v b)) 1304 s (nI (a + 1))) s ll := qOf_w (qOf_w hq (by decide)) (by decide)
    have kF : 0 < hd → fmS (iput (iput J 1301 s (lvl v b)) 1304 s (nI (a + 1))) s F := fun q => fmS_w (fmS_w (hF q) (by decide)) (by decide)
    have kL : fL (iput (iput J 1301 s (lvl v b)) 1304 s (nI (a + 1))) 1305 (1024 * s + (a + 1)) L := fun j x hj => by
      rw [iput_n _ _ _ (by decide), iput_n _ _ _ (by decide), show 1024 * s + (a + 1) + j = 1024 * s + a + (j + 1) by omega]
      exact l4 (j + 1) x hj
    generalize iput (iput J 1301 s (lvl v b)) 1304 s (nI (a + 1)) = K at k5 k6 k7 k8 k4 k3 kf kq kF kL ⊢
    have fin : ∀ x : Int32, (x = 0 ∨ x = 1) → (x = 1 ↔ (0 < hd ∧ L = [])) → pw S (x_wZ (K, S) (some 1309) (nI s) x fun M => some ((), M)) (rsQ I s (aSx A s (lvl v b) 1 hd L F ll c)) := by
      intro x hx hiff
      have c01 : ¬ (0 : Int32) = 1 := by decide
      have hth : thr (aSx A s (lvl v b) 1 hd L F ll c) s ↔ x = 1 := by
        unfold thr
        rw [aSx_6s, aSx_7s, aSx_4s, hiff]
        exact ⟨fun q => ⟨q.2.1, q.2.2⟩, fun q => ⟨rfl, q.1, q.2⟩⟩
      refine pw_wZ s a09.1 rfl (by omega) (by omega) hx (pw_ret ⟨RInv_sx hR hs (fSx_t kf (fSx_w (by omega))) ?_ ?_ ?_ ?_ (qOf_w kq (by decide)) (fun _ => ⟨⟨a + 1, ?_, ?_, by omega, fun j y hj => ?_⟩, fun q => fmS_w (kF q) (by decide)⟩), fun r hr => by rw [iput_n _ _ _ (by omega)]; exact fSx_low kf hr, fun j hj => by rw [iput_j _ _ _ hj]; exact kf.2.2.1 1309 (by omega) j hj, fun q => ?_, fun q => ?_⟩)
      · rw [iput_n _ _ _ (by decide)]; exact k5
      · rw [iput_n _ _ _ (by decide)]; exact k6
      · rw [iput_n _ _ _ (by decide)]; exact k7
      · rw [iput_n _ _ _ (by decide)]; exact k8
      · rw [iput_n _ _ _ (by decide)]; exact k4
      · rw [iput_n _ _ _ (by decide), k3]
        congr 1
        omega
      · rw [iput_n _ _ _ (by decide)]; exact kL j y hj
      · rw [iput_s]; exact hth.mp q
      · rw [iput_s]
        exact hx.resolve_right (fun z => q (hth.mpr z))
    refine rM hS (r := 1309) rfl (rM hS (r := 1306) rfl (pw_aI s a06.1 rfl (by omega) (by omega) ?_))
    rw [k7]
    by_cases e1 : 0 < hd
    · refine pw_t e1 (rM hS (r := 1304) rfl (pw_aI s a04.1 rfl (by omega) (by omega) (rM hS (r := 1303) rfl (pw_aI s a03.1 rfl (by omega) (by omega) ?_))))
      rw [k4, k3]
      by_cases e2 : L = []
      · refine pw_t (by rw [e2]; rfl) (fin 1 (Or.inr rfl) ⟨fun _ => ⟨e1, e2⟩, fun _ => rfl⟩)
      · refine pw_f (fun q => e2 ?_) (fin 0 (Or.inl rfl) ⟨fun q => absurd q (by decide), fun q => absurd q.2 e2⟩)
        have := (nI_eq (by omega) (by omega)).mp q
        exact List.length_eq_zero_iff.mp (by omega)
    · exact pw_f e1 (fin 0 (Or.inl rfl) ⟨fun q => absurd q (by decide), fun q => absurd q.1 e1⟩)
  by_cases e0 : b = 0
  · refine pw_t e0 (rM hS (r := 1301) rfl (pw_aI s a01.1 rfl (by omega) (by omega) ?_))
    rw [h5, show (1 : Int32) - v = lvl v b from by unfold lvl; rw [if_pos e0]]
    exact go
  · refine pw_f e0 (rM hS (r := 1301) rfl (pw_aI s a01.1 rfl (by omega) (by omega) ?_))
    have ev : lvl v b = v := by unfold lvl; rw [if_neg e0]
    rw [h5]
    rw [ev] at go ⊢
    exact go
theorem ln_cons (fr : List Int32) : ∃ b L, lnL (frm fr) 0 0 8 = b :: L := by
  cases h : lnL (frm fr) 0 0 8 with
  | nil =>
    have := (List.append_eq_nil_iff.mp h).2
    cases this
  | cons b L => exact ⟨b, L, rfl⟩
theorem r_sends (hS : Shp S) (hs : s < 6) (hR : RInv I A) (h01 : aS01 A) : pw S (q_M_sends (some 1282) (nI s) (I, S)) (rsQ I s (aSnd A s)) := by
  have hM := M_k hS
  have a02 := aK_in hS (r := 1302) (t := 1) (n := 6) rfl
  have a03 := aK_in hS (r := 1303) (t := 0) (n := 6) rfl
  have a04 := aK_in hS (r := 1304) (t := 0) (n := 6) rfl
  have a06 := aK_in hS (r := 1306) (t := 0) (n := 6) rfl
  have a09 := aK_in hS (r := 1309) (t := 1) (n := 6) rfl
  have a96 := aK_in hS (r := 1296) (t := 0) (n := 6) rfl
  have c01 : ¬ (0 : Int32) = 1 := by decide
  have c10 : ¬ (1 : Int32) = 0 := by decide
  obtain ⟨h6, h5, n, hn, h7⟩ := h01 s hs
  unfold q_M_sends aSnd
  refine rM hS (r := 1309) rfl (pw_wZ s a09.1 rfl (by omega) (by omega) (Or.inl rfl) (rM hS (r := 1302) rfl ?_))
  have f1 : fSx I (iput I 1309 s 0) s := fSx_w (by omega)
  have r5 := rsc hR 4 (r := 1301) (f := 5) (n := 6) rfl hs
  have r6 := rsc hR 5 (r := 1302) (f := 6) (n := 6) rfl hs
  have r7 := rsc hR 6 (r := 1306) (f := 7) (n := 6) rfl hs
  have r8 := rsc hR 7 (r := 1310) (f := 8) (n := 30) rfl (show 5 * s < 30 by omega)
  have hq : qOf I s (A.2.2 0 s) := (hR.2.2.2.1 s hs).1
  have hsn := (hR.2.2.2.1 s hs).2.2
  have i9 : (iput I 1309 s 0) 1309 s = 0 := iput_s _ _ _ _
  have q1 : qOf (iput I 1309 s 0) s (A.2.2 0 s) := qOf_w hq (by decide)
  have k5 : (iput I 1309 s 0) 1301 s = A.1 5 s := by rw [iput_n _ _ _ (by decide)]; exact r5
  have k6 : (iput I 1309 s 0) 1302 s = A.1 6 s := by rw [iput_n _ _ _ (by decide)]; exact r6
  have k7 : (iput I 1309 s 0) 1306 s = A.1 7 s := by rw [iput_n _ _ _ (by decide)]; exact r7
  have k8 : (iput I 1309 s 0) 1310 (5 * s) = A.1 8 (5 * s) := by rw [iput_n _ _ _ (by decide)]; exact r8
  have hR1 : RInv (iput I 1309 s 0) A := RInv_eq hR (fun r _ _ _ a _ _ _ _ _ _ => iput_n _ _ _ a) (by rw [iput_n _ _ _ (by decide)]) (by rw [iput_n _ _ _ (by decide)]) (by rw [iput_n _ _ _ (by decide)])
  have kl : A.1 6 s = 1 → lnOf (iput I 1309 s 0) s (A.2.1 4 s) ∧ (0 < A.1 7 s → fmS (iput I 1309 s 0) s (A.2.1 5 s)) := fun q => by
    obtain ⟨⟨a, g1, g2, g3, g4⟩, g5⟩ := hsn q
    exact ⟨⟨a, by rw [iput_n _ _ _ (by decide)]; exact g1, by rw [iput_n _ _ _ (by decide)]; exact g2, g3, fun j x hj => by rw [iput_n _ _ _ (by decide)]; exact g4 j x hj⟩, fun w => fmS_w (g5 w) (by decide)⟩
  generalize iput I 1309 s 0 = I1 at f1 i9 q1 k5 k6 k7 k8 hR1 kl ⊢
  refine pw_aI s a02.1 rfl (by omega) (by omega) ?_
  rw [k6]
  rcases h6 with e6 | e6
  · refine pw_t e6 ?_
    rw [if_pos e6]
    refine (pw_ret ⟨hR1, fun r hr => fSx_low f1 hr, fun j hj => f1.2.2.1 1309 (by omega) j hj, fun q => ?_, fun _ => i9⟩)
    have := q.1
    rw [e6] at this
    exact absurd this c01
  · refine pw_f (by rw [e6]; exact c10) ?_
    rw [if_neg (show ¬ A.1 6 s = 0 by rw [e6]; exact c10)]
    obtain ⟨⟨a, l1, l2, l3, l4⟩, hF⟩ := kl e6
    refine rM hS (r := 1304) rfl (pw_aI s a04.1 rfl (by omega) (by omega) (rM hS (r := 1303) rfl (pw_aI s a03.1 rfl (by omega) (by omega) ?_)))
    rw [l1, l2]
    by_cases eL : A.2.1 4 s = []
    · rw [if_pos eL]
      have stop : pw S (q_M_sends_51 (some 1282) (nI s) (I1, S)) (rsQ I s (aSto A s)) := by
        unfold q_M_sends_51 aSto
        refine rM hS (r := 1302) rfl (pw_wZ s a02.1 rfl (by omega) (by omega) (Or.inl rfl) (pw_ret ⟨RInv_sx hR hs (fSx_t f1 (fSx_w (by omega))) ?_ (iput_s _ _ _ _) ?_ ?_ (qOf_w q1 (by decide)) (fun q => absurd q c01), fun r hr => by rw [iput_n _ _ _ (by omega)]; exact fSx_low f1 hr, fun j hj => by rw [iput_n _ _ _ (by decide)]; exact f1.2.2.1 1309 (by omega) j hj, fun q => ?_, fun _ => by rw [iput_n _ _ _ (by decide)]; exact i9⟩))
        · rw [iput_n _ _ _ (by decide)]; exact k5
        · rw [iput_n _ _ _ (by decide)]; exact k7
        · rw [iput_n _ _ _ (by decide)]; exact k8
        · have := q.1
          rw [aSx_6s] at this
          exact absurd this c01
      refine pw_t (by rw [eL]; rfl) (rM hS (r := 1296) rfl (pw_aI s a96.1 rfl (by omega) (by omega) ?_))
      rw [q1.1]
      unfold aSn1
      cases hqq : A.2.2 0 s with
      | nil =>
        dsimp only
        have : (if A.1 7 s < 4 then aSto A s else aSto A s) = aSto A s := by split <;> rfl
        rw [this]
        exact pw_t rfl stop
      | cons fr rest =>
        dsimp only
        refine pw_f (nI_ne0 (by rw [List.length_cons]; omega) (by have := q1.2.1; rw [hqq] at this; omega)) (rM hS (r := 1306) rfl (pw_aI s a06.1 rfl (by omega) (by omega) ?_))
        rw [k7]
        by_cases e4 : A.1 7 s = 4
        · rw [if_neg (show ¬ A.1 7 s < 4 by rw [e4]; decide)]
          exact pw_t e4 stop
        · have hn4 : n < 4 := by
            rcases Nat.lt_or_ge n 4 with w | w
            · exact w
            · exfalso
              have : n = 4 := by omega
              rw [h7, this] at e4
              exact e4 rfl
          rw [if_pos (show A.1 7 s < 4 by rw [h7]; exact nI_lt (b := 4) hn4 (by decide))]
          refine pw_f e4 ?_
          rw [hqq] at q1
          refine pw_cv hM (r_takesFrame hS hs q1) (fun _ K g => ?_)
          obtain ⟨g1, g2, g3, g4, g5, g6, g7, g8, g9⟩ := g
          obtain ⟨b, L, hbL⟩ := ln_cons fr
          unfold aGo
          rw [hbL] at g8 ⊢
          refine r_64 hS hs hR (fSx_t f1 g1) (by rw [g2]; exact k5) (by rw [g3, k6]; exact e6) (by rw [g5, k7]) (by rw [g6, k8]) g7 g8 (fun _ => g9)
    · rw [if_neg eL]
      have hne : ¬ nI a = nI (a + (A.2.1 4 s).length) := fun q => by
        have := (nI_eq (by omega) (by omega)).mp q
        exact eL (List.length_eq_zero_iff.mp (by omega))
      refine pw_f hne ?_
      unfold aGo
      cases hl : A.2.1 4 s with
      | nil => exact absurd hl eL
      | cons b L =>
        rw [hl] at l2 l3 l4
        exact r_64 hS hs hR f1 k5 (by rw [k6]; exact e6) k7 k8 q1 ⟨a, l1, l2, l3, l4⟩ hF
end RN
