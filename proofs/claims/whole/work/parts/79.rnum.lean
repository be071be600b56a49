/-! TAKEN: numbers; the reference -/
def RY (I0 I : mIm) (A : aT) : Prop := RInv I A ∧ ∀ r, (r < 1282 ∨ r = 1312) → I r = I0 r
def RZ (I0 : mIm) (A : aT) : Unit → mIm → Prop := fun _ J => RY I0 J A
theorem RX_RY {I0 I : mIm} {A : aT} (h : RX I0 I A) : RY I0 I A := ⟨h.1, fun r hr => h.2.1 r (by unfold kp; omega)⟩
/-- REJECTS is on or off -/
def aBo (A : aT) : Prop := ∀ l, l < 36 → A.1 30 l = 0 ∨ A.1 30 l = 1
theorem aI_self (A : aT) {f k : Nat} {v : Int32} (h : A.1 f k = v) : aI A f k v = A := by
  unfold aI
  refine Prod.ext ?_ rfl
  dsimp only
  funext g i
  by_cases hg : g = f
  · subst hg
    rw [mrow_s]
    by_cases hi : i = k
    · subst hi
      rw [mrow_s, h]
    · rw [mrow_n _ _ hi]
  · rw [mrow_n _ _ hg]
theorem aSay_1 {A : aT} {s o g : Nat} {c i : Int32} (h : g ≠ 8) : (aSay A s o c i).1 g = A.1 g := aEnq_1 h
theorem aDn_1 {A : aT} {l g : Nat} (h : g < 20 ∨ 31 < g ∨ g = 21 ∨ g = 22 ∨ g = 23) : (aDn A l).1 g = A.1 g := by
  unfold aDn
  rw [aQ_1]
  exact aRst_ff _ h
theorem aAck_1 {A : aT} {s o g : Nat} {r : Int32} (h : (g < 20 ∧ g ≠ 8) ∨ 31 < g ∨ g = 21 ∨ g = 22 ∨ g = 23) : (aAck A s o r).2.1 g = A.1 g := by
  unfold aAck
  split
  · show (aDn (aSay A s o 15 0) (6 * s + o)).1 g = _
    rw [aDn_1 (by omega), aSay_1 (by omega)]
  · split
    · show (aAc2 _ _ _).1 g = _
      unfold aAc2
      rw [aI_ff _ _ _ (by omega), aI_ff _ _ _ (by omega), aI_ff _ _ _ (by omega)]
      rfl
    · show (aI _ _ _ _).1 g = _
      rw [aI_ff _ _ _ (by omega)]
      rfl
section RN
variable {S : mS} {I I0 : mIm} {A : aT} {s o : Nat} {D : pD} {l : List Int32} {x nv : Nat}
theorem lp131 (hS : Shp S) {Q : Unit → mIm → Prop} {r67 : Option Nat → Int32 → Int32 → Int32 → Int32 → Int32 → Int32 → mM → Option (Unit × mM)} (Ib K : mIm) {lk g j : Nat} (hlk : lk < 36) (hj : g + j < 4) (a b c : Int32) (fin : ∀ J, (∀ r, r ≠ 1337 → J r = K r) → J 1337 = xcp Ib 1337 (64 * lk + 16 * g) 1337 (64 * lk) (16 * j + 16) 1337 → pw S (r67 (some 1282) a b (nI lk) c (nI g) (nI (g + j) + 1) (J, S)) Q) : ∀ (k n i : Nat) (J : mIm), i + k = 16 → k < n → (∀ r, r ≠ 1337 → J r = K r) → J 1337 = xcp Ib 1337 (64 * lk + 16 * g) 1337 (64 * lk) (16 * j + i) 1337 → pw S (q_M_numbered_131 r67 n (some 1282) a b (nI lk) c (nI g) (nI (g + j)) (nI i) (J, S)) Q
  | k, 0, i, J, _, h, _, _ => by omega
  | k, n + 1, i, J, hk, hn, j1, j2 => by
    have hb := aK_in hS (r := 1337) (t := 0) (n := 2304) rfl
    show pw S (q_M_numbered_131_b _ _ _ _ _ _ _ _ _ _ _) _
    unfold q_M_numbered_131_b
    by_cases hi : i < 16
    · refine pw_t (nI_lt (b := 16) hi (by decide)) (rM hS (r := 1337) rfl (rM hS (r := 1337) rfl (pw_aI (64 * lk + 16 * (g + j) + i) hb.1 ?_ (by omega) (by omega) (pw_wI (64 * lk + 16 * j + i) hb.1 ?_ (by omega) (by omega) ?_))))
      · rw [show (16 : Int32) * nI (g + j) = nI (16 * (g + j)) from pk_mul 16 _, show (64 : Int32) * nI lk + nI (16 * (g + j)) = nI (64 * lk + 16 * (g + j)) from n_lin 64 lk _, nI_add]
      · rw [show nI (g + j) - nI g = nI j from by rw [pk_sub (by omega)]; congr 1; omega, show (16 : Int32) * nI j = nI (16 * j) from pk_mul 16 _, show (64 : Int32) * nI lk + nI (16 * j) = nI (64 * lk + 16 * j) from n_lin 64 lk _, nI_add]
      · rw [show nI i + 1 = nI (i + 1) from nI_1 i]
        refine lp131 hS Ib K hlk hj a b c fin (k - 1) n (i + 1) _ (by omega) (by omega) (fun r hr => by rw [iput_n _ _ _ hr]; exact j1 r hr) ?_
        rw [iput_row (K := xcp Ib 1337 (64 * lk + 16 * g) 1337 (64 * lk) (16 * j + i)) j2, j2]
        have e1 : 64 * lk + 16 * (g + j) + i = 64 * lk + 16 * g + (16 * j + i) := by omega
        have e2 : 64 * lk + 16 * j + i = 64 * lk + (16 * j + i) := by omega
        rw [e1, e2, xcp_s (xcp_rd (Or.inr (by omega)))]
        rfl
    · have : i = 16 := by omega
      subst this
      exact pw_f (nI_nlt (b := 16) (by omega) (by decide)) (fin J j1 j2)
theorem lp67 (hS : Shp S) {Q : Unit → mIm → Prop} (Ib : mIm) {lk g z : Nat} (hlk : lk < 36) (hz : z ≤ 4) (hgz : g ≤ z) (hzI : Ib 1340 lk = nI z) (a b c : Int32) (fin : ∀ J, (∀ r, r ≠ 1337 → r ≠ 1338 → r ≠ 1339 → J r = Ib r) → J 1337 = xcp Ib 1337 (64 * lk + 16 * g) 1337 (64 * lk) (16 * (z - g)) 1337 → J 1338 = xcp Ib 1338 (4 * lk + g) 1338 (4 * lk) (z - g) 1338 → J 1339 = xcp Ib 1339 (4 * lk + g) 1339 (4 * lk) (z - g) 1339 → pw S (x_gR (J, S) 10 (some 1282) 73 fun a9 => x_aI (J, S) 0 a9 (nI lk) fun x10 => x_wI (J, S) a9 (nI lk) (x10 - nI g) fun M => x_gR M 10 (some 1282) 54 fun a11 => x_wI M a11 (nI lk) c fun M => if 0 < nI g then x_gR M 10 (some 1282) 57 fun a12 => x_wI M a12 (nI lk) (0 : Int32) fun M => x_gR M 10 (some 1282) 56 fun a13 => x_gR M 10 (some 1282) 73 fun a14 => x_aI M 0 a14 (nI lk) fun x15 => if 0 < x15 then q_M_numbered_243 (some 1282) a b (nI lk) (nI lk) a13 M else x_gR M 10 (some 1282) 58 fun a16 => x_aI M 1 a16 (nI lk) fun x17 => if x17 = 0 then q_M_numbered_258 (some 1282) a b (nI lk) (0 : Int32) (nI lk) a13 M else q_M_numbered_243 (some 1282) a b (nI lk) (nI lk) a13 M else q_M_numbered_259 (some 1282) a b (nI lk) M) Q) : ∀ (k n j : Nat) (J : mIm), j + k = z - g → k < n → (∀ r, r ≠ 1337 → r ≠ 1338 → r ≠ 1339 → J r = Ib r) → J 1337 = xcp Ib 1337 (64 * lk + 16 * g) 1337 (64 * lk) (16 * j) 1337 → J 1338 = xcp Ib 1338 (4 * lk + g) 1338 (4 * lk) j 1338 → J 1339 = xcp Ib 1339 (4 * lk + g) 1339 (4 * lk) j 1339 → pw S (q_M_numbered_67 n (some 1282) a b (nI lk) c (nI g) (nI (g + j)) (J, S)) Q
  | k, 0, j, J, _, h, _, _, _, _ => by omega
  | k, n + 1, j, J, hk, hn, j1, j2, j3, j4 => by
    have hs := aK_in hS (r := 1340) (t := 0) (n := 36) rfl
    have h8 := aK_in hS (r := 1338) (t := 0) (n := 144) rfl
    have h9 := aK_in hS (r := 1339) (t := 0) (n := 144) rfl
    show pw S (q_M_numbered_67_b _ _ _ _ _ _ _ _ _) _
    unfold q_M_numbered_67_b
    refine rM hS (r := 1340) rfl (pw_aI lk hs.1 rfl (by omega) (by omega) ?_)
    rw [j1 1340 (by decide) (by decide) (by decide), hzI]
    by_cases hi : g + j < z
    · have e4 : (4 : Int32) * nI lk + nI (g + j) = nI (4 * lk + (g + j)) := n_lin 4 lk _
      have e5 : (4 : Int32) * nI lk + nI (g + j) - nI g = nI (4 * lk + j) := by
        rw [e4, pk_sub (by omega)]
        congr 1
        omega
      refine pw_t (nI_lt hi (by omega)) (rM hS (r := 1338) rfl (rM hS (r := 1338) rfl (pw_aI (4 * lk + (g + j)) h8.1 e4 (by omega) (by omega) (pw_wI (4 * lk + j) h8.1 e5 (by omega) (by omega) (rM hS (r := 1339) rfl (rM hS (r := 1339) rfl (pw_aI (4 * lk + (g + j)) h9.1 e4 (by omega) (by omega) (pw_wI (4 * lk + j) h9.1 e5 (by omega) (by omega) ?_))))))))
      refine lp131 (r67 := q_M_numbered_67 n) hS Ib (iput (iput J 1338 (4 * lk + j) (J 1338 (4 * lk + (g + j)))) 1339 (4 * lk + j) (iput J 1338 (4 * lk + j) (J 1338 (4 * lk + (g + j))) 1339 (4 * lk + (g + j)))) (lk := lk) (g := g) (j := j) hlk (by omega) a b c (fun J' q1 q2 => ?_) 16 mFU 0 _ (by omega) (by unfold mFU; omega) (fun _ _ => rfl) ?_
      · rw [show nI (g + j) + 1 = nI (g + (j + 1)) from nI_1 _]
        refine lp67 hS Ib hlk hz hgz hzI a b c fin (k - 1) n (j + 1) J' (by omega) (by omega) (fun r r1 r2 r3 => ?_) ?_ ?_ ?_
        · rw [q1 r r1, iput_n _ _ _ r3, iput_n _ _ _ r2]; exact j1 r r1 r2 r3
        · rw [q2]; rfl
        · rw [q1 1338 (by decide), iput_n _ _ _ (by decide), iput_row (K := xcp Ib 1338 (4 * lk + g) 1338 (4 * lk) j) j3, j3, ← Nat.add_assoc, xcp_s (xcp_rd (Or.inr (by omega)))]
        · rw [q1 1339 (by decide), iput_n J (4 * lk + j) _ (a := 1339) (by decide), iput_row (K := xcp Ib 1339 (4 * lk + g) 1339 (4 * lk) j) (by rw [iput_n _ _ _ (by decide)]; exact j4), j4, ← Nat.add_assoc, xcp_s (xcp_rd (Or.inr (by omega)))]
      · rw [iput_n _ _ _ (by decide), iput_n _ _ _ (by decide)]
        exact j2
    · have : j = z - g := by omega
      subst this
      exact pw_f (nI_nlt (by omega) (by omega)) (fin J j1 j2 j3 j4)
theorem r_s102 (hS : Shp S) (hl : isLk s D.1) (hX : RX I0 I A) (hD : rCx I0 D l x nv) (hV : aVi A) : pw S (q_M_supervised_92 (some 1282) (nI s) (nI D.1) (nI (6 * s + D.1)) (I, S)) (RU I0 (aS102 A s D.1 (D.2.2 3) (D.2.2 5))) := by
  obtain ⟨c1, c2, c3, c4, c5, c6, c7, c8, c9, c10, c11, ⟨c12, c13⟩, c14⟩ := id hD
  have hm := M_k hS
  obtain ⟨h1, h2, h3⟩ := id hl
  unfold q_M_supervised_92 aS102
  refine pw_gI hm ?_
  rw [rx82 hX (by decide), c6]
  refine pw_ite (P := RU I0) (fun _ => pw_ret hX) (fun e1 => pw_gI hm ?_)
  rw [rx82 hX (by decide), c7]
  by_cases e2 : I0 1282 45 = 0
  · rw [if_pos e2, if_pos e2, if_pos rfl]
    exact pw_ret hX
  · rw [if_neg e2, if_neg e2, if_neg (by decide)]
    refine pw_cv hm (r_ready hS (by omega) hX) (fun v J h => ?_)
    obtain ⟨rfl, rfl⟩ := h
    exact pw_cv hm (r_sayNumber hS hl hX hV 0 _ 1) (fun _ J g => pw_ret g)
theorem aVi_Aga (hV : aVi A) : aVi (aAga A s o) := by
  have key : ∀ (k i : Nat) (B : aT), aVi B → aVi (agN s o k i B) := by
    intro k
    induction k with
    | zero => intro i B h; exact h
    | succ k ih =>
      intro i B h
      show aVi (if B.1 31 (6 * s + o) = 0 then agN s o k (i + 1) (aInf B s o ((B.1 25 (6 * s + o) + nI i) &&& 7) (((B.2.2 3 (6 * s + o))[i]?).getD [])) else B)
      split
      · exact ih _ _ (aVi_same h (aInf_1 (by decide)) (aInf_1 (by decide)))
      · exact h
  unfold aAga
  split
  · exact hV
  · exact key _ _ _ (aVi_I hV (Or.inl (by decide)))
theorem r_s79 (hS : Shp S) (hl : isLk s D.1) (hX : RX I0 I A) (hD : rCx I0 D l x nv) (hV : aVi A) : pw S (q_M_supervised_70 (some 1282) (nI s) (nI D.1) (nI (6 * s + D.1)) (D.2.2 4) (I, S)) (RU I0 (aS102 (aS79 A s D.1 (D.2.2 4)) s D.1 (D.2.2 3) (D.2.2 5))) := by
  have hm := M_k hS
  obtain ⟨h1, h2, h3⟩ := id hl
  unfold q_M_supervised_70 aS79
  by_cases e1 : D.2.2 4 = 9
  · rw [if_pos e1, if_pos e1]
    refine rM hS (r := 1325) rfl (gA hS hX (6 * s + D.1) rfl rfl (by omega) ?_)
    by_cases e2 : A.1 29 (6 * s + D.1) = 0
    · rw [if_pos e2, if_pos e2]
      exact pw_cv hm (r_again hS hl hX hV) (fun _ J g => r_s102 hS hl g hD (aVi_Aga hV))
    · rw [if_neg e2, if_neg e2]
      exact r_s102 hS hl hX hD hV
  · rw [if_neg e1, if_neg e1]
    exact r_s102 hS hl hX hD hV
theorem r_supervised (hS : Shp S) (hl : isLk s D.1) (hX : RX I0 I A) (hD : rCx I0 D l x nv) (hV : aVi A) : pw S (q_M_supervised (some 1282) (nI s) (nI D.1) (nI (6 * s + D.1)) (D.2.2 4) (I, S)) (RU I0 (aSup A s D.1 (D.2.2 3) (D.2.2 5) (D.2.2 4))) := by
  obtain ⟨c1, c2, c3, c4, c5, c6, c7, c8, c9, c10, c11, ⟨c12, c13⟩, c14⟩ := id hD
  have hm := M_k hS
  obtain ⟨h1, h2, h3⟩ := id hl
  unfold q_M_supervised aSup
  refine rM hS (r := 1327) rfl ?_
  have m16 : ∀ j0 : Int32, (j0 = 0 ∨ j0 = 1) → pw S (q_M_supervised_16 (some 1282) (nI s) (nI D.1) (nI (6 * s + D.1)) (D.2.2 4) j0 (nI (6 * s + D.1)) (some 1327) (I, S)) (RU I0 (aS102 (aS33 (aI A 31 (6 * s + D.1) j0) s D.1 (D.2.2 3) (D.2.2 5) (D.2.2 4)) s D.1 (D.2.2 3) (D.2.2 5))) := by
    intro j0 hj
    unfold q_M_supervised_16 aS33
    refine sZ hS hX (6 * s + D.1) rfl (by decide) hj rfl (by omega) (fun J1 g1 => pw_gI hm ?_)
    have hV1 : aVi (aI A 31 (6 * s + D.1) j0) := aVi_I hV (Or.inl (by decide))
    rw [rx82 g1 (by decide), c6]
    by_cases e1 : D.2.2 3 = 0
    · rw [if_pos e1, if_pos e1]
      refine pw_gI hm ?_
      rw [rx82 g1 (by decide)]
      by_cases e2 : I0 1282 45 = 0
      · have e2' : D.2.2 5 = 0 := by rw [c7, if_pos e2]
        rw [if_pos e2, if_pos e2']
        exact r_s79 hS hl g1 hD hV1
      · have e2' : ¬ D.2.2 5 = 0 := by rw [c7, if_neg e2]; decide
        rw [if_neg e2, if_neg e2']
        refine rM hS (r := 1325) rfl (gA hS g1 (6 * s + D.1) rfl rfl (by omega) ?_)
        by_cases e3 : (aI A 31 (6 * s + D.1) j0).1 29 (6 * s + D.1) = 0
        · rw [if_pos e3, if_pos e3]
          exact r_s79 hS hl g1 hD hV1
        · rw [if_neg e3, if_neg e3]
          refine rM hS (r := 1325) rfl (sZ hS g1 (6 * s + D.1) rfl (by decide) (Or.inl rfl) rfl (by omega) (fun J2 g2 => rM hS (r := 1324) rfl (sA hS g2 (6 * s + D.1) rfl (by decide) rfl (by omega) (fun J3 g3 => rM hS (r := 1323) rfl (sA hS g3 (6 * s + D.1) rfl (by decide) rfl (by omega) (fun J4 g4 => ?_))))))
          have hV4 : aVi (aI (aI (aI (aI A 31 (6 * s + D.1) j0) 29 (6 * s + D.1) 0) 28 (6 * s + D.1) 0) 27 (6 * s + D.1) 0) := aVi_I (aVi_I (aVi_I hV1 (Or.inl (by decide))) (Or.inl (by decide))) (Or.inl (by decide))
          exact pw_cv hm (r_again hS hl g4 hV4) (fun _ J5 g5 => r_s102 hS hl g5 hD (aVi_Aga hV4))
    · rw [if_neg e1, if_neg e1]
      exact r_s79 hS hl g1 hD hV1
  by_cases e : D.2.2 4 = 5
  · rw [if_pos e, if_pos e]; exact m16 1 (Or.inr rfl)
  · rw [if_neg e, if_neg e]; exact m16 0 (Or.inl rfl)
end RN
