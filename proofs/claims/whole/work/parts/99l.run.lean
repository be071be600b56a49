/-! run: the class -/
def itN (T : aT → Int32 × aT) (A : aT) : Nat → Int32 × aT
  | 0 => (0, A)
  | k + 1 => ((itN T A k).1 + (T (itN T A k).2).1, (T (itN T A k).2).2)
def aTick (A : aT) : Int32 × aT := (nI (cntA (aT3 A) 6), aT8 A)
def aRun (A : aT) (n : Int32) : Int32 × aT := if n < 1 then (-1, A) else if 1000 < n then (-1, A) else itN aTick A n.toNatClampNeg
theorem AI_itN {T : aT → Int32 × aT} (hT : ∀ B, AInv B → AInv (T B).2) {A : aT} (h : AInv A) : ∀ k, AInv (itN T A k).2
  | 0 => h
  | k + 1 => hT _ (AI_itN hT h k)
theorem aTick_1 (B : aT) : (aTick B).1 = nI (cntA (aT3 B) 6) := by
  unfold aTick
  dsimp only
theorem aTick_2 (B : aT) : (aTick B).2 = aT8 B := by
  unfold aTick
  dsimp only
theorem AI_tick (B : aT) (h : AInv B) : AInv (aTick B).2 := by
  rw [aTick_2]
  exact AI_T8 h
theorem cntA_p {A : aT} {m : Nat} (hm : ∀ i, i < 6 → (m / 2 ^ i % 2 = 1 ↔ (i < 6 ∧ arrv A i = 1))) : ∀ n, n ≤ 6 → pcn m n = cntA A n
  | 0, _ => rfl
  | n + 1, hn => by
    have ih := cntA_p hm n (by omega)
    have hb := hm n (by omega)
    have hb2 : m / 2 ^ n % 2 < 2 := Nat.mod_lt _ (by decide)
    show pcn m n + m / 2 ^ n % 2 = cntA A n + (if arrv A n = 0 then 0 else 1)
    rw [ih]
    congr 1
    rcases arrv_01 (A := A) (i := n) with e | e
    · rw [if_pos e]
      have : ¬ m / 2 ^ n % 2 = 1 := fun q => by have := (hb.mp q).2; rw [e] at this; exact absurd this (by decide)
      omega
    · rw [if_neg (by rw [e]; decide)]
      exact hb.mpr ⟨by omega, e⟩
theorem tkA_z {A0 A : aT} (h : ∀ i, i < 6 → arrv A0 i = 0) : ∀ k, k ≤ 6 → aTkA A0 A k = A
  | 0, _ => rfl
  | k + 1, hk => by
    unfold aTkA
    rw [if_pos (h k (by omega))]
    exact tkA_z h k (by omega)
section RU2
variable {S : mS} {I J I0 : mIm} {A : aT}
theorem eqS_ti {v : Int32} {s : Nat} : eqS A (aI A 0 0 v) s := ⟨⟨fun _ _ => aI_f _ _ _ _ (by decide), fun _ _ => aI_f _ _ _ _ (by decide), aI_f _ _ _ _ (by decide), aI_f _ _ _ _ (by decide), aI_f _ _ _ _ (by decide), aI_f _ _ _ _ (by decide), aI_f _ _ _ _ (by decide), fun _ _ => aI_f _ _ _ _ (by decide), aI_f _ _ _ _ (by decide), aI_f _ _ _ _ (by decide), aI_f _ _ _ _ (by decide), aI_f _ _ _ _ (by decide), fun _ _ => aI_f _ _ _ _ (by decide), fun _ _ => ⟨aI_f _ _ _ _ (by decide), aI_f _ _ _ _ (by decide)⟩⟩, ⟨rfl, rfl, rfl, rfl⟩, rfl, rfl⟩
theorem eqK_ti {v : Int32} {l : Nat} : eqK A (aI A 0 0 v) l := ⟨⟨aI_f _ _ _ _ (by decide), aI_f _ _ _ _ (by decide), aI_f _ _ _ _ (by decide), aI_f _ _ _ _ (by decide), aI_f _ _ _ _ (by decide), aI_f _ _ _ _ (by decide), aI_f _ _ _ _ (by decide), aI_f _ _ _ _ (by decide), aI_f _ _ _ _ (by decide), aI_f _ _ _ _ (by decide), aI_f _ _ _ _ (by decide), aI_f _ _ _ _ (by decide), aI_f _ _ _ _ (by decide), aI_f _ _ _ _ (by decide)⟩, ⟨rfl, rfl⟩, rfl, rfl⟩
theorem CInv_ti (h : CInv I A) (v : Int32) : CInv (iput I 16 7 v) (aI A 0 0 v) := by
  obtain ⟨⟨c1, ⟨c2, c3⟩, ⟨c4, c5⟩, c6⟩, h2, h3⟩ := h
  refine ⟨⟨by rw [iput_s, aI_s], ⟨isL_same c2 (iput_n _ _ _ (by decide)) (iput_n _ _ _ (by decide)), c3⟩, ⟨isL_same c4 (iput_n _ _ _ (by decide)) (iput_n _ _ _ (by decide)), c5⟩, cRv_A (cRv_same c6 (fun r a b => iput_n _ _ _ (by omega))) (aI_f _ _ _ _ (by decide)) (aI_f _ _ _ _ (by decide)) (aI_f _ _ _ _ (by decide)) rfl rfl⟩, fun s hs => cSt_A (cSt_same (h2 s hs) (fun r a b => iput_n _ _ _ (by unfold cN at a; omega))) eqS_ti, fun s hs o ho hne => cLk_A (cLk_same (h3 s hs o ho hne) (fun r a b => iput_n _ _ _ (by have := cK_lt hs ho hne; unfold cN at this; omega))) eqK_ti⟩
theorem c_97 (hS : Shp S) (hA : AInv A) (hC : CY I0 J A) {Q : Int32 → mIm → Prop} {r18 : Option Nat → Int32 → Int32 → Int32 → mM → Option (Int32 × mM)} {i1 i2 : Int32} {k : Nat} (cont : ∀ K, CY I0 K (lpO aMsy (aTlA (lpO aClk A 6) 6) 6) → pw S (r18 (some 16) i1 i2 (nI (k + 1)) (K, S)) Q) : pw S (q_C_run_97 r18 (some 16) i1 i2 (nI k) (J, S)) Q := by
  have k1 := hS.1.1
  unfold q_C_run_97
  have h6 := AI_lpO (fun _ _ _ => AI_clk) hA 6 (Nat.le_refl _)
  have h7 := AI_tlA h6 6
  refine pw_cv k1 (c_turnClocks hS hA (CX_0 hC.1)) (fun _ K1 g1 => pw_cv k1 (c_tellIn hS h6 g1) (fun _ K2 g2 => pw_cv k1 (c_sayWhat hS h7 g2) (fun _ K3 g3 => ?_)))
  rw [show nI k + 1 = nI (k + 1) from nI_1 k]
  exact cont K3 ⟨g3.1, fun r hr => by rw [g3.2.1 r (by omega)]; exact hC.2 r hr⟩
theorem c_58 (hS : Shp S) {A0 : aT} (hA : AInv A) {x : Int32} (hx : isMk x (fun i => i < 6 ∧ arrv A0 i = 1)) {Q : Int32 → mIm → Prop} {r18 : Option Nat → Int32 → Int32 → Int32 → mM → Option (Int32 × mM)} {i1 i2 : Int32} {k : Nat} (cont : ∀ K, CY I0 K (lpO aMsy (aTlA (lpO aClk (aTkA A0 A 6) 6) 6) 6) → pw S (r18 (some 16) i1 i2 (nI (k + 1)) (K, S)) Q) : ∀ (f m n : Nat) (J : mIm), n + f = 6 → f < m → CY I0 J (aTkA A0 A n) → pw S (q_C_run_58 r18 m (some 16) i1 i2 (nI k) x (nI n) (J, S)) Q
  | f, 0, n, J, _, h, _ => by omega
  | 0, m + 1, n, J, hn, hm, hC => by
    show pw S (q_C_run_58_b _ _ _ _ _ _ _ _ _) _
    unfold q_C_run_58_b
    have e : n = 6 := by omega
    subst e
    exact pw_f (nI_nlt (a := 6) (b := 6) (by omega) (by decide)) (c_97 hS (AI_tkA hA 6 (Nat.le_refl _)) hC cont)
  | f + 1, m + 1, n, J, hn, hm, hC => by
    have hn6 : n < 6 := by omega
    have hB := AI_tkA (A0 := A0) hA n (by omega)
    show pw S (q_C_run_58_b _ _ _ _ _ _ _ _ _) _
    unfold q_C_run_58_b q_C_run_91
    refine pw_t (nI_lt (b := 6) hn6 (by decide)) ?_
    by_cases e0 : x = 0
    · have hz : ∀ i, i < 6 → arrv A0 i = 0 := fun i hi => by
        have := (isMk_z hx).mp e0 i hi
        rcases arrv_01 (A := A0) (i := i) with w | w
        · exact w
        · exact absurd ⟨hi, w⟩ this
      refine pw_t e0 (c_97 hS (AI_tkA (A0 := A0) hA 6 (Nat.le_refl _)) ?_ cont)
      rw [tkA_z hz 6 (Nat.le_refl _)]
      rw [tkA_z hz n (by omega)] at hC
      exact hC
    · refine pw_f e0 ?_
      rw [show nI n + 1 = nI (n + 1) from nI_1 n]
      have ea : aTkA A0 A (n + 1) = if arrv A0 n = 0 then aTkA A0 A n else aTkn (aTkA A0 A n) n := rfl
      have hb := isMk_b hx hn6
      by_cases e1 : (x >>> (nI n &&& 31)) &&& 1 = 0
      · have w : arrv A0 n = 0 := by
          rcases arrv_01 (A := A0) (i := n) with w | w
          · exact w
          · exact absurd ⟨hn6, w⟩ (hb.mp e1)
        rw [if_pos w] at ea
        exact pw_t e1 (c_58 hS hA hx cont f m (n + 1) J (by omega) (by omega) (by rw [ea]; exact hC))
      · have w : ¬ arrv A0 n = 0 := fun q => e1 (hb.mpr (fun z => by rw [q] at z; exact absurd z.2 (by decide)))
        rw [if_neg w] at ea
        refine pw_f e1 (rSt hS hn6 (pw_cv hS.1.1 (c_takeFrame hS hn6 hC (AI_Rk hB n (by omega)).2.2.1 (AI_Sn hB)) (fun _ K g => ?_)))
        exact c_58 hS hA hx cont f m (n + 1) K (by omega) (by omega) (by rw [ea]; exact g)
theorem c_tick1 (hS : Shp S) {B : aT} (hB : AInv B) {n k : Nat} (hkn : k < n) (hn : n ≤ 1000) {x : Int32} {Q : Int32 → mIm → Prop} {r18 : Option Nat → Int32 → Int32 → Int32 → mM → Option (Int32 × mM)} (hC : CY I0 J B) (ih : ∀ K, CY I0 K (aT8 B) → pw S (r18 (some 16) (nI n) (x + nI (cntA (aT3 B) 6)) (nI (k + 1)) (K, S)) Q) : pw S (q_C_run_18_b r18 (some 16) (nI n) x (nI k) (J, S)) Q := by
  have k1 := hS.1.1
  have h1 := AI_T1 hB
  have h2 := AI_drA h1 6 (Nat.le_refl _)
  have h3 : AInv (aT3 B) := AI_T3 hB
  have h4 := AI_lsA h3 6 (Nat.le_refl _)
  unfold q_C_run_18_b
  refine pw_t (nI_lt (by omega) (by omega)) (pw_gE k1 hC.1.1.1 (pw_pI k1 ?_))
  have c1 := CInv_ti hC.1 (B.1 0 0 + 1)
  have r1 : ∀ r, 1282 ≤ r → (iput J 16 7 (B.1 0 0 + 1)) r = I0 r := fun r hr => by rw [iput_n _ _ _ (by omega)]; exact hC.2 r hr
  have c1 : CInv (iput J 16 7 (B.1 0 0 + 1)) (aTi B) := c1
  generalize iput J 16 7 (B.1 0 0 + 1) = J1 at c1 r1 ⊢
  refine pw_cv k1 (c_draws hS (CX_0 c1) (AI_Ld h1)) (fun _ J2 g2 => pw_cv k1 (c_sendBits hS g2.1 (AI_01 h2)) (fun _ J3 g3 => ?_))
  obtain ⟨s1, s2, s3, s4, s5⟩ := g3
  have e3 : aSnA (aDrA (aTi B) 6) 6 = aT3 B := by unfold aT3; rfl
  rw [e3] at s1 s3 s4 s5
  have hh := c_hearLevels hS (I0 := J3) (I := J3) (A := aT3 B) (AI_01 h3) (AI_Rk h3) (CX_0 s1) (isMk_i s3 (fun i hi => ⟨fun q => ⟨hi, q⟩, fun q => q.2⟩)) (isMk_i s4 (fun i hi => ⟨fun q => ⟨hi, q⟩, fun q => q.2⟩)) (isMk_i s5 (fun i hi => ⟨fun q => ⟨hi, q⟩, fun q => q.2⟩))
  refine pw_cv k1 hh (fun v J4 g4 => pw_cl (p_J_bitCount _) (fun w J5 g5 => pw_lt ?_))
  obtain ⟨hJ5, rfl⟩ := g5
  rw [hJ5]
  obtain ⟨x4, m4⟩ := g4
  have ec : bcW v = nI (cntA (aT3 B) 6) := by
    obtain ⟨m', m1, m2, m3⟩ := id m4
    rw [m2, m64_c m' m1, cntA_p m3 6 (Nat.le_refl _)]
  rw [ec]
  have e8 : lpO aMsy (aTlA (lpO aClk (aTkA (aT3 B) (aLsA (aT3 B) 6) 6) 6) 6) 6 = aT8 B := by unfold aT8 aT7 aT6 aT5; rfl
  rw [← e8] at ih
  generalize aT3 B = A3 at h4 m4 x4 ih ⊢
  refine c_58 (I0 := I0) hS h4 m4 ih 6 mFU 0 J4 (by omega) (by unfold mFU; omega) ⟨x4.1, fun r hr => ?_⟩
  rw [x4.2.1 r (by omega), s2 r (by omega), g2.2.1 r (by omega)]
  exact r1 r hr
theorem c_run18 (hS : Shp S) {T : aT → Int32 × aT} (hT : ∀ B, AInv B → AInv (T B).2) {n : Nat} (one : ∀ (J : mIm) (B : aT) (x : Int32) (k : Nat) (r18 : Option Nat → Int32 → Int32 → Int32 → mM → Option (Int32 × mM)) (Q : Int32 → mIm → Prop), AInv B → k < n → CY I0 J B → (∀ K, CY I0 K (T B).2 → pw S (r18 (some 16) (nI n) (x + (T B).1) (nI (k + 1)) (K, S)) Q) → pw S (q_C_run_18_b r18 (some 16) (nI n) x (nI k) (J, S)) Q) (hA : AInv A) (hn : n ≤ 1000) : ∀ (f m k : Nat) (J : mIm), k + f = n → f < m → CY I0 J (itN T A k).2 → pw S (q_C_run_18 m (some 16) (nI n) (itN T A k).1 (nI k) (J, S)) (CP I0 (itN T A n))
  | f, 0, k, J, _, h, _ => by omega
  | 0, m + 1, k, J, hk, hm, hC => by
    show pw S (q_C_run_18_b _ _ _ _ _ _) _
    unfold q_C_run_18_b
    have e : k = n := by omega
    subst e
    exact pw_f (nI_nlt (by omega) (by omega)) (pw_ret ⟨rfl, hC.1, hC.2⟩)
  | f + 1, m + 1, k, J, hk, hm, hC => one J _ _ k _ _ (AI_itN hT hA k) (by omega) hC (fun K g => c_run18 hS hT one hA hn f m (k + 1) K (by omega) (by omega) g)
theorem p_C_run (hS : Shp S) (hC : CInv I A) (hA : AInv A) (n : Int32) : pw S (q_C_run (some 16) n (I, S)) (CP I (aRun A n)) := by
  unfold q_C_run aRun
  by_cases e1 : n < 1
  · refine pw_t e1 ?_
    rw [if_pos e1]
    exact pw_ret ⟨rfl, hC, fun _ _ => rfl⟩
  · refine pw_f e1 ?_
    rw [if_neg e1]
    by_cases e2 : 1000 < n
    · refine pw_t e2 ?_
      rw [if_pos e2]
      exact pw_ret ⟨rfl, hC, fun _ _ => rfl⟩
    · refine pw_f e2 ?_
      rw [if_neg e2]
      have e0 : ¬ n < 0 := fun q => e1 (lt1_neg q)
      obtain ⟨j, hj, rfl⟩ := nI_of e0
      have hj1 : j ≤ 1000 := by
        rcases Nat.lt_or_ge 1000 j with q | q
        · exact absurd (nI_lt (a := 1000) q hj) e2
        · exact q
      rw [nI_clamp hj]
      exact c_run18 hS AI_tick (fun J B x k r18 Q hB hk hCJ ih => c_tick1 hS hB hk hj1 hCJ (fun K g => by have := ih K (by rw [aTick_2]; exact g); rw [aTick_1] at this; exact this)) hA hj1 j mFU 0 I (by omega) (by unfold mFU; omega) ⟨hC, fun _ _ => rfl⟩
end RU2
