/-! sending: all stations, the class's masks -/
def aSnA (A : aT) : Nat → aT
  | 0 => A
  | k + 1 => aSnd (aSnA A k) k
def bM6 : Bool := (List.range 64).all (fun m => (List.range 6).all (fun k => decide (nI m ||| ((1 : Int32) <<< (nI k &&& 31)) = nI (m ||| 2 ^ k) ∧ m ||| 2 ^ k < 64 ∧ nI m ||| ((0 : Int32) <<< (nI k &&& 31)) = nI m) && (List.range 6).all (fun i => decide ((m ||| 2 ^ k) / 2 ^ i % 2 = 1 ↔ (i = k ∨ m / 2 ^ i % 2 = 1)))))
theorem bM6_ok : bM6 = true := by decide +kernel
theorem bM6_in {m k : Nat} (hm : m < 64) (hk : k < 6) : (nI m ||| ((1 : Int32) <<< (nI k &&& 31)) = nI (m ||| 2 ^ k) ∧ m ||| 2 ^ k < 64 ∧ nI m ||| ((0 : Int32) <<< (nI k &&& 31)) = nI m) ∧ ∀ i, i < 6 → ((m ||| 2 ^ k) / 2 ^ i % 2 = 1 ↔ (i = k ∨ m / 2 ^ i % 2 = 1)) := by
  have h := List.all_eq_true.mp (List.all_eq_true.mp bM6_ok m (List.mem_range.mpr hm)) k (List.mem_range.mpr hk)
  rw [Bool.and_eq_true] at h
  exact ⟨of_decide_eq_true h.1, fun w hw => of_decide_eq_true (List.all_eq_true.mp h.2 w (List.mem_range.mpr hw))⟩
def isMk (x : Int32) (P : Nat → Prop) : Prop := ∃ m : Nat, m < 64 ∧ x = nI m ∧ ∀ i, i < 6 → (m / 2 ^ i % 2 = 1 ↔ P i)
theorem isMk_1 {x : Int32} {P Q : Nat → Prop} {k : Nat} (h : isMk x P) (hk : k < 6) (hq : ∀ i, i < 6 → (Q i ↔ (i = k ∨ P i))) : isMk (x ||| ((1 : Int32) <<< (nI k &&& 31))) Q := by
  obtain ⟨m, h1, rfl, h3⟩ := h
  obtain ⟨⟨b1, b2, -⟩, b3⟩ := bM6_in h1 hk
  exact ⟨m ||| 2 ^ k, b2, b1, fun i hi => by rw [b3 i hi, hq i hi, h3 i hi]⟩
theorem isMk_0 {x : Int32} {P Q : Nat → Prop} {k : Nat} (h : isMk x P) (hk : k < 6) (hq : ∀ i, i < 6 → (Q i ↔ P i)) : isMk (x ||| ((0 : Int32) <<< (nI k &&& 31))) Q := by
  obtain ⟨m, h1, rfl, h3⟩ := h
  obtain ⟨⟨-, -, b1⟩, b3⟩ := bM6_in h1 hk
  exact ⟨m, h1, b1, fun i hi => by rw [hq i hi, h3 i hi]⟩
theorem isMk_i {x : Int32} {P Q : Nat → Prop} (h : isMk x P) (hq : ∀ i, i < 6 → (Q i ↔ P i)) : isMk x Q := by
  obtain ⟨m, h1, h2, h3⟩ := h
  exact ⟨m, h1, h2, fun i hi => by rw [hq i hi, h3 i hi]⟩
/-- who sends, how many it had, its LEVEL -/
def aS01 (A : aT) : Prop := ∀ s, s < 6 → (A.1 6 s = 0 ∨ A.1 6 s = 1) ∧ (A.1 5 s = 0 ∨ A.1 5 s = 1) ∧ ∃ n : Nat, n ≤ 4 ∧ A.1 7 s = nI n
theorem lvl_01 {v b : Int32} (h : v = 0 ∨ v = 1) : lvl v b = 0 ∨ lvl v b = 1 := by
  unfold lvl
  split
  · rcases h with q | q <;> rw [q]
    · exact Or.inr rfl
    · exact Or.inl rfl
  · exact h
theorem aSnd_sx (A : aT) (s : Nat) : aSnd A s = A ∨ ∃ v sd hd L F ll c, aSnd A s = aSx A s v sd hd L F ll c ∧ (sd = 0 ∨ sd = 1) ∧ (v = A.1 5 s ∨ ∃ b, v = lvl (A.1 5 s) b) ∧ (hd = A.1 7 s ∨ (A.1 7 s < 4 ∧ hd = A.1 7 s + 1)) := by
  unfold aSnd
  split
  · exact Or.inl rfl
  · split
    · unfold aSn1
      split
      · rename_i h4
        split
        · exact Or.inr ⟨_, _, _, _, _, _, _, rfl, Or.inl rfl, Or.inl rfl, Or.inl rfl⟩
        · exact Or.inr ⟨_, _, _, _, _, _, _, rfl, Or.inr rfl, Or.inr ⟨_, rfl⟩, Or.inr ⟨h4, rfl⟩⟩
      · exact Or.inr ⟨_, _, _, _, _, _, _, rfl, Or.inl rfl, Or.inl rfl, Or.inl rfl⟩
    · exact Or.inr ⟨_, _, _, _, _, _, _, rfl, Or.inr rfl, Or.inr ⟨_, rfl⟩, Or.inl rfl⟩
theorem aSnd_o {A : aT} {s t : Nat} (h : t ≠ s) : (aSnd A s).1 5 t = A.1 5 t ∧ (aSnd A s).1 6 t = A.1 6 t ∧ (aSnd A s).1 7 t = A.1 7 t ∧ (aSnd A s).2.1 4 t = A.2.1 4 t ∧ (aSnd A s).2.1 5 t = A.2.1 5 t := by
  rcases aSnd_sx A s with e | ⟨v, sd, hd, L, F, ll, c, e, -⟩
  · rw [e]; exact ⟨rfl, rfl, rfl, rfl, rfl⟩
  · rw [e]
    exact ⟨aSx_1i h (Or.inl (by decide)), aSx_1i h (Or.inl (by decide)), aSx_1i h (Or.inl (by decide)), aSx_2 (by omega), aSx_2 (by omega)⟩
theorem aS01_snd {A : aT} {s : Nat} (h : aS01 A) : aS01 (aSnd A s) := by
  intro t ht
  by_cases e : t = s
  · subst e
    obtain ⟨h1, h2, n, h3, h4⟩ := h t ht
    rcases aSnd_sx A t with e | ⟨v, sd, hd, L, F, ll, c, e, g1, g2, g3⟩
    · rw [e]; exact ⟨h1, h2, n, h3, h4⟩
    · rw [e, aSx_6s, aSx_5s, aSx_7s]
      refine ⟨g1, ?_, ?_⟩
      · rcases g2 with q | ⟨b, q⟩
        · rw [q]; exact h2
        · rw [q]; exact lvl_01 h2
      · rcases g3 with q | ⟨q1, q⟩
        · exact ⟨n, h3, by rw [q]; exact h4⟩
        · rw [h4] at q1 q
          have := (nI_ltI (b := 4) (by omega) (by decide)).mp q1
          exact ⟨n + 1, by omega, by rw [q]; exact nI_1 n⟩
  · obtain ⟨o1, o2, o3, -⟩ := aSnd_o (A := A) e
    rw [o1, o2, o3]
    exact h t ht
theorem aS01_snA {A : aT} (h : aS01 A) : ∀ k, aS01 (aSnA A k)
  | 0 => h
  | k + 1 => aS01_snd (aS01_snA h k)
theorem thr_o {A : aT} {s t : Nat} (h : t ≠ s) : thr (aSnd A s) t ↔ thr A t := by
  obtain ⟨o1, o2, o3, o4, o5⟩ := aSnd_o (A := A) h
  unfold thr
  rw [o2, o3, o4]
def sbQ (I : mIm) (B : aT) (k : Nat) (J : mIm) : Prop := CInv J B ∧ (∀ r, 1278 ≤ r → J r = I r) ∧ isMk (J 16 8) (fun i => i < k ∧ B.1 6 i = 1) ∧ isMk (J 16 9) (fun i => i < k ∧ B.1 6 i = 1 ∧ B.1 5 i = 1) ∧ isMk (J 16 10) (fun i => i < k ∧ thr B i)
section SB
variable {S : mS} {I J I0 : mIm} {A : aT}
theorem c_sb17 (hS : Shp S) (h01 : aS01 A) : ∀ (f m k : Nat) (J : mIm), k + f = 6 → f < m → sbQ I (aSnA A k) k J → pw S (q_C_sendBits_17 m (some 16) (nI k) (J, S)) (fun _ K => sbQ I (aSnA A 6) 6 K)
  | f, 0, k, J, _, h, _ => by omega
  | 0, m + 1, k, J, hk, hm, hX => by
    show pw S (q_C_sendBits_17_b _ _ _ _) _
    unfold q_C_sendBits_17_b
    have e : k = 6 := by omega
    subst e
    exact pw_f (nI_nlt (a := 6) (b := 6) (by omega) (by decide)) (pw_ret hX)
  | f + 1, m + 1, k, J, hk, hm, hX => by
    have hs : k < 6 := by omega
    obtain ⟨x1, x2, x3, x4, x5⟩ := id hX
    obtain ⟨d1, d2, d3, d4, d5, d6, d7⟩ := x1.2.1 k hs
    have hk01 := aS01_snA h01 k k hs
    have c10 : ¬ (1 : Int32) = 0 := by decide
    have c01 : ¬ (0 : Int32) = 1 := by decide
    show pw S (q_C_sendBits_17_b _ _ _ _) _
    unfold q_C_sendBits_17_b q_C_sendBits_45
    refine pw_t (nI_lt (b := 6) hs (by decide)) (rSt hS hs (rN hS hs (q := cN k + 2) rfl (pw_gE (isS_s hS hs).1 d4.2.1 ?_)))
    rw [show nI k + 1 = nI (k + 1) from nI_1 k]
    have ea : aSnA A (k + 1) = aSnd (aSnA A k) k := rfl
    rcases hk01.1 with e0 | e1
    · have eb : aSnA A (k + 1) = aSnA A k := by
        rw [ea]
        unfold aSnd
        rw [if_pos e0]
      refine pw_t e0 (c_sb17 hS h01 f m (k + 1) J (by omega) (by omega) ?_)
      rw [eb]
      have ne : ∀ i, i = k → ¬ (aSnA A k).1 6 i = 1 := fun i e => by rw [e, e0]; exact c01
      refine ⟨x1, x2, isMk_i x3 (fun i hi => ⟨fun q => ?_, fun q => ⟨by omega, q.2⟩⟩), isMk_i x4 (fun i hi => ⟨fun q => ?_, fun q => ⟨by omega, q.2⟩⟩), isMk_i x5 (fun i hi => ⟨fun q => ?_, fun q => ⟨by omega, q.2⟩⟩)⟩
      · by_cases e : i = k
        · exact absurd q.2 (ne i e)
        · exact ⟨by omega, q.2⟩
      · by_cases e : i = k
        · exact absurd q.2.1 (ne i e)
        · exact ⟨by omega, q.2⟩
      · by_cases e : i = k
        · exact absurd q.2.1 (ne i e)
        · exact ⟨by omega, q.2⟩
    · refine pw_f (by rw [e1]; exact c10) (pw_cv hS.1.1 (c_sendNext hS hs x1 e1 hk01.2.2) (fun _ K g => ?_))
      obtain ⟨g1, g2, g3, g4⟩ := g
      have hB01 := aS01_snA h01 (k + 1) k hs
      have hoth : ∀ i, i ≠ k → (aSnA A (k + 1)).1 5 i = (aSnA A k).1 5 i ∧ (aSnA A (k + 1)).1 6 i = (aSnA A k).1 6 i ∧ (thr (aSnA A (k + 1)) i ↔ thr (aSnA A k) i) := fun i hi => by
        rw [ea]
        exact ⟨(aSnd_o hi).1, (aSnd_o hi).2.1, thr_o hi⟩
      rw [← ea] at g1 g3 g4
      refine c_sb17 hS h01 f m (k + 1) K (by omega) (by omega) ⟨g1, fun r hr => by rw [g2 r hr]; exact x2 r hr, ?_⟩
      rcases hB01.1 with b0 | b1
      · have g3 := g3 b0
        rw [g3 8 (by decide), g3 9 (by decide), g3 10 (by decide)]
        have ne : ∀ i, i = k → ¬ (aSnA A (k + 1)).1 6 i = 1 := fun i e => by rw [e, b0]; exact c01
        refine ⟨isMk_i x3 (fun i hi => ?_), isMk_i x4 (fun i hi => ?_), isMk_i x5 (fun i hi => ?_)⟩
        · by_cases e : i = k
          · exact ⟨fun q => absurd q.2 (ne i e), fun q => by omega⟩
          · rw [(hoth i e).2.1]; exact ⟨fun q => ⟨by omega, q.2⟩, fun q => ⟨by omega, q.2⟩⟩
        · by_cases e : i = k
          · exact ⟨fun q => absurd q.2.1 (ne i e), fun q => by omega⟩
          · rw [(hoth i e).2.1, (hoth i e).1]; exact ⟨fun q => ⟨by omega, q.2⟩, fun q => ⟨by omega, q.2⟩⟩
        · by_cases e : i = k
          · exact ⟨fun q => absurd q.2.1 (ne i e), fun q => by omega⟩
          · rw [(hoth i e).2.2]; exact ⟨fun q => ⟨by omega, q.2⟩, fun q => ⟨by omega, q.2⟩⟩
      · obtain ⟨m1, m2, m3, m4⟩ := g4 b1
        refine ⟨?_, ?_, ?_⟩
        · rw [m1]
          refine isMk_1 x3 hs (fun i hi => ?_)
          by_cases e : i = k
          · exact ⟨fun _ => Or.inl e, fun _ => ⟨by omega, by rw [e]; exact b1⟩⟩
          · rw [(hoth i e).2.1]
            exact ⟨fun q => Or.inr ⟨by omega, q.2⟩, fun q => by rcases q with q | q; exact absurd q e; exact ⟨by omega, q.2⟩⟩
        · rw [m2]
          rcases hB01.2.1 with l0 | l1
          · rw [l0]
            refine isMk_0 x4 hs (fun i hi => ?_)
            by_cases e : i = k
            · subst e
              exact ⟨fun q => by rw [l0] at q; exact absurd q.2.2 c01, fun q => by omega⟩
            · rw [(hoth i e).2.1, (hoth i e).1]; exact ⟨fun q => ⟨by omega, q.2⟩, fun q => ⟨by omega, q.2⟩⟩
          · rw [l1]
            refine isMk_1 x4 hs (fun i hi => ?_)
            by_cases e : i = k
            · exact ⟨fun _ => Or.inl e, fun _ => ⟨by omega, by rw [e]; exact ⟨b1, l1⟩⟩⟩
            · rw [(hoth i e).2.1, (hoth i e).1]
              exact ⟨fun q => Or.inr ⟨by omega, q.2⟩, fun q => by rcases q with q | q; exact absurd q e; exact ⟨by omega, q.2⟩⟩
        · by_cases ht : thr (aSnA A (k + 1)) k
          · rw [m3 ht]
            refine isMk_1 x5 hs (fun i hi => ?_)
            by_cases e : i = k
            · exact ⟨fun _ => Or.inl e, fun _ => ⟨by omega, by rw [e]; exact ht⟩⟩
            · rw [(hoth i e).2.2]
              exact ⟨fun q => Or.inr ⟨by omega, q.2⟩, fun q => by rcases q with q | q; exact absurd q e; exact ⟨by omega, q.2⟩⟩
          · rw [m4 ht]
            refine isMk_i x5 (fun i hi => ?_)
            by_cases e : i = k
            · subst e
              exact ⟨fun q => absurd q.2 ht, fun q => by omega⟩
            · rw [(hoth i e).2.2]; exact ⟨fun q => ⟨by omega, q.2⟩, fun q => ⟨by omega, q.2⟩⟩
theorem CInv_16 {B : aT} {j : Nat} {v : Int32} (h : CInv I B) (hj : 8 ≤ j) : CInv (iput I 16 j v) B := by
  refine ⟨⟨by rw [iput_j _ _ _ (by omega)]; exact h.1.1, ⟨isL_same h.1.2.1.1 (iput_n _ _ _ (by decide)) (iput_n _ _ _ (by decide)), h.1.2.1.2⟩, ⟨isL_same h.1.2.2.1.1 (iput_n _ _ _ (by decide)) (iput_n _ _ _ (by decide)), h.1.2.2.1.2⟩, cRv_same h.1.2.2.2 (fun r a b => iput_n _ _ _ (by omega))⟩, fun s hs => cSt_same (h.2.1 s hs) (fun r a b => iput_n _ _ _ (by unfold cN at a; omega)), fun s hs o ho hne => cLk_same (h.2.2 s hs o ho hne) (fun r a b => iput_n _ _ _ (by have := cK_lt hs ho hne; unfold cN at this; omega))⟩
theorem c_sendBits (hS : Shp S) (hC : CInv I A) (h01 : aS01 A) : pw S (q_C_sendBits (some 16) (I, S)) (fun _ K => sbQ I (aSnA A 6) 6 K) := by
  have k1 := hS.1.1
  have z0 : ∀ P : Nat → Prop, isMk 0 (fun i => i < 0 ∧ P i) := fun P => ⟨0, by decide, rfl, fun i hi => ⟨fun q => by simp at q, fun q => by omega⟩⟩
  unfold q_C_sendBits
  refine pw_pI k1 (pw_pI k1 (pw_pI k1 (c_sb17 hS h01 6 mFU 0 _ (by omega) (by unfold mFU; omega) ⟨CInv_16 (CInv_16 (CInv_16 hC (by decide)) (by decide)) (by decide), fun r hr => by rw [iput_n _ _ _ (by omega), iput_n _ _ _ (by omega), iput_n _ _ _ (by omega)], ?_, ?_, ?_⟩)))
  · rw [iput_j _ _ _ (by decide), iput_j _ _ _ (by decide), iput_s]; exact z0 _
  · rw [iput_j _ _ _ (by decide), iput_s]; exact z0 _
  · rw [iput_s]; exact z0 _
end SB
