/-! PURE: the functions, read as what they do. From here on no machine. -/
abbrev mIm : Type := Nat → Nat → Int32
/-- the function answers, the shape stays, and Q holds of answer and numbers -/
def pw (S : mS) {β : Type} (o : Option (β × mM)) (Q : β → mIm → Prop) : Prop := ∃ (b : β) (I : mIm), o = some (b, (I, S)) ∧ Q b I
def iput (I : mIm) (r j : Nat) (v : Int32) : mIm := mrow I r (upd (I r) j v)
theorem iput_s (I : mIm) (r j : Nat) (v : Int32) : iput I r j v r j = v := by simp [iput, mrow, upd]
theorem iput_n (I : mIm) {r a : Nat} (j : Nat) (v : Int32) (h : a ≠ r) : iput I r j v a = I a := by simp [iput, mrow, h]
theorem iput_j (I : mIm) (r : Nat) {i j : Nat} (v : Int32) (h : i ≠ j) : iput I r j v r i = I r i := by simp [iput, mrow, upd, h]
def icp (I : mIm) (r0 r1 sp dp n : Nat) : mIm := mrow I r1 (va_cpy (I r0) (I r1) sp dp n)
theorem icp_n (I : mIm) {r0 r1 sp dp n a : Nat} (h : a ≠ r1) : icp I r0 r1 sp dp n a = I a := by simp [icp, mrow, h]
theorem icp_in (I : mIm) {r0 r1 sp dp n j : Nat} (h : dp ≤ j) (h2 : j < dp + n) : icp I r0 r1 sp dp n r1 j = I r0 (sp + (j - dp)) := by
  unfold icp
  rw [mrow_s, pk_cpy_in h h2]
theorem icp_out (I : mIm) {r0 r1 sp dp n j : Nat} (h : j < dp ∨ dp + n ≤ j) : icp I r0 r1 sp dp n r1 j = I r1 j := by
  unfold icp
  rw [mrow_s, pk_cpy_out h]
section PW
variable {S : mS} {β γ : Type} {Q : β → mIm → Prop} {I : mIm}
theorem pw_ret {b : β} (h : Q b I) : pw S (some (b, (I, S))) Q := ⟨b, I, rfl, h⟩
theorem pw_mono {o : Option (β × mM)} {P : β → mIm → Prop} (h : pw S o P) (hq : ∀ b I, P b I → Q b I) : pw S o Q := by
  obtain ⟨b, I, h1, h2⟩ := h
  exact ⟨b, I, h1, hq b I h2⟩
theorem pw_gI {c r j : Nat} {k : Int32 → Option (β × mM)} (hk : S.2.1 r = c + 10) (h : pw S (k (I r j)) Q) : pw S (x_gI (I, S) c (some r) j k) Q := by
  show pw S (if S.2.1 r = c + 10 then k (I r j) else none) Q
  rw [if_pos hk]; exact h
theorem pw_gR {c r j q : Nat} {k : Option Nat → Option (β × mM)} (hk : S.2.1 r = c + 10) (hr : S.1 r j = some q) (h : pw S (k (some q)) Q) : pw S (x_gR (I, S) c (some r) j k) Q := by
  show pw S (if S.2.1 r = c + 10 then k (S.1 r j) else none) Q
  rw [if_pos hk, hr]; exact h
theorem pw_pI {c r j : Nat} {v : Int32} {k : mM → Option (β × mM)} (hk : S.2.1 r = c + 10) (h : pw S (k (iput I r j v, S)) Q) : pw S (x_pI (I, S) c (some r) j v k) Q := by
  show pw S (if S.2.1 r = c + 10 then k (iput I r j v, S) else none) Q
  rw [if_pos hk]; exact h
theorem pw_pZ {c r j : Nat} {v : Int32} {k : mM → Option (β × mM)} (hk : S.2.1 r = c + 10) (hv : v = 0 ∨ v = 1) (h : pw S (k (iput I r j v, S)) Q) : pw S (x_pZ (I, S) c (some r) j v k) Q := by
  show pw S (if S.2.1 r = c + 10 ∧ (v = 0 ∨ v = 1) then k (iput I r j v, S) else none) Q
  rw [if_pos ⟨hk, hv⟩]; exact h
theorem pw_aI {t r : Nat} {i : Int32} {k : Int32 → Option (β × mM)} (n : Nat) (hk : S.2.1 r = t + 1) (hi : i = nI n) (hn : n < S.2.2.1 r) (hb : S.2.2.1 r < 2 ^ 31) (h : pw S (k (I r n)) Q) : pw S (x_aI (I, S) t (some r) i k) Q := by
  subst hi
  show pw S (if S.2.1 r = t + 1 ∧ ¬ nI n < 0 ∧ (nI n).toNatClampNeg < S.2.2.1 r then k (I r (nI n).toNatClampNeg) else none) Q
  rw [nI_clamp (by omega), if_pos ⟨hk, nI_pos (by omega), hn⟩]; exact h
theorem pw_wI {r : Nat} {i v : Int32} {k : mM → Option (β × mM)} (n : Nat) (hk : S.2.1 r = 1) (hi : i = nI n) (hn : n < S.2.2.1 r) (hb : S.2.2.1 r < 2 ^ 31) (h : pw S (k (iput I r n v, S)) Q) : pw S (x_wI (I, S) (some r) i v k) Q := by
  subst hi
  show pw S (if S.2.1 r = 1 ∧ ¬ nI n < 0 ∧ (nI n).toNatClampNeg < S.2.2.1 r then k (iput I r (nI n).toNatClampNeg v, S) else none) Q
  rw [nI_clamp (by omega), if_pos ⟨hk, nI_pos (by omega), hn⟩]; exact h
theorem pw_wZ {r : Nat} {i v : Int32} {k : mM → Option (β × mM)} (n : Nat) (hk : S.2.1 r = 2) (hi : i = nI n) (hn : n < S.2.2.1 r) (hb : S.2.2.1 r < 2 ^ 31) (hv : v = 0 ∨ v = 1) (h : pw S (k (iput I r n v, S)) Q) : pw S (x_wZ (I, S) (some r) i v k) Q := by
  subst hi
  show pw S (if S.2.1 r = 2 ∧ ¬ nI n < 0 ∧ (nI n).toNatClampNeg < S.2.2.1 r ∧ (v = 0 ∨ v = 1) then k (iput I r (nI n).toNatClampNeg v, S) else none) Q
  rw [nI_clamp (by omega), if_pos ⟨hk, nI_pos (by omega), hn, hv⟩]; exact h
theorem pw_aR {t r : Nat} {i : Int32} {k : Option Nat → Option (β × mM)} (n : Nat) {q : Option Nat} (hk : S.2.1 r = t + 3) (hi : i = nI n) (hn : n < S.2.2.1 r) (hb : S.2.2.1 r < 2 ^ 31) (hr : S.1 r n = q) (h : pw S (k q) Q) : pw S (x_aR (I, S) t (some r) i k) Q := by
  subst hi
  show pw S (if S.2.1 r = t + 3 ∧ ¬ nI n < 0 ∧ (nI n).toNatClampNeg < S.2.2.1 r then k (S.1 r (nI n).toNatClampNeg) else none) Q
  rw [nI_clamp (by omega), if_pos ⟨hk, nI_pos (by omega), hn⟩, hr]; exact h
theorem pw_al {t r n : Nat} {k : Int32 → Option (β × mM)} (hk : S.2.1 r = t + 1) (hn : S.2.2.1 r = n) (h : pw S (k (nI n)) Q) : pw S (x_al (I, S) t (some r) k) Q := by
  show pw S (if S.2.1 r = t + 1 then k (Int32.ofNat (S.2.2.1 r)) else none) Q
  rw [if_pos hk, hn]; exact h
theorem pw_if {c : Prop} [Decidable c] {o1 o2 : Option (β × mM)} (h1 : c → pw S o1 Q) (h2 : ¬ c → pw S o2 Q) : pw S (if c then o1 else o2) Q := by
  split
  · rename_i h; exact h1 h
  · rename_i h; exact h2 h
theorem pw_t {c : Prop} [Decidable c] {o1 o2 : Option (β × mM)} (h : c) (h1 : pw S o1 Q) : pw S (if c then o1 else o2) Q := by rw [if_pos h]; exact h1
theorem pw_f {c : Prop} [Decidable c] {o1 o2 : Option (β × mM)} (h : ¬ c) (h1 : pw S o2 Q) : pw S (if c then o1 else o2) Q := by rw [if_neg h]; exact h1
theorem pw_cl {o : Option (γ × mM)} {k : γ → mM → Option (β × mM)} {P : γ → mIm → Prop} (h : pw S o P) (hk : ∀ b I, P b I → pw S (k b (I, S)) Q) : pw S (x_cl o k) Q := by
  obtain ⟨b, I, h1, h2⟩ := h
  rw [h1]
  exact hk b I h2
theorem pw_cv {c r : Nat} {o : Option (γ × mM)} {k : γ → mM → Option (β × mM)} {P : γ → mIm → Prop} (hkd : S.2.1 r = c + 10) (h : pw S o P) (hk : ∀ b I, P b I → pw S (k b (I, S)) Q) : pw S (x_cv (I, S) c (some r) o k) Q := by
  show pw S (if S.2.1 r = c + 10 then x_cl o k else none) Q
  rw [if_pos hkd]
  exact pw_cl h hk
theorem pw_rm {a b : Int32} {k : Int32 → Option (β × mM)} {n d : Nat} (ha : a = nI n) (hb : b = nI d) (hn : n < 2 ^ 31) (h0 : 0 < d) (hd : d < 2 ^ 31) (h : pw S (k (nI (n % d))) Q) : pw S (x_rm a b k) Q := by
  subst ha; subst hb
  unfold x_rm
  rw [if_neg (nI_ne0 h0 hd), pk_rem hn h0 hd]; exact h
theorem pw_dv {a b : Int32} {k : Int32 → Option (β × mM)} {n d : Nat} (ha : a = nI n) (hb : b = nI d) (hn : n < 2 ^ 31) (h0 : 0 < d) (hd : d < 2 ^ 31) (h : pw S (k (nI (n / d))) Q) : pw S (x_dv a b k) Q := by
  subst ha; subst hb
  unfold x_dv
  rw [if_neg (nI_ne0 h0 hd), pk_div hn h0 hd]; exact h
theorem pw_rz {x : Int32} {Q : Int32 → mIm → Prop} (hx : x = 0 ∨ x = 1) (h : Q x I) : pw S (x_rz x (I, S)) Q := by
  unfold x_rz
  rw [if_pos hx]
  exact pw_ret h
theorem pw_cp {r0 r1 : Nat} {sp dp n : Int32} {k : mM → Option (β × mM)} (a b c : Nat) (h0 : S.2.1 r0 = 1) (h1 : S.2.1 r1 = 1) (ha : sp = nI a) (hb : dp = nI b) (hc : n = nI c) (l0 : a + c ≤ S.2.2.1 r0) (l1 : b + c ≤ S.2.2.1 r1) (m0 : S.2.2.1 r0 < 2 ^ 31) (m1 : S.2.2.1 r1 < 2 ^ 31) (h : pw S (k (icp I r0 r1 a b c, S)) Q) : pw S (x_cp (I, S) (some r0) sp (some r1) dp n k) Q := by
  subst ha; subst hb; subst hc
  show pw S (if S.2.1 r0 = 1 ∧ S.2.1 r1 = 1 ∧ ¬ nI a < 0 ∧ ¬ nI b < 0 ∧ ¬ nI c < 0 ∧ (nI a).toNatClampNeg + (nI c).toNatClampNeg ≤ S.2.2.1 r0 ∧ (nI b).toNatClampNeg + (nI c).toNatClampNeg ≤ S.2.2.1 r1 then k (icp I r0 r1 (nI a).toNatClampNeg (nI b).toNatClampNeg (nI c).toNatClampNeg, S) else none) Q
  rw [nI_clamp (n := a) (by omega), nI_clamp (n := b) (by omega), nI_clamp (n := c) (by omega), if_pos ⟨h0, h1, nI_pos (by omega), nI_pos (by omega), nI_pos (by omega), l0, l1⟩]
  exact h
theorem pw_sl {q n : Nat} {k : Int32 → Option (β × mM)} (hn : mtN q = n) (h0 : 0 < n) (h : pw S (k (nI n)) Q) : pw S (x_sl (some q) k) Q := by
  show pw S (if 0 < mtN q then k (Int32.ofNat (mtN q)) else none) Q
  rw [hn, if_pos h0]; exact h
theorem pw_sI {q : Nat} {i : Int32} {k : Int32 → Option (β × mM)} (n : Nat) (hi : i = nI n) (hn : n < mtN q) (hb : mtN q < 2 ^ 31) (h : pw S (k (mtF q n)) Q) : pw S (x_sI (some q) i k) Q := by
  subst hi
  show pw S (if ¬ nI n < 0 ∧ (nI n).toNatClampNeg < mtN q then k (mtF q (nI n).toNatClampNeg) else none) Q
  rw [nI_clamp (by omega), if_pos ⟨nI_pos (by omega), hn⟩]; exact h
end PW
/-! a row of BYTES: an object b of class 0, its cells behind it -/
def isB (S : mS) (b cap : Nat) : Prop := S.2.1 b = 10 ∧ S.1 b 0 = some (b + 1) ∧ S.2.1 (b + 1) = 1 ∧ S.2.2.1 (b + 1) = cap ∧ cap < 100000
/-- it holds the list l -/
def isL (I : mIm) (b : Nat) (l : List Int32) : Prop := I b 1 = nI l.length ∧ ∀ (j : Nat) (x : Int32), l[j]? = some x → I (b + 1) j = x
/-- a list's number i, or -1 -/
def lAt (l : List Int32) (i : Int32) : Int32 := if i < 0 then -1 else (l[i.toNatClampNeg]?).getD (-1)
theorem isL_same {I I' : mIm} {b : Nat} {l : List Int32} (h : isL I b l) (h1 : I' b = I b) (h2 : I' (b + 1) = I (b + 1)) : isL I' b l := by
  unfold isL
  rw [h1, h2]
  exact h
section PB
variable {S : mS} {I : mIm} {b cap : Nat} {l : List Int32}
theorem p_B_clear (hB : isB S b cap) : pw S (q_B_clear (some b) (I, S)) (fun _ I' => isL I' b [] ∧ I' (b + 1) = I (b + 1) ∧ ∀ r, r ≠ b → I' r = I r) := by
  unfold q_B_clear
  refine pw_pI hB.1 (pw_ret ⟨⟨?_, fun j x h => by simp at h⟩, iput_n I 1 0 (by omega), fun r h => iput_n I 1 0 h⟩)
  rw [iput_s]
  rfl
theorem p_B_at (hB : isB S b cap) (hl : isL I b l) (hc : l.length ≤ cap) (i : Int32) : pw S (q_B_at (some b) i (I, S)) (fun v I' => v = lAt l i ∧ I' = I) := by
  obtain ⟨k1, k2, k3, k4, k5⟩ := hB
  unfold q_B_at lAt
  refine pw_if (fun h => pw_ret ⟨by rw [if_pos h], rfl⟩) (fun h => ?_)
  refine pw_gI k1 ?_
  rw [hl.1, if_neg h]
  obtain ⟨n, hn, rfl⟩ := nI_of h
  rw [nI_clamp hn]
  refine pw_if (fun h2 => ?_) (fun h2 => ?_)
  · have h3 : n < l.length := (nI_ltI hn (by omega)).mp h2
    refine pw_gR k1 k2 (pw_aI n k3 rfl (by omega) (by omega) (pw_ret ⟨?_, rfl⟩))
    have := hl.2 n l[n] (List.getElem?_eq_getElem h3)
    rw [this, List.getElem?_eq_getElem h3]
    rfl
  · have h3 : l.length ≤ n := by
      rcases Nat.lt_or_ge n l.length with q | q
      · exact absurd ((nI_ltI hn (by omega)).mpr q) h2
      · exact q
    refine pw_ret ⟨?_, rfl⟩
    rw [List.getElem?_eq_none h3]
    rfl
theorem p_B_add (hB : isB S b cap) (hl : isL I b l) (hc : l.length < cap) (v : Int32) : pw S (q_B_add (some b) v (I, S)) (fun _ I' => isL I' b (l ++ [v]) ∧ ∀ r, r ≠ b → r ≠ b + 1 → I' r = I r) := by
  obtain ⟨k1, k2, k3, k4, k5⟩ := hB
  unfold q_B_add
  refine pw_gI k1 (pw_gR k1 k2 (pw_al (n := cap) k3 k4 (pw_t ?_ (pw_gR k1 k2 (pw_gI k1 (pw_wI l.length k3 hl.1 (by omega) (by omega) (pw_gI k1 (pw_pI k1 (pw_ret ⟨⟨?_, ?_⟩, ?_⟩)))))))))
  · rw [hl.1]
    exact nI_lt hc (by omega)
  · rw [iput_s, iput_n _ _ _ (by omega), hl.1, List.length_append]
    exact nI_1 _
  · intro j x hj
    rw [iput_n _ _ _ (by omega)]
    by_cases h : j < l.length
    · rw [List.getElem?_append_left h] at hj
      rw [iput_j _ _ _ (by omega)]
      exact hl.2 j x hj
    · rw [List.getElem?_append_right (by omega)] at hj
      have hz := (List.getElem?_eq_some_iff.mp hj).1
      simp at hz
      have hje : j = l.length := by omega
      subst hje
      rw [Nat.sub_self] at hj
      cases hj
      exact iput_s _ _ _ _
  · intro r h1 h2
    rw [iput_n _ _ _ h1, iput_n _ _ _ h2]
theorem p_B_raise (hB : isB S b cap) (hl : isL I b l) (hc : l.length ≤ cap) (n : Nat) (v x : Int32) (hx : l[n]? = some x) : pw S (q_B_raise (some b) (nI n) v (I, S)) (fun _ I' => isL I' b (l.set n (x + v)) ∧ ∀ r, r ≠ b + 1 → I' r = I r) := by
  obtain ⟨k1, k2, k3, k4, k5⟩ := hB
  have hn := (List.getElem?_eq_some_iff.mp hx).1
  unfold q_B_raise
  refine pw_f (nI_pos (by omega)) (pw_gI k1 (pw_t ?_ (pw_gR k1 k2 (pw_aI n k3 rfl (by omega) (by omega) (pw_wI n k3 rfl (by omega) (by omega) (pw_ret ⟨⟨?_, ?_⟩, ?_⟩))))))
  · rw [hl.1]
    exact nI_lt hn (by omega)
  · rw [iput_n _ _ _ (by omega), hl.1, List.length_set]
  · intro j y hj
    by_cases h : j = n
    · subst h
      rw [List.getElem?_set_self hn] at hj
      cases hj
      rw [iput_s, hl.2 j x hx]
    · rw [List.getElem?_set_ne (Ne.symm h)] at hj
      rw [iput_j _ _ _ h]
      exact hl.2 j y hj
  · intro r h
    exact iput_n _ _ _ h
theorem p_B_addFrom {b2 cap2 : Nat} {l2 : List Int32} (hB : isB S b cap) (hl : isL I b l) (hB2 : isB S b2 cap2) (hl2 : isL I b2 l2) (hc2 : l2.length ≤ cap2) (hd : b + 2 ≤ b2 ∨ b2 + 2 ≤ b) (s c : Nat) (hs : s + c ≤ l2.length) (hc : l.length + c ≤ cap) : pw S (q_B_addFrom (some b) (some b2) (nI s) (nI c) (I, S)) (fun _ I' => isL I' b (l ++ (l2.drop s).take c) ∧ ∀ r, r ≠ b → r ≠ b + 1 → I' r = I r) := by
  obtain ⟨k1, k2, k3, k4, k5⟩ := hB
  obtain ⟨g1, g2, g3, g4, g5⟩ := hB2
  unfold q_B_addFrom q_B_addFrom_23
  refine pw_f (nI_pos (by omega)) (pw_f (nI_pos (by omega)) (pw_gI g1 (pw_f ?_ (pw_f (by decide) (pw_gI k1 (pw_gR k1 k2 (pw_al (n := cap) k3 k4 (pw_f ?_ (pw_gR g1 g2 (pw_gR k1 k2 (pw_gI k1 (pw_cp s l.length c g3 k3 rfl hl.1 rfl (by omega) (by omega) (by omega) (by omega) (pw_gI k1 (pw_pI k1 (pw_ret ⟨⟨?_, ?_⟩, ?_⟩)))))))))))))))
  · rw [hl2.1, nI_add]
    exact nI_nlt hs (by omega)
  · rw [hl.1, nI_add]
    exact nI_nlt hc (by omega)
  · rw [iput_s, icp_n _ (by omega), hl.1, nI_add]
    congr 1
    simp
    omega
  · intro j x hj
    rw [iput_n _ _ _ (by omega)]
    by_cases h : j < l.length
    · rw [List.getElem?_append_left h] at hj
      rw [icp_out _ (Or.inl h)]
      exact hl.2 j x hj
    · rw [List.getElem?_append_right (by omega)] at hj
      have hz := (List.getElem?_eq_some_iff.mp hj).1
      have hz2 : j - l.length < c := by
        simp at hz
        omega
      rw [List.getElem?_take_of_lt hz2, List.getElem?_drop] at hj
      rw [icp_in _ (by omega) (by omega)]
      exact hl2.2 _ x hj
  · intro r h1 h2
    rw [iput_n _ _ _ h1, icp_n _ h2]
theorem p_B_dropFirst (hB : isB S b cap) (hl : isL I b l) (hc : l.length ≤ cap) (n : Nat) (hn : n ≤ l.length) : pw S (q_B_dropFirst (some b) (nI n) (I, S)) (fun _ I' => isL I' b (l.drop n) ∧ ∀ r, r ≠ b → r ≠ b + 1 → I' r = I r) := by
  obtain ⟨k1, k2, k3, k4, k5⟩ := hB
  unfold q_B_dropFirst
  refine pw_gI k1 ?_
  have h9 : (if (0 : Int32) < (if I b 1 < nI n then I b 1 else nI n) then (if I b 1 < nI n then I b 1 else nI n) else (0 : Int32)) = nI n := by
    rw [hl.1, if_neg (nI_nlt hn (by omega))]
    by_cases h0 : n = 0
    · subst h0
      rw [if_neg (by rw [nI_0]; decide), nI_0]
    · rw [if_pos (by rw [← nI_0]; exact nI_lt (by omega) (by omega))]
  rw [h9]
  unfold x_lt
  refine pw_gR k1 k2 (pw_gR k1 k2 (pw_gI k1 (pw_cp n 0 (l.length - n) k3 k3 rfl rfl ?_ (by omega) (by omega) (by omega) (by omega) (pw_gI k1 (pw_pI k1 (pw_ret ⟨⟨?_, ?_⟩, ?_⟩))))))
  · rw [hl.1]
    exact pk_sub hn
  · rw [iput_s, icp_n _ (by omega), hl.1, List.length_drop]
    exact pk_sub hn
  · intro j x hj
    rw [iput_n _ _ _ (by omega)]
    have hz := (List.getElem?_eq_some_iff.mp hj).1
    rw [List.length_drop] at hz
    rw [List.getElem?_drop] at hj
    rw [icp_in _ (by omega) (by omega), Nat.sub_zero]
    exact hl.2 _ x hj
  · intro r h1 h2
    rw [iput_n _ _ _ h1, icp_n _ h2]
end PB
