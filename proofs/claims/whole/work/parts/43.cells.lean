/-! memories as lists of cells, the newest first: for the constructors, which a program can run -/
abbrev mD : Type := Nat × Nat × List (Option Nat) × List Int32
abbrev mY : Type := Nat × List mD × Nat
def yz : mD := (0, 0, [], [])
def yc (Y : mY) (r : Nat) : mD := if 16 ≤ r ∧ r < 16 + Y.1 then (Y.2.1[Y.1 + 15 - r]?).getD yz else yz
def toM (Y : mY) : mM := (fun r j => ((yc Y r).2.2.2[j]?).getD 0, fun r j => ((yc Y r).2.2.1[j]?).getD none, fun r => (yc Y r).1, fun r => (yc Y r).2.1, Y.1, Y.2.2)
def hm {β : Type} (o : Option (β × mY)) : Option (β × mM) := match o with
  | none => none
  | some (b, Y) => some (b, toM Y)
def ysd {β : Type} (z : β) : List β → Nat → β → List β
  | [], 0, v => [v]
  | [], j + 1, v => z :: ysd z [] j v
  | _ :: l, 0, v => v :: l
  | a :: l, j + 1, v => a :: ysd z l j v
theorem ysd_get {β : Type} (z v : β) : ∀ (l : List β) (j i : Nat), ((ysd z l j v)[i]?).getD z = if i = j then v else (l[i]?).getD z
  | [], 0, 0 => by simp [ysd]
  | [], 0, i + 1 => by simp [ysd]
  | [], j + 1, 0 => by simp [ysd]
  | [], j + 1, i + 1 => by
    have := ysd_get z v [] j i
    simp [ysd] at this ⊢
    exact this
  | a :: l, 0, 0 => by simp [ysd]
  | a :: l, 0, i + 1 => by simp [ysd]
  | a :: l, j + 1, 0 => by simp [ysd]
  | a :: l, j + 1, i + 1 => by
    have := ysd_get z v l j i
    simp [ysd] at this ⊢
    exact this
def ymod {β : Type} (f : β → β) : List β → Nat → List β
  | [], _ => []
  | a :: l, 0 => f a :: l
  | a :: l, j + 1 => a :: ymod f l j
theorem ymod_get {β : Type} (f : β → β) : ∀ (l : List β) (j i : Nat), (ymod f l j)[i]? = if i = j then (l[i]?).map f else l[i]?
  | [], j, i => by simp [ymod]
  | a :: l, 0, 0 => by simp [ymod]
  | a :: l, 0, i + 1 => by simp [ymod]
  | a :: l, j + 1, 0 => by simp [ymod]
  | a :: l, j + 1, i + 1 => by
    have := ymod_get f l j i
    simp [ymod] at this ⊢
    exact this
def yput (Y : mY) (r : Nat) (f : mD → mD) : mY := (Y.1, ymod f Y.2.1 (Y.1 + 15 - r), Y.2.2)
theorem yc_put (Y : mY) (r q : Nat) (f : mD → mD) (h : (yc Y r).1 ≠ 0) : yc (yput Y r f) q = if q = r then f (yc Y r) else yc Y q := by
  have hr : 16 ≤ r ∧ r < 16 + Y.1 := by
    refine Decidable.byContradiction (fun hn => h ?_)
    unfold yc
    rw [if_neg hn]
    rfl
  have hs : ∃ d, Y.2.1[Y.1 + 15 - r]? = some d := by
    cases hd : Y.2.1[Y.1 + 15 - r]? with
    | some d => exact ⟨d, rfl⟩
    | none =>
      exfalso
      apply h
      unfold yc
      rw [if_pos hr, hd]
      rfl
  obtain ⟨d, hd⟩ := hs
  by_cases hq : q = r
  · subst hq
    rw [if_pos rfl]
    unfold yc yput
    simp only
    rw [if_pos hr, if_pos hr, ymod_get, if_pos rfl, hd]
    rfl
  · rw [if_neg hq]
    unfold yc yput
    simp only
    by_cases h2 : 16 ≤ q ∧ q < 16 + Y.1
    · rw [if_pos h2, if_pos h2, ymod_get, if_neg (by omega)]
    · rw [if_neg h2, if_neg h2]
def ypI (Y : mY) (r j : Nat) (v : Int32) : mY := yput Y r (fun d => (d.1, d.2.1, d.2.2.1, ysd 0 d.2.2.2 j v))
def ypR (Y : mY) (r j : Nat) (v : Option Nat) : mY := yput Y r (fun d => (d.1, d.2.1, ysd none d.2.2.1 j v, d.2.2.2))
theorem toM_pI (Y : mY) (r j : Nat) (v : Int32) (h : (yc Y r).1 ≠ 0) : mpI (toM Y) r j v = toM (ypI Y r j v) := by
  unfold mpI toM ypI
  simp only [Prod.mk.injEq]
  refine ⟨?_, ?_, ?_, ?_, rfl, rfl⟩
  · funext q i
    rw [yc_put Y r q _ h]
    unfold mrow
    by_cases hq : q = r
    · subst hq
      rw [if_pos rfl, if_pos rfl, ysd_get]
      rfl
    · rw [if_neg hq, if_neg hq]
  · funext q i
    rw [yc_put Y r q _ h]
    by_cases hq : q = r
    · subst hq; rw [if_pos rfl]
    · rw [if_neg hq]
  · funext q
    rw [yc_put Y r q _ h]
    by_cases hq : q = r
    · subst hq; rw [if_pos rfl]
    · rw [if_neg hq]
  · funext q
    rw [yc_put Y r q _ h]
    by_cases hq : q = r
    · subst hq; rw [if_pos rfl]
    · rw [if_neg hq]
theorem toM_pR (Y : mY) (r j : Nat) (v : Option Nat) (h : (yc Y r).1 ≠ 0) : mpR (toM Y) r j v = toM (ypR Y r j v) := by
  unfold mpR toM ypR mRf
  simp only [Prod.mk.injEq]
  refine ⟨?_, ?_, ?_, ?_, rfl, rfl⟩
  · funext q i
    rw [yc_put Y r q _ h]
    by_cases hq : q = r
    · subst hq; rw [if_pos rfl]
    · rw [if_neg hq]
  · funext q i
    rw [yc_put Y r q _ h]
    unfold mrow
    by_cases hq : q = r
    · subst hq
      rw [if_pos rfl, if_pos rfl, ysd_get]
      rfl
    · rw [if_neg hq, if_neg hq]
  · funext q
    rw [yc_put Y r q _ h]
    by_cases hq : q = r
    · subst hq; rw [if_pos rfl]
    · rw [if_neg hq]
  · funext q
    rw [yc_put Y r q _ h]
    by_cases hq : q = r
    · subst hq; rw [if_pos rfl]
    · rw [if_neg hq]
def ynew (Y : mY) (kd len sl : Nat) : mY := (Y.1 + 1, (kd, len, [], []) :: Y.2.1, Y.2.2 + sl)
theorem yc_new (Y : mY) (kd len sl q : Nat) : yc (ynew Y kd len sl) q = if q = 16 + Y.1 then (kd, len, [], []) else yc Y q := by
  unfold yc ynew
  simp only
  by_cases hq : q = 16 + Y.1
  · subst hq
    rw [if_pos (by omega), if_pos rfl, show Y.1 + 1 + 15 - (16 + Y.1) = 0 by omega]
    rfl
  · rw [if_neg hq]
    by_cases h2 : 16 ≤ q ∧ q < 16 + Y.1
    · rw [if_pos (by omega), if_pos h2, show Y.1 + 1 + 15 - q = (Y.1 + 15 - q) + 1 by omega]
      rfl
    · rw [if_neg (by omega), if_neg h2]
theorem toM_new (Y : mY) (kd len sl : Nat) : mnew (toM Y) kd len sl = toM (ynew Y kd len sl) := by
  unfold mnew toM mRf mKd mLn mN mSl
  simp only [Prod.mk.injEq]
  refine ⟨?_, ?_, ?_, ?_, rfl, rfl⟩
  · funext q i
    rw [yc_new]
    unfold mrow
    by_cases hq : q = 16 + Y.1
    · rw [if_pos hq, if_pos hq]; rfl
    · rw [if_neg hq, if_neg hq]
  · funext q i
    rw [yc_new]
    unfold mrow
    by_cases hq : q = 16 + Y.1
    · rw [if_pos hq, if_pos hq]; rfl
    · rw [if_neg hq, if_neg hq]
  · funext q
    rw [yc_new]
    unfold mrow
    by_cases hq : q = 16 + Y.1
    · rw [if_pos hq, if_pos hq]
    · rw [if_neg hq, if_neg hq]
  · funext q
    rw [yc_new]
    unfold mrow
    by_cases hq : q = 16 + Y.1
    · rw [if_pos hq, if_pos hq]
    · rw [if_neg hq, if_neg hq]
/-! the words over lists -/
section YW
variable {β γ : Type}
def y_oi (a : Option Nat) (k : Option β) : Option β := match a with
  | none => none
  | some _ => k
def y_lt (v : Int32) (k : Int32 → Option β) : Option β := k v
def y_sl (a : Option Nat) (k : Int32 → Option β) : Option β := x_sl a k
def y_gI (Y : mY) (c : Nat) (a : Option Nat) (j : Nat) (k : Int32 → Option β) : Option β := match a with
  | none => none
  | some r => if (yc Y r).1 = c + 10 then k (((yc Y r).2.2.2[j]?).getD 0) else none
def y_gR (Y : mY) (c : Nat) (a : Option Nat) (j : Nat) (k : Option Nat → Option β) : Option β := match a with
  | none => none
  | some r => if (yc Y r).1 = c + 10 then k (((yc Y r).2.2.1[j]?).getD none) else none
def y_al (Y : mY) (t : Nat) (a : Option Nat) (k : Int32 → Option β) : Option β := match a with
  | none => none
  | some r => if (yc Y r).1 = t + 1 then k (Int32.ofNat (yc Y r).2.1) else none
def y_pI (Y : mY) (c : Nat) (a : Option Nat) (j : Nat) (v : Int32) (k : mY → Option β) : Option β := match a with
  | none => none
  | some r => if (yc Y r).1 = c + 10 then k (ypI Y r j v) else none
def y_pR (Y : mY) (c : Nat) (a : Option Nat) (j : Nat) (v : Option Nat) (k : mY → Option β) : Option β := match a with
  | none => none
  | some r => if (yc Y r).1 = c + 10 then k (ypR Y r j v) else none
def y_wI (Y : mY) (a : Option Nat) (i v : Int32) (k : mY → Option β) : Option β := match a with
  | none => none
  | some r => if (yc Y r).1 = 1 ∧ ¬ i < 0 ∧ i.toNatClampNeg < (yc Y r).2.1 then k (ypI Y r i.toNatClampNeg v) else none
def y_wZ (Y : mY) (a : Option Nat) (i v : Int32) (k : mY → Option β) : Option β := match a with
  | none => none
  | some r => if (yc Y r).1 = 2 ∧ ¬ i < 0 ∧ i.toNatClampNeg < (yc Y r).2.1 ∧ (v = 0 ∨ v = 1) then k (ypI Y r i.toNatClampNeg v) else none
def y_wR (Y : mY) (t c : Nat) (a : Option Nat) (i : Int32) (v : Option Nat) (k : mY → Option β) : Option β := match a, v with
  | some r, some q => if (yc Y r).1 = t + 3 ∧ ¬ i < 0 ∧ i.toNatClampNeg < (yc Y r).2.1 ∧ (yc Y q).1 = c + 10 then k (ypR Y r i.toNatClampNeg (some q)) else none
  | _, _ => none
def y_nw (Y : mY) (c : Nat) (k : Option Nat → mY → Option β) : Option β := k (some (16 + Y.1)) (ynew Y (c + 10) 0 (mnf c))
def y_na (Y : mY) (t : Nat) (n : Int32) (k : Option Nat → mY → Option β) : Option β := if ¬ n < 0 ∧ n.toNatClampNeg < 100000000 then k (some (16 + Y.1)) (ynew Y (t + 1) n.toNatClampNeg n.toNatClampNeg) else none
def y_cl (o : Option (γ × mY)) (k : γ → mY → Option β) : Option β := match o with
  | none => none
  | some (b, Y) => k b Y
def y_ci (a : Option Nat) (o : Option (γ × mY)) (k : γ → mY → Option β) : Option β := match a with
  | none => none
  | some _ => y_cl o k
variable {Y : mY} {a : Option Nat}
theorem hm_if {c : Prop} [Decidable c] {o1 o2 : Option (β × mM)} {p1 p2 : Option (β × mY)} (h1 : o1 = hm p1) (h2 : o2 = hm p2) : (if c then o1 else o2) = hm (if c then p1 else p2) := by
  split
  · exact h1
  · exact h2
theorem hm_oi {o : Option (β × mM)} {p : Option (β × mY)} (h : o = hm p) : x_oi a o = hm (y_oi a p) := by
  cases a with
  | none => rfl
  | some r => exact h
theorem hm_lt {v : Int32} {k : Int32 → Option (β × mM)} {k' : Int32 → Option (β × mY)} (h : ∀ x, k x = hm (k' x)) : x_lt v k = hm (y_lt v k') := h v
theorem hm_sl {k : Int32 → Option (β × mM)} {k' : Int32 → Option (β × mY)} (h : ∀ x, k x = hm (k' x)) : x_sl a k = hm (y_sl a k') := by
  cases a with
  | none => rfl
  | some r =>
    unfold y_sl x_sl
    dsimp only
    split
    · exact h _
    · rfl
theorem hm_gI {c j : Nat} {k : Int32 → Option (β × mM)} {k' : Int32 → Option (β × mY)} (h : ∀ x, k x = hm (k' x)) : x_gI (toM Y) c a j k = hm (y_gI Y c a j k') := by
  cases a with
  | none => rfl
  | some r =>
    show (if (yc Y r).1 = c + 10 then k (((yc Y r).2.2.2[j]?).getD 0) else none) = _
    unfold y_gI
    dsimp only
    split
    · exact h _
    · rfl
theorem hm_gR {c j : Nat} {k : Option Nat → Option (β × mM)} {k' : Option Nat → Option (β × mY)} (h : ∀ x, k x = hm (k' x)) : x_gR (toM Y) c a j k = hm (y_gR Y c a j k') := by
  cases a with
  | none => rfl
  | some r =>
    show (if (yc Y r).1 = c + 10 then k (((yc Y r).2.2.1[j]?).getD none) else none) = _
    unfold y_gR
    dsimp only
    split
    · exact h _
    · rfl
theorem hm_al {t : Nat} {k : Int32 → Option (β × mM)} {k' : Int32 → Option (β × mY)} (h : ∀ x, k x = hm (k' x)) : x_al (toM Y) t a k = hm (y_al Y t a k') := by
  cases a with
  | none => rfl
  | some r =>
    show (if (yc Y r).1 = t + 1 then k (Int32.ofNat (yc Y r).2.1) else none) = _
    unfold y_al
    dsimp only
    split
    · exact h _
    · rfl
theorem hm_pI {c j : Nat} {v : Int32} {k : mM → Option (β × mM)} {k' : mY → Option (β × mY)} (h : ∀ Y, k (toM Y) = hm (k' Y)) : x_pI (toM Y) c a j v k = hm (y_pI Y c a j v k') := by
  cases a with
  | none => rfl
  | some r =>
    show (if (yc Y r).1 = c + 10 then k (mpI (toM Y) r j v) else none) = _
    unfold y_pI
    dsimp only
    split
    · rename_i hk
      rw [toM_pI Y r j v (by omega)]
      exact h _
    · rfl
theorem hm_pR {c j : Nat} {v : Option Nat} {k : mM → Option (β × mM)} {k' : mY → Option (β × mY)} (h : ∀ Y, k (toM Y) = hm (k' Y)) : x_pR (toM Y) c a j v k = hm (y_pR Y c a j v k') := by
  cases a with
  | none => rfl
  | some r =>
    show (if (yc Y r).1 = c + 10 then k (mpR (toM Y) r j v) else none) = _
    unfold y_pR
    dsimp only
    split
    · rename_i hk
      rw [toM_pR Y r j v (by omega)]
      exact h _
    · rfl
theorem hm_wI {i v : Int32} {k : mM → Option (β × mM)} {k' : mY → Option (β × mY)} (h : ∀ Y, k (toM Y) = hm (k' Y)) : x_wI (toM Y) a i v k = hm (y_wI Y a i v k') := by
  cases a with
  | none => rfl
  | some r =>
    show (if (yc Y r).1 = 1 ∧ ¬ i < 0 ∧ i.toNatClampNeg < (yc Y r).2.1 then k (mpI (toM Y) r i.toNatClampNeg v) else none) = _
    unfold y_wI
    dsimp only
    split
    · rename_i hk
      rw [toM_pI Y r _ v (by omega)]
      exact h _
    · rfl
theorem hm_wZ {i v : Int32} {k : mM → Option (β × mM)} {k' : mY → Option (β × mY)} (h : ∀ Y, k (toM Y) = hm (k' Y)) : x_wZ (toM Y) a i v k = hm (y_wZ Y a i v k') := by
  cases a with
  | none => rfl
  | some r =>
    show (if (yc Y r).1 = 2 ∧ ¬ i < 0 ∧ i.toNatClampNeg < (yc Y r).2.1 ∧ (v = 0 ∨ v = 1) then k (mpI (toM Y) r i.toNatClampNeg v) else none) = _
    unfold y_wZ
    dsimp only
    split
    · rename_i hk
      rw [toM_pI Y r _ v (by omega)]
      exact h _
    · rfl
theorem hm_wR {t c : Nat} {i : Int32} {v : Option Nat} {k : mM → Option (β × mM)} {k' : mY → Option (β × mY)} (h : ∀ Y, k (toM Y) = hm (k' Y)) : x_wR (toM Y) t c a i v k = hm (y_wR Y t c a i v k') := by
  cases a with
  | none => rfl
  | some r =>
    cases v with
    | none => rfl
    | some q =>
      show (if (yc Y r).1 = t + 3 ∧ ¬ i < 0 ∧ i.toNatClampNeg < (yc Y r).2.1 ∧ (yc Y q).1 = c + 10 then k (mpR (toM Y) r i.toNatClampNeg (some q)) else none) = _
      unfold y_wR
      dsimp only
      split
      · rename_i hk
        rw [toM_pR Y r _ _ (by omega)]
        exact h _
      · rfl
theorem hm_nw {c : Nat} {k : Option Nat → mM → Option (β × mM)} {k' : Option Nat → mY → Option (β × mY)} (h : ∀ a Y, k a (toM Y) = hm (k' a Y)) : x_nw (toM Y) c k = hm (y_nw Y c k') := by
  show k (some (16 + Y.1)) (mnew (toM Y) (c + 10) 0 (mnf c)) = _
  rw [toM_new]
  exact h _ _
theorem hm_na {t : Nat} {n : Int32} {k : Option Nat → mM → Option (β × mM)} {k' : Option Nat → mY → Option (β × mY)} (h : ∀ a Y, k a (toM Y) = hm (k' a Y)) : x_na (toM Y) t n k = hm (y_na Y t n k') := by
  unfold x_na y_na
  split
  · show k (some (16 + Y.1)) (mnew (toM Y) (t + 1) n.toNatClampNeg n.toNatClampNeg) = _
    rw [toM_new]
    exact h _ _
  · rfl
theorem hm_cl {o : Option (γ × mM)} {p : Option (γ × mY)} {k : γ → mM → Option (β × mM)} {k' : γ → mY → Option (β × mY)} (ho : o = hm p) (h : ∀ b Y, k b (toM Y) = hm (k' b Y)) : x_cl o k = hm (y_cl p k') := by
  subst ho
  cases p with
  | none => rfl
  | some q => exact h _ _
theorem hm_ci {o : Option (γ × mM)} {p : Option (γ × mY)} {k : γ → mM → Option (β × mM)} {k' : γ → mY → Option (β × mY)} (ho : o = hm p) (h : ∀ b Y, k b (toM Y) = hm (k' b Y)) : x_ci a o k = hm (y_ci a p k') := by
  cases a with
  | none => rfl
  | some r => exact hm_cl ho h
end YW
