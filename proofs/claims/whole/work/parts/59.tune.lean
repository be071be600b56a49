/-! one number is another: who agrees still -/
theorem eqS_0 {A : aT} {s k : Nat} {v : Int32} : eqS A (aI A 0 k v) s := ⟨⟨(fun _ _ => aI_f _ _ _ _ (by decide)), (fun _ _ => aI_f _ _ _ _ (by decide)), (aI_f _ _ _ _ (by decide)), (aI_f _ _ _ _ (by decide)), (aI_f _ _ _ _ (by decide)), (aI_f _ _ _ _ (by decide)), (aI_f _ _ _ _ (by decide)), (fun _ _ => aI_f _ _ _ _ (by decide)), (aI_f _ _ _ _ (by decide)), (aI_f _ _ _ _ (by decide)), (aI_f _ _ _ _ (by decide)), (aI_f _ _ _ _ (by decide)), (fun _ _ => aI_f _ _ _ _ (by decide)), (fun _ _ => ⟨aI_f _ _ _ _ (by decide), aI_f _ _ _ _ (by decide)⟩)⟩, ⟨rfl, rfl, rfl, rfl⟩, rfl, rfl⟩
theorem eqS_1 {A : aT} {s k : Nat} {v : Int32} (h : ∀ z, z < 9 → 9 * s + z ≠ k) : eqS A (aI A 1 k v) s := ⟨⟨(fun z hz => aI_k _ _ _ (h z hz)), (fun _ _ => aI_f _ _ _ _ (by decide)), (aI_f _ _ _ _ (by decide)), (aI_f _ _ _ _ (by decide)), (aI_f _ _ _ _ (by decide)), (aI_f _ _ _ _ (by decide)), (aI_f _ _ _ _ (by decide)), (fun _ _ => aI_f _ _ _ _ (by decide)), (aI_f _ _ _ _ (by decide)), (aI_f _ _ _ _ (by decide)), (aI_f _ _ _ _ (by decide)), (aI_f _ _ _ _ (by decide)), (fun _ _ => aI_f _ _ _ _ (by decide)), (fun _ _ => ⟨aI_f _ _ _ _ (by decide), aI_f _ _ _ _ (by decide)⟩)⟩, ⟨rfl, rfl, rfl, rfl⟩, rfl, rfl⟩
theorem eqS_2 {A : aT} {s k : Nat} {v : Int32} (h : ∀ z, z < 6 → 6 * s + z ≠ k) : eqS A (aI A 2 k v) s := ⟨⟨(fun _ _ => aI_f _ _ _ _ (by decide)), (fun z hz => aI_k _ _ _ (h z hz)), (aI_f _ _ _ _ (by decide)), (aI_f _ _ _ _ (by decide)), (aI_f _ _ _ _ (by decide)), (aI_f _ _ _ _ (by decide)), (aI_f _ _ _ _ (by decide)), (fun _ _ => aI_f _ _ _ _ (by decide)), (aI_f _ _ _ _ (by decide)), (aI_f _ _ _ _ (by decide)), (aI_f _ _ _ _ (by decide)), (aI_f _ _ _ _ (by decide)), (fun _ _ => aI_f _ _ _ _ (by decide)), (fun _ _ => ⟨aI_f _ _ _ _ (by decide), aI_f _ _ _ _ (by decide)⟩)⟩, ⟨rfl, rfl, rfl, rfl⟩, rfl, rfl⟩
theorem eqS_3 {A : aT} {s k : Nat} {v : Int32} (h : s ≠ k) : eqS A (aI A 3 k v) s := ⟨⟨(fun _ _ => aI_f _ _ _ _ (by decide)), (fun _ _ => aI_f _ _ _ _ (by decide)), (aI_k _ _ _ h), (aI_f _ _ _ _ (by decide)), (aI_f _ _ _ _ (by decide)), (aI_f _ _ _ _ (by decide)), (aI_f _ _ _ _ (by decide)), (fun _ _ => aI_f _ _ _ _ (by decide)), (aI_f _ _ _ _ (by decide)), (aI_f _ _ _ _ (by decide)), (aI_f _ _ _ _ (by decide)), (aI_f _ _ _ _ (by decide)), (fun _ _ => aI_f _ _ _ _ (by decide)), (fun _ _ => ⟨aI_f _ _ _ _ (by decide), aI_f _ _ _ _ (by decide)⟩)⟩, ⟨rfl, rfl, rfl, rfl⟩, rfl, rfl⟩
theorem eqS_4 {A : aT} {s k : Nat} {v : Int32} (h : s ≠ k) : eqS A (aI A 4 k v) s := ⟨⟨(fun _ _ => aI_f _ _ _ _ (by decide)), (fun _ _ => aI_f _ _ _ _ (by decide)), (aI_f _ _ _ _ (by decide)), (aI_k _ _ _ h), (aI_f _ _ _ _ (by decide)), (aI_f _ _ _ _ (by decide)), (aI_f _ _ _ _ (by decide)), (fun _ _ => aI_f _ _ _ _ (by decide)), (aI_f _ _ _ _ (by decide)), (aI_f _ _ _ _ (by decide)), (aI_f _ _ _ _ (by decide)), (aI_f _ _ _ _ (by decide)), (fun _ _ => aI_f _ _ _ _ (by decide)), (fun _ _ => ⟨aI_f _ _ _ _ (by decide), aI_f _ _ _ _ (by decide)⟩)⟩, ⟨rfl, rfl, rfl, rfl⟩, rfl, rfl⟩
theorem eqS_5 {A : aT} {s k : Nat} {v : Int32} (h : s ≠ k) : eqS A (aI A 5 k v) s := ⟨⟨(fun _ _ => aI_f _ _ _ _ (by decide)), (fun _ _ => aI_f _ _ _ _ (by decide)), (aI_f _ _ _ _ (by decide)), (aI_f _ _ _ _ (by decide)), (aI_k _ _ _ h), (aI_f _ _ _ _ (by decide)), (aI_f _ _ _ _ (by decide)), (fun _ _ => aI_f _ _ _ _ (by decide)), (aI_f _ _ _ _ (by decide)), (aI_f _ _ _ _ (by decide)), (aI_f _ _ _ _ (by decide)), (aI_f _ _ _ _ (by decide)), (fun _ _ => aI_f _ _ _ _ (by decide)), (fun _ _ => ⟨aI_f _ _ _ _ (by decide), aI_f _ _ _ _ (by decide)⟩)⟩, ⟨rfl, rfl, rfl, rfl⟩, rfl, rfl⟩
theorem eqS_6 {A : aT} {s k : Nat} {v : Int32} (h : s ≠ k) : eqS A (aI A 6 k v) s := ⟨⟨(fun _ _ => aI_f _ _ _ _ (by decide)), (fun _ _ => aI_f _ _ _ _ (by decide)), (aI_f _ _ _ _ (by decide)), (aI_f _ _ _ _ (by decide)), (aI_f _ _ _ _ (by decide)), (aI_k _ _ _ h), (aI_f _ _ _ _ (by decide)), (fun _ _ => aI_f _ _ _ _ (by decide)), (aI_f _ _ _ _ (by decide)), (aI_f _ _ _ _ (by decide)), (aI_f _ _ _ _ (by decide)), (aI_f _ _ _ _ (by decide)), (fun _ _ => aI_f _ _ _ _ (by decide)), (fun _ _ => ⟨aI_f _ _ _ _ (by decide), aI_f _ _ _ _ (by decide)⟩)⟩, ⟨rfl, rfl, rfl, rfl⟩, rfl, rfl⟩
theorem eqS_7 {A : aT} {s k : Nat} {v : Int32} (h : s ≠ k) : eqS A (aI A 7 k v) s := ⟨⟨(fun _ _ => aI_f _ _ _ _ (by decide)), (fun _ _ => aI_f _ _ _ _ (by decide)), (aI_f _ _ _ _ (by decide)), (aI_f _ _ _ _ (by decide)), (aI_f _ _ _ _ (by decide)), (aI_f _ _ _ _ (by decide)), (aI_k _ _ _ h), (fun _ _ => aI_f _ _ _ _ (by decide)), (aI_f _ _ _ _ (by decide)), (aI_f _ _ _ _ (by decide)), (aI_f _ _ _ _ (by decide)), (aI_f _ _ _ _ (by decide)), (fun _ _ => aI_f _ _ _ _ (by decide)), (fun _ _ => ⟨aI_f _ _ _ _ (by decide), aI_f _ _ _ _ (by decide)⟩)⟩, ⟨rfl, rfl, rfl, rfl⟩, rfl, rfl⟩
theorem eqS_8 {A : aT} {s k : Nat} {v : Int32} (h : ∀ z, z < 5 → 5 * s + z ≠ k) : eqS A (aI A 8 k v) s := ⟨⟨(fun _ _ => aI_f _ _ _ _ (by decide)), (fun _ _ => aI_f _ _ _ _ (by decide)), (aI_f _ _ _ _ (by decide)), (aI_f _ _ _ _ (by decide)), (aI_f _ _ _ _ (by decide)), (aI_f _ _ _ _ (by decide)), (aI_f _ _ _ _ (by decide)), (fun z hz => aI_k _ _ _ (h z hz)), (aI_f _ _ _ _ (by decide)), (aI_f _ _ _ _ (by decide)), (aI_f _ _ _ _ (by decide)), (aI_f _ _ _ _ (by decide)), (fun _ _ => aI_f _ _ _ _ (by decide)), (fun _ _ => ⟨aI_f _ _ _ _ (by decide), aI_f _ _ _ _ (by decide)⟩)⟩, ⟨rfl, rfl, rfl, rfl⟩, rfl, rfl⟩
theorem eqS_9 {A : aT} {s k : Nat} {v : Int32} (h : s ≠ k) : eqS A (aI A 9 k v) s := ⟨⟨(fun _ _ => aI_f _ _ _ _ (by decide)), (fun _ _ => aI_f _ _ _ _ (by decide)), (aI_f _ _ _ _ (by decide)), (aI_f _ _ _ _ (by decide)), (aI_f _ _ _ _ (by decide)), (aI_f _ _ _ _ (by decide)), (aI_f _ _ _ _ (by decide)), (fun _ _ => aI_f _ _ _ _ (by decide)), (aI_k _ _ _ h), (aI_f _ _ _ _ (by decide)), (aI_f _ _ _ _ (by decide)), (aI_f _ _ _ _ (by decide)), (fun _ _ => aI_f _ _ _ _ (by decide)), (fun _ _ => ⟨aI_f _ _ _ _ (by decide), aI_f _ _ _ _ (by decide)⟩)⟩, ⟨rfl, rfl, rfl, rfl⟩, rfl, rfl⟩
theorem eqS_10 {A : aT} {s k : Nat} {v : Int32} (h : s ≠ k) : eqS A (aI A 10 k v) s := ⟨⟨(fun _ _ => aI_f _ _ _ _ (by decide)), (fun _ _ => aI_f _ _ _ _ (by decide)), (aI_f _ _ _ _ (by decide)), (aI_f _ _ _ _ (by decide)), (aI_f _ _ _ _ (by decide)), (aI_f _ _ _ _ (by decide)), (aI_f _ _ _ _ (by decide)), (fun _ _ => aI_f _ _ _ _ (by decide)), (aI_f _ _ _ _ (by decide)), (aI_k _ _ _ h), (aI_f _ _ _ _ (by decide)), (aI_f _ _ _ _ (by decide)), (fun _ _ => aI_f _ _ _ _ (by decide)), (fun _ _ => ⟨aI_f _ _ _ _ (by decide), aI_f _ _ _ _ (by decide)⟩)⟩, ⟨rfl, rfl, rfl, rfl⟩, rfl, rfl⟩
theorem eqS_11 {A : aT} {s k : Nat} {v : Int32} (h : s ≠ k) : eqS A (aI A 11 k v) s := ⟨⟨(fun _ _ => aI_f _ _ _ _ (by decide)), (fun _ _ => aI_f _ _ _ _ (by decide)), (aI_f _ _ _ _ (by decide)), (aI_f _ _ _ _ (by decide)), (aI_f _ _ _ _ (by decide)), (aI_f _ _ _ _ (by decide)), (aI_f _ _ _ _ (by decide)), (fun _ _ => aI_f _ _ _ _ (by decide)), (aI_f _ _ _ _ (by decide)), (aI_f _ _ _ _ (by decide)), (aI_k _ _ _ h), (aI_f _ _ _ _ (by decide)), (fun _ _ => aI_f _ _ _ _ (by decide)), (fun _ _ => ⟨aI_f _ _ _ _ (by decide), aI_f _ _ _ _ (by decide)⟩)⟩, ⟨rfl, rfl, rfl, rfl⟩, rfl, rfl⟩
theorem eqS_12 {A : aT} {s k : Nat} {v : Int32} (h : s ≠ k) : eqS A (aI A 12 k v) s := ⟨⟨(fun _ _ => aI_f _ _ _ _ (by decide)), (fun _ _ => aI_f _ _ _ _ (by decide)), (aI_f _ _ _ _ (by decide)), (aI_f _ _ _ _ (by decide)), (aI_f _ _ _ _ (by decide)), (aI_f _ _ _ _ (by decide)), (aI_f _ _ _ _ (by decide)), (fun _ _ => aI_f _ _ _ _ (by decide)), (aI_f _ _ _ _ (by decide)), (aI_f _ _ _ _ (by decide)), (aI_f _ _ _ _ (by decide)), (aI_k _ _ _ h), (fun _ _ => aI_f _ _ _ _ (by decide)), (fun _ _ => ⟨aI_f _ _ _ _ (by decide), aI_f _ _ _ _ (by decide)⟩)⟩, ⟨rfl, rfl, rfl, rfl⟩, rfl, rfl⟩
theorem eqS_20 {A : aT} {s k : Nat} {v : Int32} (h : ∀ z, z < 6 → 6 * s + z ≠ k) : eqS A (aI A 20 k v) s := ⟨⟨(fun _ _ => aI_f _ _ _ _ (by decide)), (fun _ _ => aI_f _ _ _ _ (by decide)), (aI_f _ _ _ _ (by decide)), (aI_f _ _ _ _ (by decide)), (aI_f _ _ _ _ (by decide)), (aI_f _ _ _ _ (by decide)), (aI_f _ _ _ _ (by decide)), (fun _ _ => aI_f _ _ _ _ (by decide)), (aI_f _ _ _ _ (by decide)), (aI_f _ _ _ _ (by decide)), (aI_f _ _ _ _ (by decide)), (aI_f _ _ _ _ (by decide)), (fun z hz => aI_k _ _ _ (h z hz)), (fun _ _ => ⟨aI_f _ _ _ _ (by decide), aI_f _ _ _ _ (by decide)⟩)⟩, ⟨rfl, rfl, rfl, rfl⟩, rfl, rfl⟩
theorem eqS_21 {A : aT} {s k : Nat} {v : Int32} : eqS A (aI A 21 k v) s := ⟨⟨(fun _ _ => aI_f _ _ _ _ (by decide)), (fun _ _ => aI_f _ _ _ _ (by decide)), (aI_f _ _ _ _ (by decide)), (aI_f _ _ _ _ (by decide)), (aI_f _ _ _ _ (by decide)), (aI_f _ _ _ _ (by decide)), (aI_f _ _ _ _ (by decide)), (fun _ _ => aI_f _ _ _ _ (by decide)), (aI_f _ _ _ _ (by decide)), (aI_f _ _ _ _ (by decide)), (aI_f _ _ _ _ (by decide)), (aI_f _ _ _ _ (by decide)), (fun _ _ => aI_f _ _ _ _ (by decide)), (fun _ _ => ⟨aI_f _ _ _ _ (by decide), aI_f _ _ _ _ (by decide)⟩)⟩, ⟨rfl, rfl, rfl, rfl⟩, rfl, rfl⟩
theorem eqS_22 {A : aT} {s k : Nat} {v : Int32} : eqS A (aI A 22 k v) s := ⟨⟨(fun _ _ => aI_f _ _ _ _ (by decide)), (fun _ _ => aI_f _ _ _ _ (by decide)), (aI_f _ _ _ _ (by decide)), (aI_f _ _ _ _ (by decide)), (aI_f _ _ _ _ (by decide)), (aI_f _ _ _ _ (by decide)), (aI_f _ _ _ _ (by decide)), (fun _ _ => aI_f _ _ _ _ (by decide)), (aI_f _ _ _ _ (by decide)), (aI_f _ _ _ _ (by decide)), (aI_f _ _ _ _ (by decide)), (aI_f _ _ _ _ (by decide)), (fun _ _ => aI_f _ _ _ _ (by decide)), (fun _ _ => ⟨aI_f _ _ _ _ (by decide), aI_f _ _ _ _ (by decide)⟩)⟩, ⟨rfl, rfl, rfl, rfl⟩, rfl, rfl⟩
theorem eqS_23 {A : aT} {s k : Nat} {v : Int32} : eqS A (aI A 23 k v) s := ⟨⟨(fun _ _ => aI_f _ _ _ _ (by decide)), (fun _ _ => aI_f _ _ _ _ (by decide)), (aI_f _ _ _ _ (by decide)), (aI_f _ _ _ _ (by decide)), (aI_f _ _ _ _ (by decide)), (aI_f _ _ _ _ (by decide)), (aI_f _ _ _ _ (by decide)), (fun _ _ => aI_f _ _ _ _ (by decide)), (aI_f _ _ _ _ (by decide)), (aI_f _ _ _ _ (by decide)), (aI_f _ _ _ _ (by decide)), (aI_f _ _ _ _ (by decide)), (fun _ _ => aI_f _ _ _ _ (by decide)), (fun _ _ => ⟨aI_f _ _ _ _ (by decide), aI_f _ _ _ _ (by decide)⟩)⟩, ⟨rfl, rfl, rfl, rfl⟩, rfl, rfl⟩
theorem eqS_24 {A : aT} {s k : Nat} {v : Int32} : eqS A (aI A 24 k v) s := ⟨⟨(fun _ _ => aI_f _ _ _ _ (by decide)), (fun _ _ => aI_f _ _ _ _ (by decide)), (aI_f _ _ _ _ (by decide)), (aI_f _ _ _ _ (by decide)), (aI_f _ _ _ _ (by decide)), (aI_f _ _ _ _ (by decide)), (aI_f _ _ _ _ (by decide)), (fun _ _ => aI_f _ _ _ _ (by decide)), (aI_f _ _ _ _ (by decide)), (aI_f _ _ _ _ (by decide)), (aI_f _ _ _ _ (by decide)), (aI_f _ _ _ _ (by decide)), (fun _ _ => aI_f _ _ _ _ (by decide)), (fun _ _ => ⟨aI_f _ _ _ _ (by decide), aI_f _ _ _ _ (by decide)⟩)⟩, ⟨rfl, rfl, rfl, rfl⟩, rfl, rfl⟩
theorem eqS_25 {A : aT} {s k : Nat} {v : Int32} : eqS A (aI A 25 k v) s := ⟨⟨(fun _ _ => aI_f _ _ _ _ (by decide)), (fun _ _ => aI_f _ _ _ _ (by decide)), (aI_f _ _ _ _ (by decide)), (aI_f _ _ _ _ (by decide)), (aI_f _ _ _ _ (by decide)), (aI_f _ _ _ _ (by decide)), (aI_f _ _ _ _ (by decide)), (fun _ _ => aI_f _ _ _ _ (by decide)), (aI_f _ _ _ _ (by decide)), (aI_f _ _ _ _ (by decide)), (aI_f _ _ _ _ (by decide)), (aI_f _ _ _ _ (by decide)), (fun _ _ => aI_f _ _ _ _ (by decide)), (fun _ _ => ⟨aI_f _ _ _ _ (by decide), aI_f _ _ _ _ (by decide)⟩)⟩, ⟨rfl, rfl, rfl, rfl⟩, rfl, rfl⟩
theorem eqS_26 {A : aT} {s k : Nat} {v : Int32} : eqS A (aI A 26 k v) s := ⟨⟨(fun _ _ => aI_f _ _ _ _ (by decide)), (fun _ _ => aI_f _ _ _ _ (by decide)), (aI_f _ _ _ _ (by decide)), (aI_f _ _ _ _ (by decide)), (aI_f _ _ _ _ (by decide)), (aI_f _ _ _ _ (by decide)), (aI_f _ _ _ _ (by decide)), (fun _ _ => aI_f _ _ _ _ (by decide)), (aI_f _ _ _ _ (by decide)), (aI_f _ _ _ _ (by decide)), (aI_f _ _ _ _ (by decide)), (aI_f _ _ _ _ (by decide)), (fun _ _ => aI_f _ _ _ _ (by decide)), (fun _ _ => ⟨aI_f _ _ _ _ (by decide), aI_f _ _ _ _ (by decide)⟩)⟩, ⟨rfl, rfl, rfl, rfl⟩, rfl, rfl⟩
theorem eqS_27 {A : aT} {s k : Nat} {v : Int32} : eqS A (aI A 27 k v) s := ⟨⟨(fun _ _ => aI_f _ _ _ _ (by decide)), (fun _ _ => aI_f _ _ _ _ (by decide)), (aI_f _ _ _ _ (by decide)), (aI_f _ _ _ _ (by decide)), (aI_f _ _ _ _ (by decide)), (aI_f _ _ _ _ (by decide)), (aI_f _ _ _ _ (by decide)), (fun _ _ => aI_f _ _ _ _ (by decide)), (aI_f _ _ _ _ (by decide)), (aI_f _ _ _ _ (by decide)), (aI_f _ _ _ _ (by decide)), (aI_f _ _ _ _ (by decide)), (fun _ _ => aI_f _ _ _ _ (by decide)), (fun _ _ => ⟨aI_f _ _ _ _ (by decide), aI_f _ _ _ _ (by decide)⟩)⟩, ⟨rfl, rfl, rfl, rfl⟩, rfl, rfl⟩
theorem eqS_28 {A : aT} {s k : Nat} {v : Int32} : eqS A (aI A 28 k v) s := ⟨⟨(fun _ _ => aI_f _ _ _ _ (by decide)), (fun _ _ => aI_f _ _ _ _ (by decide)), (aI_f _ _ _ _ (by decide)), (aI_f _ _ _ _ (by decide)), (aI_f _ _ _ _ (by decide)), (aI_f _ _ _ _ (by decide)), (aI_f _ _ _ _ (by decide)), (fun _ _ => aI_f _ _ _ _ (by decide)), (aI_f _ _ _ _ (by decide)), (aI_f _ _ _ _ (by decide)), (aI_f _ _ _ _ (by decide)), (aI_f _ _ _ _ (by decide)), (fun _ _ => aI_f _ _ _ _ (by decide)), (fun _ _ => ⟨aI_f _ _ _ _ (by decide), aI_f _ _ _ _ (by decide)⟩)⟩, ⟨rfl, rfl, rfl, rfl⟩, rfl, rfl⟩
theorem eqS_29 {A : aT} {s k : Nat} {v : Int32} : eqS A (aI A 29 k v) s := ⟨⟨(fun _ _ => aI_f _ _ _ _ (by decide)), (fun _ _ => aI_f _ _ _ _ (by decide)), (aI_f _ _ _ _ (by decide)), (aI_f _ _ _ _ (by decide)), (aI_f _ _ _ _ (by decide)), (aI_f _ _ _ _ (by decide)), (aI_f _ _ _ _ (by decide)), (fun _ _ => aI_f _ _ _ _ (by decide)), (aI_f _ _ _ _ (by decide)), (aI_f _ _ _ _ (by decide)), (aI_f _ _ _ _ (by decide)), (aI_f _ _ _ _ (by decide)), (fun _ _ => aI_f _ _ _ _ (by decide)), (fun _ _ => ⟨aI_f _ _ _ _ (by decide), aI_f _ _ _ _ (by decide)⟩)⟩, ⟨rfl, rfl, rfl, rfl⟩, rfl, rfl⟩
theorem eqS_30 {A : aT} {s k : Nat} {v : Int32} : eqS A (aI A 30 k v) s := ⟨⟨(fun _ _ => aI_f _ _ _ _ (by decide)), (fun _ _ => aI_f _ _ _ _ (by decide)), (aI_f _ _ _ _ (by decide)), (aI_f _ _ _ _ (by decide)), (aI_f _ _ _ _ (by decide)), (aI_f _ _ _ _ (by decide)), (aI_f _ _ _ _ (by decide)), (fun _ _ => aI_f _ _ _ _ (by decide)), (aI_f _ _ _ _ (by decide)), (aI_f _ _ _ _ (by decide)), (aI_f _ _ _ _ (by decide)), (aI_f _ _ _ _ (by decide)), (fun _ _ => aI_f _ _ _ _ (by decide)), (fun _ _ => ⟨aI_f _ _ _ _ (by decide), aI_f _ _ _ _ (by decide)⟩)⟩, ⟨rfl, rfl, rfl, rfl⟩, rfl, rfl⟩
theorem eqS_31 {A : aT} {s k : Nat} {v : Int32} : eqS A (aI A 31 k v) s := ⟨⟨(fun _ _ => aI_f _ _ _ _ (by decide)), (fun _ _ => aI_f _ _ _ _ (by decide)), (aI_f _ _ _ _ (by decide)), (aI_f _ _ _ _ (by decide)), (aI_f _ _ _ _ (by decide)), (aI_f _ _ _ _ (by decide)), (aI_f _ _ _ _ (by decide)), (fun _ _ => aI_f _ _ _ _ (by decide)), (aI_f _ _ _ _ (by decide)), (aI_f _ _ _ _ (by decide)), (aI_f _ _ _ _ (by decide)), (aI_f _ _ _ _ (by decide)), (fun _ _ => aI_f _ _ _ _ (by decide)), (fun _ _ => ⟨aI_f _ _ _ _ (by decide), aI_f _ _ _ _ (by decide)⟩)⟩, ⟨rfl, rfl, rfl, rfl⟩, rfl, rfl⟩
theorem eqS_32 {A : aT} {s k : Nat} {v : Int32} : eqS A (aI A 32 k v) s := ⟨⟨(fun _ _ => aI_f _ _ _ _ (by decide)), (fun _ _ => aI_f _ _ _ _ (by decide)), (aI_f _ _ _ _ (by decide)), (aI_f _ _ _ _ (by decide)), (aI_f _ _ _ _ (by decide)), (aI_f _ _ _ _ (by decide)), (aI_f _ _ _ _ (by decide)), (fun _ _ => aI_f _ _ _ _ (by decide)), (aI_f _ _ _ _ (by decide)), (aI_f _ _ _ _ (by decide)), (aI_f _ _ _ _ (by decide)), (aI_f _ _ _ _ (by decide)), (fun _ _ => aI_f _ _ _ _ (by decide)), (fun _ _ => ⟨aI_f _ _ _ _ (by decide), aI_f _ _ _ _ (by decide)⟩)⟩, ⟨rfl, rfl, rfl, rfl⟩, rfl, rfl⟩
theorem eqS_33 {A : aT} {s k : Nat} {v : Int32} : eqS A (aI A 33 k v) s := ⟨⟨(fun _ _ => aI_f _ _ _ _ (by decide)), (fun _ _ => aI_f _ _ _ _ (by decide)), (aI_f _ _ _ _ (by decide)), (aI_f _ _ _ _ (by decide)), (aI_f _ _ _ _ (by decide)), (aI_f _ _ _ _ (by decide)), (aI_f _ _ _ _ (by decide)), (fun _ _ => aI_f _ _ _ _ (by decide)), (aI_f _ _ _ _ (by decide)), (aI_f _ _ _ _ (by decide)), (aI_f _ _ _ _ (by decide)), (aI_f _ _ _ _ (by decide)), (fun _ _ => aI_f _ _ _ _ (by decide)), (fun _ _ => ⟨aI_f _ _ _ _ (by decide), aI_f _ _ _ _ (by decide)⟩)⟩, ⟨rfl, rfl, rfl, rfl⟩, rfl, rfl⟩
theorem eqS_40 {A : aT} {s k : Nat} {v : Int32} (h : ∀ z, z < 36 → 36 * s + z ≠ k) : eqS A (aI A 40 k v) s := ⟨⟨(fun _ _ => aI_f _ _ _ _ (by decide)), (fun _ _ => aI_f _ _ _ _ (by decide)), (aI_f _ _ _ _ (by decide)), (aI_f _ _ _ _ (by decide)), (aI_f _ _ _ _ (by decide)), (aI_f _ _ _ _ (by decide)), (aI_f _ _ _ _ (by decide)), (fun _ _ => aI_f _ _ _ _ (by decide)), (aI_f _ _ _ _ (by decide)), (aI_f _ _ _ _ (by decide)), (aI_f _ _ _ _ (by decide)), (aI_f _ _ _ _ (by decide)), (fun _ _ => aI_f _ _ _ _ (by decide)), (fun z hz => ⟨aI_k _ _ _ (h z hz), aI_f _ _ _ _ (by decide)⟩)⟩, ⟨rfl, rfl, rfl, rfl⟩, rfl, rfl⟩
theorem eqS_41 {A : aT} {s k : Nat} {v : Int32} (h : ∀ z, z < 36 → 36 * s + z ≠ k) : eqS A (aI A 41 k v) s := ⟨⟨(fun _ _ => aI_f _ _ _ _ (by decide)), (fun _ _ => aI_f _ _ _ _ (by decide)), (aI_f _ _ _ _ (by decide)), (aI_f _ _ _ _ (by decide)), (aI_f _ _ _ _ (by decide)), (aI_f _ _ _ _ (by decide)), (aI_f _ _ _ _ (by decide)), (fun _ _ => aI_f _ _ _ _ (by decide)), (aI_f _ _ _ _ (by decide)), (aI_f _ _ _ _ (by decide)), (aI_f _ _ _ _ (by decide)), (aI_f _ _ _ _ (by decide)), (fun _ _ => aI_f _ _ _ _ (by decide)), (fun z hz => ⟨aI_f _ _ _ _ (by decide), aI_k _ _ _ (h z hz)⟩)⟩, ⟨rfl, rfl, rfl, rfl⟩, rfl, rfl⟩
theorem eqK_0 {A : aT} {l k : Nat} {v : Int32} : eqK A (aI A 0 k v) l := ⟨⟨aI_f _ _ _ _ (by decide), aI_f _ _ _ _ (by decide), aI_f _ _ _ _ (by decide), aI_f _ _ _ _ (by decide), aI_f _ _ _ _ (by decide), aI_f _ _ _ _ (by decide), aI_f _ _ _ _ (by decide), aI_f _ _ _ _ (by decide), aI_f _ _ _ _ (by decide), aI_f _ _ _ _ (by decide), aI_f _ _ _ _ (by decide), aI_f _ _ _ _ (by decide), aI_f _ _ _ _ (by decide), aI_f _ _ _ _ (by decide)⟩, ⟨rfl, rfl⟩, rfl, rfl⟩
theorem eqK_1 {A : aT} {l k : Nat} {v : Int32} : eqK A (aI A 1 k v) l := ⟨⟨aI_f _ _ _ _ (by decide), aI_f _ _ _ _ (by decide), aI_f _ _ _ _ (by decide), aI_f _ _ _ _ (by decide), aI_f _ _ _ _ (by decide), aI_f _ _ _ _ (by decide), aI_f _ _ _ _ (by decide), aI_f _ _ _ _ (by decide), aI_f _ _ _ _ (by decide), aI_f _ _ _ _ (by decide), aI_f _ _ _ _ (by decide), aI_f _ _ _ _ (by decide), aI_f _ _ _ _ (by decide), aI_f _ _ _ _ (by decide)⟩, ⟨rfl, rfl⟩, rfl, rfl⟩
theorem eqK_2 {A : aT} {l k : Nat} {v : Int32} : eqK A (aI A 2 k v) l := ⟨⟨aI_f _ _ _ _ (by decide), aI_f _ _ _ _ (by decide), aI_f _ _ _ _ (by decide), aI_f _ _ _ _ (by decide), aI_f _ _ _ _ (by decide), aI_f _ _ _ _ (by decide), aI_f _ _ _ _ (by decide), aI_f _ _ _ _ (by decide), aI_f _ _ _ _ (by decide), aI_f _ _ _ _ (by decide), aI_f _ _ _ _ (by decide), aI_f _ _ _ _ (by decide), aI_f _ _ _ _ (by decide), aI_f _ _ _ _ (by decide)⟩, ⟨rfl, rfl⟩, rfl, rfl⟩
theorem eqK_3 {A : aT} {l k : Nat} {v : Int32} : eqK A (aI A 3 k v) l := ⟨⟨aI_f _ _ _ _ (by decide), aI_f _ _ _ _ (by decide), aI_f _ _ _ _ (by decide), aI_f _ _ _ _ (by decide), aI_f _ _ _ _ (by decide), aI_f _ _ _ _ (by decide), aI_f _ _ _ _ (by decide), aI_f _ _ _ _ (by decide), aI_f _ _ _ _ (by decide), aI_f _ _ _ _ (by decide), aI_f _ _ _ _ (by decide), aI_f _ _ _ _ (by decide), aI_f _ _ _ _ (by decide), aI_f _ _ _ _ (by decide)⟩, ⟨rfl, rfl⟩, rfl, rfl⟩
theorem eqK_4 {A : aT} {l k : Nat} {v : Int32} : eqK A (aI A 4 k v) l := ⟨⟨aI_f _ _ _ _ (by decide), aI_f _ _ _ _ (by decide), aI_f _ _ _ _ (by decide), aI_f _ _ _ _ (by decide), aI_f _ _ _ _ (by decide), aI_f _ _ _ _ (by decide), aI_f _ _ _ _ (by decide), aI_f _ _ _ _ (by decide), aI_f _ _ _ _ (by decide), aI_f _ _ _ _ (by decide), aI_f _ _ _ _ (by decide), aI_f _ _ _ _ (by decide), aI_f _ _ _ _ (by decide), aI_f _ _ _ _ (by decide)⟩, ⟨rfl, rfl⟩, rfl, rfl⟩
theorem eqK_5 {A : aT} {l k : Nat} {v : Int32} : eqK A (aI A 5 k v) l := ⟨⟨aI_f _ _ _ _ (by decide), aI_f _ _ _ _ (by decide), aI_f _ _ _ _ (by decide), aI_f _ _ _ _ (by decide), aI_f _ _ _ _ (by decide), aI_f _ _ _ _ (by decide), aI_f _ _ _ _ (by decide), aI_f _ _ _ _ (by decide), aI_f _ _ _ _ (by decide), aI_f _ _ _ _ (by decide), aI_f _ _ _ _ (by decide), aI_f _ _ _ _ (by decide), aI_f _ _ _ _ (by decide), aI_f _ _ _ _ (by decide)⟩, ⟨rfl, rfl⟩, rfl, rfl⟩
theorem eqK_6 {A : aT} {l k : Nat} {v : Int32} : eqK A (aI A 6 k v) l := ⟨⟨aI_f _ _ _ _ (by decide), aI_f _ _ _ _ (by decide), aI_f _ _ _ _ (by decide), aI_f _ _ _ _ (by decide), aI_f _ _ _ _ (by decide), aI_f _ _ _ _ (by decide), aI_f _ _ _ _ (by decide), aI_f _ _ _ _ (by decide), aI_f _ _ _ _ (by decide), aI_f _ _ _ _ (by decide), aI_f _ _ _ _ (by decide), aI_f _ _ _ _ (by decide), aI_f _ _ _ _ (by decide), aI_f _ _ _ _ (by decide)⟩, ⟨rfl, rfl⟩, rfl, rfl⟩
theorem eqK_7 {A : aT} {l k : Nat} {v : Int32} : eqK A (aI A 7 k v) l := ⟨⟨aI_f _ _ _ _ (by decide), aI_f _ _ _ _ (by decide), aI_f _ _ _ _ (by decide), aI_f _ _ _ _ (by decide), aI_f _ _ _ _ (by decide), aI_f _ _ _ _ (by decide), aI_f _ _ _ _ (by decide), aI_f _ _ _ _ (by decide), aI_f _ _ _ _ (by decide), aI_f _ _ _ _ (by decide), aI_f _ _ _ _ (by decide), aI_f _ _ _ _ (by decide), aI_f _ _ _ _ (by decide), aI_f _ _ _ _ (by decide)⟩, ⟨rfl, rfl⟩, rfl, rfl⟩
theorem eqK_8 {A : aT} {l k : Nat} {v : Int32} : eqK A (aI A 8 k v) l := ⟨⟨aI_f _ _ _ _ (by decide), aI_f _ _ _ _ (by decide), aI_f _ _ _ _ (by decide), aI_f _ _ _ _ (by decide), aI_f _ _ _ _ (by decide), aI_f _ _ _ _ (by decide), aI_f _ _ _ _ (by decide), aI_f _ _ _ _ (by decide), aI_f _ _ _ _ (by decide), aI_f _ _ _ _ (by decide), aI_f _ _ _ _ (by decide), aI_f _ _ _ _ (by decide), aI_f _ _ _ _ (by decide), aI_f _ _ _ _ (by decide)⟩, ⟨rfl, rfl⟩, rfl, rfl⟩
theorem eqK_9 {A : aT} {l k : Nat} {v : Int32} : eqK A (aI A 9 k v) l := ⟨⟨aI_f _ _ _ _ (by decide), aI_f _ _ _ _ (by decide), aI_f _ _ _ _ (by decide), aI_f _ _ _ _ (by decide), aI_f _ _ _ _ (by decide), aI_f _ _ _ _ (by decide), aI_f _ _ _ _ (by decide), aI_f _ _ _ _ (by decide), aI_f _ _ _ _ (by decide), aI_f _ _ _ _ (by decide), aI_f _ _ _ _ (by decide), aI_f _ _ _ _ (by decide), aI_f _ _ _ _ (by decide), aI_f _ _ _ _ (by decide)⟩, ⟨rfl, rfl⟩, rfl, rfl⟩
theorem eqK_10 {A : aT} {l k : Nat} {v : Int32} : eqK A (aI A 10 k v) l := ⟨⟨aI_f _ _ _ _ (by decide), aI_f _ _ _ _ (by decide), aI_f _ _ _ _ (by decide), aI_f _ _ _ _ (by decide), aI_f _ _ _ _ (by decide), aI_f _ _ _ _ (by decide), aI_f _ _ _ _ (by decide), aI_f _ _ _ _ (by decide), aI_f _ _ _ _ (by decide), aI_f _ _ _ _ (by decide), aI_f _ _ _ _ (by decide), aI_f _ _ _ _ (by decide), aI_f _ _ _ _ (by decide), aI_f _ _ _ _ (by decide)⟩, ⟨rfl, rfl⟩, rfl, rfl⟩
theorem eqK_11 {A : aT} {l k : Nat} {v : Int32} : eqK A (aI A 11 k v) l := ⟨⟨aI_f _ _ _ _ (by decide), aI_f _ _ _ _ (by decide), aI_f _ _ _ _ (by decide), aI_f _ _ _ _ (by decide), aI_f _ _ _ _ (by decide), aI_f _ _ _ _ (by decide), aI_f _ _ _ _ (by decide), aI_f _ _ _ _ (by decide), aI_f _ _ _ _ (by decide), aI_f _ _ _ _ (by decide), aI_f _ _ _ _ (by decide), aI_f _ _ _ _ (by decide), aI_f _ _ _ _ (by decide), aI_f _ _ _ _ (by decide)⟩, ⟨rfl, rfl⟩, rfl, rfl⟩
theorem eqK_12 {A : aT} {l k : Nat} {v : Int32} : eqK A (aI A 12 k v) l := ⟨⟨aI_f _ _ _ _ (by decide), aI_f _ _ _ _ (by decide), aI_f _ _ _ _ (by decide), aI_f _ _ _ _ (by decide), aI_f _ _ _ _ (by decide), aI_f _ _ _ _ (by decide), aI_f _ _ _ _ (by decide), aI_f _ _ _ _ (by decide), aI_f _ _ _ _ (by decide), aI_f _ _ _ _ (by decide), aI_f _ _ _ _ (by decide), aI_f _ _ _ _ (by decide), aI_f _ _ _ _ (by decide), aI_f _ _ _ _ (by decide)⟩, ⟨rfl, rfl⟩, rfl, rfl⟩
theorem eqK_20 {A : aT} {l k : Nat} {v : Int32} (h : l ≠ k) : eqK A (aI A 20 k v) l := ⟨⟨aI_k _ _ _ h, aI_f _ _ _ _ (by decide), aI_f _ _ _ _ (by decide), aI_f _ _ _ _ (by decide), aI_f _ _ _ _ (by decide), aI_f _ _ _ _ (by decide), aI_f _ _ _ _ (by decide), aI_f _ _ _ _ (by decide), aI_f _ _ _ _ (by decide), aI_f _ _ _ _ (by decide), aI_f _ _ _ _ (by decide), aI_f _ _ _ _ (by decide), aI_f _ _ _ _ (by decide), aI_f _ _ _ _ (by decide)⟩, ⟨rfl, rfl⟩, rfl, rfl⟩
theorem eqK_21 {A : aT} {l k : Nat} {v : Int32} (h : l ≠ k) : eqK A (aI A 21 k v) l := ⟨⟨aI_f _ _ _ _ (by decide), aI_k _ _ _ h, aI_f _ _ _ _ (by decide), aI_f _ _ _ _ (by decide), aI_f _ _ _ _ (by decide), aI_f _ _ _ _ (by decide), aI_f _ _ _ _ (by decide), aI_f _ _ _ _ (by decide), aI_f _ _ _ _ (by decide), aI_f _ _ _ _ (by decide), aI_f _ _ _ _ (by decide), aI_f _ _ _ _ (by decide), aI_f _ _ _ _ (by decide), aI_f _ _ _ _ (by decide)⟩, ⟨rfl, rfl⟩, rfl, rfl⟩
theorem eqK_22 {A : aT} {l k : Nat} {v : Int32} (h : l ≠ k) : eqK A (aI A 22 k v) l := ⟨⟨aI_f _ _ _ _ (by decide), aI_f _ _ _ _ (by decide), aI_k _ _ _ h, aI_f _ _ _ _ (by decide), aI_f _ _ _ _ (by decide), aI_f _ _ _ _ (by decide), aI_f _ _ _ _ (by decide), aI_f _ _ _ _ (by decide), aI_f _ _ _ _ (by decide), aI_f _ _ _ _ (by decide), aI_f _ _ _ _ (by decide), aI_f _ _ _ _ (by decide), aI_f _ _ _ _ (by decide), aI_f _ _ _ _ (by decide)⟩, ⟨rfl, rfl⟩, rfl, rfl⟩
theorem eqK_23 {A : aT} {l k : Nat} {v : Int32} (h : l ≠ k) : eqK A (aI A 23 k v) l := ⟨⟨aI_f _ _ _ _ (by decide), aI_f _ _ _ _ (by decide), aI_f _ _ _ _ (by decide), aI_k _ _ _ h, aI_f _ _ _ _ (by decide), aI_f _ _ _ _ (by decide), aI_f _ _ _ _ (by decide), aI_f _ _ _ _ (by decide), aI_f _ _ _ _ (by decide), aI_f _ _ _ _ (by decide), aI_f _ _ _ _ (by decide), aI_f _ _ _ _ (by decide), aI_f _ _ _ _ (by decide), aI_f _ _ _ _ (by decide)⟩, ⟨rfl, rfl⟩, rfl, rfl⟩
theorem eqK_24 {A : aT} {l k : Nat} {v : Int32} (h : l ≠ k) : eqK A (aI A 24 k v) l := ⟨⟨aI_f _ _ _ _ (by decide), aI_f _ _ _ _ (by decide), aI_f _ _ _ _ (by decide), aI_f _ _ _ _ (by decide), aI_k _ _ _ h, aI_f _ _ _ _ (by decide), aI_f _ _ _ _ (by decide), aI_f _ _ _ _ (by decide), aI_f _ _ _ _ (by decide), aI_f _ _ _ _ (by decide), aI_f _ _ _ _ (by decide), aI_f _ _ _ _ (by decide), aI_f _ _ _ _ (by decide), aI_f _ _ _ _ (by decide)⟩, ⟨rfl, rfl⟩, rfl, rfl⟩
theorem eqK_25 {A : aT} {l k : Nat} {v : Int32} (h : l ≠ k) : eqK A (aI A 25 k v) l := ⟨⟨aI_f _ _ _ _ (by decide), aI_f _ _ _ _ (by decide), aI_f _ _ _ _ (by decide), aI_f _ _ _ _ (by decide), aI_f _ _ _ _ (by decide), aI_k _ _ _ h, aI_f _ _ _ _ (by decide), aI_f _ _ _ _ (by decide), aI_f _ _ _ _ (by decide), aI_f _ _ _ _ (by decide), aI_f _ _ _ _ (by decide), aI_f _ _ _ _ (by decide), aI_f _ _ _ _ (by decide), aI_f _ _ _ _ (by decide)⟩, ⟨rfl, rfl⟩, rfl, rfl⟩
theorem eqK_26 {A : aT} {l k : Nat} {v : Int32} (h : l ≠ k) : eqK A (aI A 26 k v) l := ⟨⟨aI_f _ _ _ _ (by decide), aI_f _ _ _ _ (by decide), aI_f _ _ _ _ (by decide), aI_f _ _ _ _ (by decide), aI_f _ _ _ _ (by decide), aI_f _ _ _ _ (by decide), aI_k _ _ _ h, aI_f _ _ _ _ (by decide), aI_f _ _ _ _ (by decide), aI_f _ _ _ _ (by decide), aI_f _ _ _ _ (by decide), aI_f _ _ _ _ (by decide), aI_f _ _ _ _ (by decide), aI_f _ _ _ _ (by decide)⟩, ⟨rfl, rfl⟩, rfl, rfl⟩
theorem eqK_27 {A : aT} {l k : Nat} {v : Int32} (h : l ≠ k) : eqK A (aI A 27 k v) l := ⟨⟨aI_f _ _ _ _ (by decide), aI_f _ _ _ _ (by decide), aI_f _ _ _ _ (by decide), aI_f _ _ _ _ (by decide), aI_f _ _ _ _ (by decide), aI_f _ _ _ _ (by decide), aI_f _ _ _ _ (by decide), aI_k _ _ _ h, aI_f _ _ _ _ (by decide), aI_f _ _ _ _ (by decide), aI_f _ _ _ _ (by decide), aI_f _ _ _ _ (by decide), aI_f _ _ _ _ (by decide), aI_f _ _ _ _ (by decide)⟩, ⟨rfl, rfl⟩, rfl, rfl⟩
theorem eqK_28 {A : aT} {l k : Nat} {v : Int32} (h : l ≠ k) : eqK A (aI A 28 k v) l := ⟨⟨aI_f _ _ _ _ (by decide), aI_f _ _ _ _ (by decide), aI_f _ _ _ _ (by decide), aI_f _ _ _ _ (by decide), aI_f _ _ _ _ (by decide), aI_f _ _ _ _ (by decide), aI_f _ _ _ _ (by decide), aI_f _ _ _ _ (by decide), aI_k _ _ _ h, aI_f _ _ _ _ (by decide), aI_f _ _ _ _ (by decide), aI_f _ _ _ _ (by decide), aI_f _ _ _ _ (by decide), aI_f _ _ _ _ (by decide)⟩, ⟨rfl, rfl⟩, rfl, rfl⟩
theorem eqK_29 {A : aT} {l k : Nat} {v : Int32} (h : l ≠ k) : eqK A (aI A 29 k v) l := ⟨⟨aI_f _ _ _ _ (by decide), aI_f _ _ _ _ (by decide), aI_f _ _ _ _ (by decide), aI_f _ _ _ _ (by decide), aI_f _ _ _ _ (by decide), aI_f _ _ _ _ (by decide), aI_f _ _ _ _ (by decide), aI_f _ _ _ _ (by decide), aI_f _ _ _ _ (by decide), aI_k _ _ _ h, aI_f _ _ _ _ (by decide), aI_f _ _ _ _ (by decide), aI_f _ _ _ _ (by decide), aI_f _ _ _ _ (by decide)⟩, ⟨rfl, rfl⟩, rfl, rfl⟩
theorem eqK_30 {A : aT} {l k : Nat} {v : Int32} (h : l ≠ k) : eqK A (aI A 30 k v) l := ⟨⟨aI_f _ _ _ _ (by decide), aI_f _ _ _ _ (by decide), aI_f _ _ _ _ (by decide), aI_f _ _ _ _ (by decide), aI_f _ _ _ _ (by decide), aI_f _ _ _ _ (by decide), aI_f _ _ _ _ (by decide), aI_f _ _ _ _ (by decide), aI_f _ _ _ _ (by decide), aI_f _ _ _ _ (by decide), aI_k _ _ _ h, aI_f _ _ _ _ (by decide), aI_f _ _ _ _ (by decide), aI_f _ _ _ _ (by decide)⟩, ⟨rfl, rfl⟩, rfl, rfl⟩
theorem eqK_31 {A : aT} {l k : Nat} {v : Int32} (h : l ≠ k) : eqK A (aI A 31 k v) l := ⟨⟨aI_f _ _ _ _ (by decide), aI_f _ _ _ _ (by decide), aI_f _ _ _ _ (by decide), aI_f _ _ _ _ (by decide), aI_f _ _ _ _ (by decide), aI_f _ _ _ _ (by decide), aI_f _ _ _ _ (by decide), aI_f _ _ _ _ (by decide), aI_f _ _ _ _ (by decide), aI_f _ _ _ _ (by decide), aI_f _ _ _ _ (by decide), aI_k _ _ _ h, aI_f _ _ _ _ (by decide), aI_f _ _ _ _ (by decide)⟩, ⟨rfl, rfl⟩, rfl, rfl⟩
theorem eqK_32 {A : aT} {l k : Nat} {v : Int32} (h : l ≠ k) : eqK A (aI A 32 k v) l := ⟨⟨aI_f _ _ _ _ (by decide), aI_f _ _ _ _ (by decide), aI_f _ _ _ _ (by decide), aI_f _ _ _ _ (by decide), aI_f _ _ _ _ (by decide), aI_f _ _ _ _ (by decide), aI_f _ _ _ _ (by decide), aI_f _ _ _ _ (by decide), aI_f _ _ _ _ (by decide), aI_f _ _ _ _ (by decide), aI_f _ _ _ _ (by decide), aI_f _ _ _ _ (by decide), aI_k _ _ _ h, aI_f _ _ _ _ (by decide)⟩, ⟨rfl, rfl⟩, rfl, rfl⟩
theorem eqK_33 {A : aT} {l k : Nat} {v : Int32} (h : l ≠ k) : eqK A (aI A 33 k v) l := ⟨⟨aI_f _ _ _ _ (by decide), aI_f _ _ _ _ (by decide), aI_f _ _ _ _ (by decide), aI_f _ _ _ _ (by decide), aI_f _ _ _ _ (by decide), aI_f _ _ _ _ (by decide), aI_f _ _ _ _ (by decide), aI_f _ _ _ _ (by decide), aI_f _ _ _ _ (by decide), aI_f _ _ _ _ (by decide), aI_f _ _ _ _ (by decide), aI_f _ _ _ _ (by decide), aI_f _ _ _ _ (by decide), aI_k _ _ _ h⟩, ⟨rfl, rfl⟩, rfl, rfl⟩
theorem eqK_40 {A : aT} {l k : Nat} {v : Int32} : eqK A (aI A 40 k v) l := ⟨⟨aI_f _ _ _ _ (by decide), aI_f _ _ _ _ (by decide), aI_f _ _ _ _ (by decide), aI_f _ _ _ _ (by decide), aI_f _ _ _ _ (by decide), aI_f _ _ _ _ (by decide), aI_f _ _ _ _ (by decide), aI_f _ _ _ _ (by decide), aI_f _ _ _ _ (by decide), aI_f _ _ _ _ (by decide), aI_f _ _ _ _ (by decide), aI_f _ _ _ _ (by decide), aI_f _ _ _ _ (by decide), aI_f _ _ _ _ (by decide)⟩, ⟨rfl, rfl⟩, rfl, rfl⟩
theorem eqK_41 {A : aT} {l k : Nat} {v : Int32} : eqK A (aI A 41 k v) l := ⟨⟨aI_f _ _ _ _ (by decide), aI_f _ _ _ _ (by decide), aI_f _ _ _ _ (by decide), aI_f _ _ _ _ (by decide), aI_f _ _ _ _ (by decide), aI_f _ _ _ _ (by decide), aI_f _ _ _ _ (by decide), aI_f _ _ _ _ (by decide), aI_f _ _ _ _ (by decide), aI_f _ _ _ _ (by decide), aI_f _ _ _ _ (by decide), aI_f _ _ _ _ (by decide), aI_f _ _ _ _ (by decide), aI_f _ _ _ _ (by decide)⟩, ⟨rfl, rfl⟩, rfl, rfl⟩
theorem eqSL_2 {A : aT} {s k : Nat} {l : List Int32} (h : s ≠ k) : eqS A (aL A 2 k l) s := ⟨⟨fun _ _ => rfl, fun _ _ => rfl, rfl, rfl, rfl, rfl, rfl, fun _ _ => rfl, rfl, rfl, rfl, rfl, fun _ _ => rfl, fun _ _ => ⟨rfl, rfl⟩⟩, ⟨aL_k _ _ _ h, aL_f _ _ _ _ (by decide), aL_f _ _ _ _ (by decide), aL_f _ _ _ _ (by decide)⟩, rfl, rfl⟩
theorem eqKL_2 {A : aT} {j k : Nat} {l : List Int32} : eqK A (aL A 2 k l) j := ⟨⟨rfl, rfl, rfl, rfl, rfl, rfl, rfl, rfl, rfl, rfl, rfl, rfl, rfl, rfl⟩, ⟨aL_f _ _ _ _ (by decide), aL_f _ _ _ _ (by decide)⟩, rfl, rfl⟩
theorem eqSL_3 {A : aT} {s k : Nat} {l : List Int32} (h : s ≠ k) : eqS A (aL A 3 k l) s := ⟨⟨fun _ _ => rfl, fun _ _ => rfl, rfl, rfl, rfl, rfl, rfl, fun _ _ => rfl, rfl, rfl, rfl, rfl, fun _ _ => rfl, fun _ _ => ⟨rfl, rfl⟩⟩, ⟨aL_f _ _ _ _ (by decide), aL_k _ _ _ h, aL_f _ _ _ _ (by decide), aL_f _ _ _ _ (by decide)⟩, rfl, rfl⟩
theorem eqKL_3 {A : aT} {j k : Nat} {l : List Int32} : eqK A (aL A 3 k l) j := ⟨⟨rfl, rfl, rfl, rfl, rfl, rfl, rfl, rfl, rfl, rfl, rfl, rfl, rfl, rfl⟩, ⟨aL_f _ _ _ _ (by decide), aL_f _ _ _ _ (by decide)⟩, rfl, rfl⟩
theorem eqSL_4 {A : aT} {s k : Nat} {l : List Int32} (h : s ≠ k) : eqS A (aL A 4 k l) s := ⟨⟨fun _ _ => rfl, fun _ _ => rfl, rfl, rfl, rfl, rfl, rfl, fun _ _ => rfl, rfl, rfl, rfl, rfl, fun _ _ => rfl, fun _ _ => ⟨rfl, rfl⟩⟩, ⟨aL_f _ _ _ _ (by decide), aL_f _ _ _ _ (by decide), aL_k _ _ _ h, aL_f _ _ _ _ (by decide)⟩, rfl, rfl⟩
theorem eqKL_4 {A : aT} {j k : Nat} {l : List Int32} : eqK A (aL A 4 k l) j := ⟨⟨rfl, rfl, rfl, rfl, rfl, rfl, rfl, rfl, rfl, rfl, rfl, rfl, rfl, rfl⟩, ⟨aL_f _ _ _ _ (by decide), aL_f _ _ _ _ (by decide)⟩, rfl, rfl⟩
theorem eqSL_5 {A : aT} {s k : Nat} {l : List Int32} (h : s ≠ k) : eqS A (aL A 5 k l) s := ⟨⟨fun _ _ => rfl, fun _ _ => rfl, rfl, rfl, rfl, rfl, rfl, fun _ _ => rfl, rfl, rfl, rfl, rfl, fun _ _ => rfl, fun _ _ => ⟨rfl, rfl⟩⟩, ⟨aL_f _ _ _ _ (by decide), aL_f _ _ _ _ (by decide), aL_f _ _ _ _ (by decide), aL_k _ _ _ h⟩, rfl, rfl⟩
theorem eqKL_5 {A : aT} {j k : Nat} {l : List Int32} : eqK A (aL A 5 k l) j := ⟨⟨rfl, rfl, rfl, rfl, rfl, rfl, rfl, rfl, rfl, rfl, rfl, rfl, rfl, rfl⟩, ⟨aL_f _ _ _ _ (by decide), aL_f _ _ _ _ (by decide)⟩, rfl, rfl⟩
theorem eqSL_10 {A : aT} {s k : Nat} {l : List Int32} : eqS A (aL A 10 k l) s := ⟨⟨fun _ _ => rfl, fun _ _ => rfl, rfl, rfl, rfl, rfl, rfl, fun _ _ => rfl, rfl, rfl, rfl, rfl, fun _ _ => rfl, fun _ _ => ⟨rfl, rfl⟩⟩, ⟨aL_f _ _ _ _ (by decide), aL_f _ _ _ _ (by decide), aL_f _ _ _ _ (by decide), aL_f _ _ _ _ (by decide)⟩, rfl, rfl⟩
theorem eqKL_10 {A : aT} {j k : Nat} {l : List Int32} (h : j ≠ k) : eqK A (aL A 10 k l) j := ⟨⟨rfl, rfl, rfl, rfl, rfl, rfl, rfl, rfl, rfl, rfl, rfl, rfl, rfl, rfl⟩, ⟨aL_k _ _ _ h, aL_f _ _ _ _ (by decide)⟩, rfl, rfl⟩
theorem eqSL_11 {A : aT} {s k : Nat} {l : List Int32} : eqS A (aL A 11 k l) s := ⟨⟨fun _ _ => rfl, fun _ _ => rfl, rfl, rfl, rfl, rfl, rfl, fun _ _ => rfl, rfl, rfl, rfl, rfl, fun _ _ => rfl, fun _ _ => ⟨rfl, rfl⟩⟩, ⟨aL_f _ _ _ _ (by decide), aL_f _ _ _ _ (by decide), aL_f _ _ _ _ (by decide), aL_f _ _ _ _ (by decide)⟩, rfl, rfl⟩
theorem eqKL_11 {A : aT} {j k : Nat} {l : List Int32} (h : j ≠ k) : eqK A (aL A 11 k l) j := ⟨⟨rfl, rfl, rfl, rfl, rfl, rfl, rfl, rfl, rfl, rfl, rfl, rfl, rfl, rfl⟩, ⟨aL_f _ _ _ _ (by decide), aL_k _ _ _ h⟩, rfl, rfl⟩
theorem eqSQ_0 {A : aT} {s k : Nat} {l : List (List Int32)} (h : s ≠ k) : eqS A (aQ A 0 k l) s := ⟨⟨fun _ _ => rfl, fun _ _ => rfl, rfl, rfl, rfl, rfl, rfl, fun _ _ => rfl, rfl, rfl, rfl, rfl, fun _ _ => rfl, fun _ _ => ⟨rfl, rfl⟩⟩, ⟨rfl, rfl, rfl, rfl⟩, aQ_k _ _ _ h, aQ_f _ _ _ _ (by decide)⟩
theorem eqKQ_0 {A : aT} {j k : Nat} {l : List (List Int32)} : eqK A (aQ A 0 k l) j := ⟨⟨rfl, rfl, rfl, rfl, rfl, rfl, rfl, rfl, rfl, rfl, rfl, rfl, rfl, rfl⟩, ⟨rfl, rfl⟩, aQ_f _ _ _ _ (by decide), aQ_f _ _ _ _ (by decide)⟩
theorem eqSQ_1 {A : aT} {s k : Nat} {l : List (List Int32)} (h : s ≠ k) : eqS A (aQ A 1 k l) s := ⟨⟨fun _ _ => rfl, fun _ _ => rfl, rfl, rfl, rfl, rfl, rfl, fun _ _ => rfl, rfl, rfl, rfl, rfl, fun _ _ => rfl, fun _ _ => ⟨rfl, rfl⟩⟩, ⟨rfl, rfl, rfl, rfl⟩, aQ_f _ _ _ _ (by decide), aQ_k _ _ _ h⟩
theorem eqKQ_1 {A : aT} {j k : Nat} {l : List (List Int32)} : eqK A (aQ A 1 k l) j := ⟨⟨rfl, rfl, rfl, rfl, rfl, rfl, rfl, rfl, rfl, rfl, rfl, rfl, rfl, rfl⟩, ⟨rfl, rfl⟩, aQ_f _ _ _ _ (by decide), aQ_f _ _ _ _ (by decide)⟩
theorem eqSQ_2 {A : aT} {s k : Nat} {l : List (List Int32)} : eqS A (aQ A 2 k l) s := ⟨⟨fun _ _ => rfl, fun _ _ => rfl, rfl, rfl, rfl, rfl, rfl, fun _ _ => rfl, rfl, rfl, rfl, rfl, fun _ _ => rfl, fun _ _ => ⟨rfl, rfl⟩⟩, ⟨rfl, rfl, rfl, rfl⟩, aQ_f _ _ _ _ (by decide), aQ_f _ _ _ _ (by decide)⟩
theorem eqKQ_2 {A : aT} {j k : Nat} {l : List (List Int32)} (h : j ≠ k) : eqK A (aQ A 2 k l) j := ⟨⟨rfl, rfl, rfl, rfl, rfl, rfl, rfl, rfl, rfl, rfl, rfl, rfl, rfl, rfl⟩, ⟨rfl, rfl⟩, aQ_k _ _ _ h, aQ_f _ _ _ _ (by decide)⟩
theorem eqSQ_3 {A : aT} {s k : Nat} {l : List (List Int32)} : eqS A (aQ A 3 k l) s := ⟨⟨fun _ _ => rfl, fun _ _ => rfl, rfl, rfl, rfl, rfl, rfl, fun _ _ => rfl, rfl, rfl, rfl, rfl, fun _ _ => rfl, fun _ _ => ⟨rfl, rfl⟩⟩, ⟨rfl, rfl, rfl, rfl⟩, aQ_f _ _ _ _ (by decide), aQ_f _ _ _ _ (by decide)⟩
theorem eqKQ_3 {A : aT} {j k : Nat} {l : List (List Int32)} (h : j ≠ k) : eqK A (aQ A 3 k l) j := ⟨⟨rfl, rfl, rfl, rfl, rfl, rfl, rfl, rfl, rfl, rfl, rfl, rfl, rfl, rfl⟩, ⟨rfl, rfl⟩, aQ_f _ _ _ _ (by decide), aQ_k _ _ _ h⟩
theorem eqS_t {A B C : aT} {s : Nat} (h : eqS A B s) (g : eqS B C s) : eqS A C s := by
  obtain ⟨⟨a1, a2, a3, a4, a5, a6, a7, a8, a9, a10, a11, a12, a13, a14⟩, ⟨b1, b2, b3, b4⟩, b5, b6⟩ := h
  obtain ⟨⟨c1, c2, c3, c4, c5, c6, c7, c8, c9, c10, c11, c12, c13, c14⟩, ⟨d1, d2, d3, d4⟩, d5, d6⟩ := g
  exact ⟨⟨fun w hw => (c1 w hw).trans (a1 w hw), fun w hw => (c2 w hw).trans (a2 w hw), c3.trans a3, c4.trans a4, c5.trans a5, c6.trans a6, c7.trans a7, fun w hw => (c8 w hw).trans (a8 w hw), c9.trans a9, c10.trans a10, c11.trans a11, c12.trans a12, fun w hw => (c13 w hw).trans (a13 w hw), fun w hw => ⟨(c14 w hw).1.trans (a14 w hw).1, (c14 w hw).2.trans (a14 w hw).2⟩⟩, ⟨d1.trans b1, d2.trans b2, d3.trans b3, d4.trans b4⟩, d5.trans b5, d6.trans b6⟩
theorem eqK_t {A B C : aT} {l : Nat} (h : eqK A B l) (g : eqK B C l) : eqK A C l := by
  obtain ⟨⟨a1, a2, a3, a4, a5, a6, a7, a8, a9, a10, a11, a12, a13, a14⟩, ⟨b1, b2⟩, b3, b4⟩ := h
  obtain ⟨⟨c1, c2, c3, c4, c5, c6, c7, c8, c9, c10, c11, c12, c13, c14⟩, ⟨d1, d2⟩, d3, d4⟩ := g
  exact ⟨⟨c1.trans a1, c2.trans a2, c3.trans a3, c4.trans a4, c5.trans a5, c6.trans a6, c7.trans a7, c8.trans a8, c9.trans a9, c10.trans a10, c11.trans a11, c12.trans a12, c13.trans a13, c14.trans a14⟩, ⟨d1.trans b1, d2.trans b2⟩, d3.trans b3, d4.trans b4⟩
/-- a change in one station's own cells -/
theorem CInv_st {I J : mIm} {A B : aT} (hC : CInv I A) {s : Nat} (hs : s < 6) (e : ∀ r, (r < cN s ∨ cN s + 58 ≤ r) → r < 1278 → J r = I r) (h1 : cSt J B s) (h2 : ∀ t, t < 6 → t ≠ s → eqS A B t) (h3 : ∀ l, l < 36 → eqK A B l) (h0 : B.1 0 0 = A.1 0 0) (t0 : B.2.1 0 0 = A.2.1 0 0) (t1 : B.2.1 1 0 = A.2.1 1 0) (e10 : B.1 10 6 = A.1 10 6) (e11 : B.1 11 6 = A.1 11 6) (e12 : B.1 12 6 = A.1 12 6) (f2 : B.2.1 2 6 = A.2.1 2 6) (f3 : B.2.1 3 6 = A.2.1 3 6) : CInv J B := by
  refine ⟨cGl_A (cGl_same hC.1 (fun r hr => e r ?_ ?_)) h0 t0 t1 e10 e11 e12 f2 f3, fun t ht => ?_, fun t ht o ho hne => ?_⟩
  · unfold cN; omega
  · omega
  · by_cases hts : t = s
    · subst hts; exact h1
    · refine cSt_A (cSt_same (hC.2.1 t ht) (fun r a b => e r ?_ ?_)) (h2 t ht hts)
      · unfold cN at a b ⊢; omega
      · unfold cN at b; omega
  · have hk := cK_lt ht ho hne
    refine cLk_A (cLk_same (hC.2.2 t ht o ho hne) (fun r a b => e r ?_ ?_)) (h3 _ (by omega))
    · unfold cN at hk ⊢; omega
    · omega
/-! tune -/
def mayV (w v : Int32) : Int32 := if w = 0 then inV v 0 256 else if w = 1 then inV v 1 200 else if w = 2 then inV v 1 16 else if w = 3 then 1 else if w = 4 then inV v 100 20000 else if w = 5 then inV v 1 255 else if w = 6 then (if v = 0 then 1 else inV v 200 20000) else if w = 7 then inV v 0 4096 else if w = 8 then 1 else 0
def aTun (A : aT) (i w v : Int32) : Int32 × aT := match sta i with
  | none => (0, A)
  | some s => if mayV w v = 0 then (0, A) else (1, aI A 1 (9 * s + w.toNatClampNeg) v)
theorem mayV_n {w v : Int32} (h : mayV w v ≠ 0) : ∃ k : Nat, k < 9 ∧ w = nI k := by
  unfold mayV at h
  by_cases h0 : w = 0
  · exact ⟨0, by omega, h0⟩
  by_cases h1 : w = 1
  · exact ⟨1, by omega, h1⟩
  by_cases h2 : w = 2
  · exact ⟨2, by omega, h2⟩
  by_cases h3 : w = 3
  · exact ⟨3, by omega, h3⟩
  by_cases h4 : w = 4
  · exact ⟨4, by omega, h4⟩
  by_cases h5 : w = 5
  · exact ⟨5, by omega, h5⟩
  by_cases h6 : w = 6
  · exact ⟨6, by omega, h6⟩
  by_cases h7 : w = 7
  · exact ⟨7, by omega, h7⟩
  by_cases h8 : w = 8
  · exact ⟨8, by omega, h8⟩
  · rw [if_neg h0, if_neg h1, if_neg h2, if_neg h3, if_neg h4, if_neg h5, if_neg h6, if_neg h7, if_neg h8] at h
    exact absurd rfl h
section P9
variable {S : mS} {I : mIm} {A : aT}
theorem p_C_isSet (k : Nat) (hk : k < 9) (v lo hi : Int32) (h1 : mtF 1 k = lo) (h2 : mtF 2 k = hi) : pw S (q_C_isSetting (nI k) v (I, S)) (fun x J => J = I ∧ x = if v < lo ∨ hi < v then (if k = 6 ∧ v = 0 then 1 else 0) else 1) := by
  unfold q_C_isSetting
  refine pw_f (nI_pos (by omega)) (pw_sl (n := 9) rfl (by decide) (pw_t (nI_lt hk (by decide)) (pw_sl (n := 9) rfl (by decide) (pw_t (nI_lt hk (by decide)) (pw_sI k rfl (by exact hk) (by decide) ?_)))))
  rw [h1]
  have key : ∀ (hor : v < lo ∨ hi < v), pw S (q_C_isSetting_40 (nI k) v (I, S)) (fun x J => J = I ∧ x = if v < lo ∨ hi < v then (if k = 6 ∧ v = 0 then 1 else 0) else 1) := by
    intro hor
    unfold q_C_isSetting_40 q_C_isSetting_50
    rw [if_pos hor]
    refine pw_if (fun g => pw_if (fun g2 => pw_rz (Or.inr rfl) ⟨rfl, ?_⟩) (fun g2 => pw_rz (Or.inl rfl) ⟨rfl, ?_⟩)) (fun g => pw_rz (Or.inl rfl) ⟨rfl, ?_⟩)
    · have : k = 6 := (nI_eq (b := 6) (by omega) (by decide)).mp g
      rw [if_pos ⟨this, g2⟩]
    · rw [if_neg (fun q => g2 q.2)]
    · rw [if_neg (fun q => g (by rw [q.1]; rfl))]
  refine pw_if (fun g => key (Or.inl g)) (fun g => pw_sI k rfl (by exact hk) (by decide) ?_)
  rw [h2]
  refine pw_if (fun g2 => key (Or.inr g2)) (fun g2 => ?_)
  unfold q_C_isSetting_50
  refine pw_rz (Or.inr rfl) ⟨rfl, ?_⟩
  rw [if_neg (fun q => q.elim g g2)]
theorem inV_or (v a b : Int32) : inV v a b = if v < a ∨ b < v then 0 else 1 := by
  unfold inV
  by_cases h : v < a
  · rw [if_pos h, if_pos (Or.inl h)]
  · by_cases g : b < v
    · rw [if_neg h, if_pos g, if_pos (Or.inr g)]
    · rw [if_neg h, if_neg g, if_neg (fun q => q.elim h g)]
theorem min_le (v : Int32) : ¬ v < -2147483648 := by
  rw [Int32.not_lt, Int32.le_iff_toInt_le]
  exact Int32.le_toInt v
theorem le_max (v : Int32) : ¬ 2147483647 < v := by
  rw [Int32.not_lt, Int32.le_iff_toInt_le]
  have := Int32.toInt_lt v
  have e : (2147483647 : Int32).toInt = 2147483647 := by decide
  omega
theorem p_C_isSetting (w v : Int32) : pw S (q_C_isSetting w v (I, S)) (fun x J => J = I ∧ x = mayV w v) := by
  by_cases h : w < 0
  · unfold q_C_isSetting
    refine pw_t h (pw_rz (Or.inl rfl) ⟨rfl, ?_⟩)
    refine Decidable.byContradiction (fun hn => ?_)
    obtain ⟨k, hk, rfl⟩ := mayV_n (Ne.symm hn)
    exact nI_pos (by omega) h
  · obtain ⟨k, hk, rfl⟩ := nI_of h
    rcases Nat.lt_or_ge k 9 with q | q
    · have fin : ∀ (lo hi : Int32) (h1 : mtF 1 k = lo) (h2 : mtF 2 k = hi) (e : mayV (nI k) v = if v < lo ∨ hi < v then (if k = 6 ∧ v = 0 then 1 else 0) else 1), pw S (q_C_isSetting (nI k) v (I, S)) (fun x J => J = I ∧ x = mayV (nI k) v) := fun lo hi h1 h2 e => by rw [e]; exact p_C_isSet k q v lo hi h1 h2
      rcases (show k = 0 ∨ k = 1 ∨ k = 2 ∨ k = 3 ∨ k = 4 ∨ k = 5 ∨ k = 6 ∨ k = 7 ∨ k = 8 by omega) with rfl | rfl | rfl | rfl | rfl | rfl | rfl | rfl | rfl
      · exact fin 0 256 rfl rfl (by rw [show mayV (nI 0) v = inV v 0 256 from rfl, inV_or]; simp)
      · exact fin 1 200 rfl rfl (by rw [show mayV (nI 1) v = inV v 1 200 from rfl, inV_or]; simp)
      · exact fin 1 16 rfl rfl (by rw [show mayV (nI 2) v = inV v 1 16 from rfl, inV_or]; simp)
      · exact fin (-2147483648) 2147483647 rfl rfl (by rw [show mayV (nI 3) v = 1 from rfl, if_neg (fun q => q.elim (min_le v) (le_max v))])
      · exact fin 100 20000 rfl rfl (by rw [show mayV (nI 4) v = inV v 100 20000 from rfl, inV_or]; simp)
      · exact fin 1 255 rfl rfl (by rw [show mayV (nI 5) v = inV v 1 255 from rfl, inV_or]; simp)
      · refine fin 200 20000 rfl rfl ?_
        rw [show mayV (nI 6) v = (if v = 0 then 1 else inV v 200 20000) from rfl, inV_or]
        by_cases g : v = 0
        · subst g; decide
        · simp [g]
      · exact fin 0 4096 rfl rfl (by rw [show mayV (nI 7) v = inV v 0 4096 from rfl, inV_or]; simp)
      · exact fin (-2147483648) 2147483647 rfl rfl (by rw [show mayV (nI 8) v = 1 from rfl, if_neg (fun q => q.elim (min_le v) (le_max v))])
    · unfold q_C_isSetting
      refine pw_f h (pw_sl (n := 9) rfl (by decide) (pw_f (nI_nlt q (by omega)) (pw_rz (Or.inl rfl) ⟨rfl, ?_⟩)))
      refine Decidable.byContradiction (fun hn => ?_)
      obtain ⟨m, hm, e⟩ := mayV_n (Ne.symm hn)
      have := (nI_eq (by omega) (by omega)).mp e
      omega
theorem p_M_may (w v : Int32) : pw S (q_M_may w v (I, S)) (fun x J => J = I ∧ x = mayV w v) := by
  have inx : ∀ (a b : Int32) (e : mayV w v = inV v a b), pw S (x_cl (q_M_in v a b (I, S)) fun x M => x_rz x M) (fun x J => J = I ∧ x = mayV w v) := by
    intro a b e
    refine pw_cl (p_M_in v a b) (fun x J h => ?_)
    obtain ⟨rfl, rfl⟩ := h
    exact pw_rz (inV_01 _ _ _) ⟨rfl, e.symm⟩
  unfold q_M_may
  refine pw_sc (fun h0 => inx _ _ (by subst h0; rfl)) (fun h0 => pw_sc (fun h1 => inx _ _ (by subst h1; rfl)) (fun h1 => pw_sc (fun h2 => inx _ _ (by subst h2; rfl)) (fun h2 => pw_sc (fun h3 => ?_) (fun h3 => pw_sc (fun h4 => inx _ _ (by subst h4; rfl)) (fun h4 => pw_sc (fun h5 => inx _ _ (by subst h5; rfl)) (fun h5 => pw_sc (fun h6 => ?_) (fun h6 => pw_sc (fun h7 => inx _ _ (by subst h7; rfl)) (fun h7 => pw_sn ?_))))))))
  · subst h3
    unfold q_M_may_125 q_M_may_136
    exact pw_t rfl (pw_rz (Or.inr rfl) ⟨rfl, rfl⟩)
  · subst h6
    unfold q_M_may_110
    refine pw_if (fun g => pw_rz (Or.inr rfl) ⟨rfl, ?_⟩) (fun g => pw_cl (p_M_in v 200 20000) (fun x J h => ?_))
    · subst g; decide
    · obtain ⟨rfl, rfl⟩ := h
      have e : mayV 6 v = inV v 200 20000 := by
        rw [show mayV 6 v = (if v = 0 then 1 else inV v 200 20000) from rfl, if_neg g]
      rcases inV_01 v 200 20000 with q | q
      · exact pw_t q (pw_rz (Or.inl rfl) ⟨rfl, by rw [e, q]⟩)
      · exact pw_f (by rw [q]; decide) (pw_rz (Or.inr rfl) ⟨rfl, by rw [e, q]⟩)
  · unfold q_M_may_125 q_M_may_136
    refine pw_f h3 (pw_if (fun g => pw_rz (Or.inr rfl) ⟨rfl, ?_⟩) (fun g => pw_rz (Or.inl rfl) ⟨rfl, ?_⟩))
    · subst g; rfl
    · unfold mayV
      rw [if_neg h0, if_neg h1, if_neg h2, if_neg h3, if_neg h4, if_neg h5, if_neg h6, if_neg h7, if_neg g]
theorem mayV_01 (w v : Int32) : mayV w v = 0 ∨ mayV w v = 1 := by
  unfold mayV
  repeat' split
  all_goals first | exact inV_01 _ _ _ | exact Or.inr rfl | exact Or.inl rfl
theorem CInv_tun (hC : CInv I A) {s k : Nat} (hs : s < 6) (hk : k < 9) (v : Int32) : CInv (iput I (cN s + 1) k v) (aI A 1 (9 * s + k) v) := by
  obtain ⟨c1, c2, c3, c4, c5, c6, c7⟩ := hC.2.1 s hs
  refine CInv_st hC hs (fun r a b => iput_n _ _ _ (by omega)) ⟨?_, ?_, ?_, ?_, ?_, ?_, ?_⟩ (fun t ht hne => eqS_1 (fun z hz => by omega)) (fun l hl => eqK_1) (aI_f _ _ _ _ (by decide)) rfl rfl (aI_f _ _ _ _ (by decide)) (aI_f _ _ _ _ (by decide)) (aI_f _ _ _ _ (by decide)) rfl rfl
  · exact cS1_A (cS1_same c1 (iput_n _ _ _ (by omega))) (fun _ _ => aI_f _ _ _ _ (by decide)) (aI_f _ _ _ _ (by decide)) (aI_f _ _ _ _ (by decide)) (fun _ _ => aI_f _ _ _ _ (by decide)) (aI_f _ _ _ _ (by decide)) (fun _ _ => aI_f _ _ _ _ (by decide))
  · intro w hw
    by_cases e : w = k
    · subst e
      rw [iput_s, aI_s]
    · rw [iput_j _ _ _ e, aI_k _ _ _ (by omega)]
      exact c2 w hw
  · exact cS3_A (cS3_same c3 (fun r a b => iput_n _ _ _ (by omega))) (fun _ _ => ⟨aI_f _ _ _ _ (by decide), aI_f _ _ _ _ (by decide)⟩)
  · exact cSn_A (cSn_same c4 (fun r a b => iput_n _ _ _ (by omega))) (aI_f _ _ _ _ (by decide)) (aI_f _ _ _ _ (by decide)) (aI_f _ _ _ _ (by decide)) rfl rfl
  · exact cRv_A (cRv_same c5 (fun r a b => iput_n _ _ _ (by omega))) (aI_f _ _ _ _ (by decide)) (aI_f _ _ _ _ (by decide)) (aI_f _ _ _ _ (by decide)) rfl rfl
  · exact isR_same c6 (fun r a b => iput_n _ _ _ (by omega))
  · exact cMl_A (cMl_same c7 (fun r a b => iput_n _ _ _ (by omega))) rfl
theorem p_C_tune (hS : Shp S) (hC : CInv I A) (i w v : Int32) : pw S (q_C_tune (some 16) i w v (I, S)) (CP I (aTun A i w v)) := by
  unfold q_C_tune aTun
  refine pw_cv hS.1.1 (p_C_stationAt hS i) (fun a I h => ?_)
  obtain ⟨rfl, rfl⟩ := h
  cases h : sta i with
  | none => exact pw_nn (pw_rz (Or.inl rfl) ⟨rfl, hC, fun _ _ => rfl⟩)
  | some s =>
    obtain ⟨hs, -⟩ := sta_s h
    have hN := hS.2.1 s hs
    refine pw_ns (pw_cl (p_C_isSetting w v) (fun x I h2 => ?_))
    obtain ⟨rfl, rfl⟩ := h2
    dsimp only
    refine pw_if (fun g => pw_rz (Or.inl rfl) ?_) (fun g => ?_)
    · rw [if_pos g]
      exact ⟨rfl, hC, fun _ _ => rfl⟩
    · rw [if_neg g]
      obtain ⟨k, hk, rfl⟩ := mayV_n g
      rw [nI_clamp (by omega)]
      have hA := hN.2.2.2.2.2.2.2.2.2.2.1
      refine pw_gR hN.1 hN.2.2.2.1 (pw_wI k hA.1 rfl (by rw [hA.2]; exact hk) (by rw [hA.2]; decide) (pw_rz (Or.inr rfl) ⟨rfl, CInv_tun hC hs hk v, fun r hr => iput_n _ _ _ ?_⟩))
      unfold cN
      omega
theorem p_M_tune (hS : Shp S) (hR : RInv I A) (i w v : Int32) : pw S (q_M_tune (some 1282) i w v (I, S)) (RP I (aTun A i w v)) := by
  have hm := hS.2.2.2
  unfold q_M_tune aTun
  refine pw_cl (p_M_isStation i) (fun x I h => ?_)
  obtain ⟨rfl, rfl⟩ := h
  cases h : sta i with
  | none => exact pw_t (by simp) (pw_rz (Or.inl rfl) ⟨rfl, hR, fun _ _ => rfl⟩)
  | some s =>
    obtain ⟨hs, rfl⟩ := sta_s h
    refine pw_f (by simp) (pw_cl (p_M_may w v) (fun x I h2 => ?_))
    obtain ⟨rfl, rfl⟩ := h2
    dsimp only
    refine pw_if (fun g => pw_rz (Or.inl rfl) ?_) (fun g => ?_)
    · rw [if_pos g]
      exact ⟨rfl, hR, fun _ _ => rfl⟩
    · rw [if_neg g]
      obtain ⟨k, hk, rfl⟩ := mayV_n g
      rw [nI_clamp (by omega)]
      obtain ⟨a1, a2, a3⟩ := sm_tuned hm
      exact pw_gR hm.1 a1 (pw_wI (9 * s + k) a2 (n_lin 9 s k) (by omega) (by omega) (pw_rz (Or.inr rfl) ⟨rfl, RInv_set hR 0 rfl (by decide) (by decide) (by decide) (by decide), fun r hr => iput_n _ _ _ (by omega)⟩))
end P9
