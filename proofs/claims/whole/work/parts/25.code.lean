def dt_M_enqueue : List (Nat × Instr × Nat) := [(0, .aload_n 0, 1), (1, .getfield 50, 3), (4, .iload_n 1, 1), (5, .iaload, 1), (6, .bipush 12, 2), (8, .if_icmp .ne 10, 3), (11, .aload_n 0, 1), (12, .iload_n 1, 1), (13, .iconst 4, 1), (14, .invokevirtual 267, 3), (17, .return_, 1), (18, .bipush 12, 2), (20, .iload_n 1, 1), (21, .imul, 1), (22, .aload_n 0, 1), (23, .getfield 50, 3), (26, .iload_n 1, 1), (27, .iaload, 1), (28, .iadd, 1), (29, .istore_n 2, 1), (30, .aload_n 0, 1), (31, .getfield 53, 3), (34, .iload_n 2, 1), (35, .aload_n 0, 1), (36, .getfield 264, 3), (39, .iastore, 1), (40, .iconst 0, 1), (41, .istore_n 3, 1), (42, .iload_n 3, 1), (43, .aload_n 0, 1), (44, .getfield 264, 3), (47, .if_icmp .ge 26, 3), (50, .aload_n 0, 1), (51, .getfield 56, 3), (54, .bipush 90, 2), (56, .iload_n 2, 1), (57, .imul, 1), (58, .iload_n 3, 1), (59, .iadd, 1), (60, .aload_n 0, 1), (61, .getfield 95, 3), (64, .iload_n 3, 1), (65, .iaload, 1), (66, .iastore, 1), (67, .iinc 3 1, 3), (70, .goto (-28), 3), (73, .aload_n 0, 1), (74, .getfield 50, 3), (77, .iload_n 1, 1), (78, .dup2, 1), (79, .iaload, 1), (80, .iconst 1, 1), (81, .iadd, 1), (82, .iastore, 1), (83, .return_, 1)]
theorem dx_M_enqueue : ∀ p ∈ dt_M_enqueue, decode prog_12_method_26_code p.1 = .ok p.2 := by decide +kernel
theorem d_M_enqueue {k pc : Nat} {i : Instr} {n : Nat} (h : dt_M_enqueue[k]? = some (pc, i, n)) : decode mi_M_enqueue.2.1 pc = .ok (i, n) := dx_M_enqueue (pc, i, n) (List.mem_of_getElem? h)
def q_M_enqueue_42_b (r42 : Option Nat → Int32 → Int32 → Int32 → mM → Option (Unit × mM)) (t0 : Option Nat) (i1 : Int32) (i2 : Int32) (i3 : Int32) (M : mM) : Option (Unit × mM) :=
    x_gI M 10 t0 34 fun x1 =>
    if i3 < x1 then
      x_gR M 10 t0 20 fun a2 =>
      x_gR M 10 t0 33 fun a3 =>
      x_aI M 0 a3 i3 fun x4 =>
      x_wI M a2 (((90 : Int32) * i2) + i3) x4 fun M =>
      r42 t0 i1 i2 (i3 + 1) M
    else
      x_gR M 10 t0 18 fun a5 =>
      x_aI M 0 a5 i1 fun x6 =>
      x_wI M a5 i1 (x6 + (1 : Int32)) fun M =>
      some ((), M)
def q_M_enqueue_42 : Nat → Option Nat → Int32 → Int32 → Int32 → mM → Option (Unit × mM)
  | 0, _, _, _, _, _ => none
  | n + 1, t0, i1, i2, i3, M => q_M_enqueue_42_b (q_M_enqueue_42 n) t0 i1 i2 i3 M
set_option maxRecDepth 20000 in
theorem v_M_enqueue_42_b {E : mE} (r42 : Option Nat → Int32 → Int32 → Int32 → mM → Option (Unit × mM)) (h42 : ∀ (t0 : Option Nat) (i1 : Int32) (i2 : Int32) (i3 : Int32) (M : mM), mVr E mi_M_enqueue 1 42 [some (.inr t0), some (.inl i1), some (.inl i2), some (.inl i3)] [] M enU (r42 t0 i1 i2 i3 M)) (t0 : Option Nat) (i1 : Int32) (i2 : Int32) (i3 : Int32) (M : mM) : mVr E mi_M_enqueue 1 42 [some (.inr t0), some (.inl i1), some (.inl i2), some (.inl i3)] [] M enU (q_M_enqueue_42_b r42 t0 i1 i2 i3 M) := by
  unfold q_M_enqueue_42_b
  refine m_iload_n (d_M_enqueue (k := 28) rfl) rfl ?_
  refine m_aload_n (d_M_enqueue (k := 29) rfl) rfl ?_
  refine m_getI (d_M_enqueue (k := 30) rfl) fl_M_264 rfl (fun x1 => ?_)
  refine m_icmp_ge (tgt := 73) (d_M_enqueue (k := 31) rfl) rfl ?_ ?_
  · refine m_aload_n (d_M_enqueue (k := 32) rfl) rfl ?_
    refine m_getR (d_M_enqueue (k := 33) rfl) fl_M_56 rfl (fun a2 => ?_)
    refine m_bipush (v := 90) (d_M_enqueue (k := 34) rfl) (by decide) ?_
    refine m_iload_n (d_M_enqueue (k := 35) rfl) rfl ?_
    refine m_imul (d_M_enqueue (k := 36) rfl) ?_
    refine m_iload_n (d_M_enqueue (k := 37) rfl) rfl ?_
    refine m_iadd (d_M_enqueue (k := 38) rfl) ?_
    refine m_aload_n (d_M_enqueue (k := 39) rfl) rfl ?_
    refine m_getR (d_M_enqueue (k := 40) rfl) fl_M_95 rfl (fun a3 => ?_)
    refine m_iload_n (d_M_enqueue (k := 41) rfl) rfl ?_
    refine m_iald (d_M_enqueue (k := 42) rfl) (fun x4 => ?_)
    refine m_iast (d_M_enqueue (k := 43) rfl) (fun M => ?_)
    refine m_inc (v := 1) (ls' := [some (.inr t0), some (.inl i1), some (.inl i2), some (.inl (i3 + 1))]) (d_M_enqueue (k := 44) rfl) rfl (by decide) (by decide) rfl ?_
    refine m_goto (tgt := 42) (d_M_enqueue (k := 45) rfl) rfl ?_
    exact m_drop (mles_s (mles_s (mles_s (mles_s mles_0)))) (h42 t0 i1 i2 (i3 + 1) M)
  · refine m_aload_n (d_M_enqueue (k := 46) rfl) rfl ?_
    refine m_getR (d_M_enqueue (k := 47) rfl) fl_M_50 rfl (fun a5 => ?_)
    refine m_iload_n (d_M_enqueue (k := 48) rfl) rfl ?_
    refine m_dup2 (d_M_enqueue (k := 49) rfl) ?_
    refine m_iald (d_M_enqueue (k := 50) rfl) (fun x6 => ?_)
    refine m_iconst (v := 1) (d_M_enqueue (k := 51) rfl) (by decide) ?_
    refine m_iadd (d_M_enqueue (k := 52) rfl) ?_
    refine m_iast (d_M_enqueue (k := 53) rfl) (fun M => ?_)
    exact m_vret (d_M_enqueue (k := 54) rfl) rfl
theorem v_M_enqueue_42 {E : mE} : ∀ (n : Nat) (t0 : Option Nat) (i1 : Int32) (i2 : Int32) (i3 : Int32) (M : mM), mVr E mi_M_enqueue 1 42 [some (.inr t0), some (.inl i1), some (.inl i2), some (.inl i3)] [] M enU (q_M_enqueue_42 n t0 i1 i2 i3 M)
  | 0, _, _, _, _, _ => m_none
  | n + 1, t0, i1, i2, i3, M => v_M_enqueue_42_b _ (v_M_enqueue_42 n) t0 i1 i2 i3 M
def q_M_enqueue (t0 : Option Nat) (i1 : Int32) (M : mM) : Option (Unit × mM) :=
    x_gR M 10 t0 18 fun a1 =>
    x_aI M 0 a1 i1 fun x2 =>
    if x2 = (12 : Int32) then
      x_cv M 10 t0 (q_M_count t0 i1 (4 : Int32) M) fun _ M =>
      some ((), M)
    else
      x_gR M 10 t0 18 fun a3 =>
      x_aI M 0 a3 i1 fun x4 =>
      x_lt (((12 : Int32) * i1) + x4) fun x5 =>
      x_gR M 10 t0 19 fun a6 =>
      x_gI M 10 t0 34 fun x7 =>
      x_wI M a6 x5 x7 fun M =>
      q_M_enqueue_42 mFU t0 i1 x5 (0 : Int32) M
set_option maxRecDepth 20000 in
theorem v_M_enqueue {E : mE} (t0 : Option Nat) (i1 : Int32) (M : mM) : mVr E mi_M_enqueue 1 0 [some (.inr t0), some (.inl i1), none, none] [] M enU (q_M_enqueue t0 i1 M) := by
  unfold q_M_enqueue
  refine m_aload_n (d_M_enqueue (k := 0) rfl) rfl ?_
  refine m_getR (d_M_enqueue (k := 1) rfl) fl_M_50 rfl (fun a1 => ?_)
  refine m_iload_n (d_M_enqueue (k := 2) rfl) rfl ?_
  refine m_iald (d_M_enqueue (k := 3) rfl) (fun x2 => ?_)
  refine m_bipush (v := 12) (d_M_enqueue (k := 4) rfl) (by decide) ?_
  refine m_icmp_ne (tgt := 18) (d_M_enqueue (k := 5) rfl) rfl ?_ ?_
  · refine m_aload_n (d_M_enqueue (k := 6) rfl) rfl ?_
    refine m_iload_n (d_M_enqueue (k := 7) rfl) rfl ?_
    refine m_iconst (v := 4) (d_M_enqueue (k := 8) rfl) (by decide) ?_
    refine m_cvU (c := 10) (vs := [.inl i1, .inl (4 : Int32)]) (st := []) (d_M_enqueue (k := 9) rfl) (s_M_count t0 i1 (4 : Int32) M) cd_M_count ml_M_267 im_M_count se_M_count rfl (by decide) rfl (Nat.le_of_ble_eq_true rfl) (fun _ M => ?_)
    exact m_vret (d_M_enqueue (k := 10) rfl) rfl
  · refine m_bipush (v := 12) (d_M_enqueue (k := 11) rfl) (by decide) ?_
    refine m_iload_n (d_M_enqueue (k := 12) rfl) rfl ?_
    refine m_imul (d_M_enqueue (k := 13) rfl) ?_
    refine m_aload_n (d_M_enqueue (k := 14) rfl) rfl ?_
    refine m_getR (d_M_enqueue (k := 15) rfl) fl_M_50 rfl (fun a3 => ?_)
    refine m_iload_n (d_M_enqueue (k := 16) rfl) rfl ?_
    refine m_iald (d_M_enqueue (k := 17) rfl) (fun x4 => ?_)
    refine m_iadd (d_M_enqueue (k := 18) rfl) ?_
    refine m_lt (fun x5 => ?_)
    refine m_ist_n (ls' := [some (.inr t0), some (.inl i1), some (.inl x5), none]) (d_M_enqueue (k := 19) rfl) (by decide) rfl ?_
    refine m_aload_n (d_M_enqueue (k := 20) rfl) rfl ?_
    refine m_getR (d_M_enqueue (k := 21) rfl) fl_M_53 rfl (fun a6 => ?_)
    refine m_iload_n (d_M_enqueue (k := 22) rfl) rfl ?_
    refine m_aload_n (d_M_enqueue (k := 23) rfl) rfl ?_
    refine m_getI (d_M_enqueue (k := 24) rfl) fl_M_264 rfl (fun x7 => ?_)
    refine m_iast (d_M_enqueue (k := 25) rfl) (fun M => ?_)
    refine m_iconst (v := 0) (d_M_enqueue (k := 26) rfl) (by decide) ?_
    refine m_ist_n (ls' := [some (.inr t0), some (.inl i1), some (.inl x5), some (.inl (0 : Int32))]) (d_M_enqueue (k := 27) rfl) (by decide) rfl ?_
    exact m_drop (mles_s (mles_s (mles_s (mles_s mles_0)))) (v_M_enqueue_42 mFU t0 i1 x5 (0 : Int32) M)
theorem s_M_enqueue {E : mE} (t0 : Option Nat) (i1 : Int32) (M : mM) : mSnd E mi_M_enqueue 1 [.inr t0, .inl i1] M enU (q_M_enqueue t0 i1 M) := m_entryU (by decide) (Nat.le_of_ble_eq_true rfl) rfl (m_drop (mles_s (mles_s (mles_e (mles_e mles_0)))) (v_M_enqueue t0 i1 M))
def dt_M_tells : List (Nat × Instr × Nat) := [(0, .bipush 36, 2), (2, .iload_n 1, 1), (3, .imul, 1), (4, .istore_n 2, 1), (5, .iload_n 2, 1), (6, .bipush 36, 2), (8, .iload_n 1, 1), (9, .imul, 1), (10, .bipush 36, 2), (12, .iadd, 1), (13, .if_icmp .ge 47, 3), (16, .aload_n 0, 1), (17, .getfield 185, 3), (20, .iload_n 2, 1), (21, .iaload, 1), (22, .ifCond .ne 6, 3), (25, .goto 29, 3), (28, .aload_n 0, 1), (29, .getfield 188, 3), (32, .iload_n 2, 1), (33, .dup2, 1), (34, .iaload, 1), (35, .iconst 1, 1), (36, .isub, 1), (37, .iastore, 1), (38, .aload_n 0, 1), (39, .getfield 188, 3), (42, .iload_n 2, 1), (43, .iaload, 1), (44, .ifCond .ne 10, 3), (47, .aload_n 0, 1), (48, .getfield 185, 3), (51, .iload_n 2, 1), (52, .iconst 0, 1), (53, .iastore, 1), (54, .iinc 2 1, 3), (57, .goto (-52), 3), (60, .aload_n 0, 1), (61, .bipush 6, 2), (63, .iload_n 1, 1), (64, .iconst (-1), 1), (65, .iconst (-1), 1), (66, .iconst 1, 1), (67, .invokevirtual 387, 3), (70, .aload_n 0, 1), (71, .iconst 3, 1), (72, .invokevirtual 270, 3), (75, .aload_n 0, 1), (76, .sipush 207, 3), (79, .invokevirtual 270, 3), (82, .aload_n 0, 1), (83, .sipush 255, 3), (86, .invokevirtual 270, 3), (89, .iconst 0, 1), (90, .istore_n 2, 1), (91, .iconst 0, 1), (92, .istore_n 3, 1), (93, .iload_n 3, 1), (94, .bipush 6, 2), (96, .if_icmp .ge 61, 3), (99, .aload_n 0, 1), (100, .iload_n 1, 1), (101, .iload_n 3, 1), (102, .invokevirtual 449, 3), (105, .istore 4, 2), (107, .iload 4, 2), (109, .iconst (-1), 1), (110, .if_icmp .ne 6, 3), (113, .goto 38, 3), (116, .aload_n 0, 1), (117, .iload_n 3, 1), (118, .invokevirtual 270, 3), (121, .aload_n 0, 1), (122, .iload 4, 2), (124, .invokevirtual 270, 3), (127, .aload_n 0, 1), (128, .aload_n 0, 1), (129, .getfield 185, 3), (132, .bipush 36, 2), (134, .iload_n 1, 1), (135, .imul, 1), (136, .bipush 6, 2), (138, .iload_n 3, 1), (139, .imul, 1), (140, .iadd, 1), (141, .iload 4, 2), (143, .iadd, 1), (144, .iaload, 1), (145, .invokevirtual 270, 3), (148, .iinc 2 1, 3), (151, .iinc 3 1, 3), (154, .goto (-61), 3), (157, .aload_n 0, 1), (158, .iload_n 1, 1), (159, .invokevirtual 273, 3), (162, .iload_n 2, 1), (163, .ireturn, 1)]
theorem dx_M_tells : ∀ p ∈ dt_M_tells, decode prog_12_method_71_code p.1 = .ok p.2 := by decide +kernel
theorem d_M_tells {k pc : Nat} {i : Instr} {n : Nat} (h : dt_M_tells[k]? = some (pc, i, n)) : decode mi_M_tells.2.1 pc = .ok (i, n) := dx_M_tells (pc, i, n) (List.mem_of_getElem? h)
def q_M_tells_54 (r5 : Option Nat → Int32 → Int32 → mM → Option (Int32 × mM)) (t0 : Option Nat) (i1 : Int32) (i2 : Int32) (M : mM) : Option (Int32 × mM) :=
    r5 t0 i1 (i2 + 1) M
set_option maxRecDepth 20000 in
theorem v_M_tells_54 {E : mE} (r5 : Option Nat → Int32 → Int32 → mM → Option (Int32 × mM)) (h5 : ∀ (t0 : Option Nat) (i1 : Int32) (i2 : Int32) (M : mM), mVr E mi_M_tells 3 5 [some (.inr t0), some (.inl i1), some (.inl i2), none, none] [] M enI (r5 t0 i1 i2 M)) (t0 : Option Nat) (i1 : Int32) (i2 : Int32) (M : mM) : mVr E mi_M_tells 3 54 [some (.inr t0), some (.inl i1), some (.inl i2), none, none] [] M enI (q_M_tells_54 r5 t0 i1 i2 M) := by
  unfold q_M_tells_54
  refine m_inc (v := 1) (ls' := [some (.inr t0), some (.inl i1), some (.inl (i2 + 1)), none, none]) (d_M_tells (k := 35) rfl) rfl (by decide) (by decide) rfl ?_
  refine m_goto (tgt := 5) (d_M_tells (k := 36) rfl) rfl ?_
  exact m_drop (mles_s (mles_s (mles_s (mles_n (mles_n mles_0))))) (h5 t0 i1 (i2 + 1) M)
def q_M_tells_151 (r93 : Option Nat → Int32 → Int32 → Int32 → mM → Option (Int32 × mM)) (t0 : Option Nat) (i1 : Int32) (i2 : Int32) (i3 : Int32) (M : mM) : Option (Int32 × mM) :=
    r93 t0 i1 i2 (i3 + 1) M
set_option maxRecDepth 20000 in
theorem v_M_tells_151 {E : mE} (r93 : Option Nat → Int32 → Int32 → Int32 → mM → Option (Int32 × mM)) (h93 : ∀ (t0 : Option Nat) (i1 : Int32) (i2 : Int32) (i3 : Int32) (M : mM), mVr E mi_M_tells 3 93 [some (.inr t0), some (.inl i1), some (.inl i2), some (.inl i3), none] [] M enI (r93 t0 i1 i2 i3 M)) (t0 : Option Nat) (i1 : Int32) (i2 : Int32) (i3 : Int32) (M : mM) : mVr E mi_M_tells 3 151 [some (.inr t0), some (.inl i1), some (.inl i2), some (.inl i3), none] [] M enI (q_M_tells_151 r93 t0 i1 i2 i3 M) := by
  unfold q_M_tells_151
  refine m_inc (v := 1) (ls' := [some (.inr t0), some (.inl i1), some (.inl i2), some (.inl (i3 + 1)), none]) (d_M_tells (k := 90) rfl) rfl (by decide) (by decide) rfl ?_
  refine m_goto (tgt := 93) (d_M_tells (k := 91) rfl) rfl ?_
  exact m_drop (mles_s (mles_s (mles_s (mles_s (mles_n mles_0))))) (h93 t0 i1 i2 (i3 + 1) M)
def q_M_tells_93_b (r93 : Option Nat → Int32 → Int32 → Int32 → mM → Option (Int32 × mM)) (t0 : Option Nat) (i1 : Int32) (i2 : Int32) (i3 : Int32) (M : mM) : Option (Int32 × mM) :=
    if i3 < (6 : Int32) then
      x_cv M 10 t0 (q_M_bestTo t0 i1 i3 M) fun x1 M =>
      if x1 = (-1 : Int32) then
        q_M_tells_151 r93 t0 i1 i2 i3 M
      else
        x_cv M 10 t0 (q_M_put t0 i3 M) fun _ M =>
        x_cv M 10 t0 (q_M_put t0 x1 M) fun _ M =>
        x_gR M 10 t0 74 fun a2 =>
        x_aI M 0 a2 ((((36 : Int32) * i1) + ((6 : Int32) * i3)) + x1) fun x3 =>
        x_cv M 10 t0 (q_M_put t0 x3 M) fun _ M =>
        q_M_tells_151 r93 t0 i1 (i2 + 1) i3 M
    else
      x_cv M 10 t0 (q_M_enqueue t0 i1 M) fun _ M =>
      some (i2, M)
def q_M_tells_93 : Nat → Option Nat → Int32 → Int32 → Int32 → mM → Option (Int32 × mM)
  | 0, _, _, _, _, _ => none
  | n + 1, t0, i1, i2, i3, M => q_M_tells_93_b (q_M_tells_93 n) t0 i1 i2 i3 M
set_option maxRecDepth 20000 in
theorem v_M_tells_93_b {E : mE} (r93 : Option Nat → Int32 → Int32 → Int32 → mM → Option (Int32 × mM)) (h93 : ∀ (t0 : Option Nat) (i1 : Int32) (i2 : Int32) (i3 : Int32) (M : mM), mVr E mi_M_tells 3 93 [some (.inr t0), some (.inl i1), some (.inl i2), some (.inl i3), none] [] M enI (r93 t0 i1 i2 i3 M)) (t0 : Option Nat) (i1 : Int32) (i2 : Int32) (i3 : Int32) (M : mM) : mVr E mi_M_tells 3 93 [some (.inr t0), some (.inl i1), some (.inl i2), some (.inl i3), none] [] M enI (q_M_tells_93_b r93 t0 i1 i2 i3 M) := by
  unfold q_M_tells_93_b
  refine m_iload_n (d_M_tells (k := 57) rfl) rfl ?_
  refine m_bipush (v := 6) (d_M_tells (k := 58) rfl) (by decide) ?_
  refine m_icmp_ge (tgt := 157) (d_M_tells (k := 59) rfl) rfl ?_ ?_
  · refine m_aload_n (d_M_tells (k := 60) rfl) rfl ?_
    refine m_iload_n (d_M_tells (k := 61) rfl) rfl ?_
    refine m_iload_n (d_M_tells (k := 62) rfl) rfl ?_
    refine m_cvI (c := 10) (vs := [.inl i1, .inl i3]) (st := []) (d_M_tells (k := 63) rfl) (s_M_bestTo t0 i1 i3 M) cd_M_bestTo ml_M_449 im_M_bestTo se_M_bestTo rfl (by decide) rfl (Nat.le_of_ble_eq_true rfl) (fun x1 M => ?_)
    refine m_ist (ls' := [some (.inr t0), some (.inl i1), some (.inl i2), some (.inl i3), some (.inl x1)]) (d_M_tells (k := 64) rfl) (by decide) rfl ?_
    refine m_iload (d_M_tells (k := 65) rfl) rfl ?_
    refine m_iconst (v := (-1)) (d_M_tells (k := 66) rfl) (by decide) ?_
    refine m_icmp_ne (tgt := 116) (d_M_tells (k := 67) rfl) rfl ?_ ?_
    · refine m_goto (tgt := 151) (d_M_tells (k := 68) rfl) rfl ?_
      exact m_drop (mles_s (mles_s (mles_s (mles_s (mles_n mles_0))))) (v_M_tells_151 r93 h93 t0 i1 i2 i3 M)
    · refine m_aload_n (d_M_tells (k := 69) rfl) rfl ?_
      refine m_iload_n (d_M_tells (k := 70) rfl) rfl ?_
      refine m_cvU (c := 10) (vs := [.inl i3]) (st := []) (d_M_tells (k := 71) rfl) (s_M_put t0 i3 M) cd_M_put ml_M_270 im_M_put se_M_put rfl (by decide) rfl (Nat.le_of_ble_eq_true rfl) (fun _ M => ?_)
      refine m_aload_n (d_M_tells (k := 72) rfl) rfl ?_
      refine m_iload (d_M_tells (k := 73) rfl) rfl ?_
      refine m_cvU (c := 10) (vs := [.inl x1]) (st := []) (d_M_tells (k := 74) rfl) (s_M_put t0 x1 M) cd_M_put ml_M_270 im_M_put se_M_put rfl (by decide) rfl (Nat.le_of_ble_eq_true rfl) (fun _ M => ?_)
      refine m_aload_n (d_M_tells (k := 75) rfl) rfl ?_
      refine m_aload_n (d_M_tells (k := 76) rfl) rfl ?_
      refine m_getR (d_M_tells (k := 77) rfl) fl_M_185 rfl (fun a2 => ?_)
      refine m_bipush (v := 36) (d_M_tells (k := 78) rfl) (by decide) ?_
      refine m_iload_n (d_M_tells (k := 79) rfl) rfl ?_
      refine m_imul (d_M_tells (k := 80) rfl) ?_
      refine m_bipush (v := 6) (d_M_tells (k := 81) rfl) (by decide) ?_
      refine m_iload_n (d_M_tells (k := 82) rfl) rfl ?_
      refine m_imul (d_M_tells (k := 83) rfl) ?_
      refine m_iadd (d_M_tells (k := 84) rfl) ?_
      refine m_iload (d_M_tells (k := 85) rfl) rfl ?_
      refine m_iadd (d_M_tells (k := 86) rfl) ?_
      refine m_iald (d_M_tells (k := 87) rfl) (fun x3 => ?_)
      refine m_cvU (c := 10) (vs := [.inl x3]) (st := []) (d_M_tells (k := 88) rfl) (s_M_put t0 x3 M) cd_M_put ml_M_270 im_M_put se_M_put rfl (by decide) rfl (Nat.le_of_ble_eq_true rfl) (fun _ M => ?_)
      refine m_inc (v := 1) (ls' := [some (.inr t0), some (.inl i1), some (.inl (i2 + 1)), some (.inl i3), some (.inl x1)]) (d_M_tells (k := 89) rfl) rfl (by decide) (by decide) rfl ?_
      exact m_drop (mles_s (mles_s (mles_s (mles_s (mles_n mles_0))))) (v_M_tells_151 r93 h93 t0 i1 (i2 + 1) i3 M)
  · refine m_aload_n (d_M_tells (k := 92) rfl) rfl ?_
    refine m_iload_n (d_M_tells (k := 93) rfl) rfl ?_
    refine m_cvU (c := 10) (vs := [.inl i1]) (st := []) (d_M_tells (k := 94) rfl) (s_M_enqueue t0 i1 M) cd_M_enqueue ml_M_273 im_M_enqueue se_M_enqueue rfl (by decide) rfl (Nat.le_of_ble_eq_true rfl) (fun _ M => ?_)
    refine m_iload_n (d_M_tells (k := 95) rfl) rfl ?_
    exact m_iret (d_M_tells (k := 96) rfl) rfl
theorem v_M_tells_93 {E : mE} : ∀ (n : Nat) (t0 : Option Nat) (i1 : Int32) (i2 : Int32) (i3 : Int32) (M : mM), mVr E mi_M_tells 3 93 [some (.inr t0), some (.inl i1), some (.inl i2), some (.inl i3), none] [] M enI (q_M_tells_93 n t0 i1 i2 i3 M)
  | 0, _, _, _, _, _ => m_none
  | n + 1, t0, i1, i2, i3, M => v_M_tells_93_b _ (v_M_tells_93 n) t0 i1 i2 i3 M
def q_M_tells_5_b (r5 : Option Nat → Int32 → Int32 → mM → Option (Int32 × mM)) (t0 : Option Nat) (i1 : Int32) (i2 : Int32) (M : mM) : Option (Int32 × mM) :=
    if i2 < (((36 : Int32) * i1) + (36 : Int32)) then
      x_gR M 10 t0 74 fun a1 =>
      x_aI M 0 a1 i2 fun x2 =>
      if x2 = 0 then
        q_M_tells_54 r5 t0 i1 i2 M
      else
        x_gR M 10 t0 75 fun a3 =>
        x_aI M 0 a3 i2 fun x4 =>
        x_wI M a3 i2 (x4 - (1 : Int32)) fun M =>
        x_gR M 10 t0 75 fun a5 =>
        x_aI M 0 a5 i2 fun x6 =>
        if x6 = 0 then
          x_gR M 10 t0 74 fun a7 =>
          x_wI M a7 i2 (0 : Int32) fun M =>
          q_M_tells_54 r5 t0 i1 i2 M
        else
          q_M_tells_54 r5 t0 i1 i2 M
    else
      x_cv M 10 t0 (q_M_begin t0 (6 : Int32) i1 (-1 : Int32) (-1 : Int32) (1 : Int32) M) fun _ M =>
      x_cv M 10 t0 (q_M_put t0 (3 : Int32) M) fun _ M =>
      x_cv M 10 t0 (q_M_put t0 (207 : Int32) M) fun _ M =>
      x_cv M 10 t0 (q_M_put t0 (255 : Int32) M) fun _ M =>
      q_M_tells_93 mFU t0 i1 (0 : Int32) (0 : Int32) M
def q_M_tells_5 : Nat → Option Nat → Int32 → Int32 → mM → Option (Int32 × mM)
  | 0, _, _, _, _ => none
  | n + 1, t0, i1, i2, M => q_M_tells_5_b (q_M_tells_5 n) t0 i1 i2 M
set_option maxRecDepth 20000 in
theorem v_M_tells_5_b {E : mE} (r5 : Option Nat → Int32 → Int32 → mM → Option (Int32 × mM)) (h5 : ∀ (t0 : Option Nat) (i1 : Int32) (i2 : Int32) (M : mM), mVr E mi_M_tells 3 5 [some (.inr t0), some (.inl i1), some (.inl i2), none, none] [] M enI (r5 t0 i1 i2 M)) (t0 : Option Nat) (i1 : Int32) (i2 : Int32) (M : mM) : mVr E mi_M_tells 3 5 [some (.inr t0), some (.inl i1), some (.inl i2), none, none] [] M enI (q_M_tells_5_b r5 t0 i1 i2 M) := by
  unfold q_M_tells_5_b
  refine m_iload_n (d_M_tells (k := 4) rfl) rfl ?_
  refine m_bipush (v := 36) (d_M_tells (k := 5) rfl) (by decide) ?_
  refine m_iload_n (d_M_tells (k := 6) rfl) rfl ?_
  refine m_imul (d_M_tells (k := 7) rfl) ?_
  refine m_bipush (v := 36) (d_M_tells (k := 8) rfl) (by decide) ?_
  refine m_iadd (d_M_tells (k := 9) rfl) ?_
  refine m_icmp_ge (tgt := 60) (d_M_tells (k := 10) rfl) rfl ?_ ?_
  · refine m_aload_n (d_M_tells (k := 11) rfl) rfl ?_
    refine m_getR (d_M_tells (k := 12) rfl) fl_M_185 rfl (fun a1 => ?_)
    refine m_iload_n (d_M_tells (k := 13) rfl) rfl ?_
    refine m_iald (d_M_tells (k := 14) rfl) (fun x2 => ?_)
    refine m_if_ne (tgt := 28) (d_M_tells (k := 15) rfl) rfl ?_ ?_
    · refine m_goto (tgt := 54) (d_M_tells (k := 16) rfl) rfl ?_
      exact m_drop (mles_s (mles_s (mles_s (mles_n (mles_n mles_0))))) (v_M_tells_54 r5 h5 t0 i1 i2 M)
    · refine m_aload_n (d_M_tells (k := 17) rfl) rfl ?_
      refine m_getR (d_M_tells (k := 18) rfl) fl_M_188 rfl (fun a3 => ?_)
      refine m_iload_n (d_M_tells (k := 19) rfl) rfl ?_
      refine m_dup2 (d_M_tells (k := 20) rfl) ?_
      refine m_iald (d_M_tells (k := 21) rfl) (fun x4 => ?_)
      refine m_iconst (v := 1) (d_M_tells (k := 22) rfl) (by decide) ?_
      refine m_isub (d_M_tells (k := 23) rfl) ?_
      refine m_iast (d_M_tells (k := 24) rfl) (fun M => ?_)
      refine m_aload_n (d_M_tells (k := 25) rfl) rfl ?_
      refine m_getR (d_M_tells (k := 26) rfl) fl_M_188 rfl (fun a5 => ?_)
      refine m_iload_n (d_M_tells (k := 27) rfl) rfl ?_
      refine m_iald (d_M_tells (k := 28) rfl) (fun x6 => ?_)
      refine m_if_ne (tgt := 54) (d_M_tells (k := 29) rfl) rfl ?_ ?_
      · refine m_aload_n (d_M_tells (k := 30) rfl) rfl ?_
        refine m_getR (d_M_tells (k := 31) rfl) fl_M_185 rfl (fun a7 => ?_)
        refine m_iload_n (d_M_tells (k := 32) rfl) rfl ?_
        refine m_iconst (v := 0) (d_M_tells (k := 33) rfl) (by decide) ?_
        refine m_iast (d_M_tells (k := 34) rfl) (fun M => ?_)
        exact m_drop (mles_s (mles_s (mles_s (mles_n (mles_n mles_0))))) (v_M_tells_54 r5 h5 t0 i1 i2 M)
      · exact m_drop (mles_s (mles_s (mles_s (mles_n (mles_n mles_0))))) (v_M_tells_54 r5 h5 t0 i1 i2 M)
  · refine m_aload_n (d_M_tells (k := 37) rfl) rfl ?_
    refine m_bipush (v := 6) (d_M_tells (k := 38) rfl) (by decide) ?_
    refine m_iload_n (d_M_tells (k := 39) rfl) rfl ?_
    refine m_iconst (v := (-1)) (d_M_tells (k := 40) rfl) (by decide) ?_
    refine m_iconst (v := (-1)) (d_M_tells (k := 41) rfl) (by decide) ?_
    refine m_iconst (v := 1) (d_M_tells (k := 42) rfl) (by decide) ?_
    refine m_cvU (c := 10) (vs := [.inl (6 : Int32), .inl i1, .inl (-1 : Int32), .inl (-1 : Int32), .inl (1 : Int32)]) (st := []) (d_M_tells (k := 43) rfl) (s_M_begin t0 (6 : Int32) i1 (-1 : Int32) (-1 : Int32) (1 : Int32) M) cd_M_begin ml_M_387 im_M_begin se_M_begin rfl (by decide) rfl (Nat.le_of_ble_eq_true rfl) (fun _ M => ?_)
    refine m_aload_n (d_M_tells (k := 44) rfl) rfl ?_
    refine m_iconst (v := 3) (d_M_tells (k := 45) rfl) (by decide) ?_
    refine m_cvU (c := 10) (vs := [.inl (3 : Int32)]) (st := []) (d_M_tells (k := 46) rfl) (s_M_put t0 (3 : Int32) M) cd_M_put ml_M_270 im_M_put se_M_put rfl (by decide) rfl (Nat.le_of_ble_eq_true rfl) (fun _ M => ?_)
    refine m_aload_n (d_M_tells (k := 47) rfl) rfl ?_
    refine m_sipush (v := 207) (d_M_tells (k := 48) rfl) (by decide) ?_
    refine m_cvU (c := 10) (vs := [.inl (207 : Int32)]) (st := []) (d_M_tells (k := 49) rfl) (s_M_put t0 (207 : Int32) M) cd_M_put ml_M_270 im_M_put se_M_put rfl (by decide) rfl (Nat.le_of_ble_eq_true rfl) (fun _ M => ?_)
    refine m_aload_n (d_M_tells (k := 50) rfl) rfl ?_
    refine m_sipush (v := 255) (d_M_tells (k := 51) rfl) (by decide) ?_
    refine m_cvU (c := 10) (vs := [.inl (255 : Int32)]) (st := []) (d_M_tells (k := 52) rfl) (s_M_put t0 (255 : Int32) M) cd_M_put ml_M_270 im_M_put se_M_put rfl (by decide) rfl (Nat.le_of_ble_eq_true rfl) (fun _ M => ?_)
    refine m_iconst (v := 0) (d_M_tells (k := 53) rfl) (by decide) ?_
    refine m_ist_n (ls' := [some (.inr t0), some (.inl i1), some (.inl (0 : Int32)), none, none]) (d_M_tells (k := 54) rfl) (by decide) rfl ?_
    refine m_iconst (v := 0) (d_M_tells (k := 55) rfl) (by decide) ?_
    refine m_ist_n (ls' := [some (.inr t0), some (.inl i1), some (.inl (0 : Int32)), some (.inl (0 : Int32)), none]) (d_M_tells (k := 56) rfl) (by decide) rfl ?_
    exact m_drop (mles_s (mles_s (mles_s (mles_s (mles_n mles_0))))) (v_M_tells_93 mFU t0 i1 (0 : Int32) (0 : Int32) M)
theorem v_M_tells_5 {E : mE} : ∀ (n : Nat) (t0 : Option Nat) (i1 : Int32) (i2 : Int32) (M : mM), mVr E mi_M_tells 3 5 [some (.inr t0), some (.inl i1), some (.inl i2), none, none] [] M enI (q_M_tells_5 n t0 i1 i2 M)
  | 0, _, _, _, _ => m_none
  | n + 1, t0, i1, i2, M => v_M_tells_5_b _ (v_M_tells_5 n) t0 i1 i2 M
def q_M_tells (t0 : Option Nat) (i1 : Int32) (M : mM) : Option (Int32 × mM) :=
    x_lt ((36 : Int32) * i1) fun x1 =>
    q_M_tells_5 mFU t0 i1 x1 M
set_option maxRecDepth 20000 in
theorem v_M_tells {E : mE} (t0 : Option Nat) (i1 : Int32) (M : mM) : mVr E mi_M_tells 3 0 [some (.inr t0), some (.inl i1), none, none, none] [] M enI (q_M_tells t0 i1 M) := by
  unfold q_M_tells
  refine m_bipush (v := 36) (d_M_tells (k := 0) rfl) (by decide) ?_
  refine m_iload_n (d_M_tells (k := 1) rfl) rfl ?_
  refine m_imul (d_M_tells (k := 2) rfl) ?_
  refine m_lt (fun x1 => ?_)
  refine m_ist_n (ls' := [some (.inr t0), some (.inl i1), some (.inl x1), none, none]) (d_M_tells (k := 3) rfl) (by decide) rfl ?_
  exact m_drop (mles_s (mles_s (mles_s (mles_n (mles_n mles_0))))) (v_M_tells_5 mFU t0 i1 x1 M)
theorem s_M_tells {E : mE} (t0 : Option Nat) (i1 : Int32) (M : mM) : mSnd E mi_M_tells 3 [.inr t0, .inl i1] M enI (q_M_tells t0 i1 M) := m_entryI (by decide) (Nat.le_of_ble_eq_true rfl) rfl (m_drop (mles_s (mles_s (mles_e (mles_e (mles_e mles_0))))) (v_M_tells t0 i1 M))
def dt_M_beacon : List (Nat × Instr × Nat) := [(0, .iload_n 1, 1), (1, .invokestatic 207, 3), (4, .ifCond .eq 11, 3), (7, .aload_n 0, 1), (8, .iload_n 1, 1), (9, .invokevirtual 313, 3), (12, .goto 4, 3), (15, .iconst (-1), 1), (16, .ireturn, 1)]
theorem dx_M_beacon : ∀ p ∈ dt_M_beacon, decode prog_12_method_82_code p.1 = .ok p.2 := by decide +kernel
theorem d_M_beacon {k pc : Nat} {i : Instr} {n : Nat} (h : dt_M_beacon[k]? = some (pc, i, n)) : decode mi_M_beacon.2.1 pc = .ok (i, n) := dx_M_beacon (pc, i, n) (List.mem_of_getElem? h)
def q_M_beacon (t0 : Option Nat) (i1 : Int32) (M : mM) : Option (Int32 × mM) :=
    x_cl (q_M_isStation i1 M) fun x1 M =>
    if x1 = 0 then
      some ((-1 : Int32), M)
    else
      x_cv M 10 t0 (q_M_tells t0 i1 M) fun x2 M =>
      some (x2, M)
set_option maxRecDepth 20000 in
theorem v_M_beacon {E : mE} (t0 : Option Nat) (i1 : Int32) (M : mM) : mVr E mi_M_beacon 4 0 [some (.inr t0), some (.inl i1)] [] M enI (q_M_beacon t0 i1 M) := by
  unfold q_M_beacon
  refine m_iload_n (d_M_beacon (k := 0) rfl) rfl ?_
  refine m_csI (vs := [.inl i1]) (st := []) (d_M_beacon (k := 1) rfl) (s_M_isStation i1 M) cd_M_isStation ml_M_207 sa_M_isStation (by decide) rfl (Nat.le_of_ble_eq_true rfl) (fun x1 M => ?_)
  refine m_if_eq (tgt := 15) (d_M_beacon (k := 2) rfl) rfl ?_ ?_
  · refine m_iconst (v := (-1)) (d_M_beacon (k := 7) rfl) (by decide) ?_
    exact m_iret (d_M_beacon (k := 8) rfl) rfl
  · refine m_aload_n (d_M_beacon (k := 3) rfl) rfl ?_
    refine m_iload_n (d_M_beacon (k := 4) rfl) rfl ?_
    refine m_cvI (c := 10) (vs := [.inl i1]) (st := []) (d_M_beacon (k := 5) rfl) (s_M_tells t0 i1 M) cd_M_tells ml_M_313 im_M_tells se_M_tells rfl (by decide) rfl (Nat.le_of_ble_eq_true rfl) (fun x2 M => ?_)
    refine m_goto (tgt := 16) (d_M_beacon (k := 6) rfl) rfl ?_
    exact m_iret (d_M_beacon (k := 8) rfl) rfl
theorem s_M_beacon {E : mE} (t0 : Option Nat) (i1 : Int32) (M : mM) : mSnd E mi_M_beacon 4 [.inr t0, .inl i1] M enI (q_M_beacon t0 i1 M) := m_entryI (by decide) (Nat.le_of_ble_eq_true rfl) rfl (m_drop (mles_s (mles_s mles_0)) (v_M_beacon t0 i1 M))
def dt_M_isLink : List (Nat × Instr × Nat) := [(0, .iload_n 0, 1), (1, .invokestatic 207, 3), (4, .ifCond .eq 19, 3), (7, .iload_n 1, 1), (8, .invokestatic 207, 3), (11, .ifCond .eq 12, 3), (14, .iload_n 0, 1), (15, .iload_n 1, 1), (16, .if_icmp .eq 7, 3), (19, .iconst 1, 1), (20, .goto 4, 3), (23, .iconst 0, 1), (24, .ireturn, 1)]
theorem dx_M_isLink : ∀ p ∈ dt_M_isLink, decode prog_12_method_5_code p.1 = .ok p.2 := by decide +kernel
theorem d_M_isLink {k pc : Nat} {i : Instr} {n : Nat} (h : dt_M_isLink[k]? = some (pc, i, n)) : decode mi_M_isLink.2.1 pc = .ok (i, n) := dx_M_isLink (pc, i, n) (List.mem_of_getElem? h)
def q_M_isLink (i0 : Int32) (i1 : Int32) (M : mM) : Option (Int32 × mM) :=
    x_cl (q_M_isStation i0 M) fun x1 M =>
    if x1 = 0 then
      x_rz (0 : Int32) M
    else
      x_cl (q_M_isStation i1 M) fun x2 M =>
      if x2 = 0 then
        x_rz (0 : Int32) M
      else
        if i0 = i1 then
          x_rz (0 : Int32) M
        else
          x_rz (1 : Int32) M
set_option maxRecDepth 20000 in
theorem v_M_isLink {E : mE} (i0 : Int32) (i1 : Int32) (M : mM) : mVr E mi_M_isLink 2 0 [some (.inl i0), some (.inl i1)] [] M enI (q_M_isLink i0 i1 M) := by
  unfold q_M_isLink
  refine m_iload_n (d_M_isLink (k := 0) rfl) rfl ?_
  refine m_csI (vs := [.inl i0]) (st := []) (d_M_isLink (k := 1) rfl) (s_M_isStation i0 M) cd_M_isStation ml_M_207 sa_M_isStation (by decide) rfl (Nat.le_of_ble_eq_true rfl) (fun x1 M => ?_)
  refine m_if_eq (tgt := 23) (d_M_isLink (k := 2) rfl) rfl ?_ ?_
  · refine m_iconst (v := 0) (d_M_isLink (k := 11) rfl) (by decide) ?_
    exact m_zret (d_M_isLink (k := 12) rfl) rfl
  · refine m_iload_n (d_M_isLink (k := 3) rfl) rfl ?_
    refine m_csI (vs := [.inl i1]) (st := []) (d_M_isLink (k := 4) rfl) (s_M_isStation i1 M) cd_M_isStation ml_M_207 sa_M_isStation (by decide) rfl (Nat.le_of_ble_eq_true rfl) (fun x2 M => ?_)
    refine m_if_eq (tgt := 23) (d_M_isLink (k := 5) rfl) rfl ?_ ?_
    · refine m_iconst (v := 0) (d_M_isLink (k := 11) rfl) (by decide) ?_
      exact m_zret (d_M_isLink (k := 12) rfl) rfl
    · refine m_iload_n (d_M_isLink (k := 6) rfl) rfl ?_
      refine m_iload_n (d_M_isLink (k := 7) rfl) rfl ?_
      refine m_icmp_eq (tgt := 23) (d_M_isLink (k := 8) rfl) rfl ?_ ?_
      · refine m_iconst (v := 0) (d_M_isLink (k := 11) rfl) (by decide) ?_
        exact m_zret (d_M_isLink (k := 12) rfl) rfl
      · refine m_iconst (v := 1) (d_M_isLink (k := 9) rfl) (by decide) ?_
        refine m_goto (tgt := 24) (d_M_isLink (k := 10) rfl) rfl ?_
        exact m_zret (d_M_isLink (k := 12) rfl) rfl
theorem s_M_isLink {E : mE} (i0 : Int32) (i1 : Int32) (M : mM) : mSnd E mi_M_isLink 2 [.inl i0, .inl i1] M enI (q_M_isLink i0 i1 M) := m_entryZ (by decide) (Nat.le_of_ble_eq_true rfl) rfl (m_drop (mles_s (mles_s mles_0)) (v_M_isLink i0 i1 M))
def dt_M_best : List (Nat × Instr × Nat) := [(0, .iload_n 1, 1), (1, .iload_n 2, 1), (2, .invokestatic 258, 3), (5, .ifCond .eq 12, 3), (8, .aload_n 0, 1), (9, .iload_n 1, 1), (10, .iload_n 2, 1), (11, .invokevirtual 449, 3), (14, .goto 4, 3), (17, .iconst (-1), 1), (18, .ireturn, 1)]
theorem dx_M_best : ∀ p ∈ dt_M_best, decode prog_12_method_85_code p.1 = .ok p.2 := by decide +kernel
theorem d_M_best {k pc : Nat} {i : Instr} {n : Nat} (h : dt_M_best[k]? = some (pc, i, n)) : decode mi_M_best.2.1 pc = .ok (i, n) := dx_M_best (pc, i, n) (List.mem_of_getElem? h)
def q_M_best (t0 : Option Nat) (i1 : Int32) (i2 : Int32) (M : mM) : Option (Int32 × mM) :=
    x_cl (q_M_isLink i1 i2 M) fun x1 M =>
    if x1 = 0 then
      some ((-1 : Int32), M)
    else
      x_cv M 10 t0 (q_M_bestTo t0 i1 i2 M) fun x2 M =>
      some (x2, M)
set_option maxRecDepth 20000 in
theorem v_M_best {E : mE} (t0 : Option Nat) (i1 : Int32) (i2 : Int32) (M : mM) : mVr E mi_M_best 3 0 [some (.inr t0), some (.inl i1), some (.inl i2)] [] M enI (q_M_best t0 i1 i2 M) := by
  unfold q_M_best
  refine m_iload_n (d_M_best (k := 0) rfl) rfl ?_
  refine m_iload_n (d_M_best (k := 1) rfl) rfl ?_
  refine m_csI (vs := [.inl i1, .inl i2]) (st := []) (d_M_best (k := 2) rfl) (s_M_isLink i1 i2 M) cd_M_isLink ml_M_258 sa_M_isLink (by decide) rfl (Nat.le_of_ble_eq_true rfl) (fun x1 M => ?_)
  refine m_if_eq (tgt := 17) (d_M_best (k := 3) rfl) rfl ?_ ?_
  · refine m_iconst (v := (-1)) (d_M_best (k := 9) rfl) (by decide) ?_
    exact m_iret (d_M_best (k := 10) rfl) rfl
  · refine m_aload_n (d_M_best (k := 4) rfl) rfl ?_
    refine m_iload_n (d_M_best (k := 5) rfl) rfl ?_
    refine m_iload_n (d_M_best (k := 6) rfl) rfl ?_
    refine m_cvI (c := 10) (vs := [.inl i1, .inl i2]) (st := []) (d_M_best (k := 7) rfl) (s_M_bestTo t0 i1 i2 M) cd_M_bestTo ml_M_449 im_M_bestTo se_M_bestTo rfl (by decide) rfl (Nat.le_of_ble_eq_true rfl) (fun x2 M => ?_)
    refine m_goto (tgt := 18) (d_M_best (k := 8) rfl) rfl ?_
    exact m_iret (d_M_best (k := 10) rfl) rfl
theorem s_M_best {E : mE} (t0 : Option Nat) (i1 : Int32) (i2 : Int32) (M : mM) : mSnd E mi_M_best 3 [.inr t0, .inl i1, .inl i2] M enI (q_M_best t0 i1 i2 M) := m_entryI (by decide) (Nat.le_of_ble_eq_true rfl) rfl (m_drop (mles_s (mles_s (mles_s mles_0))) (v_M_best t0 i1 i2 M))
def dt_M_makeFlag : List (Nat × Instr × Nat) := [(0, .iconst 0, 1), (1, .istore_n 1, 1), (2, .iload_n 1, 1), (3, .bipush 8, 2), (5, .if_icmp .ge 43, 3), (8, .aload_n 0, 1), (9, .getfield 16, 3), (12, .aload_n 0, 1), (13, .getfield 224, 3), (16, .iload_n 1, 1), (17, .ifCond .eq 9, 3), (20, .iload_n 1, 1), (21, .bipush 7, 2), (23, .if_icmp .ne 7, 3), (26, .iconst 0, 1), (27, .goto 4, 3), (30, .iconst 1, 1), (31, .iastore, 1), (32, .aload_n 0, 1), (33, .dup, 1), (34, .getfield 224, 3), (37, .iconst 1, 1), (38, .iadd, 1), (39, .putfield 224, 3), (42, .iinc 1 1, 3), (45, .goto (-43), 3), (48, .aload_n 0, 1), (49, .iconst 0, 1), (50, .putfield 227, 3), (53, .return_, 1)]
theorem dx_M_makeFlag : ∀ p ∈ dt_M_makeFlag, decode prog_12_method_13_code p.1 = .ok p.2 := by decide +kernel
theorem d_M_makeFlag {k pc : Nat} {i : Instr} {n : Nat} (h : dt_M_makeFlag[k]? = some (pc, i, n)) : decode mi_M_makeFlag.2.1 pc = .ok (i, n) := dx_M_makeFlag (pc, i, n) (List.mem_of_getElem? h)
def q_M_makeFlag_31 (r2 : Option Nat → Int32 → mM → Option (Unit × mM)) (t0 : Option Nat) (i1 : Int32) (j0 : Int32) (j1 : Int32) (u2 : Option Nat) (M : mM) : Option (Unit × mM) :=
    x_wI M u2 j1 j0 fun M =>
    x_gI M 10 t0 5 fun x1 =>
    x_pI M 10 t0 5 (x1 + (1 : Int32)) fun M =>
    r2 t0 (i1 + 1) M
set_option maxRecDepth 20000 in
theorem v_M_makeFlag_31 {E : mE} (r2 : Option Nat → Int32 → mM → Option (Unit × mM)) (h2 : ∀ (t0 : Option Nat) (i1 : Int32) (M : mM), mVr E mi_M_makeFlag 0 2 [some (.inr t0), some (.inl i1)] [] M enU (r2 t0 i1 M)) (t0 : Option Nat) (i1 : Int32) (j0 : Int32) (j1 : Int32) (u2 : Option Nat) (M : mM) : mVr E mi_M_makeFlag 0 31 [some (.inr t0), some (.inl i1)] [.inl j0, .inl j1, .inr u2] M enU (q_M_makeFlag_31 r2 t0 i1 j0 j1 u2 M) := by
  unfold q_M_makeFlag_31
  refine m_iast (d_M_makeFlag (k := 17) rfl) (fun M => ?_)
  refine m_aload_n (d_M_makeFlag (k := 18) rfl) rfl ?_
  refine m_dup (d_M_makeFlag (k := 19) rfl) ?_
  refine m_getI (d_M_makeFlag (k := 20) rfl) fl_M_224 rfl (fun x1 => ?_)
  refine m_iconst (v := 1) (d_M_makeFlag (k := 21) rfl) (by decide) ?_
  refine m_iadd (d_M_makeFlag (k := 22) rfl) ?_
  refine m_pI (d_M_makeFlag (k := 23) rfl) fp_M_224 (fun h => absurd h (by decide)) rfl (fun M => ?_)
  refine m_inc (v := 1) (ls' := [some (.inr t0), some (.inl (i1 + 1))]) (d_M_makeFlag (k := 24) rfl) rfl (by decide) (by decide) rfl ?_
  refine m_goto (tgt := 2) (d_M_makeFlag (k := 25) rfl) rfl ?_
  exact m_drop (mles_s (mles_s mles_0)) (h2 t0 (i1 + 1) M)
def q_M_makeFlag_26 (r2 : Option Nat → Int32 → mM → Option (Unit × mM)) (t0 : Option Nat) (i1 : Int32) (j0 : Int32) (u1 : Option Nat) (M : mM) : Option (Unit × mM) :=
    q_M_makeFlag_31 r2 t0 i1 (0 : Int32) j0 u1 M
set_option maxRecDepth 20000 in
theorem v_M_makeFlag_26 {E : mE} (r2 : Option Nat → Int32 → mM → Option (Unit × mM)) (h2 : ∀ (t0 : Option Nat) (i1 : Int32) (M : mM), mVr E mi_M_makeFlag 0 2 [some (.inr t0), some (.inl i1)] [] M enU (r2 t0 i1 M)) (t0 : Option Nat) (i1 : Int32) (j0 : Int32) (u1 : Option Nat) (M : mM) : mVr E mi_M_makeFlag 0 26 [some (.inr t0), some (.inl i1)] [.inl j0, .inr u1] M enU (q_M_makeFlag_26 r2 t0 i1 j0 u1 M) := by
  unfold q_M_makeFlag_26
  refine m_iconst (v := 0) (d_M_makeFlag (k := 14) rfl) (by decide) ?_
  refine m_goto (tgt := 31) (d_M_makeFlag (k := 15) rfl) rfl ?_
  exact m_drop (mles_s (mles_s mles_0)) (v_M_makeFlag_31 r2 h2 t0 i1 (0 : Int32) j0 u1 M)
def q_M_makeFlag_2_b (r2 : Option Nat → Int32 → mM → Option (Unit × mM)) (t0 : Option Nat) (i1 : Int32) (M : mM) : Option (Unit × mM) :=
    if i1 < (8 : Int32) then
      x_gR M 10 t0 4 fun a1 =>
      x_gI M 10 t0 5 fun x2 =>
      if i1 = 0 then
        q_M_makeFlag_26 r2 t0 i1 x2 a1 M
      else
        if i1 = (7 : Int32) then
          q_M_makeFlag_26 r2 t0 i1 x2 a1 M
        else
          q_M_makeFlag_31 r2 t0 i1 (1 : Int32) x2 a1 M
    else
      x_pI M 10 t0 6 (0 : Int32) fun M =>
      some ((), M)
def q_M_makeFlag_2 : Nat → Option Nat → Int32 → mM → Option (Unit × mM)
  | 0, _, _, _ => none
  | n + 1, t0, i1, M => q_M_makeFlag_2_b (q_M_makeFlag_2 n) t0 i1 M
set_option maxRecDepth 20000 in
theorem v_M_makeFlag_2_b {E : mE} (r2 : Option Nat → Int32 → mM → Option (Unit × mM)) (h2 : ∀ (t0 : Option Nat) (i1 : Int32) (M : mM), mVr E mi_M_makeFlag 0 2 [some (.inr t0), some (.inl i1)] [] M enU (r2 t0 i1 M)) (t0 : Option Nat) (i1 : Int32) (M : mM) : mVr E mi_M_makeFlag 0 2 [some (.inr t0), some (.inl i1)] [] M enU (q_M_makeFlag_2_b r2 t0 i1 M) := by
  unfold q_M_makeFlag_2_b
  refine m_iload_n (d_M_makeFlag (k := 2) rfl) rfl ?_
  refine m_bipush (v := 8) (d_M_makeFlag (k := 3) rfl) (by decide) ?_
  refine m_icmp_ge (tgt := 48) (d_M_makeFlag (k := 4) rfl) rfl ?_ ?_
  · refine m_aload_n (d_M_makeFlag (k := 5) rfl) rfl ?_
    refine m_getR (d_M_makeFlag (k := 6) rfl) fl_M_16 rfl (fun a1 => ?_)
    refine m_aload_n (d_M_makeFlag (k := 7) rfl) rfl ?_
    refine m_getI (d_M_makeFlag (k := 8) rfl) fl_M_224 rfl (fun x2 => ?_)
    refine m_iload_n (d_M_makeFlag (k := 9) rfl) rfl ?_
    refine m_if_eq (tgt := 26) (d_M_makeFlag (k := 10) rfl) rfl ?_ ?_
    · exact m_drop (mles_s (mles_s mles_0)) (v_M_makeFlag_26 r2 h2 t0 i1 x2 a1 M)
    · refine m_iload_n (d_M_makeFlag (k := 11) rfl) rfl ?_
      refine m_bipush (v := 7) (d_M_makeFlag (k := 12) rfl) (by decide) ?_
      refine m_icmp_ne (tgt := 30) (d_M_makeFlag (k := 13) rfl) rfl ?_ ?_
      · exact m_drop (mles_s (mles_s mles_0)) (v_M_makeFlag_26 r2 h2 t0 i1 x2 a1 M)
      · refine m_iconst (v := 1) (d_M_makeFlag (k := 16) rfl) (by decide) ?_
        exact m_drop (mles_s (mles_s mles_0)) (v_M_makeFlag_31 r2 h2 t0 i1 (1 : Int32) x2 a1 M)
  · refine m_aload_n (d_M_makeFlag (k := 26) rfl) rfl ?_
    refine m_iconst (v := 0) (d_M_makeFlag (k := 27) rfl) (by decide) ?_
    refine m_pI (d_M_makeFlag (k := 28) rfl) fp_M_227 (fun h => absurd h (by decide)) rfl (fun M => ?_)
    exact m_vret (d_M_makeFlag (k := 29) rfl) rfl
theorem v_M_makeFlag_2 {E : mE} : ∀ (n : Nat) (t0 : Option Nat) (i1 : Int32) (M : mM), mVr E mi_M_makeFlag 0 2 [some (.inr t0), some (.inl i1)] [] M enU (q_M_makeFlag_2 n t0 i1 M)
  | 0, _, _, _ => m_none
  | n + 1, t0, i1, M => v_M_makeFlag_2_b _ (v_M_makeFlag_2 n) t0 i1 M
def q_M_makeFlag (t0 : Option Nat) (M : mM) : Option (Unit × mM) :=
    q_M_makeFlag_2 mFU t0 (0 : Int32) M
set_option maxRecDepth 20000 in
theorem v_M_makeFlag {E : mE} (t0 : Option Nat) (M : mM) : mVr E mi_M_makeFlag 0 0 [some (.inr t0), none] [] M enU (q_M_makeFlag t0 M) := by
  unfold q_M_makeFlag
  refine m_iconst (v := 0) (d_M_makeFlag (k := 0) rfl) (by decide) ?_
  refine m_ist_n (ls' := [some (.inr t0), some (.inl (0 : Int32))]) (d_M_makeFlag (k := 1) rfl) (by decide) rfl ?_
  exact m_drop (mles_s (mles_s mles_0)) (v_M_makeFlag_2 mFU t0 (0 : Int32) M)
theorem s_M_makeFlag {E : mE} (t0 : Option Nat) (M : mM) : mSnd E mi_M_makeFlag 0 [.inr t0] M enU (q_M_makeFlag t0 M) := m_entryU (by decide) (Nat.le_of_ble_eq_true rfl) rfl (m_drop (mles_s (mles_e mles_0)) (v_M_makeFlag t0 M))
def dt_M_checkOf : List (Nat × Instr × Nat) := [(0, .ldc 222, 2), (2, .istore_n 3, 1), (3, .iconst 0, 1), (4, .istore 4, 2), (6, .iload 4, 2), (8, .bipush 8, 2), (10, .iload_n 2, 1), (11, .imul, 1), (12, .if_icmp .ge 57, 3), (15, .aload_n 0, 1), (16, .iload_n 1, 1), (17, .iload 4, 2), (19, .bipush 8, 2), (21, .idiv, 1), (22, .iadd, 1), (23, .iaload, 1), (24, .iload 4, 2), (26, .bipush 8, 2), (28, .irem, 1), (29, .ishr, 1), (30, .iconst 1, 1), (31, .iand, 1), (32, .istore 5, 2), (34, .iload_n 3, 1), (35, .iconst 1, 1), (36, .iand, 1), (37, .iload 5, 2), (39, .if_icmp .eq 7, 3), (42, .iconst 1, 1), (43, .goto 4, 3), (46, .iconst 0, 1), (47, .istore 6, 2), (49, .iload_n 3, 1), (50, .iconst 1, 1), (51, .ishr, 1), (52, .istore_n 3, 1), (53, .iload 6, 2), (55, .ifCond .eq 8, 3), (58, .iload_n 3, 1), (59, .ldc 223, 2), (61, .ixor, 1), (62, .istore_n 3, 1), (63, .iinc 4 1, 3), (66, .goto (-60), 3), (69, .ldc 222, 2), (71, .iload_n 3, 1), (72, .isub, 1), (73, .ireturn, 1)]
theorem dx_M_checkOf : ∀ p ∈ dt_M_checkOf, decode prog_12_method_10_code p.1 = .ok p.2 := by decide +kernel
theorem d_M_checkOf {k pc : Nat} {i : Instr} {n : Nat} (h : dt_M_checkOf[k]? = some (pc, i, n)) : decode mi_M_checkOf.2.1 pc = .ok (i, n) := dx_M_checkOf (pc, i, n) (List.mem_of_getElem? h)
def q_M_checkOf_63 (r6 : Option Nat → Int32 → Int32 → Int32 → Int32 → mM → Option (Int32 × mM)) (t0 : Option Nat) (i1 : Int32) (i2 : Int32) (i3 : Int32) (i4 : Int32) (M : mM) : Option (Int32 × mM) :=
    r6 t0 i1 i2 i3 (i4 + 1) M
set_option maxRecDepth 20000 in
theorem v_M_checkOf_63 {E : mE} (r6 : Option Nat → Int32 → Int32 → Int32 → Int32 → mM → Option (Int32 × mM)) (h6 : ∀ (t0 : Option Nat) (i1 : Int32) (i2 : Int32) (i3 : Int32) (i4 : Int32) (M : mM), mVr E mi_M_checkOf 0 6 [some (.inr t0), some (.inl i1), some (.inl i2), some (.inl i3), some (.inl i4), none, none] [] M enI (r6 t0 i1 i2 i3 i4 M)) (t0 : Option Nat) (i1 : Int32) (i2 : Int32) (i3 : Int32) (i4 : Int32) (M : mM) : mVr E mi_M_checkOf 0 63 [some (.inr t0), some (.inl i1), some (.inl i2), some (.inl i3), some (.inl i4), none, none] [] M enI (q_M_checkOf_63 r6 t0 i1 i2 i3 i4 M) := by
  unfold q_M_checkOf_63
  refine m_inc (v := 1) (ls' := [some (.inr t0), some (.inl i1), some (.inl i2), some (.inl i3), some (.inl (i4 + 1)), none, none]) (d_M_checkOf (k := 42) rfl) rfl (by decide) (by decide) rfl ?_
  refine m_goto (tgt := 6) (d_M_checkOf (k := 43) rfl) rfl ?_
  exact m_drop (mles_s (mles_s (mles_s (mles_s (mles_s (mles_n (mles_n mles_0))))))) (h6 t0 i1 i2 i3 (i4 + 1) M)
def q_M_checkOf_47 (r6 : Option Nat → Int32 → Int32 → Int32 → Int32 → mM → Option (Int32 × mM)) (t0 : Option Nat) (i1 : Int32) (i2 : Int32) (i3 : Int32) (i4 : Int32) (j0 : Int32) (M : mM) : Option (Int32 × mM) :=
    x_lt (i3 >>> ((1 : Int32) &&& 31)) fun x1 =>
    if j0 = 0 then
      q_M_checkOf_63 r6 t0 i1 i2 x1 i4 M
    else
      x_lt (x1 ^^^ (33800 : Int32)) fun x2 =>
      q_M_checkOf_63 r6 t0 i1 i2 x2 i4 M
set_option maxRecDepth 20000 in
theorem v_M_checkOf_47 {E : mE} (r6 : Option Nat → Int32 → Int32 → Int32 → Int32 → mM → Option (Int32 × mM)) (h6 : ∀ (t0 : Option Nat) (i1 : Int32) (i2 : Int32) (i3 : Int32) (i4 : Int32) (M : mM), mVr E mi_M_checkOf 0 6 [some (.inr t0), some (.inl i1), some (.inl i2), some (.inl i3), some (.inl i4), none, none] [] M enI (r6 t0 i1 i2 i3 i4 M)) (t0 : Option Nat) (i1 : Int32) (i2 : Int32) (i3 : Int32) (i4 : Int32) (j0 : Int32) (M : mM) : mVr E mi_M_checkOf 0 47 [some (.inr t0), some (.inl i1), some (.inl i2), some (.inl i3), some (.inl i4), none, none] [.inl j0] M enI (q_M_checkOf_47 r6 t0 i1 i2 i3 i4 j0 M) := by
  unfold q_M_checkOf_47
  refine m_ist (ls' := [some (.inr t0), some (.inl i1), some (.inl i2), some (.inl i3), some (.inl i4), none, some (.inl j0)]) (d_M_checkOf (k := 31) rfl) (by decide) rfl ?_
  refine m_iload_n (d_M_checkOf (k := 32) rfl) rfl ?_
  refine m_iconst (v := 1) (d_M_checkOf (k := 33) rfl) (by decide) ?_
  refine m_ishr (d_M_checkOf (k := 34) rfl) ?_
  refine m_lt (fun x1 => ?_)
  refine m_ist_n (ls' := [some (.inr t0), some (.inl i1), some (.inl i2), some (.inl x1), some (.inl i4), none, some (.inl j0)]) (d_M_checkOf (k := 35) rfl) (by decide) rfl ?_
  refine m_iload (d_M_checkOf (k := 36) rfl) rfl ?_
  refine m_if_eq (tgt := 63) (d_M_checkOf (k := 37) rfl) rfl ?_ ?_
  · exact m_drop (mles_s (mles_s (mles_s (mles_s (mles_s (mles_n (mles_n mles_0))))))) (v_M_checkOf_63 r6 h6 t0 i1 i2 x1 i4 M)
  · refine m_iload_n (d_M_checkOf (k := 38) rfl) rfl ?_
    refine m_ldc (d_M_checkOf (k := 39) rfl) ct_M_223 ?_
    refine m_ixor (d_M_checkOf (k := 40) rfl) ?_
    refine m_lt (fun x2 => ?_)
    refine m_ist_n (ls' := [some (.inr t0), some (.inl i1), some (.inl i2), some (.inl x2), some (.inl i4), none, some (.inl j0)]) (d_M_checkOf (k := 41) rfl) (by decide) rfl ?_
    exact m_drop (mles_s (mles_s (mles_s (mles_s (mles_s (mles_n (mles_n mles_0))))))) (v_M_checkOf_63 r6 h6 t0 i1 i2 x2 i4 M)
def q_M_checkOf_6_b (r6 : Option Nat → Int32 → Int32 → Int32 → Int32 → mM → Option (Int32 × mM)) (t0 : Option Nat) (i1 : Int32) (i2 : Int32) (i3 : Int32) (i4 : Int32) (M : mM) : Option (Int32 × mM) :=
    if i4 < ((8 : Int32) * i2) then
      x_dv i4 (8 : Int32) fun x1 =>
      x_aI M 0 t0 (i1 + x1) fun x2 =>
      x_rm i4 (8 : Int32) fun x3 =>
      x_lt ((x2 >>> (x3 &&& 31)) &&& (1 : Int32)) fun x4 =>
      if (i3 &&& (1 : Int32)) = x4 then
        q_M_checkOf_47 r6 t0 i1 i2 i3 i4 (0 : Int32) M
      else
        q_M_checkOf_47 r6 t0 i1 i2 i3 i4 (1 : Int32) M
    else
      some (((65535 : Int32) - i3), M)
def q_M_checkOf_6 : Nat → Option Nat → Int32 → Int32 → Int32 → Int32 → mM → Option (Int32 × mM)
  | 0, _, _, _, _, _, _ => none
  | n + 1, t0, i1, i2, i3, i4, M => q_M_checkOf_6_b (q_M_checkOf_6 n) t0 i1 i2 i3 i4 M
set_option maxRecDepth 20000 in
theorem v_M_checkOf_6_b {E : mE} (r6 : Option Nat → Int32 → Int32 → Int32 → Int32 → mM → Option (Int32 × mM)) (h6 : ∀ (t0 : Option Nat) (i1 : Int32) (i2 : Int32) (i3 : Int32) (i4 : Int32) (M : mM), mVr E mi_M_checkOf 0 6 [some (.inr t0), some (.inl i1), some (.inl i2), some (.inl i3), some (.inl i4), none, none] [] M enI (r6 t0 i1 i2 i3 i4 M)) (t0 : Option Nat) (i1 : Int32) (i2 : Int32) (i3 : Int32) (i4 : Int32) (M : mM) : mVr E mi_M_checkOf 0 6 [some (.inr t0), some (.inl i1), some (.inl i2), some (.inl i3), some (.inl i4), none, none] [] M enI (q_M_checkOf_6_b r6 t0 i1 i2 i3 i4 M) := by
  unfold q_M_checkOf_6_b
  refine m_iload (d_M_checkOf (k := 4) rfl) rfl ?_
  refine m_bipush (v := 8) (d_M_checkOf (k := 5) rfl) (by decide) ?_
  refine m_iload_n (d_M_checkOf (k := 6) rfl) rfl ?_
  refine m_imul (d_M_checkOf (k := 7) rfl) ?_
  refine m_icmp_ge (tgt := 69) (d_M_checkOf (k := 8) rfl) rfl ?_ ?_
  · refine m_aload_n (d_M_checkOf (k := 9) rfl) rfl ?_
    refine m_iload_n (d_M_checkOf (k := 10) rfl) rfl ?_
    refine m_iload (d_M_checkOf (k := 11) rfl) rfl ?_
    refine m_bipush (v := 8) (d_M_checkOf (k := 12) rfl) (by decide) ?_
    refine m_idiv (d_M_checkOf (k := 13) rfl) (fun x1 => ?_)
    refine m_iadd (d_M_checkOf (k := 14) rfl) ?_
    refine m_iald (d_M_checkOf (k := 15) rfl) (fun x2 => ?_)
    refine m_iload (d_M_checkOf (k := 16) rfl) rfl ?_
    refine m_bipush (v := 8) (d_M_checkOf (k := 17) rfl) (by decide) ?_
    refine m_irem (d_M_checkOf (k := 18) rfl) (fun x3 => ?_)
    refine m_ishr (d_M_checkOf (k := 19) rfl) ?_
    refine m_iconst (v := 1) (d_M_checkOf (k := 20) rfl) (by decide) ?_
    refine m_iand (d_M_checkOf (k := 21) rfl) ?_
    refine m_lt (fun x4 => ?_)
    refine m_ist (ls' := [some (.inr t0), some (.inl i1), some (.inl i2), some (.inl i3), some (.inl i4), some (.inl x4), none]) (d_M_checkOf (k := 22) rfl) (by decide) rfl ?_
    refine m_iload_n (d_M_checkOf (k := 23) rfl) rfl ?_
    refine m_iconst (v := 1) (d_M_checkOf (k := 24) rfl) (by decide) ?_
    refine m_iand (d_M_checkOf (k := 25) rfl) ?_
    refine m_iload (d_M_checkOf (k := 26) rfl) rfl ?_
    refine m_icmp_eq (tgt := 46) (d_M_checkOf (k := 27) rfl) rfl ?_ ?_
    · refine m_iconst (v := 0) (d_M_checkOf (k := 30) rfl) (by decide) ?_
      exact m_drop (mles_s (mles_s (mles_s (mles_s (mles_s (mles_n (mles_n mles_0))))))) (v_M_checkOf_47 r6 h6 t0 i1 i2 i3 i4 (0 : Int32) M)
    · refine m_iconst (v := 1) (d_M_checkOf (k := 28) rfl) (by decide) ?_
      refine m_goto (tgt := 47) (d_M_checkOf (k := 29) rfl) rfl ?_
      exact m_drop (mles_s (mles_s (mles_s (mles_s (mles_s (mles_n (mles_n mles_0))))))) (v_M_checkOf_47 r6 h6 t0 i1 i2 i3 i4 (1 : Int32) M)
  · refine m_ldc (d_M_checkOf (k := 44) rfl) ct_M_222 ?_
    refine m_iload_n (d_M_checkOf (k := 45) rfl) rfl ?_
    refine m_isub (d_M_checkOf (k := 46) rfl) ?_
    exact m_iret (d_M_checkOf (k := 47) rfl) rfl
theorem v_M_checkOf_6 {E : mE} : ∀ (n : Nat) (t0 : Option Nat) (i1 : Int32) (i2 : Int32) (i3 : Int32) (i4 : Int32) (M : mM), mVr E mi_M_checkOf 0 6 [some (.inr t0), some (.inl i1), some (.inl i2), some (.inl i3), some (.inl i4), none, none] [] M enI (q_M_checkOf_6 n t0 i1 i2 i3 i4 M)
  | 0, _, _, _, _, _, _ => m_none
  | n + 1, t0, i1, i2, i3, i4, M => v_M_checkOf_6_b _ (v_M_checkOf_6 n) t0 i1 i2 i3 i4 M
def q_M_checkOf (t0 : Option Nat) (i1 : Int32) (i2 : Int32) (M : mM) : Option (Int32 × mM) :=
    q_M_checkOf_6 mFU t0 i1 i2 (65535 : Int32) (0 : Int32) M
set_option maxRecDepth 20000 in
theorem v_M_checkOf {E : mE} (t0 : Option Nat) (i1 : Int32) (i2 : Int32) (M : mM) : mVr E mi_M_checkOf 0 0 [some (.inr t0), some (.inl i1), some (.inl i2), none, none, none, none] [] M enI (q_M_checkOf t0 i1 i2 M) := by
  unfold q_M_checkOf
  refine m_ldc (d_M_checkOf (k := 0) rfl) ct_M_222 ?_
  refine m_ist_n (ls' := [some (.inr t0), some (.inl i1), some (.inl i2), some (.inl (65535 : Int32)), none, none, none]) (d_M_checkOf (k := 1) rfl) (by decide) rfl ?_
  refine m_iconst (v := 0) (d_M_checkOf (k := 2) rfl) (by decide) ?_
  refine m_ist (ls' := [some (.inr t0), some (.inl i1), some (.inl i2), some (.inl (65535 : Int32)), some (.inl (0 : Int32)), none, none]) (d_M_checkOf (k := 3) rfl) (by decide) rfl ?_
  exact m_drop (mles_s (mles_s (mles_s (mles_s (mles_s (mles_n (mles_n mles_0))))))) (v_M_checkOf_6 mFU t0 i1 i2 (65535 : Int32) (0 : Int32) M)
theorem s_M_checkOf {E : mE} (t0 : Option Nat) (i1 : Int32) (i2 : Int32) (M : mM) : mSnd E mi_M_checkOf 0 [.inr t0, .inl i1, .inl i2] M enI (q_M_checkOf t0 i1 i2 M) := m_entryI (by decide) (Nat.le_of_ble_eq_true rfl) rfl (m_drop (mles_s (mles_s (mles_s (mles_e (mles_e (mles_e (mles_e mles_0))))))) (v_M_checkOf t0 i1 i2 M))
def dt_M_makeBit : List (Nat × Instr × Nat) := [(0, .aload_n 0, 1), (1, .getfield 16, 3), (4, .aload_n 0, 1), (5, .getfield 224, 3), (8, .iload_n 1, 1), (9, .iastore, 1), (10, .aload_n 0, 1), (11, .dup, 1), (12, .getfield 224, 3), (15, .iconst 1, 1), (16, .iadd, 1), (17, .putfield 224, 3), (20, .aload_n 0, 1), (21, .iload_n 1, 1), (22, .iconst 1, 1), (23, .if_icmp .ne 12, 3), (26, .aload_n 0, 1), (27, .getfield 227, 3), (30, .iconst 1, 1), (31, .iadd, 1), (32, .goto 4, 3), (35, .iconst 0, 1), (36, .putfield 227, 3), (39, .aload_n 0, 1), (40, .getfield 227, 3), (43, .iconst 5, 1), (44, .if_icmp .ge 4, 3), (47, .return_, 1), (48, .aload_n 0, 1), (49, .getfield 16, 3), (52, .aload_n 0, 1), (53, .getfield 224, 3), (56, .iconst 0, 1), (57, .iastore, 1), (58, .aload_n 0, 1), (59, .dup, 1), (60, .getfield 224, 3), (63, .iconst 1, 1), (64, .iadd, 1), (65, .putfield 224, 3), (68, .aload_n 0, 1), (69, .iconst 0, 1), (70, .putfield 227, 3), (73, .return_, 1)]
theorem dx_M_makeBit : ∀ p ∈ dt_M_makeBit, decode prog_12_method_11_code p.1 = .ok p.2 := by decide +kernel
theorem d_M_makeBit {k pc : Nat} {i : Instr} {n : Nat} (h : dt_M_makeBit[k]? = some (pc, i, n)) : decode mi_M_makeBit.2.1 pc = .ok (i, n) := dx_M_makeBit (pc, i, n) (List.mem_of_getElem? h)
def q_M_makeBit_36 (t0 : Option Nat) (j0 : Int32) (u1 : Option Nat) (M : mM) : Option (Unit × mM) :=
    x_pI M 10 u1 6 j0 fun M =>
    x_gI M 10 t0 6 fun x1 =>
    if x1 < (5 : Int32) then
      some ((), M)
    else
      x_gR M 10 t0 4 fun a2 =>
      x_gI M 10 t0 5 fun x3 =>
      x_wI M a2 x3 (0 : Int32) fun M =>
      x_gI M 10 t0 5 fun x4 =>
      x_pI M 10 t0 5 (x4 + (1 : Int32)) fun M =>
      x_pI M 10 t0 6 (0 : Int32) fun M =>
      some ((), M)
set_option maxRecDepth 20000 in
theorem v_M_makeBit_36 {E : mE} (t0 : Option Nat) (j0 : Int32) (u1 : Option Nat) (M : mM) : mVr E mi_M_makeBit 0 36 [some (.inr t0), none] [.inl j0, .inr u1] M enU (q_M_makeBit_36 t0 j0 u1 M) := by
  unfold q_M_makeBit_36
  refine m_pI (d_M_makeBit (k := 22) rfl) fp_M_227 (fun h => absurd h (by decide)) rfl (fun M => ?_)
  refine m_aload_n (d_M_makeBit (k := 23) rfl) rfl ?_
  refine m_getI (d_M_makeBit (k := 24) rfl) fl_M_227 rfl (fun x1 => ?_)
  refine m_iconst (v := 5) (d_M_makeBit (k := 25) rfl) (by decide) ?_
  refine m_icmp_ge (tgt := 48) (d_M_makeBit (k := 26) rfl) rfl ?_ ?_
  · exact m_vret (d_M_makeBit (k := 27) rfl) rfl
  · refine m_aload_n (d_M_makeBit (k := 28) rfl) rfl ?_
    refine m_getR (d_M_makeBit (k := 29) rfl) fl_M_16 rfl (fun a2 => ?_)
    refine m_aload_n (d_M_makeBit (k := 30) rfl) rfl ?_
    refine m_getI (d_M_makeBit (k := 31) rfl) fl_M_224 rfl (fun x3 => ?_)
    refine m_iconst (v := 0) (d_M_makeBit (k := 32) rfl) (by decide) ?_
    refine m_iast (d_M_makeBit (k := 33) rfl) (fun M => ?_)
    refine m_aload_n (d_M_makeBit (k := 34) rfl) rfl ?_
    refine m_dup (d_M_makeBit (k := 35) rfl) ?_
    refine m_getI (d_M_makeBit (k := 36) rfl) fl_M_224 rfl (fun x4 => ?_)
    refine m_iconst (v := 1) (d_M_makeBit (k := 37) rfl) (by decide) ?_
    refine m_iadd (d_M_makeBit (k := 38) rfl) ?_
    refine m_pI (d_M_makeBit (k := 39) rfl) fp_M_224 (fun h => absurd h (by decide)) rfl (fun M => ?_)
    refine m_aload_n (d_M_makeBit (k := 40) rfl) rfl ?_
    refine m_iconst (v := 0) (d_M_makeBit (k := 41) rfl) (by decide) ?_
    refine m_pI (d_M_makeBit (k := 42) rfl) fp_M_227 (fun h => absurd h (by decide)) rfl (fun M => ?_)
    exact m_vret (d_M_makeBit (k := 43) rfl) rfl
def q_M_makeBit (t0 : Option Nat) (i1 : Int32) (M : mM) : Option (Unit × mM) :=
    x_gR M 10 t0 4 fun a1 =>
    x_gI M 10 t0 5 fun x2 =>
    x_wI M a1 x2 i1 fun M =>
    x_gI M 10 t0 5 fun x3 =>
    x_pI M 10 t0 5 (x3 + (1 : Int32)) fun M =>
    if i1 = (1 : Int32) then
      x_gI M 10 t0 6 fun x4 =>
      q_M_makeBit_36 t0 (x4 + (1 : Int32)) t0 M
    else
      q_M_makeBit_36 t0 (0 : Int32) t0 M
set_option maxRecDepth 20000 in
theorem v_M_makeBit {E : mE} (t0 : Option Nat) (i1 : Int32) (M : mM) : mVr E mi_M_makeBit 0 0 [some (.inr t0), some (.inl i1)] [] M enU (q_M_makeBit t0 i1 M) := by
  unfold q_M_makeBit
  refine m_aload_n (d_M_makeBit (k := 0) rfl) rfl ?_
  refine m_getR (d_M_makeBit (k := 1) rfl) fl_M_16 rfl (fun a1 => ?_)
  refine m_aload_n (d_M_makeBit (k := 2) rfl) rfl ?_
  refine m_getI (d_M_makeBit (k := 3) rfl) fl_M_224 rfl (fun x2 => ?_)
  refine m_iload_n (d_M_makeBit (k := 4) rfl) rfl ?_
  refine m_iast (d_M_makeBit (k := 5) rfl) (fun M => ?_)
  refine m_aload_n (d_M_makeBit (k := 6) rfl) rfl ?_
  refine m_dup (d_M_makeBit (k := 7) rfl) ?_
  refine m_getI (d_M_makeBit (k := 8) rfl) fl_M_224 rfl (fun x3 => ?_)
  refine m_iconst (v := 1) (d_M_makeBit (k := 9) rfl) (by decide) ?_
  refine m_iadd (d_M_makeBit (k := 10) rfl) ?_
  refine m_pI (d_M_makeBit (k := 11) rfl) fp_M_224 (fun h => absurd h (by decide)) rfl (fun M => ?_)
  refine m_aload_n (d_M_makeBit (k := 12) rfl) rfl ?_
  refine m_iload_n (d_M_makeBit (k := 13) rfl) rfl ?_
  refine m_iconst (v := 1) (d_M_makeBit (k := 14) rfl) (by decide) ?_
  refine m_icmp_ne (tgt := 35) (d_M_makeBit (k := 15) rfl) rfl ?_ ?_
  · refine m_aload_n (d_M_makeBit (k := 16) rfl) rfl ?_
    refine m_getI (d_M_makeBit (k := 17) rfl) fl_M_227 rfl (fun x4 => ?_)
    refine m_iconst (v := 1) (d_M_makeBit (k := 18) rfl) (by decide) ?_
    refine m_iadd (d_M_makeBit (k := 19) rfl) ?_
    refine m_goto (tgt := 36) (d_M_makeBit (k := 20) rfl) rfl ?_
    exact m_drop (mles_s (mles_n mles_0)) (v_M_makeBit_36 t0 (x4 + (1 : Int32)) t0 M)
  · refine m_iconst (v := 0) (d_M_makeBit (k := 21) rfl) (by decide) ?_
    exact m_drop (mles_s (mles_n mles_0)) (v_M_makeBit_36 t0 (0 : Int32) t0 M)
theorem s_M_makeBit {E : mE} (t0 : Option Nat) (i1 : Int32) (M : mM) : mSnd E mi_M_makeBit 0 [.inr t0, .inl i1] M enU (q_M_makeBit t0 i1 M) := m_entryU (by decide) (Nat.le_of_ble_eq_true rfl) rfl (m_drop (mles_s (mles_s mles_0)) (v_M_makeBit t0 i1 M))
def dt_M_makeByte : List (Nat × Instr × Nat) := [(0, .iconst 0, 1), (1, .istore_n 2, 1), (2, .iload_n 2, 1), (3, .bipush 8, 2), (5, .if_icmp .ge 18, 3), (8, .aload_n 0, 1), (9, .iload_n 1, 1), (10, .iload_n 2, 1), (11, .ishr, 1), (12, .iconst 1, 1), (13, .iand, 1), (14, .invokevirtual 230, 3), (17, .iinc 2 1, 3), (20, .goto (-18), 3), (23, .return_, 1)]
theorem dx_M_makeByte : ∀ p ∈ dt_M_makeByte, decode prog_12_method_12_code p.1 = .ok p.2 := by decide +kernel
theorem d_M_makeByte {k pc : Nat} {i : Instr} {n : Nat} (h : dt_M_makeByte[k]? = some (pc, i, n)) : decode mi_M_makeByte.2.1 pc = .ok (i, n) := dx_M_makeByte (pc, i, n) (List.mem_of_getElem? h)
def q_M_makeByte_2_b (r2 : Option Nat → Int32 → Int32 → mM → Option (Unit × mM)) (t0 : Option Nat) (i1 : Int32) (i2 : Int32) (M : mM) : Option (Unit × mM) :=
    if i2 < (8 : Int32) then
      x_cv M 10 t0 (q_M_makeBit t0 ((i1 >>> (i2 &&& 31)) &&& (1 : Int32)) M) fun _ M =>
      r2 t0 i1 (i2 + 1) M
    else
      some ((), M)
def q_M_makeByte_2 : Nat → Option Nat → Int32 → Int32 → mM → Option (Unit × mM)
  | 0, _, _, _, _ => none
  | n + 1, t0, i1, i2, M => q_M_makeByte_2_b (q_M_makeByte_2 n) t0 i1 i2 M
set_option maxRecDepth 20000 in
theorem v_M_makeByte_2_b {E : mE} (r2 : Option Nat → Int32 → Int32 → mM → Option (Unit × mM)) (h2 : ∀ (t0 : Option Nat) (i1 : Int32) (i2 : Int32) (M : mM), mVr E mi_M_makeByte 1 2 [some (.inr t0), some (.inl i1), some (.inl i2)] [] M enU (r2 t0 i1 i2 M)) (t0 : Option Nat) (i1 : Int32) (i2 : Int32) (M : mM) : mVr E mi_M_makeByte 1 2 [some (.inr t0), some (.inl i1), some (.inl i2)] [] M enU (q_M_makeByte_2_b r2 t0 i1 i2 M) := by
  unfold q_M_makeByte_2_b
  refine m_iload_n (d_M_makeByte (k := 2) rfl) rfl ?_
  refine m_bipush (v := 8) (d_M_makeByte (k := 3) rfl) (by decide) ?_
  refine m_icmp_ge (tgt := 23) (d_M_makeByte (k := 4) rfl) rfl ?_ ?_
  · refine m_aload_n (d_M_makeByte (k := 5) rfl) rfl ?_
    refine m_iload_n (d_M_makeByte (k := 6) rfl) rfl ?_
    refine m_iload_n (d_M_makeByte (k := 7) rfl) rfl ?_
    refine m_ishr (d_M_makeByte (k := 8) rfl) ?_
    refine m_iconst (v := 1) (d_M_makeByte (k := 9) rfl) (by decide) ?_
    refine m_iand (d_M_makeByte (k := 10) rfl) ?_
    refine m_cvU (c := 10) (vs := [.inl ((i1 >>> (i2 &&& 31)) &&& (1 : Int32))]) (st := []) (d_M_makeByte (k := 11) rfl) (s_M_makeBit t0 ((i1 >>> (i2 &&& 31)) &&& (1 : Int32)) M) cd_M_makeBit ml_M_230 im_M_makeBit se_M_makeBit rfl (by decide) rfl (Nat.le_of_ble_eq_true rfl) (fun _ M => ?_)
    refine m_inc (v := 1) (ls' := [some (.inr t0), some (.inl i1), some (.inl (i2 + 1))]) (d_M_makeByte (k := 12) rfl) rfl (by decide) (by decide) rfl ?_
    refine m_goto (tgt := 2) (d_M_makeByte (k := 13) rfl) rfl ?_
    exact m_drop (mles_s (mles_s (mles_s mles_0))) (h2 t0 i1 (i2 + 1) M)
  · exact m_vret (d_M_makeByte (k := 14) rfl) rfl
theorem v_M_makeByte_2 {E : mE} : ∀ (n : Nat) (t0 : Option Nat) (i1 : Int32) (i2 : Int32) (M : mM), mVr E mi_M_makeByte 1 2 [some (.inr t0), some (.inl i1), some (.inl i2)] [] M enU (q_M_makeByte_2 n t0 i1 i2 M)
  | 0, _, _, _, _ => m_none
  | n + 1, t0, i1, i2, M => v_M_makeByte_2_b _ (v_M_makeByte_2 n) t0 i1 i2 M
def q_M_makeByte (t0 : Option Nat) (i1 : Int32) (M : mM) : Option (Unit × mM) :=
    q_M_makeByte_2 mFU t0 i1 (0 : Int32) M
set_option maxRecDepth 20000 in
theorem v_M_makeByte {E : mE} (t0 : Option Nat) (i1 : Int32) (M : mM) : mVr E mi_M_makeByte 1 0 [some (.inr t0), some (.inl i1), none] [] M enU (q_M_makeByte t0 i1 M) := by
  unfold q_M_makeByte
  refine m_iconst (v := 0) (d_M_makeByte (k := 0) rfl) (by decide) ?_
  refine m_ist_n (ls' := [some (.inr t0), some (.inl i1), some (.inl (0 : Int32))]) (d_M_makeByte (k := 1) rfl) (by decide) rfl ?_
  exact m_drop (mles_s (mles_s (mles_s mles_0))) (v_M_makeByte_2 mFU t0 i1 (0 : Int32) M)
theorem s_M_makeByte {E : mE} (t0 : Option Nat) (i1 : Int32) (M : mM) : mSnd E mi_M_makeByte 1 [.inr t0, .inl i1] M enU (q_M_makeByte t0 i1 M) := m_entryU (by decide) (Nat.le_of_ble_eq_true rfl) rfl (m_drop (mles_s (mles_s (mles_e mles_0))) (v_M_makeByte t0 i1 M))
def dt_M_makeFrame : List (Nat × Instr × Nat) := [(0, .aload_n 0, 1), (1, .iconst 0, 1), (2, .putfield 227, 3), (5, .iconst 0, 1), (6, .istore 4, 2), (8, .iload 4, 2), (10, .iload_n 3, 1), (11, .if_icmp .ge 19, 3), (14, .aload_n 0, 1), (15, .aload_n 1, 1), (16, .iload_n 2, 1), (17, .iload 4, 2), (19, .iadd, 1), (20, .iaload, 1), (21, .invokevirtual 233, 3), (24, .iinc 4 1, 3), (27, .goto (-19), 3), (30, .aload_n 1, 1), (31, .iload_n 2, 1), (32, .iload_n 3, 1), (33, .invokestatic 236, 3), (36, .istore 4, 2), (38, .aload_n 0, 1), (39, .iload 4, 2), (41, .sipush 255, 3), (44, .iand, 1), (45, .invokevirtual 233, 3), (48, .aload_n 0, 1), (49, .iload 4, 2), (51, .bipush 8, 2), (53, .ishr, 1), (54, .invokevirtual 233, 3), (57, .return_, 1)]
theorem dx_M_makeFrame : ∀ p ∈ dt_M_makeFrame, decode prog_12_method_14_code p.1 = .ok p.2 := by decide +kernel
theorem d_M_makeFrame {k pc : Nat} {i : Instr} {n : Nat} (h : dt_M_makeFrame[k]? = some (pc, i, n)) : decode mi_M_makeFrame.2.1 pc = .ok (i, n) := dx_M_makeFrame (pc, i, n) (List.mem_of_getElem? h)
def q_M_makeFrame_8_b (r8 : Option Nat → Option Nat → Int32 → Int32 → Int32 → mM → Option (Unit × mM)) (t0 : Option Nat) (t1 : Option Nat) (i2 : Int32) (i3 : Int32) (i4 : Int32) (M : mM) : Option (Unit × mM) :=
    if i4 < i3 then
      x_aI M 0 t1 (i2 + i4) fun x1 =>
      x_cv M 10 t0 (q_M_makeByte t0 x1 M) fun _ M =>
      r8 t0 t1 i2 i3 (i4 + 1) M
    else
      x_cl (q_M_checkOf t1 i2 i3 M) fun x2 M =>
      x_cv M 10 t0 (q_M_makeByte t0 (x2 &&& (255 : Int32)) M) fun _ M =>
      x_cv M 10 t0 (q_M_makeByte t0 (x2 >>> ((8 : Int32) &&& 31)) M) fun _ M =>
      some ((), M)
def q_M_makeFrame_8 : Nat → Option Nat → Option Nat → Int32 → Int32 → Int32 → mM → Option (Unit × mM)
  | 0, _, _, _, _, _, _ => none
  | n + 1, t0, t1, i2, i3, i4, M => q_M_makeFrame_8_b (q_M_makeFrame_8 n) t0 t1 i2 i3 i4 M
set_option maxRecDepth 20000 in
theorem v_M_makeFrame_8_b {E : mE} (r8 : Option Nat → Option Nat → Int32 → Int32 → Int32 → mM → Option (Unit × mM)) (h8 : ∀ (t0 : Option Nat) (t1 : Option Nat) (i2 : Int32) (i3 : Int32) (i4 : Int32) (M : mM), mVr E mi_M_makeFrame 2 8 [some (.inr t0), some (.inr t1), some (.inl i2), some (.inl i3), some (.inl i4)] [] M enU (r8 t0 t1 i2 i3 i4 M)) (t0 : Option Nat) (t1 : Option Nat) (i2 : Int32) (i3 : Int32) (i4 : Int32) (M : mM) : mVr E mi_M_makeFrame 2 8 [some (.inr t0), some (.inr t1), some (.inl i2), some (.inl i3), some (.inl i4)] [] M enU (q_M_makeFrame_8_b r8 t0 t1 i2 i3 i4 M) := by
  unfold q_M_makeFrame_8_b
  refine m_iload (d_M_makeFrame (k := 5) rfl) rfl ?_
  refine m_iload_n (d_M_makeFrame (k := 6) rfl) rfl ?_
  refine m_icmp_ge (tgt := 30) (d_M_makeFrame (k := 7) rfl) rfl ?_ ?_
  · refine m_aload_n (d_M_makeFrame (k := 8) rfl) rfl ?_
    refine m_aload_n (d_M_makeFrame (k := 9) rfl) rfl ?_
    refine m_iload_n (d_M_makeFrame (k := 10) rfl) rfl ?_
    refine m_iload (d_M_makeFrame (k := 11) rfl) rfl ?_
    refine m_iadd (d_M_makeFrame (k := 12) rfl) ?_
    refine m_iald (d_M_makeFrame (k := 13) rfl) (fun x1 => ?_)
    refine m_cvU (c := 10) (vs := [.inl x1]) (st := []) (d_M_makeFrame (k := 14) rfl) (s_M_makeByte t0 x1 M) cd_M_makeByte ml_M_233 im_M_makeByte se_M_makeByte rfl (by decide) rfl (Nat.le_of_ble_eq_true rfl) (fun _ M => ?_)
    refine m_inc (v := 1) (ls' := [some (.inr t0), some (.inr t1), some (.inl i2), some (.inl i3), some (.inl (i4 + 1))]) (d_M_makeFrame (k := 15) rfl) rfl (by decide) (by decide) rfl ?_
    refine m_goto (tgt := 8) (d_M_makeFrame (k := 16) rfl) rfl ?_
    exact m_drop (mles_s (mles_s (mles_s (mles_s (mles_s mles_0))))) (h8 t0 t1 i2 i3 (i4 + 1) M)
  · refine m_aload_n (d_M_makeFrame (k := 17) rfl) rfl ?_
    refine m_iload_n (d_M_makeFrame (k := 18) rfl) rfl ?_
    refine m_iload_n (d_M_makeFrame (k := 19) rfl) rfl ?_
    refine m_csI (vs := [.inr t1, .inl i2, .inl i3]) (st := []) (d_M_makeFrame (k := 20) rfl) (s_M_checkOf t1 i2 i3 M) cd_M_checkOf ml_M_236 sa_M_checkOf (by decide) rfl (Nat.le_of_ble_eq_true rfl) (fun x2 M => ?_)
    refine m_ist (ls' := [some (.inr t0), some (.inr t1), some (.inl i2), some (.inl i3), some (.inl x2)]) (d_M_makeFrame (k := 21) rfl) (by decide) rfl ?_
    refine m_aload_n (d_M_makeFrame (k := 22) rfl) rfl ?_
    refine m_iload (d_M_makeFrame (k := 23) rfl) rfl ?_
    refine m_sipush (v := 255) (d_M_makeFrame (k := 24) rfl) (by decide) ?_
    refine m_iand (d_M_makeFrame (k := 25) rfl) ?_
    refine m_cvU (c := 10) (vs := [.inl (x2 &&& (255 : Int32))]) (st := []) (d_M_makeFrame (k := 26) rfl) (s_M_makeByte t0 (x2 &&& (255 : Int32)) M) cd_M_makeByte ml_M_233 im_M_makeByte se_M_makeByte rfl (by decide) rfl (Nat.le_of_ble_eq_true rfl) (fun _ M => ?_)
    refine m_aload_n (d_M_makeFrame (k := 27) rfl) rfl ?_
    refine m_iload (d_M_makeFrame (k := 28) rfl) rfl ?_
    refine m_bipush (v := 8) (d_M_makeFrame (k := 29) rfl) (by decide) ?_
    refine m_ishr (d_M_makeFrame (k := 30) rfl) ?_
    refine m_cvU (c := 10) (vs := [.inl (x2 >>> ((8 : Int32) &&& 31))]) (st := []) (d_M_makeFrame (k := 31) rfl) (s_M_makeByte t0 (x2 >>> ((8 : Int32) &&& 31)) M) cd_M_makeByte ml_M_233 im_M_makeByte se_M_makeByte rfl (by decide) rfl (Nat.le_of_ble_eq_true rfl) (fun _ M => ?_)
    exact m_vret (d_M_makeFrame (k := 32) rfl) rfl
theorem v_M_makeFrame_8 {E : mE} : ∀ (n : Nat) (t0 : Option Nat) (t1 : Option Nat) (i2 : Int32) (i3 : Int32) (i4 : Int32) (M : mM), mVr E mi_M_makeFrame 2 8 [some (.inr t0), some (.inr t1), some (.inl i2), some (.inl i3), some (.inl i4)] [] M enU (q_M_makeFrame_8 n t0 t1 i2 i3 i4 M)
  | 0, _, _, _, _, _, _ => m_none
  | n + 1, t0, t1, i2, i3, i4, M => v_M_makeFrame_8_b _ (v_M_makeFrame_8 n) t0 t1 i2 i3 i4 M
def q_M_makeFrame (t0 : Option Nat) (t1 : Option Nat) (i2 : Int32) (i3 : Int32) (M : mM) : Option (Unit × mM) :=
    x_pI M 10 t0 6 (0 : Int32) fun M =>
    q_M_makeFrame_8 mFU t0 t1 i2 i3 (0 : Int32) M
set_option maxRecDepth 20000 in
theorem v_M_makeFrame {E : mE} (t0 : Option Nat) (t1 : Option Nat) (i2 : Int32) (i3 : Int32) (M : mM) : mVr E mi_M_makeFrame 2 0 [some (.inr t0), some (.inr t1), some (.inl i2), some (.inl i3), none] [] M enU (q_M_makeFrame t0 t1 i2 i3 M) := by
  unfold q_M_makeFrame
  refine m_aload_n (d_M_makeFrame (k := 0) rfl) rfl ?_
  refine m_iconst (v := 0) (d_M_makeFrame (k := 1) rfl) (by decide) ?_
  refine m_pI (d_M_makeFrame (k := 2) rfl) fp_M_227 (fun h => absurd h (by decide)) rfl (fun M => ?_)
  refine m_iconst (v := 0) (d_M_makeFrame (k := 3) rfl) (by decide) ?_
  refine m_ist (ls' := [some (.inr t0), some (.inr t1), some (.inl i2), some (.inl i3), some (.inl (0 : Int32))]) (d_M_makeFrame (k := 4) rfl) (by decide) rfl ?_
  exact m_drop (mles_s (mles_s (mles_s (mles_s (mles_s mles_0))))) (v_M_makeFrame_8 mFU t0 t1 i2 i3 (0 : Int32) M)
theorem s_M_makeFrame {E : mE} (t0 : Option Nat) (t1 : Option Nat) (i2 : Int32) (i3 : Int32) (M : mM) : mSnd E mi_M_makeFrame 2 [.inr t0, .inr t1, .inl i2, .inl i3] M enU (q_M_makeFrame t0 t1 i2 i3 M) := m_entryU (by decide) (Nat.le_of_ble_eq_true rfl) rfl (m_drop (mles_s (mles_s (mles_s (mles_s (mles_e mles_0))))) (v_M_makeFrame t0 t1 i2 i3 M))
def dt_M_bits : List (Nat × Instr × Nat) := [(0, .aload_n 0, 1), (1, .getfield 211, 3), (4, .istore_n 2, 1), (5, .aload_n 0, 1), (6, .iconst 0, 1), (7, .putfield 211, 3), (10, .iload_n 2, 1), (11, .bipush 15, 2), (13, .bipush 90, 2), (15, .invokestatic 203, 3), (18, .ifCond .eq 12, 3), (21, .iload_n 1, 1), (22, .iconst 0, 1), (23, .iconst 1, 1), (24, .invokestatic 203, 3), (27, .ifCond .ne 5, 3), (30, .iconst (-1), 1), (31, .ireturn, 1), (32, .aload_n 0, 1), (33, .iconst 0, 1), (34, .putfield 224, 3), (37, .aload_n 0, 1), (38, .invokevirtual 240, 3), (41, .aload_n 0, 1), (42, .invokevirtual 240, 3), (45, .aload_n 0, 1), (46, .aload_n 0, 1), (47, .getfield 7, 3), (50, .iconst 0, 1), (51, .iload_n 2, 1), (52, .invokevirtual 243, 3), (55, .aload_n 0, 1), (56, .invokevirtual 240, 3), (59, .iload_n 1, 1), (60, .istore_n 3, 1), (61, .iconst 0, 1), (62, .istore 4, 2), (64, .iload 4, 2), (66, .aload_n 0, 1), (67, .getfield 224, 3), (70, .if_icmp .ge 35, 3), (73, .aload_n 0, 1), (74, .getfield 16, 3), (77, .iload 4, 2), (79, .iaload, 1), (80, .ifCond .ne 9, 3), (83, .iconst 1, 1), (84, .iload_n 3, 1), (85, .isub, 1), (86, .goto 4, 3), (89, .iload_n 3, 1), (90, .istore_n 3, 1), (91, .aload_n 0, 1), (92, .getfield 13, 3), (95, .iload 4, 2), (97, .iload_n 3, 1), (98, .iastore, 1), (99, .iinc 4 1, 3), (102, .goto (-38), 3), (105, .aload_n 0, 1), (106, .aload_n 0, 1), (107, .getfield 224, 3), (110, .putfield 219, 3), (113, .aload_n 0, 1), (114, .getfield 219, 3), (117, .ireturn, 1)]
theorem dx_M_bits : ∀ p ∈ dt_M_bits, decode prog_12_method_15_code p.1 = .ok p.2 := by decide +kernel
theorem d_M_bits {k pc : Nat} {i : Instr} {n : Nat} (h : dt_M_bits[k]? = some (pc, i, n)) : decode mi_M_bits.2.1 pc = .ok (i, n) := dx_M_bits (pc, i, n) (List.mem_of_getElem? h)
def q_M_bits_90 (r64 : Option Nat → Int32 → Int32 → mM → Option (Int32 × mM)) (t0 : Option Nat) (i4 : Int32) (j0 : Int32) (M : mM) : Option (Int32 × mM) :=
    x_gR M 10 t0 2 fun a1 =>
    x_wI M a1 i4 j0 fun M =>
    r64 t0 j0 (i4 + 1) M
set_option maxRecDepth 20000 in
theorem v_M_bits_90 {E : mE} (r64 : Option Nat → Int32 → Int32 → mM → Option (Int32 × mM)) (h64 : ∀ (t0 : Option Nat) (i3 : Int32) (i4 : Int32) (M : mM), mVr E mi_M_bits 3 64 [some (.inr t0), none, none, some (.inl i3), some (.inl i4)] [] M enI (r64 t0 i3 i4 M)) (t0 : Option Nat) (i4 : Int32) (j0 : Int32) (M : mM) : mVr E mi_M_bits 3 90 [some (.inr t0), none, none, none, some (.inl i4)] [.inl j0] M enI (q_M_bits_90 r64 t0 i4 j0 M) := by
  unfold q_M_bits_90
  refine m_ist_n (ls' := [some (.inr t0), none, none, some (.inl j0), some (.inl i4)]) (d_M_bits (k := 51) rfl) (by decide) rfl ?_
  refine m_aload_n (d_M_bits (k := 52) rfl) rfl ?_
  refine m_getR (d_M_bits (k := 53) rfl) fl_M_13 rfl (fun a1 => ?_)
  refine m_iload (d_M_bits (k := 54) rfl) rfl ?_
  refine m_iload_n (d_M_bits (k := 55) rfl) rfl ?_
  refine m_iast (d_M_bits (k := 56) rfl) (fun M => ?_)
  refine m_inc (v := 1) (ls' := [some (.inr t0), none, none, some (.inl j0), some (.inl (i4 + 1))]) (d_M_bits (k := 57) rfl) rfl (by decide) (by decide) rfl ?_
  refine m_goto (tgt := 64) (d_M_bits (k := 58) rfl) rfl ?_
  exact m_drop (mles_s (mles_n (mles_n (mles_s (mles_s mles_0))))) (h64 t0 j0 (i4 + 1) M)
def q_M_bits_64_b (r64 : Option Nat → Int32 → Int32 → mM → Option (Int32 × mM)) (t0 : Option Nat) (i3 : Int32) (i4 : Int32) (M : mM) : Option (Int32 × mM) :=
    x_gI M 10 t0 5 fun x1 =>
    if i4 < x1 then
      x_gR M 10 t0 4 fun a2 =>
      x_aI M 0 a2 i4 fun x3 =>
      if x3 = 0 then
        q_M_bits_90 r64 t0 i4 ((1 : Int32) - i3) M
      else
        q_M_bits_90 r64 t0 i4 i3 M
    else
      x_gI M 10 t0 5 fun x4 =>
      x_pI M 10 t0 3 x4 fun M =>
      x_gI M 10 t0 3 fun x5 =>
      some (x5, M)
def q_M_bits_64 : Nat → Option Nat → Int32 → Int32 → mM → Option (Int32 × mM)
  | 0, _, _, _, _ => none
  | n + 1, t0, i3, i4, M => q_M_bits_64_b (q_M_bits_64 n) t0 i3 i4 M
set_option maxRecDepth 20000 in
theorem v_M_bits_64_b {E : mE} (r64 : Option Nat → Int32 → Int32 → mM → Option (Int32 × mM)) (h64 : ∀ (t0 : Option Nat) (i3 : Int32) (i4 : Int32) (M : mM), mVr E mi_M_bits 3 64 [some (.inr t0), none, none, some (.inl i3), some (.inl i4)] [] M enI (r64 t0 i3 i4 M)) (t0 : Option Nat) (i3 : Int32) (i4 : Int32) (M : mM) : mVr E mi_M_bits 3 64 [some (.inr t0), none, none, some (.inl i3), some (.inl i4)] [] M enI (q_M_bits_64_b r64 t0 i3 i4 M) := by
  unfold q_M_bits_64_b
  refine m_iload (d_M_bits (k := 37) rfl) rfl ?_
  refine m_aload_n (d_M_bits (k := 38) rfl) rfl ?_
  refine m_getI (d_M_bits (k := 39) rfl) fl_M_224 rfl (fun x1 => ?_)
  refine m_icmp_ge (tgt := 105) (d_M_bits (k := 40) rfl) rfl ?_ ?_
  · refine m_aload_n (d_M_bits (k := 41) rfl) rfl ?_
    refine m_getR (d_M_bits (k := 42) rfl) fl_M_16 rfl (fun a2 => ?_)
    refine m_iload (d_M_bits (k := 43) rfl) rfl ?_
    refine m_iald (d_M_bits (k := 44) rfl) (fun x3 => ?_)
    refine m_if_ne (tgt := 89) (d_M_bits (k := 45) rfl) rfl ?_ ?_
    · refine m_iconst (v := 1) (d_M_bits (k := 46) rfl) (by decide) ?_
      refine m_iload_n (d_M_bits (k := 47) rfl) rfl ?_
      refine m_isub (d_M_bits (k := 48) rfl) ?_
      refine m_goto (tgt := 90) (d_M_bits (k := 49) rfl) rfl ?_
      exact m_drop (mles_s (mles_n (mles_n (mles_n (mles_s mles_0))))) (v_M_bits_90 r64 h64 t0 i4 ((1 : Int32) - i3) M)
    · refine m_iload_n (d_M_bits (k := 50) rfl) rfl ?_
      exact m_drop (mles_s (mles_n (mles_n (mles_n (mles_s mles_0))))) (v_M_bits_90 r64 h64 t0 i4 i3 M)
  · refine m_aload_n (d_M_bits (k := 59) rfl) rfl ?_
    refine m_aload_n (d_M_bits (k := 60) rfl) rfl ?_
    refine m_getI (d_M_bits (k := 61) rfl) fl_M_224 rfl (fun x4 => ?_)
    refine m_pI (d_M_bits (k := 62) rfl) fp_M_219 (fun h => absurd h (by decide)) rfl (fun M => ?_)
    refine m_aload_n (d_M_bits (k := 63) rfl) rfl ?_
    refine m_getI (d_M_bits (k := 64) rfl) fl_M_219 rfl (fun x5 => ?_)
    exact m_iret (d_M_bits (k := 65) rfl) rfl
theorem v_M_bits_64 {E : mE} : ∀ (n : Nat) (t0 : Option Nat) (i3 : Int32) (i4 : Int32) (M : mM), mVr E mi_M_bits 3 64 [some (.inr t0), none, none, some (.inl i3), some (.inl i4)] [] M enI (q_M_bits_64 n t0 i3 i4 M)
  | 0, _, _, _, _ => m_none
  | n + 1, t0, i3, i4, M => v_M_bits_64_b _ (v_M_bits_64 n) t0 i3 i4 M
def q_M_bits (t0 : Option Nat) (i1 : Int32) (M : mM) : Option (Int32 × mM) :=
    x_gI M 10 t0 1 fun x1 =>
    x_pI M 10 t0 1 (0 : Int32) fun M =>
    x_cl (q_M_in x1 (15 : Int32) (90 : Int32) M) fun x2 M =>
    if x2 = 0 then
      some ((-1 : Int32), M)
    else
      x_cl (q_M_in i1 (0 : Int32) (1 : Int32) M) fun x3 M =>
      if x3 = 0 then
        some ((-1 : Int32), M)
      else
        x_pI M 10 t0 5 (0 : Int32) fun M =>
        x_cv M 10 t0 (q_M_makeFlag t0 M) fun _ M =>
        x_cv M 10 t0 (q_M_makeFlag t0 M) fun _ M =>
        x_gR M 10 t0 0 fun a4 =>
        x_cv M 10 t0 (q_M_makeFrame t0 a4 (0 : Int32) x1 M) fun _ M =>
        x_cv M 10 t0 (q_M_makeFlag t0 M) fun _ M =>
        q_M_bits_64 mFU t0 i1 (0 : Int32) M
set_option maxRecDepth 20000 in
theorem v_M_bits {E : mE} (t0 : Option Nat) (i1 : Int32) (M : mM) : mVr E mi_M_bits 3 0 [some (.inr t0), some (.inl i1), none, none, none] [] M enI (q_M_bits t0 i1 M) := by
  unfold q_M_bits
  refine m_aload_n (d_M_bits (k := 0) rfl) rfl ?_
  refine m_getI (d_M_bits (k := 1) rfl) fl_M_211 rfl (fun x1 => ?_)
  refine m_ist_n (ls' := [some (.inr t0), some (.inl i1), some (.inl x1), none, none]) (d_M_bits (k := 2) rfl) (by decide) rfl ?_
  refine m_aload_n (d_M_bits (k := 3) rfl) rfl ?_
  refine m_iconst (v := 0) (d_M_bits (k := 4) rfl) (by decide) ?_
  refine m_pI (d_M_bits (k := 5) rfl) fp_M_211 (fun h => absurd h (by decide)) rfl (fun M => ?_)
  refine m_iload_n (d_M_bits (k := 6) rfl) rfl ?_
  refine m_bipush (v := 15) (d_M_bits (k := 7) rfl) (by decide) ?_
  refine m_bipush (v := 90) (d_M_bits (k := 8) rfl) (by decide) ?_
  refine m_csI (vs := [.inl x1, .inl (15 : Int32), .inl (90 : Int32)]) (st := []) (d_M_bits (k := 9) rfl) (s_M_in x1 (15 : Int32) (90 : Int32) M) cd_M_in ml_M_203 sa_M_in (by decide) rfl (Nat.le_of_ble_eq_true rfl) (fun x2 M => ?_)
  refine m_if_eq (tgt := 30) (d_M_bits (k := 10) rfl) rfl ?_ ?_
  · refine m_iconst (v := (-1)) (d_M_bits (k := 16) rfl) (by decide) ?_
    exact m_iret (d_M_bits (k := 17) rfl) rfl
  · refine m_iload_n (d_M_bits (k := 11) rfl) rfl ?_
    refine m_iconst (v := 0) (d_M_bits (k := 12) rfl) (by decide) ?_
    refine m_iconst (v := 1) (d_M_bits (k := 13) rfl) (by decide) ?_
    refine m_csI (vs := [.inl i1, .inl (0 : Int32), .inl (1 : Int32)]) (st := []) (d_M_bits (k := 14) rfl) (s_M_in i1 (0 : Int32) (1 : Int32) M) cd_M_in ml_M_203 sa_M_in (by decide) rfl (Nat.le_of_ble_eq_true rfl) (fun x3 M => ?_)
    refine m_if_ne (tgt := 32) (d_M_bits (k := 15) rfl) rfl ?_ ?_
    · refine m_iconst (v := (-1)) (d_M_bits (k := 16) rfl) (by decide) ?_
      exact m_iret (d_M_bits (k := 17) rfl) rfl
    · refine m_aload_n (d_M_bits (k := 18) rfl) rfl ?_
      refine m_iconst (v := 0) (d_M_bits (k := 19) rfl) (by decide) ?_
      refine m_pI (d_M_bits (k := 20) rfl) fp_M_224 (fun h => absurd h (by decide)) rfl (fun M => ?_)
      refine m_aload_n (d_M_bits (k := 21) rfl) rfl ?_
      refine m_cvU (c := 10) (vs := []) (st := []) (d_M_bits (k := 22) rfl) (s_M_makeFlag t0 M) cd_M_makeFlag ml_M_240 im_M_makeFlag se_M_makeFlag rfl (by decide) rfl (Nat.le_of_ble_eq_true rfl) (fun _ M => ?_)
      refine m_aload_n (d_M_bits (k := 23) rfl) rfl ?_
      refine m_cvU (c := 10) (vs := []) (st := []) (d_M_bits (k := 24) rfl) (s_M_makeFlag t0 M) cd_M_makeFlag ml_M_240 im_M_makeFlag se_M_makeFlag rfl (by decide) rfl (Nat.le_of_ble_eq_true rfl) (fun _ M => ?_)
      refine m_aload_n (d_M_bits (k := 25) rfl) rfl ?_
      refine m_aload_n (d_M_bits (k := 26) rfl) rfl ?_
      refine m_getR (d_M_bits (k := 27) rfl) fl_M_7 rfl (fun a4 => ?_)
      refine m_iconst (v := 0) (d_M_bits (k := 28) rfl) (by decide) ?_
      refine m_iload_n (d_M_bits (k := 29) rfl) rfl ?_
      refine m_cvU (c := 10) (vs := [.inr a4, .inl (0 : Int32), .inl x1]) (st := []) (d_M_bits (k := 30) rfl) (s_M_makeFrame t0 a4 (0 : Int32) x1 M) cd_M_makeFrame ml_M_243 im_M_makeFrame se_M_makeFrame rfl (by decide) rfl (Nat.le_of_ble_eq_true rfl) (fun _ M => ?_)
      refine m_aload_n (d_M_bits (k := 31) rfl) rfl ?_
      refine m_cvU (c := 10) (vs := []) (st := []) (d_M_bits (k := 32) rfl) (s_M_makeFlag t0 M) cd_M_makeFlag ml_M_240 im_M_makeFlag se_M_makeFlag rfl (by decide) rfl (Nat.le_of_ble_eq_true rfl) (fun _ M => ?_)
      refine m_iload_n (d_M_bits (k := 33) rfl) rfl ?_
      refine m_ist_n (ls' := [some (.inr t0), some (.inl i1), some (.inl x1), some (.inl i1), none]) (d_M_bits (k := 34) rfl) (by decide) rfl ?_
      refine m_iconst (v := 0) (d_M_bits (k := 35) rfl) (by decide) ?_
      refine m_ist (ls' := [some (.inr t0), some (.inl i1), some (.inl x1), some (.inl i1), some (.inl (0 : Int32))]) (d_M_bits (k := 36) rfl) (by decide) rfl ?_
      exact m_drop (mles_s (mles_n (mles_n (mles_s (mles_s mles_0))))) (v_M_bits_64 mFU t0 i1 (0 : Int32) M)
theorem s_M_bits {E : mE} (t0 : Option Nat) (i1 : Int32) (M : mM) : mSnd E mi_M_bits 3 [.inr t0, .inl i1] M enI (q_M_bits t0 i1 M) := m_entryI (by decide) (Nat.le_of_ble_eq_true rfl) rfl (m_drop (mles_s (mles_s (mles_e (mles_e (mles_e mles_0))))) (v_M_bits t0 i1 M))
def dt_M_reset : List (Nat × Instr × Nat) := [(0, .aload_n 0, 1), (1, .getfield 110, 3), (4, .iload_n 1, 1), (5, .iconst 0, 1), (6, .iastore, 1), (7, .aload_n 0, 1), (8, .getfield 122, 3), (11, .iload_n 1, 1), (12, .iconst 0, 1), (13, .iastore, 1), (14, .aload_n 0, 1), (15, .getfield 125, 3), (18, .iload_n 1, 1), (19, .iconst 0, 1), (20, .iastore, 1), (21, .aload_n 0, 1), (22, .getfield 128, 3), (25, .iload_n 1, 1), (26, .iconst 0, 1), (27, .iastore, 1), (28, .aload_n 0, 1), (29, .getfield 131, 3), (32, .iload_n 1, 1), (33, .iconst 0, 1), (34, .iastore, 1), (35, .aload_n 0, 1), (36, .getfield 134, 3), (39, .iload_n 1, 1), (40, .iconst 0, 1), (41, .iastore, 1), (42, .aload_n 0, 1), (43, .getfield 137, 3), (46, .iload_n 1, 1), (47, .iconst 0, 1), (48, .bastore, 1), (49, .aload_n 0, 1), (50, .getfield 140, 3), (53, .iload_n 1, 1), (54, .iconst 0, 1), (55, .bastore, 1), (56, .aload_n 0, 1), (57, .getfield 143, 3), (60, .iload_n 1, 1), (61, .iconst 0, 1), (62, .bastore, 1), (63, .aload_n 0, 1), (64, .getfield 155, 3), (67, .iload_n 1, 1), (68, .iconst 0, 1), (69, .iastore, 1), (70, .aload_n 0, 1), (71, .getfield 182, 3), (74, .iload_n 1, 1), (75, .iconst 0, 1), (76, .iastore, 1), (77, .return_, 1)]
theorem dx_M_reset : ∀ p ∈ dt_M_reset, decode prog_12_method_56_code p.1 = .ok p.2 := by decide +kernel
theorem d_M_reset {k pc : Nat} {i : Instr} {n : Nat} (h : dt_M_reset[k]? = some (pc, i, n)) : decode mi_M_reset.2.1 pc = .ok (i, n) := dx_M_reset (pc, i, n) (List.mem_of_getElem? h)
def q_M_reset (t0 : Option Nat) (i1 : Int32) (M : mM) : Option (Unit × mM) :=
    x_gR M 10 t0 49 fun a1 =>
    x_wI M a1 i1 (0 : Int32) fun M =>
    x_gR M 10 t0 53 fun a2 =>
    x_wI M a2 i1 (0 : Int32) fun M =>
    x_gR M 10 t0 54 fun a3 =>
    x_wI M a3 i1 (0 : Int32) fun M =>
    x_gR M 10 t0 55 fun a4 =>
    x_wI M a4 i1 (0 : Int32) fun M =>
    x_gR M 10 t0 56 fun a5 =>
    x_wI M a5 i1 (0 : Int32) fun M =>
    x_gR M 10 t0 57 fun a6 =>
    x_wI M a6 i1 (0 : Int32) fun M =>
    x_gR M 10 t0 58 fun a7 =>
    x_wZ M a7 i1 (0 : Int32) fun M =>
    x_gR M 10 t0 59 fun a8 =>
    x_wZ M a8 i1 (0 : Int32) fun M =>
    x_gR M 10 t0 60 fun a9 =>
    x_wZ M a9 i1 (0 : Int32) fun M =>
    x_gR M 10 t0 64 fun a10 =>
    x_wI M a10 i1 (0 : Int32) fun M =>
    x_gR M 10 t0 73 fun a11 =>
    x_wI M a11 i1 (0 : Int32) fun M =>
    some ((), M)
set_option maxRecDepth 20000 in
theorem v_M_reset {E : mE} (t0 : Option Nat) (i1 : Int32) (M : mM) : mVr E mi_M_reset 0 0 [some (.inr t0), some (.inl i1)] [] M enU (q_M_reset t0 i1 M) := by
  unfold q_M_reset
  refine m_aload_n (d_M_reset (k := 0) rfl) rfl ?_
  refine m_getR (d_M_reset (k := 1) rfl) fl_M_110 rfl (fun a1 => ?_)
  refine m_iload_n (d_M_reset (k := 2) rfl) rfl ?_
  refine m_iconst (v := 0) (d_M_reset (k := 3) rfl) (by decide) ?_
  refine m_iast (d_M_reset (k := 4) rfl) (fun M => ?_)
  refine m_aload_n (d_M_reset (k := 5) rfl) rfl ?_
  refine m_getR (d_M_reset (k := 6) rfl) fl_M_122 rfl (fun a2 => ?_)
  refine m_iload_n (d_M_reset (k := 7) rfl) rfl ?_
  refine m_iconst (v := 0) (d_M_reset (k := 8) rfl) (by decide) ?_
  refine m_iast (d_M_reset (k := 9) rfl) (fun M => ?_)
  refine m_aload_n (d_M_reset (k := 10) rfl) rfl ?_
  refine m_getR (d_M_reset (k := 11) rfl) fl_M_125 rfl (fun a3 => ?_)
  refine m_iload_n (d_M_reset (k := 12) rfl) rfl ?_
  refine m_iconst (v := 0) (d_M_reset (k := 13) rfl) (by decide) ?_
  refine m_iast (d_M_reset (k := 14) rfl) (fun M => ?_)
  refine m_aload_n (d_M_reset (k := 15) rfl) rfl ?_
  refine m_getR (d_M_reset (k := 16) rfl) fl_M_128 rfl (fun a4 => ?_)
  refine m_iload_n (d_M_reset (k := 17) rfl) rfl ?_
  refine m_iconst (v := 0) (d_M_reset (k := 18) rfl) (by decide) ?_
  refine m_iast (d_M_reset (k := 19) rfl) (fun M => ?_)
  refine m_aload_n (d_M_reset (k := 20) rfl) rfl ?_
  refine m_getR (d_M_reset (k := 21) rfl) fl_M_131 rfl (fun a5 => ?_)
  refine m_iload_n (d_M_reset (k := 22) rfl) rfl ?_
  refine m_iconst (v := 0) (d_M_reset (k := 23) rfl) (by decide) ?_
  refine m_iast (d_M_reset (k := 24) rfl) (fun M => ?_)
  refine m_aload_n (d_M_reset (k := 25) rfl) rfl ?_
  refine m_getR (d_M_reset (k := 26) rfl) fl_M_134 rfl (fun a6 => ?_)
  refine m_iload_n (d_M_reset (k := 27) rfl) rfl ?_
  refine m_iconst (v := 0) (d_M_reset (k := 28) rfl) (by decide) ?_
  refine m_iast (d_M_reset (k := 29) rfl) (fun M => ?_)
  refine m_aload_n (d_M_reset (k := 30) rfl) rfl ?_
  refine m_getR (d_M_reset (k := 31) rfl) fl_M_137 rfl (fun a7 => ?_)
  refine m_iload_n (d_M_reset (k := 32) rfl) rfl ?_
  refine m_iconst (v := 0) (d_M_reset (k := 33) rfl) (by decide) ?_
  refine m_zast (d_M_reset (k := 34) rfl) (fun M => ?_)
  refine m_aload_n (d_M_reset (k := 35) rfl) rfl ?_
  refine m_getR (d_M_reset (k := 36) rfl) fl_M_140 rfl (fun a8 => ?_)
  refine m_iload_n (d_M_reset (k := 37) rfl) rfl ?_
  refine m_iconst (v := 0) (d_M_reset (k := 38) rfl) (by decide) ?_
  refine m_zast (d_M_reset (k := 39) rfl) (fun M => ?_)
  refine m_aload_n (d_M_reset (k := 40) rfl) rfl ?_
  refine m_getR (d_M_reset (k := 41) rfl) fl_M_143 rfl (fun a9 => ?_)
  refine m_iload_n (d_M_reset (k := 42) rfl) rfl ?_
  refine m_iconst (v := 0) (d_M_reset (k := 43) rfl) (by decide) ?_
  refine m_zast (d_M_reset (k := 44) rfl) (fun M => ?_)
  refine m_aload_n (d_M_reset (k := 45) rfl) rfl ?_
  refine m_getR (d_M_reset (k := 46) rfl) fl_M_155 rfl (fun a10 => ?_)
  refine m_iload_n (d_M_reset (k := 47) rfl) rfl ?_
  refine m_iconst (v := 0) (d_M_reset (k := 48) rfl) (by decide) ?_
  refine m_iast (d_M_reset (k := 49) rfl) (fun M => ?_)
  refine m_aload_n (d_M_reset (k := 50) rfl) rfl ?_
  refine m_getR (d_M_reset (k := 51) rfl) fl_M_182 rfl (fun a11 => ?_)
  refine m_iload_n (d_M_reset (k := 52) rfl) rfl ?_
  refine m_iconst (v := 0) (d_M_reset (k := 53) rfl) (by decide) ?_
  refine m_iast (d_M_reset (k := 54) rfl) (fun M => ?_)
  exact m_vret (d_M_reset (k := 55) rfl) rfl
theorem s_M_reset {E : mE} (t0 : Option Nat) (i1 : Int32) (M : mM) : mSnd E mi_M_reset 0 [.inr t0, .inl i1] M enU (q_M_reset t0 i1 M) := m_entryU (by decide) (Nat.le_of_ble_eq_true rfl) rfl (m_drop (mles_s (mles_s mles_0)) (v_M_reset t0 i1 M))
def dt_M_clear : List (Nat × Instr × Nat) := [(0, .aload_n 0, 1), (1, .iload_n 1, 1), (2, .invokevirtual 398, 3), (5, .aload_n 0, 1), (6, .getfield 161, 3), (9, .iload_n 1, 1), (10, .iconst 0, 1), (11, .iastore, 1), (12, .return_, 1)]
theorem dx_M_clear : ∀ p ∈ dt_M_clear, decode prog_12_method_58_code p.1 = .ok p.2 := by decide +kernel
theorem d_M_clear {k pc : Nat} {i : Instr} {n : Nat} (h : dt_M_clear[k]? = some (pc, i, n)) : decode mi_M_clear.2.1 pc = .ok (i, n) := dx_M_clear (pc, i, n) (List.mem_of_getElem? h)
def q_M_clear (t0 : Option Nat) (i1 : Int32) (M : mM) : Option (Unit × mM) :=
    x_cv M 10 t0 (q_M_reset t0 i1 M) fun _ M =>
    x_gR M 10 t0 66 fun a1 =>
    x_wI M a1 i1 (0 : Int32) fun M =>
    some ((), M)
set_option maxRecDepth 20000 in
theorem v_M_clear {E : mE} (t0 : Option Nat) (i1 : Int32) (M : mM) : mVr E mi_M_clear 1 0 [some (.inr t0), some (.inl i1)] [] M enU (q_M_clear t0 i1 M) := by
  unfold q_M_clear
  refine m_aload_n (d_M_clear (k := 0) rfl) rfl ?_
  refine m_iload_n (d_M_clear (k := 1) rfl) rfl ?_
  refine m_cvU (c := 10) (vs := [.inl i1]) (st := []) (d_M_clear (k := 2) rfl) (s_M_reset t0 i1 M) cd_M_reset ml_M_398 im_M_reset se_M_reset rfl (by decide) rfl (Nat.le_of_ble_eq_true rfl) (fun _ M => ?_)
  refine m_aload_n (d_M_clear (k := 3) rfl) rfl ?_
  refine m_getR (d_M_clear (k := 4) rfl) fl_M_161 rfl (fun a1 => ?_)
  refine m_iload_n (d_M_clear (k := 5) rfl) rfl ?_
  refine m_iconst (v := 0) (d_M_clear (k := 6) rfl) (by decide) ?_
  refine m_iast (d_M_clear (k := 7) rfl) (fun M => ?_)
  exact m_vret (d_M_clear (k := 8) rfl) rfl
theorem s_M_clear {E : mE} (t0 : Option Nat) (i1 : Int32) (M : mM) : mSnd E mi_M_clear 1 [.inr t0, .inl i1] M enU (q_M_clear t0 i1 M) := m_entryU (by decide) (Nat.le_of_ble_eq_true rfl) rfl (m_drop (mles_s (mles_s mles_0)) (v_M_clear t0 i1 M))
def dt_M_say : List (Nat × Instr × Nat) := [(0, .bipush 6, 2), (2, .iload_n 1, 1), (3, .imul, 1), (4, .iload_n 2, 1), (5, .iadd, 1), (6, .istore 5, 2), (8, .aload_n 0, 1), (9, .iload_n 2, 1), (10, .iload_n 1, 1), (11, .aload_n 0, 1), (12, .getfield 113, 3), (15, .iload 5, 2), (17, .iaload, 1), (18, .aload_n 0, 1), (19, .getfield 116, 3), (22, .iload 5, 2), (24, .iaload, 1), (25, .iload_n 3, 1), (26, .invokevirtual 387, 3), (29, .aload_n 0, 1), (30, .iload 4, 2), (32, .invokevirtual 270, 3), (35, .aload_n 0, 1), (36, .aload_n 0, 1), (37, .getfield 119, 3), (40, .iload 5, 2), (42, .iaload, 1), (43, .invokevirtual 270, 3), (46, .aload_n 0, 1), (47, .iload_n 1, 1), (48, .invokevirtual 273, 3), (51, .return_, 1)]
theorem dx_M_say : ∀ p ∈ dt_M_say, decode prog_12_method_51_code p.1 = .ok p.2 := by decide +kernel
theorem d_M_say {k pc : Nat} {i : Instr} {n : Nat} (h : dt_M_say[k]? = some (pc, i, n)) : decode mi_M_say.2.1 pc = .ok (i, n) := dx_M_say (pc, i, n) (List.mem_of_getElem? h)
def q_M_say (t0 : Option Nat) (i1 : Int32) (i2 : Int32) (i3 : Int32) (i4 : Int32) (M : mM) : Option (Unit × mM) :=
    x_lt (((6 : Int32) * i1) + i2) fun x1 =>
    x_gR M 10 t0 50 fun a2 =>
    x_aI M 0 a2 x1 fun x3 =>
    x_gR M 10 t0 51 fun a4 =>
    x_aI M 0 a4 x1 fun x5 =>
    x_cv M 10 t0 (q_M_begin t0 i2 i1 x3 x5 i3 M) fun _ M =>
    x_cv M 10 t0 (q_M_put t0 i4 M) fun _ M =>
    x_gR M 10 t0 52 fun a6 =>
    x_aI M 0 a6 x1 fun x7 =>
    x_cv M 10 t0 (q_M_put t0 x7 M) fun _ M =>
    x_cv M 10 t0 (q_M_enqueue t0 i1 M) fun _ M =>
    some ((), M)
set_option maxRecDepth 20000 in
theorem v_M_say {E : mE} (t0 : Option Nat) (i1 : Int32) (i2 : Int32) (i3 : Int32) (i4 : Int32) (M : mM) : mVr E mi_M_say 3 0 [some (.inr t0), some (.inl i1), some (.inl i2), some (.inl i3), some (.inl i4), none] [] M enU (q_M_say t0 i1 i2 i3 i4 M) := by
  unfold q_M_say
  refine m_bipush (v := 6) (d_M_say (k := 0) rfl) (by decide) ?_
  refine m_iload_n (d_M_say (k := 1) rfl) rfl ?_
  refine m_imul (d_M_say (k := 2) rfl) ?_
  refine m_iload_n (d_M_say (k := 3) rfl) rfl ?_
  refine m_iadd (d_M_say (k := 4) rfl) ?_
  refine m_lt (fun x1 => ?_)
  refine m_ist (ls' := [some (.inr t0), some (.inl i1), some (.inl i2), some (.inl i3), some (.inl i4), some (.inl x1)]) (d_M_say (k := 5) rfl) (by decide) rfl ?_
  refine m_aload_n (d_M_say (k := 6) rfl) rfl ?_
  refine m_iload_n (d_M_say (k := 7) rfl) rfl ?_
  refine m_iload_n (d_M_say (k := 8) rfl) rfl ?_
  refine m_aload_n (d_M_say (k := 9) rfl) rfl ?_
  refine m_getR (d_M_say (k := 10) rfl) fl_M_113 rfl (fun a2 => ?_)
  refine m_iload (d_M_say (k := 11) rfl) rfl ?_
  refine m_iald (d_M_say (k := 12) rfl) (fun x3 => ?_)
  refine m_aload_n (d_M_say (k := 13) rfl) rfl ?_
  refine m_getR (d_M_say (k := 14) rfl) fl_M_116 rfl (fun a4 => ?_)
  refine m_iload (d_M_say (k := 15) rfl) rfl ?_
  refine m_iald (d_M_say (k := 16) rfl) (fun x5 => ?_)
  refine m_iload_n (d_M_say (k := 17) rfl) rfl ?_
  refine m_cvU (c := 10) (vs := [.inl i2, .inl i1, .inl x3, .inl x5, .inl i3]) (st := []) (d_M_say (k := 18) rfl) (s_M_begin t0 i2 i1 x3 x5 i3 M) cd_M_begin ml_M_387 im_M_begin se_M_begin rfl (by decide) rfl (Nat.le_of_ble_eq_true rfl) (fun _ M => ?_)
  refine m_aload_n (d_M_say (k := 19) rfl) rfl ?_
  refine m_iload (d_M_say (k := 20) rfl) rfl ?_
  refine m_cvU (c := 10) (vs := [.inl i4]) (st := []) (d_M_say (k := 21) rfl) (s_M_put t0 i4 M) cd_M_put ml_M_270 im_M_put se_M_put rfl (by decide) rfl (Nat.le_of_ble_eq_true rfl) (fun _ M => ?_)
  refine m_aload_n (d_M_say (k := 22) rfl) rfl ?_
  refine m_aload_n (d_M_say (k := 23) rfl) rfl ?_
  refine m_getR (d_M_say (k := 24) rfl) fl_M_119 rfl (fun a6 => ?_)
  refine m_iload (d_M_say (k := 25) rfl) rfl ?_
  refine m_iald (d_M_say (k := 26) rfl) (fun x7 => ?_)
  refine m_cvU (c := 10) (vs := [.inl x7]) (st := []) (d_M_say (k := 27) rfl) (s_M_put t0 x7 M) cd_M_put ml_M_270 im_M_put se_M_put rfl (by decide) rfl (Nat.le_of_ble_eq_true rfl) (fun _ M => ?_)
  refine m_aload_n (d_M_say (k := 28) rfl) rfl ?_
  refine m_iload_n (d_M_say (k := 29) rfl) rfl ?_
  refine m_cvU (c := 10) (vs := [.inl i1]) (st := []) (d_M_say (k := 30) rfl) (s_M_enqueue t0 i1 M) cd_M_enqueue ml_M_273 im_M_enqueue se_M_enqueue rfl (by decide) rfl (Nat.le_of_ble_eq_true rfl) (fun _ M => ?_)
  exact m_vret (d_M_say (k := 31) rfl) rfl
theorem s_M_say {E : mE} (t0 : Option Nat) (i1 : Int32) (i2 : Int32) (i3 : Int32) (i4 : Int32) (M : mM) : mSnd E mi_M_say 3 [.inr t0, .inl i1, .inl i2, .inl i3, .inl i4] M enU (q_M_say t0 i1 i2 i3 i4 M) := m_entryU (by decide) (Nat.le_of_ble_eq_true rfl) rfl (m_drop (mles_s (mles_s (mles_s (mles_s (mles_s (mles_e mles_0)))))) (v_M_say t0 i1 i2 i3 i4 M))
def dt_M_called : List (Nat × Instr × Nat) := [(0, .bipush 6, 2), (2, .iload_n 1, 1), (3, .imul, 1), (4, .iload_n 2, 1), (5, .iadd, 1), (6, .istore_n 3, 1), (7, .aload_n 0, 1), (8, .getfield 146, 3), (11, .iload_n 3, 1), (12, .aload_n 0, 1), (13, .getfield 146, 3), (16, .iload_n 3, 1), (17, .iaload, 1), (18, .iconst 1, 1), (19, .iadd, 1), (20, .sipush 128, 3), (23, .irem, 1), (24, .iastore, 1), (25, .aload_n 0, 1), (26, .iload_n 3, 1), (27, .invokevirtual 401, 3), (30, .aload_n 0, 1), (31, .getfield 119, 3), (34, .iload_n 3, 1), (35, .aload_n 0, 1), (36, .getfield 146, 3), (39, .iload_n 3, 1), (40, .iaload, 1), (41, .iload_n 1, 1), (42, .iload_n 2, 1), (43, .if_icmp .le 9, 3), (46, .sipush 128, 3), (49, .goto 4, 3), (52, .iconst 0, 1), (53, .iadd, 1), (54, .iastore, 1), (55, .aload_n 0, 1), (56, .getfield 110, 3), (59, .iload_n 3, 1), (60, .iconst 1, 1), (61, .iastore, 1), (62, .aload_n 0, 1), (63, .getfield 134, 3), (66, .iload_n 3, 1), (67, .iconst 1, 1), (68, .iastore, 1), (69, .aload_n 0, 1), (70, .getfield 131, 3), (73, .iload_n 3, 1), (74, .aload_n 0, 1), (75, .getfield 44, 3), (78, .bipush 9, 2), (80, .iload_n 1, 1), (81, .imul, 1), (82, .iconst 4, 1), (83, .iadd, 1), (84, .iaload, 1), (85, .iastore, 1), (86, .aload_n 0, 1), (87, .iload_n 1, 1), (88, .iload_n 2, 1), (89, .iconst 1, 1), (90, .bipush 63, 2), (92, .invokevirtual 391, 3), (95, .return_, 1)]
theorem dx_M_called : ∀ p ∈ dt_M_called, decode prog_12_method_59_code p.1 = .ok p.2 := by decide +kernel
theorem d_M_called {k pc : Nat} {i : Instr} {n : Nat} (h : dt_M_called[k]? = some (pc, i, n)) : decode mi_M_called.2.1 pc = .ok (i, n) := dx_M_called (pc, i, n) (List.mem_of_getElem? h)
def q_M_called_53 (t0 : Option Nat) (i1 : Int32) (i2 : Int32) (i3 : Int32) (j0 : Int32) (j1 : Int32) (j2 : Int32) (u3 : Option Nat) (M : mM) : Option (Unit × mM) :=
    x_wI M u3 j2 (j1 + j0) fun M =>
    x_gR M 10 t0 49 fun a1 =>
    x_wI M a1 i3 (1 : Int32) fun M =>
    x_gR M 10 t0 57 fun a2 =>
    x_wI M a2 i3 (1 : Int32) fun M =>
    x_gR M 10 t0 56 fun a3 =>
    x_gR M 10 t0 16 fun a4 =>
    x_aI M 0 a4 (((9 : Int32) * i1) + (4 : Int32)) fun x5 =>
    x_wI M a3 i3 x5 fun M =>
    x_cv M 10 t0 (q_M_say t0 i1 i2 (1 : Int32) (63 : Int32) M) fun _ M =>
    some ((), M)
set_option maxRecDepth 20000 in
theorem v_M_called_53 {E : mE} (t0 : Option Nat) (i1 : Int32) (i2 : Int32) (i3 : Int32) (j0 : Int32) (j1 : Int32) (j2 : Int32) (u3 : Option Nat) (M : mM) : mVr E mi_M_called 4 53 [some (.inr t0), some (.inl i1), some (.inl i2), some (.inl i3)] [.inl j0, .inl j1, .inl j2, .inr u3] M enU (q_M_called_53 t0 i1 i2 i3 j0 j1 j2 u3 M) := by
  unfold q_M_called_53
  refine m_iadd (d_M_called (k := 34) rfl) ?_
  refine m_iast (d_M_called (k := 35) rfl) (fun M => ?_)
  refine m_aload_n (d_M_called (k := 36) rfl) rfl ?_
  refine m_getR (d_M_called (k := 37) rfl) fl_M_110 rfl (fun a1 => ?_)
  refine m_iload_n (d_M_called (k := 38) rfl) rfl ?_
  refine m_iconst (v := 1) (d_M_called (k := 39) rfl) (by decide) ?_
  refine m_iast (d_M_called (k := 40) rfl) (fun M => ?_)
  refine m_aload_n (d_M_called (k := 41) rfl) rfl ?_
  refine m_getR (d_M_called (k := 42) rfl) fl_M_134 rfl (fun a2 => ?_)
  refine m_iload_n (d_M_called (k := 43) rfl) rfl ?_
  refine m_iconst (v := 1) (d_M_called (k := 44) rfl) (by decide) ?_
  refine m_iast (d_M_called (k := 45) rfl) (fun M => ?_)
  refine m_aload_n (d_M_called (k := 46) rfl) rfl ?_
  refine m_getR (d_M_called (k := 47) rfl) fl_M_131 rfl (fun a3 => ?_)
  refine m_iload_n (d_M_called (k := 48) rfl) rfl ?_
  refine m_aload_n (d_M_called (k := 49) rfl) rfl ?_
  refine m_getR (d_M_called (k := 50) rfl) fl_M_44 rfl (fun a4 => ?_)
  refine m_bipush (v := 9) (d_M_called (k := 51) rfl) (by decide) ?_
  refine m_iload_n (d_M_called (k := 52) rfl) rfl ?_
  refine m_imul (d_M_called (k := 53) rfl) ?_
  refine m_iconst (v := 4) (d_M_called (k := 54) rfl) (by decide) ?_
  refine m_iadd (d_M_called (k := 55) rfl) ?_
  refine m_iald (d_M_called (k := 56) rfl) (fun x5 => ?_)
  refine m_iast (d_M_called (k := 57) rfl) (fun M => ?_)
  refine m_aload_n (d_M_called (k := 58) rfl) rfl ?_
  refine m_iload_n (d_M_called (k := 59) rfl) rfl ?_
  refine m_iload_n (d_M_called (k := 60) rfl) rfl ?_
  refine m_iconst (v := 1) (d_M_called (k := 61) rfl) (by decide) ?_
  refine m_bipush (v := 63) (d_M_called (k := 62) rfl) (by decide) ?_
  refine m_cvU (c := 10) (vs := [.inl i1, .inl i2, .inl (1 : Int32), .inl (63 : Int32)]) (st := []) (d_M_called (k := 63) rfl) (s_M_say t0 i1 i2 (1 : Int32) (63 : Int32) M) cd_M_say ml_M_391 im_M_say se_M_say rfl (by decide) rfl (Nat.le_of_ble_eq_true rfl) (fun _ M => ?_)
  exact m_vret (d_M_called (k := 64) rfl) rfl
def q_M_called (t0 : Option Nat) (i1 : Int32) (i2 : Int32) (M : mM) : Option (Unit × mM) :=
    x_lt (((6 : Int32) * i1) + i2) fun x1 =>
    x_gR M 10 t0 61 fun a2 =>
    x_gR M 10 t0 61 fun a3 =>
    x_aI M 0 a3 x1 fun x4 =>
    x_rm (x4 + (1 : Int32)) (128 : Int32) fun x5 =>
    x_wI M a2 x1 x5 fun M =>
    x_cv M 10 t0 (q_M_clear t0 x1 M) fun _ M =>
    x_gR M 10 t0 52 fun a6 =>
    x_gR M 10 t0 61 fun a7 =>
    x_aI M 0 a7 x1 fun x8 =>
    if i2 < i1 then
      q_M_called_53 t0 i1 i2 x1 (128 : Int32) x8 x1 a6 M
    else
      q_M_called_53 t0 i1 i2 x1 (0 : Int32) x8 x1 a6 M
set_option maxRecDepth 20000 in
theorem v_M_called {E : mE} (t0 : Option Nat) (i1 : Int32) (i2 : Int32) (M : mM) : mVr E mi_M_called 4 0 [some (.inr t0), some (.inl i1), some (.inl i2), none] [] M enU (q_M_called t0 i1 i2 M) := by
  unfold q_M_called
  refine m_bipush (v := 6) (d_M_called (k := 0) rfl) (by decide) ?_
  refine m_iload_n (d_M_called (k := 1) rfl) rfl ?_
  refine m_imul (d_M_called (k := 2) rfl) ?_
  refine m_iload_n (d_M_called (k := 3) rfl) rfl ?_
  refine m_iadd (d_M_called (k := 4) rfl) ?_
  refine m_lt (fun x1 => ?_)
  refine m_ist_n (ls' := [some (.inr t0), some (.inl i1), some (.inl i2), some (.inl x1)]) (d_M_called (k := 5) rfl) (by decide) rfl ?_
  refine m_aload_n (d_M_called (k := 6) rfl) rfl ?_
  refine m_getR (d_M_called (k := 7) rfl) fl_M_146 rfl (fun a2 => ?_)
  refine m_iload_n (d_M_called (k := 8) rfl) rfl ?_
  refine m_aload_n (d_M_called (k := 9) rfl) rfl ?_
  refine m_getR (d_M_called (k := 10) rfl) fl_M_146 rfl (fun a3 => ?_)
  refine m_iload_n (d_M_called (k := 11) rfl) rfl ?_
  refine m_iald (d_M_called (k := 12) rfl) (fun x4 => ?_)
  refine m_iconst (v := 1) (d_M_called (k := 13) rfl) (by decide) ?_
  refine m_iadd (d_M_called (k := 14) rfl) ?_
  refine m_sipush (v := 128) (d_M_called (k := 15) rfl) (by decide) ?_
  refine m_irem (d_M_called (k := 16) rfl) (fun x5 => ?_)
  refine m_iast (d_M_called (k := 17) rfl) (fun M => ?_)
  refine m_aload_n (d_M_called (k := 18) rfl) rfl ?_
  refine m_iload_n (d_M_called (k := 19) rfl) rfl ?_
  refine m_cvU (c := 10) (vs := [.inl x1]) (st := []) (d_M_called (k := 20) rfl) (s_M_clear t0 x1 M) cd_M_clear ml_M_401 im_M_clear se_M_clear rfl (by decide) rfl (Nat.le_of_ble_eq_true rfl) (fun _ M => ?_)
  refine m_aload_n (d_M_called (k := 21) rfl) rfl ?_
  refine m_getR (d_M_called (k := 22) rfl) fl_M_119 rfl (fun a6 => ?_)
  refine m_iload_n (d_M_called (k := 23) rfl) rfl ?_
  refine m_aload_n (d_M_called (k := 24) rfl) rfl ?_
  refine m_getR (d_M_called (k := 25) rfl) fl_M_146 rfl (fun a7 => ?_)
  refine m_iload_n (d_M_called (k := 26) rfl) rfl ?_
  refine m_iald (d_M_called (k := 27) rfl) (fun x8 => ?_)
  refine m_iload_n (d_M_called (k := 28) rfl) rfl ?_
  refine m_iload_n (d_M_called (k := 29) rfl) rfl ?_
  refine m_icmp_le (tgt := 52) (d_M_called (k := 30) rfl) rfl ?_ ?_
  · refine m_sipush (v := 128) (d_M_called (k := 31) rfl) (by decide) ?_
    refine m_goto (tgt := 53) (d_M_called (k := 32) rfl) rfl ?_
    exact m_drop (mles_s (mles_s (mles_s (mles_s mles_0)))) (v_M_called_53 t0 i1 i2 x1 (128 : Int32) x8 x1 a6 M)
  · refine m_iconst (v := 0) (d_M_called (k := 33) rfl) (by decide) ?_
    exact m_drop (mles_s (mles_s (mles_s (mles_s mles_0)))) (v_M_called_53 t0 i1 i2 x1 (0 : Int32) x8 x1 a6 M)
theorem s_M_called {E : mE} (t0 : Option Nat) (i1 : Int32) (i2 : Int32) (M : mM) : mSnd E mi_M_called 4 [.inr t0, .inl i1, .inl i2] M enU (q_M_called t0 i1 i2 M) := m_entryU (by decide) (Nat.le_of_ble_eq_true rfl) rfl (m_drop (mles_s (mles_s (mles_s (mles_e mles_0)))) (v_M_called t0 i1 i2 M))
def dt_M_call : List (Nat × Instr × Nat) := [(0, .iload_n 1, 1), (1, .iload_n 2, 1), (2, .invokestatic 258, 3), (5, .ifCond .eq 17, 3), (8, .aload_n 0, 1), (9, .getfield 110, 3), (12, .bipush 6, 2), (14, .iload_n 1, 1), (15, .imul, 1), (16, .iload_n 2, 1), (17, .iadd, 1), (18, .iaload, 1), (19, .ifCond .eq 5, 3), (22, .iconst 0, 1), (23, .ireturn, 1), (24, .iload_n 3, 1), (25, .iconst (-1), 1), (26, .if_icmp .ne 12, 3), (29, .iload 4, 2), (31, .iconst (-1), 1), (32, .if_icmp .eq 25, 3), (35, .goto 20, 3), (38, .iload_n 3, 1), (39, .invokestatic 207, 3), (42, .ifCond .eq 13, 3), (45, .iload_n 3, 1), (46, .iload_n 1, 1), (47, .if_icmp .eq 8, 3), (50, .iload_n 3, 1), (51, .iload_n 2, 1), (52, .if_icmp .ne 5, 3), (55, .iconst 0, 1), (56, .ireturn, 1), (57, .iload 4, 2), (59, .iconst (-1), 1), (60, .if_icmp .eq 31, 3), (63, .iload 4, 2), (65, .invokestatic 207, 3), (68, .ifCond .eq 21, 3), (71, .iload 4, 2), (73, .iload_n 1, 1), (74, .if_icmp .eq 15, 3), (77, .iload 4, 2), (79, .iload_n 2, 1), (80, .if_icmp .eq 9, 3), (83, .iload 4, 2), (85, .iload_n 3, 1), (86, .if_icmp .ne 5, 3), (89, .iconst 0, 1), (90, .ireturn, 1), (91, .aload_n 0, 1), (92, .getfield 113, 3), (95, .bipush 6, 2), (97, .iload_n 1, 1), (98, .imul, 1), (99, .iload_n 2, 1), (100, .iadd, 1), (101, .iload_n 3, 1), (102, .iastore, 1), (103, .aload_n 0, 1), (104, .getfield 116, 3), (107, .bipush 6, 2), (109, .iload_n 1, 1), (110, .imul, 1), (111, .iload_n 2, 1), (112, .iadd, 1), (113, .iload 4, 2), (115, .iastore, 1), (116, .aload_n 0, 1), (117, .iload_n 1, 1), (118, .iload_n 2, 1), (119, .invokevirtual 458, 3), (122, .iconst 1, 1), (123, .ireturn, 1)]
theorem dx_M_call : ∀ p ∈ dt_M_call, decode prog_12_method_76_code p.1 = .ok p.2 := by decide +kernel
theorem d_M_call {k pc : Nat} {i : Instr} {n : Nat} (h : dt_M_call[k]? = some (pc, i, n)) : decode mi_M_call.2.1 pc = .ok (i, n) := dx_M_call (pc, i, n) (List.mem_of_getElem? h)
def q_M_call_91 (t0 : Option Nat) (i1 : Int32) (i2 : Int32) (i3 : Int32) (i4 : Int32) (M : mM) : Option (Int32 × mM) :=
    x_gR M 10 t0 50 fun a1 =>
    x_wI M a1 (((6 : Int32) * i1) + i2) i3 fun M =>
    x_gR M 10 t0 51 fun a2 =>
    x_wI M a2 (((6 : Int32) * i1) + i2) i4 fun M =>
    x_cv M 10 t0 (q_M_called t0 i1 i2 M) fun _ M =>
    x_rz (1 : Int32) M
set_option maxRecDepth 20000 in
theorem v_M_call_91 {E : mE} (t0 : Option Nat) (i1 : Int32) (i2 : Int32) (i3 : Int32) (i4 : Int32) (M : mM) : mVr E mi_M_call 5 91 [some (.inr t0), some (.inl i1), some (.inl i2), some (.inl i3), some (.inl i4)] [] M enI (q_M_call_91 t0 i1 i2 i3 i4 M) := by
  unfold q_M_call_91
  refine m_aload_n (d_M_call (k := 50) rfl) rfl ?_
  refine m_getR (d_M_call (k := 51) rfl) fl_M_113 rfl (fun a1 => ?_)
  refine m_bipush (v := 6) (d_M_call (k := 52) rfl) (by decide) ?_
  refine m_iload_n (d_M_call (k := 53) rfl) rfl ?_
  refine m_imul (d_M_call (k := 54) rfl) ?_
  refine m_iload_n (d_M_call (k := 55) rfl) rfl ?_
  refine m_iadd (d_M_call (k := 56) rfl) ?_
  refine m_iload_n (d_M_call (k := 57) rfl) rfl ?_
  refine m_iast (d_M_call (k := 58) rfl) (fun M => ?_)
  refine m_aload_n (d_M_call (k := 59) rfl) rfl ?_
  refine m_getR (d_M_call (k := 60) rfl) fl_M_116 rfl (fun a2 => ?_)
  refine m_bipush (v := 6) (d_M_call (k := 61) rfl) (by decide) ?_
  refine m_iload_n (d_M_call (k := 62) rfl) rfl ?_
  refine m_imul (d_M_call (k := 63) rfl) ?_
  refine m_iload_n (d_M_call (k := 64) rfl) rfl ?_
  refine m_iadd (d_M_call (k := 65) rfl) ?_
  refine m_iload (d_M_call (k := 66) rfl) rfl ?_
  refine m_iast (d_M_call (k := 67) rfl) (fun M => ?_)
  refine m_aload_n (d_M_call (k := 68) rfl) rfl ?_
  refine m_iload_n (d_M_call (k := 69) rfl) rfl ?_
  refine m_iload_n (d_M_call (k := 70) rfl) rfl ?_
  refine m_cvU (c := 10) (vs := [.inl i1, .inl i2]) (st := []) (d_M_call (k := 71) rfl) (s_M_called t0 i1 i2 M) cd_M_called ml_M_458 im_M_called se_M_called rfl (by decide) rfl (Nat.le_of_ble_eq_true rfl) (fun _ M => ?_)
  refine m_iconst (v := 1) (d_M_call (k := 72) rfl) (by decide) ?_
  exact m_zret (d_M_call (k := 73) rfl) rfl
def q_M_call_57 (t0 : Option Nat) (i1 : Int32) (i2 : Int32) (i3 : Int32) (i4 : Int32) (M : mM) : Option (Int32 × mM) :=
    if i4 = (-1 : Int32) then
      q_M_call_91 t0 i1 i2 i3 i4 M
    else
      x_cl (q_M_isStation i4 M) fun x1 M =>
      if x1 = 0 then
        x_rz (0 : Int32) M
      else
        if i4 = i1 then
          x_rz (0 : Int32) M
        else
          if i4 = i2 then
            x_rz (0 : Int32) M
          else
            if i4 = i3 then
              x_rz (0 : Int32) M
            else
              q_M_call_91 t0 i1 i2 i3 i4 M
set_option maxRecDepth 20000 in
theorem v_M_call_57 {E : mE} (t0 : Option Nat) (i1 : Int32) (i2 : Int32) (i3 : Int32) (i4 : Int32) (M : mM) : mVr E mi_M_call 5 57 [some (.inr t0), some (.inl i1), some (.inl i2), some (.inl i3), some (.inl i4)] [] M enI (q_M_call_57 t0 i1 i2 i3 i4 M) := by
  unfold q_M_call_57
  refine m_iload (d_M_call (k := 33) rfl) rfl ?_
  refine m_iconst (v := (-1)) (d_M_call (k := 34) rfl) (by decide) ?_
  refine m_icmp_eq (tgt := 91) (d_M_call (k := 35) rfl) rfl ?_ ?_
  · exact m_drop (mles_s (mles_s (mles_s (mles_s (mles_s mles_0))))) (v_M_call_91 t0 i1 i2 i3 i4 M)
  · refine m_iload (d_M_call (k := 36) rfl) rfl ?_
    refine m_csI (vs := [.inl i4]) (st := []) (d_M_call (k := 37) rfl) (s_M_isStation i4 M) cd_M_isStation ml_M_207 sa_M_isStation (by decide) rfl (Nat.le_of_ble_eq_true rfl) (fun x1 M => ?_)
    refine m_if_eq (tgt := 89) (d_M_call (k := 38) rfl) rfl ?_ ?_
    · refine m_iconst (v := 0) (d_M_call (k := 48) rfl) (by decide) ?_
      exact m_zret (d_M_call (k := 49) rfl) rfl
    · refine m_iload (d_M_call (k := 39) rfl) rfl ?_
      refine m_iload_n (d_M_call (k := 40) rfl) rfl ?_
      refine m_icmp_eq (tgt := 89) (d_M_call (k := 41) rfl) rfl ?_ ?_
      · refine m_iconst (v := 0) (d_M_call (k := 48) rfl) (by decide) ?_
        exact m_zret (d_M_call (k := 49) rfl) rfl
      · refine m_iload (d_M_call (k := 42) rfl) rfl ?_
        refine m_iload_n (d_M_call (k := 43) rfl) rfl ?_
        refine m_icmp_eq (tgt := 89) (d_M_call (k := 44) rfl) rfl ?_ ?_
        · refine m_iconst (v := 0) (d_M_call (k := 48) rfl) (by decide) ?_
          exact m_zret (d_M_call (k := 49) rfl) rfl
        · refine m_iload (d_M_call (k := 45) rfl) rfl ?_
          refine m_iload_n (d_M_call (k := 46) rfl) rfl ?_
          refine m_icmp_ne (tgt := 91) (d_M_call (k := 47) rfl) rfl ?_ ?_
          · refine m_iconst (v := 0) (d_M_call (k := 48) rfl) (by decide) ?_
            exact m_zret (d_M_call (k := 49) rfl) rfl
          · exact m_drop (mles_s (mles_s (mles_s (mles_s (mles_s mles_0))))) (v_M_call_91 t0 i1 i2 i3 i4 M)
def q_M_call (t0 : Option Nat) (i1 : Int32) (i2 : Int32) (i3 : Int32) (i4 : Int32) (M : mM) : Option (Int32 × mM) :=
    x_cl (q_M_isLink i1 i2 M) fun x1 M =>
    if x1 = 0 then
      x_rz (0 : Int32) M
    else
      x_gR M 10 t0 49 fun a2 =>
      x_aI M 0 a2 (((6 : Int32) * i1) + i2) fun x3 =>
      if x3 = 0 then
        if i3 = (-1 : Int32) then
          if i4 = (-1 : Int32) then
            q_M_call_57 t0 i1 i2 i3 i4 M
          else
            x_rz (0 : Int32) M
        else
          x_cl (q_M_isStation i3 M) fun x4 M =>
          if x4 = 0 then
            x_rz (0 : Int32) M
          else
            if i3 = i1 then
              x_rz (0 : Int32) M
            else
              if i3 = i2 then
                x_rz (0 : Int32) M
              else
                q_M_call_57 t0 i1 i2 i3 i4 M
      else
        x_rz (0 : Int32) M
set_option maxRecDepth 20000 in
theorem v_M_call {E : mE} (t0 : Option Nat) (i1 : Int32) (i2 : Int32) (i3 : Int32) (i4 : Int32) (M : mM) : mVr E mi_M_call 5 0 [some (.inr t0), some (.inl i1), some (.inl i2), some (.inl i3), some (.inl i4)] [] M enI (q_M_call t0 i1 i2 i3 i4 M) := by
  unfold q_M_call
  refine m_iload_n (d_M_call (k := 0) rfl) rfl ?_
  refine m_iload_n (d_M_call (k := 1) rfl) rfl ?_
  refine m_csI (vs := [.inl i1, .inl i2]) (st := []) (d_M_call (k := 2) rfl) (s_M_isLink i1 i2 M) cd_M_isLink ml_M_258 sa_M_isLink (by decide) rfl (Nat.le_of_ble_eq_true rfl) (fun x1 M => ?_)
  refine m_if_eq (tgt := 22) (d_M_call (k := 3) rfl) rfl ?_ ?_
  · refine m_iconst (v := 0) (d_M_call (k := 13) rfl) (by decide) ?_
    exact m_zret (d_M_call (k := 14) rfl) rfl
  · refine m_aload_n (d_M_call (k := 4) rfl) rfl ?_
    refine m_getR (d_M_call (k := 5) rfl) fl_M_110 rfl (fun a2 => ?_)
    refine m_bipush (v := 6) (d_M_call (k := 6) rfl) (by decide) ?_
    refine m_iload_n (d_M_call (k := 7) rfl) rfl ?_
    refine m_imul (d_M_call (k := 8) rfl) ?_
    refine m_iload_n (d_M_call (k := 9) rfl) rfl ?_
    refine m_iadd (d_M_call (k := 10) rfl) ?_
    refine m_iald (d_M_call (k := 11) rfl) (fun x3 => ?_)
    refine m_if_eq (tgt := 24) (d_M_call (k := 12) rfl) rfl ?_ ?_
    · refine m_iload_n (d_M_call (k := 15) rfl) rfl ?_
      refine m_iconst (v := (-1)) (d_M_call (k := 16) rfl) (by decide) ?_
      refine m_icmp_ne (tgt := 38) (d_M_call (k := 17) rfl) rfl ?_ ?_
      · refine m_iload (d_M_call (k := 18) rfl) rfl ?_
        refine m_iconst (v := (-1)) (d_M_call (k := 19) rfl) (by decide) ?_
        refine m_icmp_eq (tgt := 57) (d_M_call (k := 20) rfl) rfl ?_ ?_
        · exact m_drop (mles_s (mles_s (mles_s (mles_s (mles_s mles_0))))) (v_M_call_57 t0 i1 i2 i3 i4 M)
        · refine m_goto (tgt := 55) (d_M_call (k := 21) rfl) rfl ?_
          refine m_iconst (v := 0) (d_M_call (k := 31) rfl) (by decide) ?_
          exact m_zret (d_M_call (k := 32) rfl) rfl
      · refine m_iload_n (d_M_call (k := 22) rfl) rfl ?_
        refine m_csI (vs := [.inl i3]) (st := []) (d_M_call (k := 23) rfl) (s_M_isStation i3 M) cd_M_isStation ml_M_207 sa_M_isStation (by decide) rfl (Nat.le_of_ble_eq_true rfl) (fun x4 M => ?_)
        refine m_if_eq (tgt := 55) (d_M_call (k := 24) rfl) rfl ?_ ?_
        · refine m_iconst (v := 0) (d_M_call (k := 31) rfl) (by decide) ?_
          exact m_zret (d_M_call (k := 32) rfl) rfl
        · refine m_iload_n (d_M_call (k := 25) rfl) rfl ?_
          refine m_iload_n (d_M_call (k := 26) rfl) rfl ?_
          refine m_icmp_eq (tgt := 55) (d_M_call (k := 27) rfl) rfl ?_ ?_
          · refine m_iconst (v := 0) (d_M_call (k := 31) rfl) (by decide) ?_
            exact m_zret (d_M_call (k := 32) rfl) rfl
          · refine m_iload_n (d_M_call (k := 28) rfl) rfl ?_
            refine m_iload_n (d_M_call (k := 29) rfl) rfl ?_
            refine m_icmp_ne (tgt := 57) (d_M_call (k := 30) rfl) rfl ?_ ?_
            · refine m_iconst (v := 0) (d_M_call (k := 31) rfl) (by decide) ?_
              exact m_zret (d_M_call (k := 32) rfl) rfl
            · exact m_drop (mles_s (mles_s (mles_s (mles_s (mles_s mles_0))))) (v_M_call_57 t0 i1 i2 i3 i4 M)
    · refine m_iconst (v := 0) (d_M_call (k := 13) rfl) (by decide) ?_
      exact m_zret (d_M_call (k := 14) rfl) rfl
theorem s_M_call {E : mE} (t0 : Option Nat) (i1 : Int32) (i2 : Int32) (i3 : Int32) (i4 : Int32) (M : mM) : mSnd E mi_M_call 5 [.inr t0, .inl i1, .inl i2, .inl i3, .inl i4] M enI (q_M_call t0 i1 i2 i3 i4 M) := m_entryZ (by decide) (Nat.le_of_ble_eq_true rfl) rfl (m_drop (mles_s (mles_s (mles_s (mles_s (mles_s mles_0))))) (v_M_call t0 i1 i2 i3 i4 M))
def dt_M_end : List (Nat × Instr × Nat) := [(0, .iload_n 1, 1), (1, .iconst 0, 1), (2, .aload_n 0, 1), (3, .getfield 211, 3), (6, .invokestatic 203, 3), (9, .ifCond .ne 5, 3), (12, .iconst 0, 1), (13, .ireturn, 1), (14, .aload_n 0, 1), (15, .iload_n 1, 1), (16, .putfield 211, 3), (19, .iconst 1, 1), (20, .ireturn, 1)]
theorem dx_M_end : ∀ p ∈ dt_M_end, decode prog_12_method_8_code p.1 = .ok p.2 := by decide +kernel
theorem d_M_end {k pc : Nat} {i : Instr} {n : Nat} (h : dt_M_end[k]? = some (pc, i, n)) : decode mi_M_end.2.1 pc = .ok (i, n) := dx_M_end (pc, i, n) (List.mem_of_getElem? h)
def q_M_end (t0 : Option Nat) (i1 : Int32) (M : mM) : Option (Int32 × mM) :=
    x_gI M 10 t0 1 fun x1 =>
    x_cl (q_M_in i1 (0 : Int32) x1 M) fun x2 M =>
    if x2 = 0 then
      x_rz (0 : Int32) M
    else
      x_pI M 10 t0 1 i1 fun M =>
      x_rz (1 : Int32) M
set_option maxRecDepth 20000 in
theorem v_M_end {E : mE} (t0 : Option Nat) (i1 : Int32) (M : mM) : mVr E mi_M_end 1 0 [some (.inr t0), some (.inl i1)] [] M enI (q_M_end t0 i1 M) := by
  unfold q_M_end
  refine m_iload_n (d_M_end (k := 0) rfl) rfl ?_
  refine m_iconst (v := 0) (d_M_end (k := 1) rfl) (by decide) ?_
  refine m_aload_n (d_M_end (k := 2) rfl) rfl ?_
  refine m_getI (d_M_end (k := 3) rfl) fl_M_211 rfl (fun x1 => ?_)
  refine m_csI (vs := [.inl i1, .inl (0 : Int32), .inl x1]) (st := []) (d_M_end (k := 4) rfl) (s_M_in i1 (0 : Int32) x1 M) cd_M_in ml_M_203 sa_M_in (by decide) rfl (Nat.le_of_ble_eq_true rfl) (fun x2 M => ?_)
  refine m_if_ne (tgt := 14) (d_M_end (k := 5) rfl) rfl ?_ ?_
  · refine m_iconst (v := 0) (d_M_end (k := 6) rfl) (by decide) ?_
    exact m_zret (d_M_end (k := 7) rfl) rfl
  · refine m_aload_n (d_M_end (k := 8) rfl) rfl ?_
    refine m_iload_n (d_M_end (k := 9) rfl) rfl ?_
    refine m_pI (d_M_end (k := 10) rfl) fp_M_211 (fun h => absurd h (by decide)) rfl (fun M => ?_)
    refine m_iconst (v := 1) (d_M_end (k := 11) rfl) (by decide) ?_
    exact m_zret (d_M_end (k := 12) rfl) rfl
theorem s_M_end {E : mE} (t0 : Option Nat) (i1 : Int32) (M : mM) : mSnd E mi_M_end 1 [.inr t0, .inl i1] M enI (q_M_end t0 i1 M) := m_entryZ (by decide) (Nat.le_of_ble_eq_true rfl) rfl (m_drop (mles_s (mles_s mles_0)) (v_M_end t0 i1 M))
def dt_M_lay : List (Nat × Instr × Nat) := [(0, .bipush 24, 2), (2, .istore_n 2, 1), (3, .iload_n 2, 1), (4, .ifCond .lt 35, 3), (7, .aload_n 0, 1), (8, .getfield 7, 3), (11, .aload_n 0, 1), (12, .getfield 211, 3), (15, .iload_n 1, 1), (16, .iload_n 2, 1), (17, .ishr, 1), (18, .sipush 255, 3), (21, .iand, 1), (22, .iastore, 1), (23, .aload_n 0, 1), (24, .dup, 1), (25, .getfield 211, 3), (28, .iconst 1, 1), (29, .iadd, 1), (30, .putfield 211, 3), (33, .iinc 2 (-8), 3), (36, .goto (-33), 3), (39, .return_, 1)]
theorem dx_M_lay : ∀ p ∈ dt_M_lay, decode prog_12_method_6_code p.1 = .ok p.2 := by decide +kernel
theorem d_M_lay {k pc : Nat} {i : Instr} {n : Nat} (h : dt_M_lay[k]? = some (pc, i, n)) : decode mi_M_lay.2.1 pc = .ok (i, n) := dx_M_lay (pc, i, n) (List.mem_of_getElem? h)
def q_M_lay_3_b (r3 : Option Nat → Int32 → Int32 → mM → Option (Unit × mM)) (t0 : Option Nat) (i1 : Int32) (i2 : Int32) (M : mM) : Option (Unit × mM) :=
    if i2 < 0 then
      some ((), M)
    else
      x_gR M 10 t0 0 fun a1 =>
      x_gI M 10 t0 1 fun x2 =>
      x_wI M a1 x2 ((i1 >>> (i2 &&& 31)) &&& (255 : Int32)) fun M =>
      x_gI M 10 t0 1 fun x3 =>
      x_pI M 10 t0 1 (x3 + (1 : Int32)) fun M =>
      r3 t0 i1 (i2 + (-8)) M
def q_M_lay_3 : Nat → Option Nat → Int32 → Int32 → mM → Option (Unit × mM)
  | 0, _, _, _, _ => none
  | n + 1, t0, i1, i2, M => q_M_lay_3_b (q_M_lay_3 n) t0 i1 i2 M
set_option maxRecDepth 20000 in
theorem v_M_lay_3_b {E : mE} (r3 : Option Nat → Int32 → Int32 → mM → Option (Unit × mM)) (h3 : ∀ (t0 : Option Nat) (i1 : Int32) (i2 : Int32) (M : mM), mVr E mi_M_lay 0 3 [some (.inr t0), some (.inl i1), some (.inl i2)] [] M enU (r3 t0 i1 i2 M)) (t0 : Option Nat) (i1 : Int32) (i2 : Int32) (M : mM) : mVr E mi_M_lay 0 3 [some (.inr t0), some (.inl i1), some (.inl i2)] [] M enU (q_M_lay_3_b r3 t0 i1 i2 M) := by
  unfold q_M_lay_3_b
  refine m_iload_n (d_M_lay (k := 2) rfl) rfl ?_
  refine m_if_lt (tgt := 39) (d_M_lay (k := 3) rfl) rfl ?_ ?_
  · exact m_vret (d_M_lay (k := 22) rfl) rfl
  · refine m_aload_n (d_M_lay (k := 4) rfl) rfl ?_
    refine m_getR (d_M_lay (k := 5) rfl) fl_M_7 rfl (fun a1 => ?_)
    refine m_aload_n (d_M_lay (k := 6) rfl) rfl ?_
    refine m_getI (d_M_lay (k := 7) rfl) fl_M_211 rfl (fun x2 => ?_)
    refine m_iload_n (d_M_lay (k := 8) rfl) rfl ?_
    refine m_iload_n (d_M_lay (k := 9) rfl) rfl ?_
    refine m_ishr (d_M_lay (k := 10) rfl) ?_
    refine m_sipush (v := 255) (d_M_lay (k := 11) rfl) (by decide) ?_
    refine m_iand (d_M_lay (k := 12) rfl) ?_
    refine m_iast (d_M_lay (k := 13) rfl) (fun M => ?_)
    refine m_aload_n (d_M_lay (k := 14) rfl) rfl ?_
    refine m_dup (d_M_lay (k := 15) rfl) ?_
    refine m_getI (d_M_lay (k := 16) rfl) fl_M_211 rfl (fun x3 => ?_)
    refine m_iconst (v := 1) (d_M_lay (k := 17) rfl) (by decide) ?_
    refine m_iadd (d_M_lay (k := 18) rfl) ?_
    refine m_pI (d_M_lay (k := 19) rfl) fp_M_211 (fun h => absurd h (by decide)) rfl (fun M => ?_)
    refine m_inc (v := (-8)) (ls' := [some (.inr t0), some (.inl i1), some (.inl (i2 + (-8)))]) (d_M_lay (k := 20) rfl) rfl (by decide) (by decide) rfl ?_
    refine m_goto (tgt := 3) (d_M_lay (k := 21) rfl) rfl ?_
    exact m_drop (mles_s (mles_s (mles_s mles_0))) (h3 t0 i1 (i2 + (-8)) M)
theorem v_M_lay_3 {E : mE} : ∀ (n : Nat) (t0 : Option Nat) (i1 : Int32) (i2 : Int32) (M : mM), mVr E mi_M_lay 0 3 [some (.inr t0), some (.inl i1), some (.inl i2)] [] M enU (q_M_lay_3 n t0 i1 i2 M)
  | 0, _, _, _, _ => m_none
  | n + 1, t0, i1, i2, M => v_M_lay_3_b _ (v_M_lay_3 n) t0 i1 i2 M
def q_M_lay (t0 : Option Nat) (i1 : Int32) (M : mM) : Option (Unit × mM) :=
    q_M_lay_3 mFU t0 i1 (24 : Int32) M
set_option maxRecDepth 20000 in
theorem v_M_lay {E : mE} (t0 : Option Nat) (i1 : Int32) (M : mM) : mVr E mi_M_lay 0 0 [some (.inr t0), some (.inl i1), none] [] M enU (q_M_lay t0 i1 M) := by
  unfold q_M_lay
  refine m_bipush (v := 24) (d_M_lay (k := 0) rfl) (by decide) ?_
  refine m_ist_n (ls' := [some (.inr t0), some (.inl i1), some (.inl (24 : Int32))]) (d_M_lay (k := 1) rfl) (by decide) rfl ?_
  exact m_drop (mles_s (mles_s (mles_s mles_0))) (v_M_lay_3 mFU t0 i1 (24 : Int32) M)
theorem s_M_lay {E : mE} (t0 : Option Nat) (i1 : Int32) (M : mM) : mSnd E mi_M_lay 0 [.inr t0, .inl i1] M enU (q_M_lay t0 i1 M) := m_entryU (by decide) (Nat.le_of_ble_eq_true rfl) rfl (m_drop (mles_s (mles_s (mles_e mles_0))) (v_M_lay t0 i1 M))
def dt_M_feed : List (Nat × Instr × Nat) := [(0, .aload_n 0, 1), (1, .getfield 211, 3), (4, .bipush 20, 2), (6, .iadd, 1), (7, .sipush 260, 3), (10, .if_icmp .le 5, 3), (13, .iconst 0, 1), (14, .ireturn, 1), (15, .aload_n 0, 1), (16, .iload_n 1, 1), (17, .invokevirtual 215, 3), (20, .aload_n 0, 1), (21, .iload_n 2, 1), (22, .invokevirtual 215, 3), (25, .aload_n 0, 1), (26, .iload_n 3, 1), (27, .invokevirtual 215, 3), (30, .aload_n 0, 1), (31, .iload 4, 2), (33, .invokevirtual 215, 3), (36, .aload_n 0, 1), (37, .iload 5, 2), (39, .invokevirtual 215, 3), (42, .iconst 1, 1), (43, .ireturn, 1)]
theorem dx_M_feed : ∀ p ∈ dt_M_feed, decode prog_12_method_7_code p.1 = .ok p.2 := by decide +kernel
theorem d_M_feed {k pc : Nat} {i : Instr} {n : Nat} (h : dt_M_feed[k]? = some (pc, i, n)) : decode mi_M_feed.2.1 pc = .ok (i, n) := dx_M_feed (pc, i, n) (List.mem_of_getElem? h)
def q_M_feed (t0 : Option Nat) (i1 : Int32) (i2 : Int32) (i3 : Int32) (i4 : Int32) (i5 : Int32) (M : mM) : Option (Int32 × mM) :=
    x_gI M 10 t0 1 fun x1 =>
    if (260 : Int32) < (x1 + (20 : Int32)) then
      x_rz (0 : Int32) M
    else
      x_cv M 10 t0 (q_M_lay t0 i1 M) fun _ M =>
      x_cv M 10 t0 (q_M_lay t0 i2 M) fun _ M =>
      x_cv M 10 t0 (q_M_lay t0 i3 M) fun _ M =>
      x_cv M 10 t0 (q_M_lay t0 i4 M) fun _ M =>
      x_cv M 10 t0 (q_M_lay t0 i5 M) fun _ M =>
      x_rz (1 : Int32) M
set_option maxRecDepth 20000 in
theorem v_M_feed {E : mE} (t0 : Option Nat) (i1 : Int32) (i2 : Int32) (i3 : Int32) (i4 : Int32) (i5 : Int32) (M : mM) : mVr E mi_M_feed 1 0 [some (.inr t0), some (.inl i1), some (.inl i2), some (.inl i3), some (.inl i4), some (.inl i5)] [] M enI (q_M_feed t0 i1 i2 i3 i4 i5 M) := by
  unfold q_M_feed
  refine m_aload_n (d_M_feed (k := 0) rfl) rfl ?_
  refine m_getI (d_M_feed (k := 1) rfl) fl_M_211 rfl (fun x1 => ?_)
  refine m_bipush (v := 20) (d_M_feed (k := 2) rfl) (by decide) ?_
  refine m_iadd (d_M_feed (k := 3) rfl) ?_
  refine m_sipush (v := 260) (d_M_feed (k := 4) rfl) (by decide) ?_
  refine m_icmp_le (tgt := 15) (d_M_feed (k := 5) rfl) rfl ?_ ?_
  · refine m_iconst (v := 0) (d_M_feed (k := 6) rfl) (by decide) ?_
    exact m_zret (d_M_feed (k := 7) rfl) rfl
  · refine m_aload_n (d_M_feed (k := 8) rfl) rfl ?_
    refine m_iload_n (d_M_feed (k := 9) rfl) rfl ?_
    refine m_cvU (c := 10) (vs := [.inl i1]) (st := []) (d_M_feed (k := 10) rfl) (s_M_lay t0 i1 M) cd_M_lay ml_M_215 im_M_lay se_M_lay rfl (by decide) rfl (Nat.le_of_ble_eq_true rfl) (fun _ M => ?_)
    refine m_aload_n (d_M_feed (k := 11) rfl) rfl ?_
    refine m_iload_n (d_M_feed (k := 12) rfl) rfl ?_
    refine m_cvU (c := 10) (vs := [.inl i2]) (st := []) (d_M_feed (k := 13) rfl) (s_M_lay t0 i2 M) cd_M_lay ml_M_215 im_M_lay se_M_lay rfl (by decide) rfl (Nat.le_of_ble_eq_true rfl) (fun _ M => ?_)
    refine m_aload_n (d_M_feed (k := 14) rfl) rfl ?_
    refine m_iload_n (d_M_feed (k := 15) rfl) rfl ?_
    refine m_cvU (c := 10) (vs := [.inl i3]) (st := []) (d_M_feed (k := 16) rfl) (s_M_lay t0 i3 M) cd_M_lay ml_M_215 im_M_lay se_M_lay rfl (by decide) rfl (Nat.le_of_ble_eq_true rfl) (fun _ M => ?_)
    refine m_aload_n (d_M_feed (k := 17) rfl) rfl ?_
    refine m_iload (d_M_feed (k := 18) rfl) rfl ?_
    refine m_cvU (c := 10) (vs := [.inl i4]) (st := []) (d_M_feed (k := 19) rfl) (s_M_lay t0 i4 M) cd_M_lay ml_M_215 im_M_lay se_M_lay rfl (by decide) rfl (Nat.le_of_ble_eq_true rfl) (fun _ M => ?_)
    refine m_aload_n (d_M_feed (k := 20) rfl) rfl ?_
    refine m_iload (d_M_feed (k := 21) rfl) rfl ?_
    refine m_cvU (c := 10) (vs := [.inl i5]) (st := []) (d_M_feed (k := 22) rfl) (s_M_lay t0 i5 M) cd_M_lay ml_M_215 im_M_lay se_M_lay rfl (by decide) rfl (Nat.le_of_ble_eq_true rfl) (fun _ M => ?_)
    refine m_iconst (v := 1) (d_M_feed (k := 23) rfl) (by decide) ?_
    exact m_zret (d_M_feed (k := 24) rfl) rfl
theorem s_M_feed {E : mE} (t0 : Option Nat) (i1 : Int32) (i2 : Int32) (i3 : Int32) (i4 : Int32) (i5 : Int32) (M : mM) : mSnd E mi_M_feed 1 [.inr t0, .inl i1, .inl i2, .inl i3, .inl i4, .inl i5] M enI (q_M_feed t0 i1 i2 i3 i4 i5 M) := m_entryZ (by decide) (Nat.le_of_ble_eq_true rfl) rfl (m_drop (mles_s (mles_s (mles_s (mles_s (mles_s (mles_s mles_0)))))) (v_M_feed t0 i1 i2 i3 i4 i5 M))
def dt_M_give : List (Nat × Instr × Nat) := [(0, .aload_n 0, 1), (1, .getfield 211, 3), (4, .istore_n 3, 1), (5, .aload_n 0, 1), (6, .iconst 0, 1), (7, .putfield 211, 3), (10, .iload_n 1, 1), (11, .iload_n 2, 1), (12, .invokestatic 258, 3), (15, .ifCond .ne 5, 3), (18, .iconst (-1), 1), (19, .ireturn, 1), (20, .bipush 6, 2), (22, .iload_n 1, 1), (23, .imul, 1), (24, .iload_n 2, 1), (25, .iadd, 1), (26, .istore 4, 2), (28, .aload_n 0, 1), (29, .getfield 110, 3), (32, .iload 4, 2), (34, .iaload, 1), (35, .iconst 2, 1), (36, .if_icmp .eq 6, 3), (39, .bipush (-3), 2), (41, .ireturn, 1), (42, .aload_n 0, 1), (43, .getfield 155, 3), (46, .iload 4, 2), (48, .iaload, 1), (49, .iload_n 3, 1), (50, .iadd, 1), (51, .sipush 200, 3), (54, .if_icmp .le 6, 3), (57, .bipush (-2), 2), (59, .ireturn, 1), (60, .iconst 0, 1), (61, .istore 5, 2), (63, .iload 5, 2), (65, .iload_n 3, 1), (66, .if_icmp .ge 38, 3), (69, .aload_n 0, 1), (70, .getfield 152, 3), (73, .sipush 200, 3), (76, .iload 4, 2), (78, .imul, 1), (79, .aload_n 0, 1), (80, .getfield 155, 3), (83, .iload 4, 2), (85, .iaload, 1), (86, .iadd, 1), (87, .iload 5, 2), (89, .iadd, 1), (90, .aload_n 0, 1), (91, .getfield 7, 3), (94, .iload 5, 2), (96, .iaload, 1), (97, .iastore, 1), (98, .iinc 5 1, 3), (101, .goto (-38), 3), (104, .aload_n 0, 1), (105, .getfield 155, 3), (108, .iload 4, 2), (110, .dup2, 1), (111, .iaload, 1), (112, .iload_n 3, 1), (113, .iadd, 1), (114, .iastore, 1), (115, .aload_n 0, 1), (116, .getfield 155, 3), (119, .iload 4, 2), (121, .iaload, 1), (122, .ireturn, 1)]
theorem dx_M_give : ∀ p ∈ dt_M_give, decode prog_12_method_78_code p.1 = .ok p.2 := by decide +kernel
theorem d_M_give {k pc : Nat} {i : Instr} {n : Nat} (h : dt_M_give[k]? = some (pc, i, n)) : decode mi_M_give.2.1 pc = .ok (i, n) := dx_M_give (pc, i, n) (List.mem_of_getElem? h)
def q_M_give_63_b (r63 : Option Nat → Int32 → Int32 → Int32 → mM → Option (Int32 × mM)) (t0 : Option Nat) (i3 : Int32) (i4 : Int32) (i5 : Int32) (M : mM) : Option (Int32 × mM) :=
    if i5 < i3 then
      x_gR M 10 t0 63 fun a1 =>
      x_gR M 10 t0 64 fun a2 =>
      x_aI M 0 a2 i4 fun x3 =>
      x_gR M 10 t0 0 fun a4 =>
      x_aI M 0 a4 i5 fun x5 =>
      x_wI M a1 ((((200 : Int32) * i4) + x3) + i5) x5 fun M =>
      r63 t0 i3 i4 (i5 + 1) M
    else
      x_gR M 10 t0 64 fun a6 =>
      x_aI M 0 a6 i4 fun x7 =>
      x_wI M a6 i4 (x7 + i3) fun M =>
      x_gR M 10 t0 64 fun a8 =>
      x_aI M 0 a8 i4 fun x9 =>
      some (x9, M)
def q_M_give_63 : Nat → Option Nat → Int32 → Int32 → Int32 → mM → Option (Int32 × mM)
  | 0, _, _, _, _, _ => none
  | n + 1, t0, i3, i4, i5, M => q_M_give_63_b (q_M_give_63 n) t0 i3 i4 i5 M
set_option maxRecDepth 20000 in
theorem v_M_give_63_b {E : mE} (r63 : Option Nat → Int32 → Int32 → Int32 → mM → Option (Int32 × mM)) (h63 : ∀ (t0 : Option Nat) (i3 : Int32) (i4 : Int32) (i5 : Int32) (M : mM), mVr E mi_M_give 3 63 [some (.inr t0), none, none, some (.inl i3), some (.inl i4), some (.inl i5)] [] M enI (r63 t0 i3 i4 i5 M)) (t0 : Option Nat) (i3 : Int32) (i4 : Int32) (i5 : Int32) (M : mM) : mVr E mi_M_give 3 63 [some (.inr t0), none, none, some (.inl i3), some (.inl i4), some (.inl i5)] [] M enI (q_M_give_63_b r63 t0 i3 i4 i5 M) := by
  unfold q_M_give_63_b
  refine m_iload (d_M_give (k := 38) rfl) rfl ?_
  refine m_iload_n (d_M_give (k := 39) rfl) rfl ?_
  refine m_icmp_ge (tgt := 104) (d_M_give (k := 40) rfl) rfl ?_ ?_
  · refine m_aload_n (d_M_give (k := 41) rfl) rfl ?_
    refine m_getR (d_M_give (k := 42) rfl) fl_M_152 rfl (fun a1 => ?_)
    refine m_sipush (v := 200) (d_M_give (k := 43) rfl) (by decide) ?_
    refine m_iload (d_M_give (k := 44) rfl) rfl ?_
    refine m_imul (d_M_give (k := 45) rfl) ?_
    refine m_aload_n (d_M_give (k := 46) rfl) rfl ?_
    refine m_getR (d_M_give (k := 47) rfl) fl_M_155 rfl (fun a2 => ?_)
    refine m_iload (d_M_give (k := 48) rfl) rfl ?_
    refine m_iald (d_M_give (k := 49) rfl) (fun x3 => ?_)
    refine m_iadd (d_M_give (k := 50) rfl) ?_
    refine m_iload (d_M_give (k := 51) rfl) rfl ?_
    refine m_iadd (d_M_give (k := 52) rfl) ?_
    refine m_aload_n (d_M_give (k := 53) rfl) rfl ?_
    refine m_getR (d_M_give (k := 54) rfl) fl_M_7 rfl (fun a4 => ?_)
    refine m_iload (d_M_give (k := 55) rfl) rfl ?_
    refine m_iald (d_M_give (k := 56) rfl) (fun x5 => ?_)
    refine m_iast (d_M_give (k := 57) rfl) (fun M => ?_)
    refine m_inc (v := 1) (ls' := [some (.inr t0), none, none, some (.inl i3), some (.inl i4), some (.inl (i5 + 1))]) (d_M_give (k := 58) rfl) rfl (by decide) (by decide) rfl ?_
    refine m_goto (tgt := 63) (d_M_give (k := 59) rfl) rfl ?_
    exact m_drop (mles_s (mles_n (mles_n (mles_s (mles_s (mles_s mles_0)))))) (h63 t0 i3 i4 (i5 + 1) M)
  · refine m_aload_n (d_M_give (k := 60) rfl) rfl ?_
    refine m_getR (d_M_give (k := 61) rfl) fl_M_155 rfl (fun a6 => ?_)
    refine m_iload (d_M_give (k := 62) rfl) rfl ?_
    refine m_dup2 (d_M_give (k := 63) rfl) ?_
    refine m_iald (d_M_give (k := 64) rfl) (fun x7 => ?_)
    refine m_iload_n (d_M_give (k := 65) rfl) rfl ?_
    refine m_iadd (d_M_give (k := 66) rfl) ?_
    refine m_iast (d_M_give (k := 67) rfl) (fun M => ?_)
    refine m_aload_n (d_M_give (k := 68) rfl) rfl ?_
    refine m_getR (d_M_give (k := 69) rfl) fl_M_155 rfl (fun a8 => ?_)
    refine m_iload (d_M_give (k := 70) rfl) rfl ?_
    refine m_iald (d_M_give (k := 71) rfl) (fun x9 => ?_)
    exact m_iret (d_M_give (k := 72) rfl) rfl
theorem v_M_give_63 {E : mE} : ∀ (n : Nat) (t0 : Option Nat) (i3 : Int32) (i4 : Int32) (i5 : Int32) (M : mM), mVr E mi_M_give 3 63 [some (.inr t0), none, none, some (.inl i3), some (.inl i4), some (.inl i5)] [] M enI (q_M_give_63 n t0 i3 i4 i5 M)
  | 0, _, _, _, _, _ => m_none
  | n + 1, t0, i3, i4, i5, M => v_M_give_63_b _ (v_M_give_63 n) t0 i3 i4 i5 M
def q_M_give (t0 : Option Nat) (i1 : Int32) (i2 : Int32) (M : mM) : Option (Int32 × mM) :=
    x_gI M 10 t0 1 fun x1 =>
    x_pI M 10 t0 1 (0 : Int32) fun M =>
    x_cl (q_M_isLink i1 i2 M) fun x2 M =>
    if x2 = 0 then
      some ((-1 : Int32), M)
    else
      x_lt (((6 : Int32) * i1) + i2) fun x3 =>
      x_gR M 10 t0 49 fun a4 =>
      x_aI M 0 a4 x3 fun x5 =>
      if x5 = (2 : Int32) then
        x_gR M 10 t0 64 fun a6 =>
        x_aI M 0 a6 x3 fun x7 =>
        if (200 : Int32) < (x7 + x1) then
          some ((-2 : Int32), M)
        else
          q_M_give_63 mFU t0 x1 x3 (0 : Int32) M
      else
        some ((-3 : Int32), M)
set_option maxRecDepth 20000 in
theorem v_M_give {E : mE} (t0 : Option Nat) (i1 : Int32) (i2 : Int32) (M : mM) : mVr E mi_M_give 3 0 [some (.inr t0), some (.inl i1), some (.inl i2), none, none, none] [] M enI (q_M_give t0 i1 i2 M) := by
  unfold q_M_give
  refine m_aload_n (d_M_give (k := 0) rfl) rfl ?_
  refine m_getI (d_M_give (k := 1) rfl) fl_M_211 rfl (fun x1 => ?_)
  refine m_ist_n (ls' := [some (.inr t0), some (.inl i1), some (.inl i2), some (.inl x1), none, none]) (d_M_give (k := 2) rfl) (by decide) rfl ?_
  refine m_aload_n (d_M_give (k := 3) rfl) rfl ?_
  refine m_iconst (v := 0) (d_M_give (k := 4) rfl) (by decide) ?_
  refine m_pI (d_M_give (k := 5) rfl) fp_M_211 (fun h => absurd h (by decide)) rfl (fun M => ?_)
  refine m_iload_n (d_M_give (k := 6) rfl) rfl ?_
  refine m_iload_n (d_M_give (k := 7) rfl) rfl ?_
  refine m_csI (vs := [.inl i1, .inl i2]) (st := []) (d_M_give (k := 8) rfl) (s_M_isLink i1 i2 M) cd_M_isLink ml_M_258 sa_M_isLink (by decide) rfl (Nat.le_of_ble_eq_true rfl) (fun x2 M => ?_)
  refine m_if_ne (tgt := 20) (d_M_give (k := 9) rfl) rfl ?_ ?_
  · refine m_iconst (v := (-1)) (d_M_give (k := 10) rfl) (by decide) ?_
    exact m_iret (d_M_give (k := 11) rfl) rfl
  · refine m_bipush (v := 6) (d_M_give (k := 12) rfl) (by decide) ?_
    refine m_iload_n (d_M_give (k := 13) rfl) rfl ?_
    refine m_imul (d_M_give (k := 14) rfl) ?_
    refine m_iload_n (d_M_give (k := 15) rfl) rfl ?_
    refine m_iadd (d_M_give (k := 16) rfl) ?_
    refine m_lt (fun x3 => ?_)
    refine m_ist (ls' := [some (.inr t0), some (.inl i1), some (.inl i2), some (.inl x1), some (.inl x3), none]) (d_M_give (k := 17) rfl) (by decide) rfl ?_
    refine m_aload_n (d_M_give (k := 18) rfl) rfl ?_
    refine m_getR (d_M_give (k := 19) rfl) fl_M_110 rfl (fun a4 => ?_)
    refine m_iload (d_M_give (k := 20) rfl) rfl ?_
    refine m_iald (d_M_give (k := 21) rfl) (fun x5 => ?_)
    refine m_iconst (v := 2) (d_M_give (k := 22) rfl) (by decide) ?_
    refine m_icmp_eq (tgt := 42) (d_M_give (k := 23) rfl) rfl ?_ ?_
    · refine m_aload_n (d_M_give (k := 26) rfl) rfl ?_
      refine m_getR (d_M_give (k := 27) rfl) fl_M_155 rfl (fun a6 => ?_)
      refine m_iload (d_M_give (k := 28) rfl) rfl ?_
      refine m_iald (d_M_give (k := 29) rfl) (fun x7 => ?_)
      refine m_iload_n (d_M_give (k := 30) rfl) rfl ?_
      refine m_iadd (d_M_give (k := 31) rfl) ?_
      refine m_sipush (v := 200) (d_M_give (k := 32) rfl) (by decide) ?_
      refine m_icmp_le (tgt := 60) (d_M_give (k := 33) rfl) rfl ?_ ?_
      · refine m_bipush (v := (-2)) (d_M_give (k := 34) rfl) (by decide) ?_
        exact m_iret (d_M_give (k := 35) rfl) rfl
      · refine m_iconst (v := 0) (d_M_give (k := 36) rfl) (by decide) ?_
        refine m_ist (ls' := [some (.inr t0), some (.inl i1), some (.inl i2), some (.inl x1), some (.inl x3), some (.inl (0 : Int32))]) (d_M_give (k := 37) rfl) (by decide) rfl ?_
        exact m_drop (mles_s (mles_n (mles_n (mles_s (mles_s (mles_s mles_0)))))) (v_M_give_63 mFU t0 x1 x3 (0 : Int32) M)
    · refine m_bipush (v := (-3)) (d_M_give (k := 24) rfl) (by decide) ?_
      exact m_iret (d_M_give (k := 25) rfl) rfl
theorem s_M_give {E : mE} (t0 : Option Nat) (i1 : Int32) (i2 : Int32) (M : mM) : mSnd E mi_M_give 3 [.inr t0, .inl i1, .inl i2] M enI (q_M_give t0 i1 i2 M) := m_entryI (by decide) (Nat.le_of_ble_eq_true rfl) rfl (m_drop (mles_s (mles_s (mles_s (mles_e (mles_e (mles_e mles_0)))))) (v_M_give t0 i1 i2 M))
def dt_M_hears : List (Nat × Instr × Nat) := [(0, .iload_n 1, 1), (1, .iload_n 2, 1), (2, .invokestatic 258, 3), (5, .ifCond .ne 5, 3), (8, .iconst 0, 1), (9, .ireturn, 1), (10, .aload_n 0, 1), (11, .getfield 47, 3), (14, .bipush 6, 2), (16, .iload_n 1, 1), (17, .imul, 1), (18, .iload_n 2, 1), (19, .iadd, 1), (20, .iload_n 3, 1), (21, .bastore, 1), (22, .iconst 1, 1), (23, .ireturn, 1)]
theorem dx_M_hears : ∀ p ∈ dt_M_hears, decode prog_12_method_22_code p.1 = .ok p.2 := by decide +kernel
theorem d_M_hears {k pc : Nat} {i : Instr} {n : Nat} (h : dt_M_hears[k]? = some (pc, i, n)) : decode mi_M_hears.2.1 pc = .ok (i, n) := dx_M_hears (pc, i, n) (List.mem_of_getElem? h)
def q_M_hears (t0 : Option Nat) (i1 : Int32) (i2 : Int32) (i3 : Int32) (M : mM) : Option (Int32 × mM) :=
    x_cl (q_M_isLink i1 i2 M) fun x1 M =>
    if x1 = 0 then
      x_rz (0 : Int32) M
    else
      x_gR M 10 t0 17 fun a2 =>
      x_wZ M a2 (((6 : Int32) * i1) + i2) i3 fun M =>
      x_rz (1 : Int32) M
set_option maxRecDepth 20000 in
theorem v_M_hears {E : mE} (t0 : Option Nat) (i1 : Int32) (i2 : Int32) (i3 : Int32) (M : mM) : mVr E mi_M_hears 3 0 [some (.inr t0), some (.inl i1), some (.inl i2), some (.inl i3)] [] M enI (q_M_hears t0 i1 i2 i3 M) := by
  unfold q_M_hears
  refine m_iload_n (d_M_hears (k := 0) rfl) rfl ?_
  refine m_iload_n (d_M_hears (k := 1) rfl) rfl ?_
  refine m_csI (vs := [.inl i1, .inl i2]) (st := []) (d_M_hears (k := 2) rfl) (s_M_isLink i1 i2 M) cd_M_isLink ml_M_258 sa_M_isLink (by decide) rfl (Nat.le_of_ble_eq_true rfl) (fun x1 M => ?_)
  refine m_if_ne (tgt := 10) (d_M_hears (k := 3) rfl) rfl ?_ ?_
  · refine m_iconst (v := 0) (d_M_hears (k := 4) rfl) (by decide) ?_
    exact m_zret (d_M_hears (k := 5) rfl) rfl
  · refine m_aload_n (d_M_hears (k := 6) rfl) rfl ?_
    refine m_getR (d_M_hears (k := 7) rfl) fl_M_47 rfl (fun a2 => ?_)
    refine m_bipush (v := 6) (d_M_hears (k := 8) rfl) (by decide) ?_
    refine m_iload_n (d_M_hears (k := 9) rfl) rfl ?_
    refine m_imul (d_M_hears (k := 10) rfl) ?_
    refine m_iload_n (d_M_hears (k := 11) rfl) rfl ?_
    refine m_iadd (d_M_hears (k := 12) rfl) ?_
    refine m_iload_n (d_M_hears (k := 13) rfl) rfl ?_
    refine m_zast (d_M_hears (k := 14) rfl) (fun M => ?_)
    refine m_iconst (v := 1) (d_M_hears (k := 15) rfl) (by decide) ?_
    exact m_zret (d_M_hears (k := 16) rfl) rfl
theorem s_M_hears {E : mE} (t0 : Option Nat) (i1 : Int32) (i2 : Int32) (i3 : Int32) (M : mM) : mSnd E mi_M_hears 3 [.inr t0, .inl i1, .inl i2, .inl i3] M enI (q_M_hears t0 i1 i2 i3 M) := m_entryZ (by decide) (Nat.le_of_ble_eq_true rfl) rfl (m_drop (mles_s (mles_s (mles_s (mles_s mles_0)))) (v_M_hears t0 i1 i2 i3 M))
def dt_M_init_0 : List (Nat × Instr × Nat) := [(0, .aload_n 0, 1), (1, .invokespecial 1, 3), (4, .aload_n 0, 1), (5, .sipush 260, 3), (8, .newarray .int, 2), (10, .putfield 7, 3), (13, .aload_n 0, 1), (14, .sipush 1024, 3), (17, .newarray .int, 2), (19, .putfield 13, 3), (22, .aload_n 0, 1), (23, .sipush 1024, 3), (26, .newarray .int, 2), (28, .putfield 16, 3), (31, .aload_n 0, 1), (32, .bipush 7, 2), (34, .newarray .int, 2), (36, .putfield 19, 3), (39, .aload_n 0, 1), (40, .bipush 7, 2), (42, .newarray .int, 2), (44, .putfield 22, 3), (47, .aload_n 0, 1), (48, .bipush 7, 2), (50, .newarray .boolean, 2), (52, .putfield 25, 3), (55, .aload_n 0, 1), (56, .bipush 7, 2), (58, .newarray .int, 2), (60, .putfield 29, 3), (63, .aload_n 0, 1), (64, .sipush 5201, 3), (67, .newarray .int, 2), (69, .putfield 32, 3), (72, .aload_n 0, 1), (73, .bipush 7, 2), (75, .newarray .int, 2), (77, .putfield 35, 3), (80, .aload_n 0, 1), (81, .sipush 630, 3)]
theorem dx_M_init_0 : ∀ p ∈ dt_M_init_0, decode prog_12_method_1_code p.1 = .ok p.2 := by decide +kernel
theorem d_M_init_0 {k pc : Nat} {i : Instr} {n : Nat} (h : dt_M_init_0[k]? = some (pc, i, n)) : decode mi_M_init.2.1 pc = .ok (i, n) := dx_M_init_0 (pc, i, n) (List.mem_of_getElem? h)
def dt_M_init_1 : List (Nat × Instr × Nat) := [(84, .newarray .int, 2), (86, .putfield 38, 3), (89, .aload_n 0, 1), (90, .bipush 92, 2), (92, .newarray .int, 2), (94, .putfield 41, 3), (97, .aload_n 0, 1), (98, .bipush 54, 2), (100, .newarray .int, 2), (102, .putfield 44, 3), (105, .aload_n 0, 1), (106, .bipush 36, 2), (108, .newarray .boolean, 2), (110, .putfield 47, 3), (113, .aload_n 0, 1), (114, .bipush 6, 2), (116, .newarray .int, 2), (118, .putfield 50, 3), (121, .aload_n 0, 1), (122, .bipush 72, 2), (124, .newarray .int, 2), (126, .putfield 53, 3), (129, .aload_n 0, 1), (130, .sipush 6480, 3), (133, .newarray .int, 2), (135, .putfield 56, 3), (138, .aload_n 0, 1), (139, .bipush 6, 2), (141, .newarray .int, 2), (143, .putfield 59, 3), (146, .aload_n 0, 1), (147, .bipush 6, 2), (149, .newarray .boolean, 2), (151, .putfield 62, 3), (154, .aload_n 0, 1), (155, .bipush 6, 2), (157, .newarray .int, 2), (159, .putfield 65, 3), (162, .aload_n 0, 1), (163, .bipush 6, 2)]
theorem dx_M_init_1 : ∀ p ∈ dt_M_init_1, decode prog_12_method_1_code p.1 = .ok p.2 := by decide +kernel
theorem d_M_init_1 {k pc : Nat} {i : Instr} {n : Nat} (h : dt_M_init_1[k]? = some (pc, i, n)) : decode mi_M_init.2.1 pc = .ok (i, n) := dx_M_init_1 (pc, i, n) (List.mem_of_getElem? h)
def dt_M_init_2 : List (Nat × Instr × Nat) := [(165, .newarray .boolean, 2), (167, .putfield 68, 3), (170, .aload_n 0, 1), (171, .bipush 6, 2), (173, .newarray .int, 2), (175, .putfield 71, 3), (178, .aload_n 0, 1), (179, .bipush 6, 2), (181, .newarray .int, 2), (183, .putfield 74, 3), (186, .aload_n 0, 1), (187, .sipush 6144, 3), (190, .newarray .int, 2), (192, .putfield 77, 3), (195, .aload_n 0, 1), (196, .bipush 6, 2), (198, .newarray .int, 2), (200, .putfield 80, 3), (203, .aload_n 0, 1), (204, .bipush 6, 2), (206, .newarray .int, 2), (208, .putfield 83, 3), (211, .aload_n 0, 1), (212, .sipush 540, 3), (215, .newarray .int, 2), (217, .putfield 86, 3), (220, .aload_n 0, 1), (221, .bipush 6, 2), (223, .newarray .boolean, 2), (225, .putfield 89, 3), (228, .aload_n 0, 1), (229, .bipush 30, 2), (231, .newarray .int, 2), (233, .putfield 92, 3), (236, .aload_n 0, 1), (237, .bipush 90, 2), (239, .newarray .int, 2), (241, .putfield 95, 3), (244, .aload_n 0, 1), (245, .bipush 6, 2)]
theorem dx_M_init_2 : ∀ p ∈ dt_M_init_2, decode prog_12_method_1_code p.1 = .ok p.2 := by decide +kernel
theorem d_M_init_2 {k pc : Nat} {i : Instr} {n : Nat} (h : dt_M_init_2[k]? = some (pc, i, n)) : decode mi_M_init.2.1 pc = .ok (i, n) := dx_M_init_2 (pc, i, n) (List.mem_of_getElem? h)
def dt_M_init_3 : List (Nat × Instr × Nat) := [(247, .newarray .boolean, 2), (249, .putfield 98, 3), (252, .aload_n 0, 1), (253, .bipush 90, 2), (255, .newarray .int, 2), (257, .putfield 101, 3), (260, .aload_n 0, 1), (261, .iconst 2, 1), (262, .newarray .int, 2), (264, .putfield 104, 3), (267, .aload_n 0, 1), (268, .iconst 2, 1), (269, .newarray .boolean, 2), (271, .putfield 107, 3), (274, .aload_n 0, 1), (275, .bipush 36, 2), (277, .newarray .int, 2), (279, .putfield 110, 3), (282, .aload_n 0, 1), (283, .bipush 36, 2), (285, .newarray .int, 2), (287, .putfield 113, 3), (290, .aload_n 0, 1), (291, .bipush 36, 2), (293, .newarray .int, 2), (295, .putfield 116, 3), (298, .aload_n 0, 1), (299, .bipush 36, 2), (301, .newarray .int, 2), (303, .putfield 119, 3), (306, .aload_n 0, 1), (307, .bipush 36, 2), (309, .newarray .int, 2), (311, .putfield 122, 3), (314, .aload_n 0, 1), (315, .bipush 36, 2), (317, .newarray .int, 2), (319, .putfield 125, 3), (322, .aload_n 0, 1), (323, .bipush 36, 2)]
theorem dx_M_init_3 : ∀ p ∈ dt_M_init_3, decode prog_12_method_1_code p.1 = .ok p.2 := by decide +kernel
theorem d_M_init_3 {k pc : Nat} {i : Instr} {n : Nat} (h : dt_M_init_3[k]? = some (pc, i, n)) : decode mi_M_init.2.1 pc = .ok (i, n) := dx_M_init_3 (pc, i, n) (List.mem_of_getElem? h)
def dt_M_init_4 : List (Nat × Instr × Nat) := [(325, .newarray .int, 2), (327, .putfield 128, 3), (330, .aload_n 0, 1), (331, .bipush 36, 2), (333, .newarray .int, 2), (335, .putfield 131, 3), (338, .aload_n 0, 1), (339, .bipush 36, 2), (341, .newarray .int, 2), (343, .putfield 134, 3), (346, .aload_n 0, 1), (347, .bipush 36, 2), (349, .newarray .boolean, 2), (351, .putfield 137, 3), (354, .aload_n 0, 1), (355, .bipush 36, 2), (357, .newarray .boolean, 2), (359, .putfield 140, 3), (362, .aload_n 0, 1), (363, .bipush 36, 2), (365, .newarray .boolean, 2), (367, .putfield 143, 3), (370, .aload_n 0, 1), (371, .bipush 36, 2), (373, .newarray .int, 2), (375, .putfield 146, 3), (378, .aload_n 0, 1), (379, .bipush 36, 2), (381, .newarray .int, 2), (383, .putfield 149, 3), (386, .aload_n 0, 1), (387, .sipush 7200, 3), (390, .newarray .int, 2), (392, .putfield 152, 3), (395, .aload_n 0, 1), (396, .bipush 36, 2), (398, .newarray .int, 2), (400, .putfield 155, 3), (403, .aload_n 0, 1), (404, .sipush 2304, 3)]
theorem dx_M_init_4 : ∀ p ∈ dt_M_init_4, decode prog_12_method_1_code p.1 = .ok p.2 := by decide +kernel
theorem d_M_init_4 {k pc : Nat} {i : Instr} {n : Nat} (h : dt_M_init_4[k]? = some (pc, i, n)) : decode mi_M_init.2.1 pc = .ok (i, n) := dx_M_init_4 (pc, i, n) (List.mem_of_getElem? h)
def dt_M_init_5 : List (Nat × Instr × Nat) := [(407, .newarray .int, 2), (409, .putfield 158, 3), (412, .aload_n 0, 1), (413, .bipush 36, 2), (415, .newarray .int, 2), (417, .putfield 161, 3), (420, .aload_n 0, 1), (421, .sipush 3456, 3), (424, .newarray .int, 2), (426, .putfield 164, 3), (429, .aload_n 0, 1), (430, .sipush 216, 3), (433, .newarray .int, 2), (435, .putfield 167, 3), (438, .aload_n 0, 1), (439, .bipush 36, 2), (441, .newarray .int, 2), (443, .putfield 170, 3), (446, .aload_n 0, 1), (447, .sipush 2304, 3), (450, .newarray .int, 2), (452, .putfield 173, 3), (455, .aload_n 0, 1), (456, .sipush 144, 3), (459, .newarray .int, 2), (461, .putfield 176, 3), (464, .aload_n 0, 1), (465, .sipush 144, 3), (468, .newarray .int, 2), (470, .putfield 179, 3), (473, .aload_n 0, 1), (474, .bipush 36, 2), (476, .newarray .int, 2), (478, .putfield 182, 3), (481, .aload_n 0, 1), (482, .sipush 216, 3), (485, .newarray .int, 2), (487, .putfield 185, 3), (490, .aload_n 0, 1), (491, .sipush 216, 3)]
theorem dx_M_init_5 : ∀ p ∈ dt_M_init_5, decode prog_12_method_1_code p.1 = .ok p.2 := by decide +kernel
theorem d_M_init_5 {k pc : Nat} {i : Instr} {n : Nat} (h : dt_M_init_5[k]? = some (pc, i, n)) : decode mi_M_init.2.1 pc = .ok (i, n) := dx_M_init_5 (pc, i, n) (List.mem_of_getElem? h)
def dt_M_init_6 : List (Nat × Instr × Nat) := [(494, .newarray .int, 2), (496, .putfield 188, 3), (499, .aload_n 0, 1), (500, .bipush 16, 2), (502, .newarray .int, 2), (504, .putfield 191, 3), (507, .aload_n 0, 1), (508, .bipush 6, 2), (510, .newarray .int, 2), (512, .putfield 194, 3), (515, .aload_n 0, 1), (516, .sipush 720, 3), (519, .newarray .int, 2), (521, .putfield 197, 3), (524, .aload_n 0, 1), (525, .bipush 6, 2), (527, .newarray .int, 2), (529, .putfield 200, 3), (532, .iconst 0, 1), (533, .istore_n 1, 1), (534, .iload_n 1, 1), (535, .bipush 6, 2), (537, .if_icmp .ge 109, 3), (540, .bipush 9, 2), (542, .iload_n 1, 1), (543, .imul, 1), (544, .istore_n 2, 1), (545, .aload_n 0, 1), (546, .getfield 44, 3), (549, .iload_n 2, 1), (550, .bipush 80, 2), (552, .iastore, 1), (553, .aload_n 0, 1), (554, .getfield 44, 3), (557, .iload_n 2, 1), (558, .iconst 1, 1), (559, .iadd, 1), (560, .bipush 20, 2), (562, .iastore, 1), (563, .aload_n 0, 1)]
theorem dx_M_init_6 : ∀ p ∈ dt_M_init_6, decode prog_12_method_1_code p.1 = .ok p.2 := by decide +kernel
theorem d_M_init_6 {k pc : Nat} {i : Instr} {n : Nat} (h : dt_M_init_6[k]? = some (pc, i, n)) : decode mi_M_init.2.1 pc = .ok (i, n) := dx_M_init_6 (pc, i, n) (List.mem_of_getElem? h)
def dt_M_init_7 : List (Nat × Instr × Nat) := [(564, .getfield 44, 3), (567, .iload_n 2, 1), (568, .iconst 2, 1), (569, .iadd, 1), (570, .iconst 2, 1), (571, .iastore, 1), (572, .aload_n 0, 1), (573, .getfield 44, 3), (576, .iload_n 2, 1), (577, .iconst 3, 1), (578, .iadd, 1), (579, .iload_n 1, 1), (580, .iconst 1, 1), (581, .iadd, 1), (582, .iastore, 1), (583, .aload_n 0, 1), (584, .getfield 44, 3), (587, .iload_n 2, 1), (588, .iconst 4, 1), (589, .iadd, 1), (590, .sipush 1500, 3), (593, .iastore, 1), (594, .aload_n 0, 1), (595, .getfield 44, 3), (598, .iload_n 2, 1), (599, .iconst 5, 1), (600, .iadd, 1), (601, .sipush 192, 3), (604, .iastore, 1), (605, .iconst 0, 1), (606, .istore_n 3, 1), (607, .iload_n 3, 1), (608, .bipush 6, 2), (610, .if_icmp .ge 30, 3), (613, .aload_n 0, 1), (614, .getfield 47, 3), (617, .bipush 6, 2), (619, .iload_n 1, 1), (620, .imul, 1), (621, .iload_n 3, 1)]
theorem dx_M_init_7 : ∀ p ∈ dt_M_init_7, decode prog_12_method_1_code p.1 = .ok p.2 := by decide +kernel
theorem d_M_init_7 {k pc : Nat} {i : Instr} {n : Nat} (h : dt_M_init_7[k]? = some (pc, i, n)) : decode mi_M_init.2.1 pc = .ok (i, n) := dx_M_init_7 (pc, i, n) (List.mem_of_getElem? h)
def dt_M_init_8 : List (Nat × Instr × Nat) := [(622, .iadd, 1), (623, .iload_n 3, 1), (624, .iload_n 1, 1), (625, .if_icmp .eq 7, 3), (628, .iconst 1, 1), (629, .goto 4, 3), (632, .iconst 0, 1), (633, .bastore, 1), (634, .iinc 3 1, 3), (637, .goto (-30), 3), (640, .iinc 1 1, 3), (643, .goto (-109), 3), (646, .iconst 0, 1), (647, .istore_n 1, 1), (648, .iload_n 1, 1), (649, .bipush 36, 2), (651, .if_icmp .ge 23, 3), (654, .aload_n 0, 1), (655, .getfield 113, 3), (658, .iload_n 1, 1), (659, .iconst (-1), 1), (660, .iastore, 1), (661, .aload_n 0, 1), (662, .getfield 116, 3), (665, .iload_n 1, 1), (666, .iconst (-1), 1), (667, .iastore, 1), (668, .iinc 1 1, 3), (671, .goto (-23), 3), (674, .return_, 1)]
theorem dx_M_init_8 : ∀ p ∈ dt_M_init_8, decode prog_12_method_1_code p.1 = .ok p.2 := by decide +kernel
theorem d_M_init_8 {k pc : Nat} {i : Instr} {n : Nat} (h : dt_M_init_8[k]? = some (pc, i, n)) : decode mi_M_init.2.1 pc = .ok (i, n) := dx_M_init_8 (pc, i, n) (List.mem_of_getElem? h)
def q_M_init_633 (r534 : Option Nat → Int32 → mM → Option (Unit × mM)) (r607 : Option Nat → Int32 → Int32 → mM → Option (Unit × mM)) (t0 : Option Nat) (i1 : Int32) (i3 : Int32) (j0 : Int32) (j1 : Int32) (u2 : Option Nat) (M : mM) : Option (Unit × mM) :=
    x_wZ M u2 j1 j0 fun M =>
    r607 t0 i1 (i3 + 1) M
set_option maxRecDepth 20000 in
theorem v_M_init_633 {E : mE} (r534 : Option Nat → Int32 → mM → Option (Unit × mM)) (h534 : ∀ (t0 : Option Nat) (i1 : Int32) (M : mM), mVr E mi_M_init 1 534 [some (.inr t0), some (.inl i1), none, none] [] M enU (r534 t0 i1 M)) (r607 : Option Nat → Int32 → Int32 → mM → Option (Unit × mM)) (h607 : ∀ (t0 : Option Nat) (i1 : Int32) (i3 : Int32) (M : mM), mVr E mi_M_init 1 607 [some (.inr t0), some (.inl i1), none, some (.inl i3)] [] M enU (r607 t0 i1 i3 M)) (t0 : Option Nat) (i1 : Int32) (i3 : Int32) (j0 : Int32) (j1 : Int32) (u2 : Option Nat) (M : mM) : mVr E mi_M_init 1 633 [some (.inr t0), some (.inl i1), none, some (.inl i3)] [.inl j0, .inl j1, .inr u2] M enU (q_M_init_633 r534 r607 t0 i1 i3 j0 j1 u2 M) := by
  unfold q_M_init_633
  refine m_zast (d_M_init_8 (k := 7) rfl) (fun M => ?_)
  refine m_inc (v := 1) (ls' := [some (.inr t0), some (.inl i1), none, some (.inl (i3 + 1))]) (d_M_init_8 (k := 8) rfl) rfl (by decide) (by decide) rfl ?_
  refine m_goto (tgt := 607) (d_M_init_8 (k := 9) rfl) rfl ?_
  exact m_drop (mles_s (mles_s (mles_n (mles_s mles_0)))) (h607 t0 i1 (i3 + 1) M)
def q_M_init_607_b (r534 : Option Nat → Int32 → mM → Option (Unit × mM)) (r607 : Option Nat → Int32 → Int32 → mM → Option (Unit × mM)) (t0 : Option Nat) (i1 : Int32) (i3 : Int32) (M : mM) : Option (Unit × mM) :=
    if i3 < (6 : Int32) then
      x_gR M 10 t0 17 fun a1 =>
      if i3 = i1 then
        q_M_init_633 r534 r607 t0 i1 i3 (0 : Int32) (((6 : Int32) * i1) + i3) a1 M
      else
        q_M_init_633 r534 r607 t0 i1 i3 (1 : Int32) (((6 : Int32) * i1) + i3) a1 M
    else
      r534 t0 (i1 + 1) M
def q_M_init_607 (r534 : Option Nat → Int32 → mM → Option (Unit × mM)) : Nat → Option Nat → Int32 → Int32 → mM → Option (Unit × mM)
  | 0, _, _, _, _ => none
  | n + 1, t0, i1, i3, M => q_M_init_607_b r534 (q_M_init_607 r534 n) t0 i1 i3 M
set_option maxRecDepth 20000 in
theorem v_M_init_607_b {E : mE} (r534 : Option Nat → Int32 → mM → Option (Unit × mM)) (h534 : ∀ (t0 : Option Nat) (i1 : Int32) (M : mM), mVr E mi_M_init 1 534 [some (.inr t0), some (.inl i1), none, none] [] M enU (r534 t0 i1 M)) (r607 : Option Nat → Int32 → Int32 → mM → Option (Unit × mM)) (h607 : ∀ (t0 : Option Nat) (i1 : Int32) (i3 : Int32) (M : mM), mVr E mi_M_init 1 607 [some (.inr t0), some (.inl i1), none, some (.inl i3)] [] M enU (r607 t0 i1 i3 M)) (t0 : Option Nat) (i1 : Int32) (i3 : Int32) (M : mM) : mVr E mi_M_init 1 607 [some (.inr t0), some (.inl i1), none, some (.inl i3)] [] M enU (q_M_init_607_b r534 r607 t0 i1 i3 M) := by
  unfold q_M_init_607_b
  refine m_iload_n (d_M_init_7 (k := 31) rfl) rfl ?_
  refine m_bipush (v := 6) (d_M_init_7 (k := 32) rfl) (by decide) ?_
  refine m_icmp_ge (tgt := 640) (d_M_init_7 (k := 33) rfl) rfl ?_ ?_
  · refine m_aload_n (d_M_init_7 (k := 34) rfl) rfl ?_
    refine m_getR (d_M_init_7 (k := 35) rfl) fl_M_47 rfl (fun a1 => ?_)
    refine m_bipush (v := 6) (d_M_init_7 (k := 36) rfl) (by decide) ?_
    refine m_iload_n (d_M_init_7 (k := 37) rfl) rfl ?_
    refine m_imul (d_M_init_7 (k := 38) rfl) ?_
    refine m_iload_n (d_M_init_7 (k := 39) rfl) rfl ?_
    refine m_iadd (d_M_init_8 (k := 0) rfl) ?_
    refine m_iload_n (d_M_init_8 (k := 1) rfl) rfl ?_
    refine m_iload_n (d_M_init_8 (k := 2) rfl) rfl ?_
    refine m_icmp_eq (tgt := 632) (d_M_init_8 (k := 3) rfl) rfl ?_ ?_
    · refine m_iconst (v := 0) (d_M_init_8 (k := 6) rfl) (by decide) ?_
      exact m_drop (mles_s (mles_s (mles_n (mles_s mles_0)))) (v_M_init_633 r534 h534 r607 h607 t0 i1 i3 (0 : Int32) (((6 : Int32) * i1) + i3) a1 M)
    · refine m_iconst (v := 1) (d_M_init_8 (k := 4) rfl) (by decide) ?_
      refine m_goto (tgt := 633) (d_M_init_8 (k := 5) rfl) rfl ?_
      exact m_drop (mles_s (mles_s (mles_n (mles_s mles_0)))) (v_M_init_633 r534 h534 r607 h607 t0 i1 i3 (1 : Int32) (((6 : Int32) * i1) + i3) a1 M)
  · refine m_inc (v := 1) (ls' := [some (.inr t0), some (.inl (i1 + 1)), none, some (.inl i3)]) (d_M_init_8 (k := 10) rfl) rfl (by decide) (by decide) rfl ?_
    refine m_goto (tgt := 534) (d_M_init_8 (k := 11) rfl) rfl ?_
    exact m_drop (mles_s (mles_s (mles_n (mles_n mles_0)))) (h534 t0 (i1 + 1) M)
theorem v_M_init_607 {E : mE} (r534 : Option Nat → Int32 → mM → Option (Unit × mM)) (h534 : ∀ (t0 : Option Nat) (i1 : Int32) (M : mM), mVr E mi_M_init 1 534 [some (.inr t0), some (.inl i1), none, none] [] M enU (r534 t0 i1 M)) : ∀ (n : Nat) (t0 : Option Nat) (i1 : Int32) (i3 : Int32) (M : mM), mVr E mi_M_init 1 607 [some (.inr t0), some (.inl i1), none, some (.inl i3)] [] M enU (q_M_init_607 r534 n t0 i1 i3 M)
  | 0, _, _, _, _ => m_none
  | n + 1, t0, i1, i3, M => v_M_init_607_b r534 h534 _ (v_M_init_607 r534 h534 n) t0 i1 i3 M
def q_M_init_648_b (r648 : Option Nat → Int32 → mM → Option (Unit × mM)) (t0 : Option Nat) (i1 : Int32) (M : mM) : Option (Unit × mM) :=
    if i1 < (36 : Int32) then
      x_gR M 10 t0 50 fun a1 =>
      x_wI M a1 i1 (-1 : Int32) fun M =>
      x_gR M 10 t0 51 fun a2 =>
      x_wI M a2 i1 (-1 : Int32) fun M =>
      r648 t0 (i1 + 1) M
    else
      some ((), M)
def q_M_init_648 : Nat → Option Nat → Int32 → mM → Option (Unit × mM)
  | 0, _, _, _ => none
  | n + 1, t0, i1, M => q_M_init_648_b (q_M_init_648 n) t0 i1 M
set_option maxRecDepth 20000 in
theorem v_M_init_648_b {E : mE} (r648 : Option Nat → Int32 → mM → Option (Unit × mM)) (h648 : ∀ (t0 : Option Nat) (i1 : Int32) (M : mM), mVr E mi_M_init 1 648 [some (.inr t0), some (.inl i1), none, none] [] M enU (r648 t0 i1 M)) (t0 : Option Nat) (i1 : Int32) (M : mM) : mVr E mi_M_init 1 648 [some (.inr t0), some (.inl i1), none, none] [] M enU (q_M_init_648_b r648 t0 i1 M) := by
  unfold q_M_init_648_b
  refine m_iload_n (d_M_init_8 (k := 14) rfl) rfl ?_
  refine m_bipush (v := 36) (d_M_init_8 (k := 15) rfl) (by decide) ?_
  refine m_icmp_ge (tgt := 674) (d_M_init_8 (k := 16) rfl) rfl ?_ ?_
  · refine m_aload_n (d_M_init_8 (k := 17) rfl) rfl ?_
    refine m_getR (d_M_init_8 (k := 18) rfl) fl_M_113 rfl (fun a1 => ?_)
    refine m_iload_n (d_M_init_8 (k := 19) rfl) rfl ?_
    refine m_iconst (v := (-1)) (d_M_init_8 (k := 20) rfl) (by decide) ?_
    refine m_iast (d_M_init_8 (k := 21) rfl) (fun M => ?_)
    refine m_aload_n (d_M_init_8 (k := 22) rfl) rfl ?_
    refine m_getR (d_M_init_8 (k := 23) rfl) fl_M_116 rfl (fun a2 => ?_)
    refine m_iload_n (d_M_init_8 (k := 24) rfl) rfl ?_
    refine m_iconst (v := (-1)) (d_M_init_8 (k := 25) rfl) (by decide) ?_
    refine m_iast (d_M_init_8 (k := 26) rfl) (fun M => ?_)
    refine m_inc (v := 1) (ls' := [some (.inr t0), some (.inl (i1 + 1)), none, none]) (d_M_init_8 (k := 27) rfl) rfl (by decide) (by decide) rfl ?_
    refine m_goto (tgt := 648) (d_M_init_8 (k := 28) rfl) rfl ?_
    exact m_drop (mles_s (mles_s (mles_n (mles_n mles_0)))) (h648 t0 (i1 + 1) M)
  · exact m_vret (d_M_init_8 (k := 29) rfl) rfl
theorem v_M_init_648 {E : mE} : ∀ (n : Nat) (t0 : Option Nat) (i1 : Int32) (M : mM), mVr E mi_M_init 1 648 [some (.inr t0), some (.inl i1), none, none] [] M enU (q_M_init_648 n t0 i1 M)
  | 0, _, _, _ => m_none
  | n + 1, t0, i1, M => v_M_init_648_b _ (v_M_init_648 n) t0 i1 M
def q_M_init_534_b (r534 : Option Nat → Int32 → mM → Option (Unit × mM)) (t0 : Option Nat) (i1 : Int32) (M : mM) : Option (Unit × mM) :=
    if i1 < (6 : Int32) then
      x_lt ((9 : Int32) * i1) fun x1 =>
      x_gR M 10 t0 16 fun a2 =>
      x_wI M a2 x1 (80 : Int32) fun M =>
      x_gR M 10 t0 16 fun a3 =>
      x_wI M a3 (x1 + (1 : Int32)) (20 : Int32) fun M =>
      x_gR M 10 t0 16 fun a4 =>
      x_wI M a4 (x1 + (2 : Int32)) (2 : Int32) fun M =>
      x_gR M 10 t0 16 fun a5 =>
      x_wI M a5 (x1 + (3 : Int32)) (i1 + (1 : Int32)) fun M =>
      x_gR M 10 t0 16 fun a6 =>
      x_wI M a6 (x1 + (4 : Int32)) (1500 : Int32) fun M =>
      x_gR M 10 t0 16 fun a7 =>
      x_wI M a7 (x1 + (5 : Int32)) (192 : Int32) fun M =>
      q_M_init_607 r534 mFU t0 i1 (0 : Int32) M
    else
      q_M_init_648 mFU t0 (0 : Int32) M
def q_M_init_534 : Nat → Option Nat → Int32 → mM → Option (Unit × mM)
  | 0, _, _, _ => none
  | n + 1, t0, i1, M => q_M_init_534_b (q_M_init_534 n) t0 i1 M
set_option maxRecDepth 20000 in
theorem v_M_init_534_b {E : mE} (r534 : Option Nat → Int32 → mM → Option (Unit × mM)) (h534 : ∀ (t0 : Option Nat) (i1 : Int32) (M : mM), mVr E mi_M_init 1 534 [some (.inr t0), some (.inl i1), none, none] [] M enU (r534 t0 i1 M)) (t0 : Option Nat) (i1 : Int32) (M : mM) : mVr E mi_M_init 1 534 [some (.inr t0), some (.inl i1), none, none] [] M enU (q_M_init_534_b r534 t0 i1 M) := by
  unfold q_M_init_534_b
  refine m_iload_n (d_M_init_6 (k := 20) rfl) rfl ?_
  refine m_bipush (v := 6) (d_M_init_6 (k := 21) rfl) (by decide) ?_
  refine m_icmp_ge (tgt := 646) (d_M_init_6 (k := 22) rfl) rfl ?_ ?_
  · refine m_bipush (v := 9) (d_M_init_6 (k := 23) rfl) (by decide) ?_
    refine m_iload_n (d_M_init_6 (k := 24) rfl) rfl ?_
    refine m_imul (d_M_init_6 (k := 25) rfl) ?_
    refine m_lt (fun x1 => ?_)
    refine m_ist_n (ls' := [some (.inr t0), some (.inl i1), some (.inl x1), none]) (d_M_init_6 (k := 26) rfl) (by decide) rfl ?_
    refine m_aload_n (d_M_init_6 (k := 27) rfl) rfl ?_
    refine m_getR (d_M_init_6 (k := 28) rfl) fl_M_44 rfl (fun a2 => ?_)
    refine m_iload_n (d_M_init_6 (k := 29) rfl) rfl ?_
    refine m_bipush (v := 80) (d_M_init_6 (k := 30) rfl) (by decide) ?_
    refine m_iast (d_M_init_6 (k := 31) rfl) (fun M => ?_)
    refine m_aload_n (d_M_init_6 (k := 32) rfl) rfl ?_
    refine m_getR (d_M_init_6 (k := 33) rfl) fl_M_44 rfl (fun a3 => ?_)
    refine m_iload_n (d_M_init_6 (k := 34) rfl) rfl ?_
    refine m_iconst (v := 1) (d_M_init_6 (k := 35) rfl) (by decide) ?_
    refine m_iadd (d_M_init_6 (k := 36) rfl) ?_
    refine m_bipush (v := 20) (d_M_init_6 (k := 37) rfl) (by decide) ?_
    refine m_iast (d_M_init_6 (k := 38) rfl) (fun M => ?_)
    refine m_aload_n (d_M_init_6 (k := 39) rfl) rfl ?_
    refine m_getR (d_M_init_7 (k := 0) rfl) fl_M_44 rfl (fun a4 => ?_)
    refine m_iload_n (d_M_init_7 (k := 1) rfl) rfl ?_
    refine m_iconst (v := 2) (d_M_init_7 (k := 2) rfl) (by decide) ?_
    refine m_iadd (d_M_init_7 (k := 3) rfl) ?_
    refine m_iconst (v := 2) (d_M_init_7 (k := 4) rfl) (by decide) ?_
    refine m_iast (d_M_init_7 (k := 5) rfl) (fun M => ?_)
    refine m_aload_n (d_M_init_7 (k := 6) rfl) rfl ?_
    refine m_getR (d_M_init_7 (k := 7) rfl) fl_M_44 rfl (fun a5 => ?_)
    refine m_iload_n (d_M_init_7 (k := 8) rfl) rfl ?_
    refine m_iconst (v := 3) (d_M_init_7 (k := 9) rfl) (by decide) ?_
    refine m_iadd (d_M_init_7 (k := 10) rfl) ?_
    refine m_iload_n (d_M_init_7 (k := 11) rfl) rfl ?_
    refine m_iconst (v := 1) (d_M_init_7 (k := 12) rfl) (by decide) ?_
    refine m_iadd (d_M_init_7 (k := 13) rfl) ?_
    refine m_iast (d_M_init_7 (k := 14) rfl) (fun M => ?_)
    refine m_aload_n (d_M_init_7 (k := 15) rfl) rfl ?_
    refine m_getR (d_M_init_7 (k := 16) rfl) fl_M_44 rfl (fun a6 => ?_)
    refine m_iload_n (d_M_init_7 (k := 17) rfl) rfl ?_
    refine m_iconst (v := 4) (d_M_init_7 (k := 18) rfl) (by decide) ?_
    refine m_iadd (d_M_init_7 (k := 19) rfl) ?_
    refine m_sipush (v := 1500) (d_M_init_7 (k := 20) rfl) (by decide) ?_
    refine m_iast (d_M_init_7 (k := 21) rfl) (fun M => ?_)
    refine m_aload_n (d_M_init_7 (k := 22) rfl) rfl ?_
    refine m_getR (d_M_init_7 (k := 23) rfl) fl_M_44 rfl (fun a7 => ?_)
    refine m_iload_n (d_M_init_7 (k := 24) rfl) rfl ?_
    refine m_iconst (v := 5) (d_M_init_7 (k := 25) rfl) (by decide) ?_
    refine m_iadd (d_M_init_7 (k := 26) rfl) ?_
    refine m_sipush (v := 192) (d_M_init_7 (k := 27) rfl) (by decide) ?_
    refine m_iast (d_M_init_7 (k := 28) rfl) (fun M => ?_)
    refine m_iconst (v := 0) (d_M_init_7 (k := 29) rfl) (by decide) ?_
    refine m_ist_n (ls' := [some (.inr t0), some (.inl i1), some (.inl x1), some (.inl (0 : Int32))]) (d_M_init_7 (k := 30) rfl) (by decide) rfl ?_
    exact m_drop (mles_s (mles_s (mles_n (mles_s mles_0)))) (v_M_init_607 r534 h534 mFU t0 i1 (0 : Int32) M)
  · refine m_iconst (v := 0) (d_M_init_8 (k := 12) rfl) (by decide) ?_
    refine m_ist_n (ls' := [some (.inr t0), some (.inl (0 : Int32)), none, none]) (d_M_init_8 (k := 13) rfl) (by decide) rfl ?_
    exact m_drop (mles_s (mles_s (mles_n (mles_n mles_0)))) (v_M_init_648 mFU t0 (0 : Int32) M)
theorem v_M_init_534 {E : mE} : ∀ (n : Nat) (t0 : Option Nat) (i1 : Int32) (M : mM), mVr E mi_M_init 1 534 [some (.inr t0), some (.inl i1), none, none] [] M enU (q_M_init_534 n t0 i1 M)
  | 0, _, _, _ => m_none
  | n + 1, t0, i1, M => v_M_init_534_b _ (v_M_init_534 n) t0 i1 M
def q_M_init (t0 : Option Nat) (M : mM) : Option (Unit × mM) :=
    x_oi t0 <|
    x_na M 0 (260 : Int32) fun a1 M =>
    x_pR M 10 t0 0 a1 fun M =>
    x_na M 0 (1024 : Int32) fun a2 M =>
    x_pR M 10 t0 2 a2 fun M =>
    x_na M 0 (1024 : Int32) fun a3 M =>
    x_pR M 10 t0 4 a3 fun M =>
    x_na M 0 (7 : Int32) fun a4 M =>
    x_pR M 10 t0 7 a4 fun M =>
    x_na M 0 (7 : Int32) fun a5 M =>
    x_pR M 10 t0 8 a5 fun M =>
    x_na M 1 (7 : Int32) fun a6 M =>
    x_pR M 10 t0 9 a6 fun M =>
    x_na M 0 (7 : Int32) fun a7 M =>
    x_pR M 10 t0 10 a7 fun M =>
    x_na M 0 (5201 : Int32) fun a8 M =>
    x_pR M 10 t0 11 a8 fun M =>
    x_na M 0 (7 : Int32) fun a9 M =>
    x_pR M 10 t0 12 a9 fun M =>
    x_na M 0 (630 : Int32) fun a10 M =>
    x_pR M 10 t0 13 a10 fun M =>
    x_na M 0 (92 : Int32) fun a11 M =>
    x_pR M 10 t0 14 a11 fun M =>
    x_na M 0 (54 : Int32) fun a12 M =>
    x_pR M 10 t0 16 a12 fun M =>
    x_na M 1 (36 : Int32) fun a13 M =>
    x_pR M 10 t0 17 a13 fun M =>
    x_na M 0 (6 : Int32) fun a14 M =>
    x_pR M 10 t0 18 a14 fun M =>
    x_na M 0 (72 : Int32) fun a15 M =>
    x_pR M 10 t0 19 a15 fun M =>
    x_na M 0 (6480 : Int32) fun a16 M =>
    x_pR M 10 t0 20 a16 fun M =>
    x_na M 0 (6 : Int32) fun a17 M =>
    x_pR M 10 t0 21 a17 fun M =>
    x_na M 1 (6 : Int32) fun a18 M =>
    x_pR M 10 t0 22 a18 fun M =>
    x_na M 0 (6 : Int32) fun a19 M =>
    x_pR M 10 t0 23 a19 fun M =>
    x_na M 1 (6 : Int32) fun a20 M =>
    x_pR M 10 t0 24 a20 fun M =>
    x_na M 0 (6 : Int32) fun a21 M =>
    x_pR M 10 t0 25 a21 fun M =>
    x_na M 0 (6 : Int32) fun a22 M =>
    x_pR M 10 t0 26 a22 fun M =>
    x_na M 0 (6144 : Int32) fun a23 M =>
    x_pR M 10 t0 27 a23 fun M =>
    x_na M 0 (6 : Int32) fun a24 M =>
    x_pR M 10 t0 28 a24 fun M =>
    x_na M 0 (6 : Int32) fun a25 M =>
    x_pR M 10 t0 29 a25 fun M =>
    x_na M 0 (540 : Int32) fun a26 M =>
    x_pR M 10 t0 30 a26 fun M =>
    x_na M 1 (6 : Int32) fun a27 M =>
    x_pR M 10 t0 31 a27 fun M =>
    x_na M 0 (30 : Int32) fun a28 M =>
    x_pR M 10 t0 32 a28 fun M =>
    x_na M 0 (90 : Int32) fun a29 M =>
    x_pR M 10 t0 33 a29 fun M =>
    x_na M 1 (6 : Int32) fun a30 M =>
    x_pR M 10 t0 35 a30 fun M =>
    x_na M 0 (90 : Int32) fun a31 M =>
    x_pR M 10 t0 36 a31 fun M =>
    x_na M 0 (2 : Int32) fun a32 M =>
    x_pR M 10 t0 46 a32 fun M =>
    x_na M 1 (2 : Int32) fun a33 M =>
    x_pR M 10 t0 47 a33 fun M =>
    x_na M 0 (36 : Int32) fun a34 M =>
    x_pR M 10 t0 49 a34 fun M =>
    x_na M 0 (36 : Int32) fun a35 M =>
    x_pR M 10 t0 50 a35 fun M =>
    x_na M 0 (36 : Int32) fun a36 M =>
    x_pR M 10 t0 51 a36 fun M =>
    x_na M 0 (36 : Int32) fun a37 M =>
    x_pR M 10 t0 52 a37 fun M =>
    x_na M 0 (36 : Int32) fun a38 M =>
    x_pR M 10 t0 53 a38 fun M =>
    x_na M 0 (36 : Int32) fun a39 M =>
    x_pR M 10 t0 54 a39 fun M =>
    x_na M 0 (36 : Int32) fun a40 M =>
    x_pR M 10 t0 55 a40 fun M =>
    x_na M 0 (36 : Int32) fun a41 M =>
    x_pR M 10 t0 56 a41 fun M =>
    x_na M 0 (36 : Int32) fun a42 M =>
    x_pR M 10 t0 57 a42 fun M =>
    x_na M 1 (36 : Int32) fun a43 M =>
    x_pR M 10 t0 58 a43 fun M =>
    x_na M 1 (36 : Int32) fun a44 M =>
    x_pR M 10 t0 59 a44 fun M =>
    x_na M 1 (36 : Int32) fun a45 M =>
    x_pR M 10 t0 60 a45 fun M =>
    x_na M 0 (36 : Int32) fun a46 M =>
    x_pR M 10 t0 61 a46 fun M =>
    x_na M 0 (36 : Int32) fun a47 M =>
    x_pR M 10 t0 62 a47 fun M =>
    x_na M 0 (7200 : Int32) fun a48 M =>
    x_pR M 10 t0 63 a48 fun M =>
    x_na M 0 (36 : Int32) fun a49 M =>
    x_pR M 10 t0 64 a49 fun M =>
    x_na M 0 (2304 : Int32) fun a50 M =>
    x_pR M 10 t0 65 a50 fun M =>
    x_na M 0 (36 : Int32) fun a51 M =>
    x_pR M 10 t0 66 a51 fun M =>
    x_na M 0 (3456 : Int32) fun a52 M =>
    x_pR M 10 t0 67 a52 fun M =>
    x_na M 0 (216 : Int32) fun a53 M =>
    x_pR M 10 t0 68 a53 fun M =>
    x_na M 0 (36 : Int32) fun a54 M =>
    x_pR M 10 t0 69 a54 fun M =>
    x_na M 0 (2304 : Int32) fun a55 M =>
    x_pR M 10 t0 70 a55 fun M =>
    x_na M 0 (144 : Int32) fun a56 M =>
    x_pR M 10 t0 71 a56 fun M =>
    x_na M 0 (144 : Int32) fun a57 M =>
    x_pR M 10 t0 72 a57 fun M =>
    x_na M 0 (36 : Int32) fun a58 M =>
    x_pR M 10 t0 73 a58 fun M =>
    x_na M 0 (216 : Int32) fun a59 M =>
    x_pR M 10 t0 74 a59 fun M =>
    x_na M 0 (216 : Int32) fun a60 M =>
    x_pR M 10 t0 75 a60 fun M =>
    x_na M 0 (16 : Int32) fun a61 M =>
    x_pR M 10 t0 76 a61 fun M =>
    x_na M 0 (6 : Int32) fun a62 M =>
    x_pR M 10 t0 78 a62 fun M =>
    x_na M 0 (720 : Int32) fun a63 M =>
    x_pR M 10 t0 79 a63 fun M =>
    x_na M 0 (6 : Int32) fun a64 M =>
    x_pR M 10 t0 80 a64 fun M =>
    q_M_init_534 mFU t0 (0 : Int32) M
set_option maxRecDepth 20000 in
theorem v_M_init {E : mE} (t0 : Option Nat) (M : mM) : mVr E mi_M_init 1 0 [some (.inr t0), none, none, none] [] M enU (q_M_init t0 M) := by
  unfold q_M_init
  refine m_aload_n (d_M_init_0 (k := 0) rfl) rfl ?_
  refine m_oi (d_M_init_0 (k := 1) rfl) mo_M_1 im_obj cd_obj (Nat.le_of_ble_eq_true rfl) ?_
  refine m_aload_n (d_M_init_0 (k := 2) rfl) rfl ?_
  refine m_sipush (v := 260) (d_M_init_0 (k := 3) rfl) (by decide) ?_
  refine m_newarr (t := 0) (ty := .int) (d_M_init_0 (k := 4) rfl) rfl rfl (by decide) (by decide) rfl ac_0 (fun _ _ h => h) (fun a1 M => ?_)
  refine m_pR (d_M_init_0 (k := 5) rfl) fp_M_7 (fun _ => rfl) rfl (fun M => ?_)
  refine m_aload_n (d_M_init_0 (k := 6) rfl) rfl ?_
  refine m_sipush (v := 1024) (d_M_init_0 (k := 7) rfl) (by decide) ?_
  refine m_newarr (t := 0) (ty := .int) (d_M_init_0 (k := 8) rfl) rfl rfl (by decide) (by decide) rfl ac_0 (fun _ _ h => h) (fun a2 M => ?_)
  refine m_pR (d_M_init_0 (k := 9) rfl) fp_M_13 (fun _ => rfl) rfl (fun M => ?_)
  refine m_aload_n (d_M_init_0 (k := 10) rfl) rfl ?_
  refine m_sipush (v := 1024) (d_M_init_0 (k := 11) rfl) (by decide) ?_
  refine m_newarr (t := 0) (ty := .int) (d_M_init_0 (k := 12) rfl) rfl rfl (by decide) (by decide) rfl ac_0 (fun _ _ h => h) (fun a3 M => ?_)
  refine m_pR (d_M_init_0 (k := 13) rfl) fp_M_16 (fun _ => rfl) rfl (fun M => ?_)
  refine m_aload_n (d_M_init_0 (k := 14) rfl) rfl ?_
  refine m_bipush (v := 7) (d_M_init_0 (k := 15) rfl) (by decide) ?_
  refine m_newarr (t := 0) (ty := .int) (d_M_init_0 (k := 16) rfl) rfl rfl (by decide) (by decide) rfl ac_0 (fun _ _ h => h) (fun a4 M => ?_)
  refine m_pR (d_M_init_0 (k := 17) rfl) fp_M_19 (fun _ => rfl) rfl (fun M => ?_)
  refine m_aload_n (d_M_init_0 (k := 18) rfl) rfl ?_
  refine m_bipush (v := 7) (d_M_init_0 (k := 19) rfl) (by decide) ?_
  refine m_newarr (t := 0) (ty := .int) (d_M_init_0 (k := 20) rfl) rfl rfl (by decide) (by decide) rfl ac_0 (fun _ _ h => h) (fun a5 M => ?_)
  refine m_pR (d_M_init_0 (k := 21) rfl) fp_M_22 (fun _ => rfl) rfl (fun M => ?_)
  refine m_aload_n (d_M_init_0 (k := 22) rfl) rfl ?_
  refine m_bipush (v := 7) (d_M_init_0 (k := 23) rfl) (by decide) ?_
  refine m_newarr (t := 1) (ty := .boolean) (d_M_init_0 (k := 24) rfl) rfl rfl (by decide) (by decide) rfl ac_1 (fun _ _ h => h) (fun a6 M => ?_)
  refine m_pR (d_M_init_0 (k := 25) rfl) fp_M_25 (fun _ => rfl) rfl (fun M => ?_)
  refine m_aload_n (d_M_init_0 (k := 26) rfl) rfl ?_
  refine m_bipush (v := 7) (d_M_init_0 (k := 27) rfl) (by decide) ?_
  refine m_newarr (t := 0) (ty := .int) (d_M_init_0 (k := 28) rfl) rfl rfl (by decide) (by decide) rfl ac_0 (fun _ _ h => h) (fun a7 M => ?_)
  refine m_pR (d_M_init_0 (k := 29) rfl) fp_M_29 (fun _ => rfl) rfl (fun M => ?_)
  refine m_aload_n (d_M_init_0 (k := 30) rfl) rfl ?_
  refine m_sipush (v := 5201) (d_M_init_0 (k := 31) rfl) (by decide) ?_
  refine m_newarr (t := 0) (ty := .int) (d_M_init_0 (k := 32) rfl) rfl rfl (by decide) (by decide) rfl ac_0 (fun _ _ h => h) (fun a8 M => ?_)
  refine m_pR (d_M_init_0 (k := 33) rfl) fp_M_32 (fun _ => rfl) rfl (fun M => ?_)
  refine m_aload_n (d_M_init_0 (k := 34) rfl) rfl ?_
  refine m_bipush (v := 7) (d_M_init_0 (k := 35) rfl) (by decide) ?_
  refine m_newarr (t := 0) (ty := .int) (d_M_init_0 (k := 36) rfl) rfl rfl (by decide) (by decide) rfl ac_0 (fun _ _ h => h) (fun a9 M => ?_)
  refine m_pR (d_M_init_0 (k := 37) rfl) fp_M_35 (fun _ => rfl) rfl (fun M => ?_)
  refine m_aload_n (d_M_init_0 (k := 38) rfl) rfl ?_
  refine m_sipush (v := 630) (d_M_init_0 (k := 39) rfl) (by decide) ?_
  refine m_newarr (t := 0) (ty := .int) (d_M_init_1 (k := 0) rfl) rfl rfl (by decide) (by decide) rfl ac_0 (fun _ _ h => h) (fun a10 M => ?_)
  refine m_pR (d_M_init_1 (k := 1) rfl) fp_M_38 (fun _ => rfl) rfl (fun M => ?_)
  refine m_aload_n (d_M_init_1 (k := 2) rfl) rfl ?_
  refine m_bipush (v := 92) (d_M_init_1 (k := 3) rfl) (by decide) ?_
  refine m_newarr (t := 0) (ty := .int) (d_M_init_1 (k := 4) rfl) rfl rfl (by decide) (by decide) rfl ac_0 (fun _ _ h => h) (fun a11 M => ?_)
  refine m_pR (d_M_init_1 (k := 5) rfl) fp_M_41 (fun _ => rfl) rfl (fun M => ?_)
  refine m_aload_n (d_M_init_1 (k := 6) rfl) rfl ?_
  refine m_bipush (v := 54) (d_M_init_1 (k := 7) rfl) (by decide) ?_
  refine m_newarr (t := 0) (ty := .int) (d_M_init_1 (k := 8) rfl) rfl rfl (by decide) (by decide) rfl ac_0 (fun _ _ h => h) (fun a12 M => ?_)
  refine m_pR (d_M_init_1 (k := 9) rfl) fp_M_44 (fun _ => rfl) rfl (fun M => ?_)
  refine m_aload_n (d_M_init_1 (k := 10) rfl) rfl ?_
  refine m_bipush (v := 36) (d_M_init_1 (k := 11) rfl) (by decide) ?_
  refine m_newarr (t := 1) (ty := .boolean) (d_M_init_1 (k := 12) rfl) rfl rfl (by decide) (by decide) rfl ac_1 (fun _ _ h => h) (fun a13 M => ?_)
  refine m_pR (d_M_init_1 (k := 13) rfl) fp_M_47 (fun _ => rfl) rfl (fun M => ?_)
  refine m_aload_n (d_M_init_1 (k := 14) rfl) rfl ?_
  refine m_bipush (v := 6) (d_M_init_1 (k := 15) rfl) (by decide) ?_
  refine m_newarr (t := 0) (ty := .int) (d_M_init_1 (k := 16) rfl) rfl rfl (by decide) (by decide) rfl ac_0 (fun _ _ h => h) (fun a14 M => ?_)
  refine m_pR (d_M_init_1 (k := 17) rfl) fp_M_50 (fun _ => rfl) rfl (fun M => ?_)
  refine m_aload_n (d_M_init_1 (k := 18) rfl) rfl ?_
  refine m_bipush (v := 72) (d_M_init_1 (k := 19) rfl) (by decide) ?_
  refine m_newarr (t := 0) (ty := .int) (d_M_init_1 (k := 20) rfl) rfl rfl (by decide) (by decide) rfl ac_0 (fun _ _ h => h) (fun a15 M => ?_)
  refine m_pR (d_M_init_1 (k := 21) rfl) fp_M_53 (fun _ => rfl) rfl (fun M => ?_)
  refine m_aload_n (d_M_init_1 (k := 22) rfl) rfl ?_
  refine m_sipush (v := 6480) (d_M_init_1 (k := 23) rfl) (by decide) ?_
  refine m_newarr (t := 0) (ty := .int) (d_M_init_1 (k := 24) rfl) rfl rfl (by decide) (by decide) rfl ac_0 (fun _ _ h => h) (fun a16 M => ?_)
  refine m_pR (d_M_init_1 (k := 25) rfl) fp_M_56 (fun _ => rfl) rfl (fun M => ?_)
  refine m_aload_n (d_M_init_1 (k := 26) rfl) rfl ?_
  refine m_bipush (v := 6) (d_M_init_1 (k := 27) rfl) (by decide) ?_
  refine m_newarr (t := 0) (ty := .int) (d_M_init_1 (k := 28) rfl) rfl rfl (by decide) (by decide) rfl ac_0 (fun _ _ h => h) (fun a17 M => ?_)
  refine m_pR (d_M_init_1 (k := 29) rfl) fp_M_59 (fun _ => rfl) rfl (fun M => ?_)
  refine m_aload_n (d_M_init_1 (k := 30) rfl) rfl ?_
  refine m_bipush (v := 6) (d_M_init_1 (k := 31) rfl) (by decide) ?_
  refine m_newarr (t := 1) (ty := .boolean) (d_M_init_1 (k := 32) rfl) rfl rfl (by decide) (by decide) rfl ac_1 (fun _ _ h => h) (fun a18 M => ?_)
  refine m_pR (d_M_init_1 (k := 33) rfl) fp_M_62 (fun _ => rfl) rfl (fun M => ?_)
  refine m_aload_n (d_M_init_1 (k := 34) rfl) rfl ?_
  refine m_bipush (v := 6) (d_M_init_1 (k := 35) rfl) (by decide) ?_
  refine m_newarr (t := 0) (ty := .int) (d_M_init_1 (k := 36) rfl) rfl rfl (by decide) (by decide) rfl ac_0 (fun _ _ h => h) (fun a19 M => ?_)
  refine m_pR (d_M_init_1 (k := 37) rfl) fp_M_65 (fun _ => rfl) rfl (fun M => ?_)
  refine m_aload_n (d_M_init_1 (k := 38) rfl) rfl ?_
  refine m_bipush (v := 6) (d_M_init_1 (k := 39) rfl) (by decide) ?_
  refine m_newarr (t := 1) (ty := .boolean) (d_M_init_2 (k := 0) rfl) rfl rfl (by decide) (by decide) rfl ac_1 (fun _ _ h => h) (fun a20 M => ?_)
  refine m_pR (d_M_init_2 (k := 1) rfl) fp_M_68 (fun _ => rfl) rfl (fun M => ?_)
  refine m_aload_n (d_M_init_2 (k := 2) rfl) rfl ?_
  refine m_bipush (v := 6) (d_M_init_2 (k := 3) rfl) (by decide) ?_
  refine m_newarr (t := 0) (ty := .int) (d_M_init_2 (k := 4) rfl) rfl rfl (by decide) (by decide) rfl ac_0 (fun _ _ h => h) (fun a21 M => ?_)
  refine m_pR (d_M_init_2 (k := 5) rfl) fp_M_71 (fun _ => rfl) rfl (fun M => ?_)
  refine m_aload_n (d_M_init_2 (k := 6) rfl) rfl ?_
  refine m_bipush (v := 6) (d_M_init_2 (k := 7) rfl) (by decide) ?_
  refine m_newarr (t := 0) (ty := .int) (d_M_init_2 (k := 8) rfl) rfl rfl (by decide) (by decide) rfl ac_0 (fun _ _ h => h) (fun a22 M => ?_)
  refine m_pR (d_M_init_2 (k := 9) rfl) fp_M_74 (fun _ => rfl) rfl (fun M => ?_)
  refine m_aload_n (d_M_init_2 (k := 10) rfl) rfl ?_
  refine m_sipush (v := 6144) (d_M_init_2 (k := 11) rfl) (by decide) ?_
  refine m_newarr (t := 0) (ty := .int) (d_M_init_2 (k := 12) rfl) rfl rfl (by decide) (by decide) rfl ac_0 (fun _ _ h => h) (fun a23 M => ?_)
  refine m_pR (d_M_init_2 (k := 13) rfl) fp_M_77 (fun _ => rfl) rfl (fun M => ?_)
  refine m_aload_n (d_M_init_2 (k := 14) rfl) rfl ?_
  refine m_bipush (v := 6) (d_M_init_2 (k := 15) rfl) (by decide) ?_
  refine m_newarr (t := 0) (ty := .int) (d_M_init_2 (k := 16) rfl) rfl rfl (by decide) (by decide) rfl ac_0 (fun _ _ h => h) (fun a24 M => ?_)
  refine m_pR (d_M_init_2 (k := 17) rfl) fp_M_80 (fun _ => rfl) rfl (fun M => ?_)
  refine m_aload_n (d_M_init_2 (k := 18) rfl) rfl ?_
  refine m_bipush (v := 6) (d_M_init_2 (k := 19) rfl) (by decide) ?_
  refine m_newarr (t := 0) (ty := .int) (d_M_init_2 (k := 20) rfl) rfl rfl (by decide) (by decide) rfl ac_0 (fun _ _ h => h) (fun a25 M => ?_)
  refine m_pR (d_M_init_2 (k := 21) rfl) fp_M_83 (fun _ => rfl) rfl (fun M => ?_)
  refine m_aload_n (d_M_init_2 (k := 22) rfl) rfl ?_
  refine m_sipush (v := 540) (d_M_init_2 (k := 23) rfl) (by decide) ?_
  refine m_newarr (t := 0) (ty := .int) (d_M_init_2 (k := 24) rfl) rfl rfl (by decide) (by decide) rfl ac_0 (fun _ _ h => h) (fun a26 M => ?_)
  refine m_pR (d_M_init_2 (k := 25) rfl) fp_M_86 (fun _ => rfl) rfl (fun M => ?_)
  refine m_aload_n (d_M_init_2 (k := 26) rfl) rfl ?_
  refine m_bipush (v := 6) (d_M_init_2 (k := 27) rfl) (by decide) ?_
  refine m_newarr (t := 1) (ty := .boolean) (d_M_init_2 (k := 28) rfl) rfl rfl (by decide) (by decide) rfl ac_1 (fun _ _ h => h) (fun a27 M => ?_)
  refine m_pR (d_M_init_2 (k := 29) rfl) fp_M_89 (fun _ => rfl) rfl (fun M => ?_)
  refine m_aload_n (d_M_init_2 (k := 30) rfl) rfl ?_
  refine m_bipush (v := 30) (d_M_init_2 (k := 31) rfl) (by decide) ?_
  refine m_newarr (t := 0) (ty := .int) (d_M_init_2 (k := 32) rfl) rfl rfl (by decide) (by decide) rfl ac_0 (fun _ _ h => h) (fun a28 M => ?_)
  refine m_pR (d_M_init_2 (k := 33) rfl) fp_M_92 (fun _ => rfl) rfl (fun M => ?_)
  refine m_aload_n (d_M_init_2 (k := 34) rfl) rfl ?_
  refine m_bipush (v := 90) (d_M_init_2 (k := 35) rfl) (by decide) ?_
  refine m_newarr (t := 0) (ty := .int) (d_M_init_2 (k := 36) rfl) rfl rfl (by decide) (by decide) rfl ac_0 (fun _ _ h => h) (fun a29 M => ?_)
  refine m_pR (d_M_init_2 (k := 37) rfl) fp_M_95 (fun _ => rfl) rfl (fun M => ?_)
  refine m_aload_n (d_M_init_2 (k := 38) rfl) rfl ?_
  refine m_bipush (v := 6) (d_M_init_2 (k := 39) rfl) (by decide) ?_
  refine m_newarr (t := 1) (ty := .boolean) (d_M_init_3 (k := 0) rfl) rfl rfl (by decide) (by decide) rfl ac_1 (fun _ _ h => h) (fun a30 M => ?_)
  refine m_pR (d_M_init_3 (k := 1) rfl) fp_M_98 (fun _ => rfl) rfl (fun M => ?_)
  refine m_aload_n (d_M_init_3 (k := 2) rfl) rfl ?_
  refine m_bipush (v := 90) (d_M_init_3 (k := 3) rfl) (by decide) ?_
  refine m_newarr (t := 0) (ty := .int) (d_M_init_3 (k := 4) rfl) rfl rfl (by decide) (by decide) rfl ac_0 (fun _ _ h => h) (fun a31 M => ?_)
  refine m_pR (d_M_init_3 (k := 5) rfl) fp_M_101 (fun _ => rfl) rfl (fun M => ?_)
  refine m_aload_n (d_M_init_3 (k := 6) rfl) rfl ?_
  refine m_iconst (v := 2) (d_M_init_3 (k := 7) rfl) (by decide) ?_
  refine m_newarr (t := 0) (ty := .int) (d_M_init_3 (k := 8) rfl) rfl rfl (by decide) (by decide) rfl ac_0 (fun _ _ h => h) (fun a32 M => ?_)
  refine m_pR (d_M_init_3 (k := 9) rfl) fp_M_104 (fun _ => rfl) rfl (fun M => ?_)
  refine m_aload_n (d_M_init_3 (k := 10) rfl) rfl ?_
  refine m_iconst (v := 2) (d_M_init_3 (k := 11) rfl) (by decide) ?_
  refine m_newarr (t := 1) (ty := .boolean) (d_M_init_3 (k := 12) rfl) rfl rfl (by decide) (by decide) rfl ac_1 (fun _ _ h => h) (fun a33 M => ?_)
  refine m_pR (d_M_init_3 (k := 13) rfl) fp_M_107 (fun _ => rfl) rfl (fun M => ?_)
  refine m_aload_n (d_M_init_3 (k := 14) rfl) rfl ?_
  refine m_bipush (v := 36) (d_M_init_3 (k := 15) rfl) (by decide) ?_
  refine m_newarr (t := 0) (ty := .int) (d_M_init_3 (k := 16) rfl) rfl rfl (by decide) (by decide) rfl ac_0 (fun _ _ h => h) (fun a34 M => ?_)
  refine m_pR (d_M_init_3 (k := 17) rfl) fp_M_110 (fun _ => rfl) rfl (fun M => ?_)
  refine m_aload_n (d_M_init_3 (k := 18) rfl) rfl ?_
  refine m_bipush (v := 36) (d_M_init_3 (k := 19) rfl) (by decide) ?_
  refine m_newarr (t := 0) (ty := .int) (d_M_init_3 (k := 20) rfl) rfl rfl (by decide) (by decide) rfl ac_0 (fun _ _ h => h) (fun a35 M => ?_)
  refine m_pR (d_M_init_3 (k := 21) rfl) fp_M_113 (fun _ => rfl) rfl (fun M => ?_)
  refine m_aload_n (d_M_init_3 (k := 22) rfl) rfl ?_
  refine m_bipush (v := 36) (d_M_init_3 (k := 23) rfl) (by decide) ?_
  refine m_newarr (t := 0) (ty := .int) (d_M_init_3 (k := 24) rfl) rfl rfl (by decide) (by decide) rfl ac_0 (fun _ _ h => h) (fun a36 M => ?_)
  refine m_pR (d_M_init_3 (k := 25) rfl) fp_M_116 (fun _ => rfl) rfl (fun M => ?_)
  refine m_aload_n (d_M_init_3 (k := 26) rfl) rfl ?_
  refine m_bipush (v := 36) (d_M_init_3 (k := 27) rfl) (by decide) ?_
  refine m_newarr (t := 0) (ty := .int) (d_M_init_3 (k := 28) rfl) rfl rfl (by decide) (by decide) rfl ac_0 (fun _ _ h => h) (fun a37 M => ?_)
  refine m_pR (d_M_init_3 (k := 29) rfl) fp_M_119 (fun _ => rfl) rfl (fun M => ?_)
  refine m_aload_n (d_M_init_3 (k := 30) rfl) rfl ?_
  refine m_bipush (v := 36) (d_M_init_3 (k := 31) rfl) (by decide) ?_
  refine m_newarr (t := 0) (ty := .int) (d_M_init_3 (k := 32) rfl) rfl rfl (by decide) (by decide) rfl ac_0 (fun _ _ h => h) (fun a38 M => ?_)
  refine m_pR (d_M_init_3 (k := 33) rfl) fp_M_122 (fun _ => rfl) rfl (fun M => ?_)
  refine m_aload_n (d_M_init_3 (k := 34) rfl) rfl ?_
  refine m_bipush (v := 36) (d_M_init_3 (k := 35) rfl) (by decide) ?_
  refine m_newarr (t := 0) (ty := .int) (d_M_init_3 (k := 36) rfl) rfl rfl (by decide) (by decide) rfl ac_0 (fun _ _ h => h) (fun a39 M => ?_)
  refine m_pR (d_M_init_3 (k := 37) rfl) fp_M_125 (fun _ => rfl) rfl (fun M => ?_)
  refine m_aload_n (d_M_init_3 (k := 38) rfl) rfl ?_
  refine m_bipush (v := 36) (d_M_init_3 (k := 39) rfl) (by decide) ?_
  refine m_newarr (t := 0) (ty := .int) (d_M_init_4 (k := 0) rfl) rfl rfl (by decide) (by decide) rfl ac_0 (fun _ _ h => h) (fun a40 M => ?_)
  refine m_pR (d_M_init_4 (k := 1) rfl) fp_M_128 (fun _ => rfl) rfl (fun M => ?_)
  refine m_aload_n (d_M_init_4 (k := 2) rfl) rfl ?_
  refine m_bipush (v := 36) (d_M_init_4 (k := 3) rfl) (by decide) ?_
  refine m_newarr (t := 0) (ty := .int) (d_M_init_4 (k := 4) rfl) rfl rfl (by decide) (by decide) rfl ac_0 (fun _ _ h => h) (fun a41 M => ?_)
  refine m_pR (d_M_init_4 (k := 5) rfl) fp_M_131 (fun _ => rfl) rfl (fun M => ?_)
  refine m_aload_n (d_M_init_4 (k := 6) rfl) rfl ?_
  refine m_bipush (v := 36) (d_M_init_4 (k := 7) rfl) (by decide) ?_
  refine m_newarr (t := 0) (ty := .int) (d_M_init_4 (k := 8) rfl) rfl rfl (by decide) (by decide) rfl ac_0 (fun _ _ h => h) (fun a42 M => ?_)
  refine m_pR (d_M_init_4 (k := 9) rfl) fp_M_134 (fun _ => rfl) rfl (fun M => ?_)
  refine m_aload_n (d_M_init_4 (k := 10) rfl) rfl ?_
  refine m_bipush (v := 36) (d_M_init_4 (k := 11) rfl) (by decide) ?_
  refine m_newarr (t := 1) (ty := .boolean) (d_M_init_4 (k := 12) rfl) rfl rfl (by decide) (by decide) rfl ac_1 (fun _ _ h => h) (fun a43 M => ?_)
  refine m_pR (d_M_init_4 (k := 13) rfl) fp_M_137 (fun _ => rfl) rfl (fun M => ?_)
  refine m_aload_n (d_M_init_4 (k := 14) rfl) rfl ?_
  refine m_bipush (v := 36) (d_M_init_4 (k := 15) rfl) (by decide) ?_
  refine m_newarr (t := 1) (ty := .boolean) (d_M_init_4 (k := 16) rfl) rfl rfl (by decide) (by decide) rfl ac_1 (fun _ _ h => h) (fun a44 M => ?_)
  refine m_pR (d_M_init_4 (k := 17) rfl) fp_M_140 (fun _ => rfl) rfl (fun M => ?_)
  refine m_aload_n (d_M_init_4 (k := 18) rfl) rfl ?_
  refine m_bipush (v := 36) (d_M_init_4 (k := 19) rfl) (by decide) ?_
  refine m_newarr (t := 1) (ty := .boolean) (d_M_init_4 (k := 20) rfl) rfl rfl (by decide) (by decide) rfl ac_1 (fun _ _ h => h) (fun a45 M => ?_)
  refine m_pR (d_M_init_4 (k := 21) rfl) fp_M_143 (fun _ => rfl) rfl (fun M => ?_)
  refine m_aload_n (d_M_init_4 (k := 22) rfl) rfl ?_
  refine m_bipush (v := 36) (d_M_init_4 (k := 23) rfl) (by decide) ?_
  refine m_newarr (t := 0) (ty := .int) (d_M_init_4 (k := 24) rfl) rfl rfl (by decide) (by decide) rfl ac_0 (fun _ _ h => h) (fun a46 M => ?_)
  refine m_pR (d_M_init_4 (k := 25) rfl) fp_M_146 (fun _ => rfl) rfl (fun M => ?_)
  refine m_aload_n (d_M_init_4 (k := 26) rfl) rfl ?_
  refine m_bipush (v := 36) (d_M_init_4 (k := 27) rfl) (by decide) ?_
  refine m_newarr (t := 0) (ty := .int) (d_M_init_4 (k := 28) rfl) rfl rfl (by decide) (by decide) rfl ac_0 (fun _ _ h => h) (fun a47 M => ?_)
  refine m_pR (d_M_init_4 (k := 29) rfl) fp_M_149 (fun _ => rfl) rfl (fun M => ?_)
  refine m_aload_n (d_M_init_4 (k := 30) rfl) rfl ?_
  refine m_sipush (v := 7200) (d_M_init_4 (k := 31) rfl) (by decide) ?_
  refine m_newarr (t := 0) (ty := .int) (d_M_init_4 (k := 32) rfl) rfl rfl (by decide) (by decide) rfl ac_0 (fun _ _ h => h) (fun a48 M => ?_)
  refine m_pR (d_M_init_4 (k := 33) rfl) fp_M_152 (fun _ => rfl) rfl (fun M => ?_)
  refine m_aload_n (d_M_init_4 (k := 34) rfl) rfl ?_
  refine m_bipush (v := 36) (d_M_init_4 (k := 35) rfl) (by decide) ?_
  refine m_newarr (t := 0) (ty := .int) (d_M_init_4 (k := 36) rfl) rfl rfl (by decide) (by decide) rfl ac_0 (fun _ _ h => h) (fun a49 M => ?_)
  refine m_pR (d_M_init_4 (k := 37) rfl) fp_M_155 (fun _ => rfl) rfl (fun M => ?_)
  refine m_aload_n (d_M_init_4 (k := 38) rfl) rfl ?_
  refine m_sipush (v := 2304) (d_M_init_4 (k := 39) rfl) (by decide) ?_
  refine m_newarr (t := 0) (ty := .int) (d_M_init_5 (k := 0) rfl) rfl rfl (by decide) (by decide) rfl ac_0 (fun _ _ h => h) (fun a50 M => ?_)
  refine m_pR (d_M_init_5 (k := 1) rfl) fp_M_158 (fun _ => rfl) rfl (fun M => ?_)
  refine m_aload_n (d_M_init_5 (k := 2) rfl) rfl ?_
  refine m_bipush (v := 36) (d_M_init_5 (k := 3) rfl) (by decide) ?_
  refine m_newarr (t := 0) (ty := .int) (d_M_init_5 (k := 4) rfl) rfl rfl (by decide) (by decide) rfl ac_0 (fun _ _ h => h) (fun a51 M => ?_)
  refine m_pR (d_M_init_5 (k := 5) rfl) fp_M_161 (fun _ => rfl) rfl (fun M => ?_)
  refine m_aload_n (d_M_init_5 (k := 6) rfl) rfl ?_
  refine m_sipush (v := 3456) (d_M_init_5 (k := 7) rfl) (by decide) ?_
  refine m_newarr (t := 0) (ty := .int) (d_M_init_5 (k := 8) rfl) rfl rfl (by decide) (by decide) rfl ac_0 (fun _ _ h => h) (fun a52 M => ?_)
  refine m_pR (d_M_init_5 (k := 9) rfl) fp_M_164 (fun _ => rfl) rfl (fun M => ?_)
  refine m_aload_n (d_M_init_5 (k := 10) rfl) rfl ?_
  refine m_sipush (v := 216) (d_M_init_5 (k := 11) rfl) (by decide) ?_
  refine m_newarr (t := 0) (ty := .int) (d_M_init_5 (k := 12) rfl) rfl rfl (by decide) (by decide) rfl ac_0 (fun _ _ h => h) (fun a53 M => ?_)
  refine m_pR (d_M_init_5 (k := 13) rfl) fp_M_167 (fun _ => rfl) rfl (fun M => ?_)
  refine m_aload_n (d_M_init_5 (k := 14) rfl) rfl ?_
  refine m_bipush (v := 36) (d_M_init_5 (k := 15) rfl) (by decide) ?_
  refine m_newarr (t := 0) (ty := .int) (d_M_init_5 (k := 16) rfl) rfl rfl (by decide) (by decide) rfl ac_0 (fun _ _ h => h) (fun a54 M => ?_)
  refine m_pR (d_M_init_5 (k := 17) rfl) fp_M_170 (fun _ => rfl) rfl (fun M => ?_)
  refine m_aload_n (d_M_init_5 (k := 18) rfl) rfl ?_
  refine m_sipush (v := 2304) (d_M_init_5 (k := 19) rfl) (by decide) ?_
  refine m_newarr (t := 0) (ty := .int) (d_M_init_5 (k := 20) rfl) rfl rfl (by decide) (by decide) rfl ac_0 (fun _ _ h => h) (fun a55 M => ?_)
  refine m_pR (d_M_init_5 (k := 21) rfl) fp_M_173 (fun _ => rfl) rfl (fun M => ?_)
  refine m_aload_n (d_M_init_5 (k := 22) rfl) rfl ?_
  refine m_sipush (v := 144) (d_M_init_5 (k := 23) rfl) (by decide) ?_
  refine m_newarr (t := 0) (ty := .int) (d_M_init_5 (k := 24) rfl) rfl rfl (by decide) (by decide) rfl ac_0 (fun _ _ h => h) (fun a56 M => ?_)
  refine m_pR (d_M_init_5 (k := 25) rfl) fp_M_176 (fun _ => rfl) rfl (fun M => ?_)
  refine m_aload_n (d_M_init_5 (k := 26) rfl) rfl ?_
  refine m_sipush (v := 144) (d_M_init_5 (k := 27) rfl) (by decide) ?_
  refine m_newarr (t := 0) (ty := .int) (d_M_init_5 (k := 28) rfl) rfl rfl (by decide) (by decide) rfl ac_0 (fun _ _ h => h) (fun a57 M => ?_)
  refine m_pR (d_M_init_5 (k := 29) rfl) fp_M_179 (fun _ => rfl) rfl (fun M => ?_)
  refine m_aload_n (d_M_init_5 (k := 30) rfl) rfl ?_
  refine m_bipush (v := 36) (d_M_init_5 (k := 31) rfl) (by decide) ?_
  refine m_newarr (t := 0) (ty := .int) (d_M_init_5 (k := 32) rfl) rfl rfl (by decide) (by decide) rfl ac_0 (fun _ _ h => h) (fun a58 M => ?_)
  refine m_pR (d_M_init_5 (k := 33) rfl) fp_M_182 (fun _ => rfl) rfl (fun M => ?_)
  refine m_aload_n (d_M_init_5 (k := 34) rfl) rfl ?_
  refine m_sipush (v := 216) (d_M_init_5 (k := 35) rfl) (by decide) ?_
  refine m_newarr (t := 0) (ty := .int) (d_M_init_5 (k := 36) rfl) rfl rfl (by decide) (by decide) rfl ac_0 (fun _ _ h => h) (fun a59 M => ?_)
  refine m_pR (d_M_init_5 (k := 37) rfl) fp_M_185 (fun _ => rfl) rfl (fun M => ?_)
  refine m_aload_n (d_M_init_5 (k := 38) rfl) rfl ?_
  refine m_sipush (v := 216) (d_M_init_5 (k := 39) rfl) (by decide) ?_
  refine m_newarr (t := 0) (ty := .int) (d_M_init_6 (k := 0) rfl) rfl rfl (by decide) (by decide) rfl ac_0 (fun _ _ h => h) (fun a60 M => ?_)
  refine m_pR (d_M_init_6 (k := 1) rfl) fp_M_188 (fun _ => rfl) rfl (fun M => ?_)
  refine m_aload_n (d_M_init_6 (k := 2) rfl) rfl ?_
  refine m_bipush (v := 16) (d_M_init_6 (k := 3) rfl) (by decide) ?_
  refine m_newarr (t := 0) (ty := .int) (d_M_init_6 (k := 4) rfl) rfl rfl (by decide) (by decide) rfl ac_0 (fun _ _ h => h) (fun a61 M => ?_)
  refine m_pR (d_M_init_6 (k := 5) rfl) fp_M_191 (fun _ => rfl) rfl (fun M => ?_)
  refine m_aload_n (d_M_init_6 (k := 6) rfl) rfl ?_
  refine m_bipush (v := 6) (d_M_init_6 (k := 7) rfl) (by decide) ?_
  refine m_newarr (t := 0) (ty := .int) (d_M_init_6 (k := 8) rfl) rfl rfl (by decide) (by decide) rfl ac_0 (fun _ _ h => h) (fun a62 M => ?_)
  refine m_pR (d_M_init_6 (k := 9) rfl) fp_M_194 (fun _ => rfl) rfl (fun M => ?_)
  refine m_aload_n (d_M_init_6 (k := 10) rfl) rfl ?_
  refine m_sipush (v := 720) (d_M_init_6 (k := 11) rfl) (by decide) ?_
  refine m_newarr (t := 0) (ty := .int) (d_M_init_6 (k := 12) rfl) rfl rfl (by decide) (by decide) rfl ac_0 (fun _ _ h => h) (fun a63 M => ?_)
  refine m_pR (d_M_init_6 (k := 13) rfl) fp_M_197 (fun _ => rfl) rfl (fun M => ?_)
  refine m_aload_n (d_M_init_6 (k := 14) rfl) rfl ?_
  refine m_bipush (v := 6) (d_M_init_6 (k := 15) rfl) (by decide) ?_
  refine m_newarr (t := 0) (ty := .int) (d_M_init_6 (k := 16) rfl) rfl rfl (by decide) (by decide) rfl ac_0 (fun _ _ h => h) (fun a64 M => ?_)
  refine m_pR (d_M_init_6 (k := 17) rfl) fp_M_200 (fun _ => rfl) rfl (fun M => ?_)
  refine m_iconst (v := 0) (d_M_init_6 (k := 18) rfl) (by decide) ?_
  refine m_ist_n (ls' := [some (.inr t0), some (.inl (0 : Int32)), none, none]) (d_M_init_6 (k := 19) rfl) (by decide) rfl ?_
  exact m_drop (mles_s (mles_s (mles_n (mles_n mles_0)))) (v_M_init_534 mFU t0 (0 : Int32) M)
theorem s_M_init {E : mE} (t0 : Option Nat) (M : mM) : mSnd E mi_M_init 1 [.inr t0] M enU (q_M_init t0 M) := m_entryU (by decide) (Nat.le_of_ble_eq_true rfl) rfl (m_drop (mles_s (mles_e (mles_e (mles_e mles_0)))) (v_M_init t0 M))
