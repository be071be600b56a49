def dt_M_leave : List (Nat × Instr × Nat) := [(0, .iload_n 1, 1), (1, .iload_n 2, 1), (2, .invokestatic 258, 3), (5, .ifCond .ne 5, 3), (8, .iconst 0, 1), (9, .ireturn, 1), (10, .bipush 6, 2), (12, .iload_n 1, 1), (13, .imul, 1), (14, .iload_n 2, 1), (15, .iadd, 1), (16, .istore_n 3, 1), (17, .aload_n 0, 1), (18, .getfield 110, 3), (21, .iload_n 3, 1), (22, .iaload, 1), (23, .iconst 1, 1), (24, .if_icmp .eq 15, 3), (27, .aload_n 0, 1), (28, .getfield 110, 3), (31, .iload_n 3, 1), (32, .iaload, 1), (33, .iconst 2, 1), (34, .if_icmp .eq 5, 3), (37, .iconst 0, 1), (38, .ireturn, 1), (39, .aload_n 0, 1), (40, .iload_n 3, 1), (41, .invokevirtual 398, 3), (44, .aload_n 0, 1), (45, .getfield 110, 3), (48, .iload_n 3, 1), (49, .iconst 3, 1), (50, .iastore, 1), (51, .aload_n 0, 1), (52, .getfield 134, 3), (55, .iload_n 3, 1), (56, .iconst 1, 1), (57, .iastore, 1), (58, .aload_n 0, 1), (59, .getfield 131, 3), (62, .iload_n 3, 1), (63, .aload_n 0, 1), (64, .getfield 44, 3), (67, .bipush 9, 2), (69, .iload_n 1, 1), (70, .imul, 1), (71, .iconst 4, 1), (72, .iadd, 1), (73, .iaload, 1), (74, .iastore, 1), (75, .aload_n 0, 1), (76, .iload_n 1, 1), (77, .iload_n 2, 1), (78, .iconst 1, 1), (79, .bipush 83, 2), (81, .invokevirtual 391, 3), (84, .iconst 1, 1), (85, .ireturn, 1)]
theorem dx_M_leave : ∀ p ∈ dt_M_leave, decode prog_12_method_77_code p.1 = .ok p.2 := by decide +kernel
theorem d_M_leave {k pc : Nat} {i : Instr} {n : Nat} (h : dt_M_leave[k]? = some (pc, i, n)) : decode mi_M_leave.2.1 pc = .ok (i, n) := dx_M_leave (pc, i, n) (List.mem_of_getElem? h)
def q_M_leave_39 (t0 : Option Nat) (i1 : Int32) (i2 : Int32) (i3 : Int32) (M : mM) : Option (Int32 × mM) :=
    x_cv M 10 t0 (q_M_reset t0 i3 M) fun _ M =>
    x_gR M 10 t0 49 fun a1 =>
    x_wI M a1 i3 (3 : Int32) fun M =>
    x_gR M 10 t0 57 fun a2 =>
    x_wI M a2 i3 (1 : Int32) fun M =>
    x_gR M 10 t0 56 fun a3 =>
    x_gR M 10 t0 16 fun a4 =>
    x_aI M 0 a4 (((9 : Int32) * i1) + (4 : Int32)) fun x5 =>
    x_wI M a3 i3 x5 fun M =>
    x_cv M 10 t0 (q_M_say t0 i1 i2 (1 : Int32) (83 : Int32) M) fun _ M =>
    x_rz (1 : Int32) M
set_option maxRecDepth 20000 in
theorem v_M_leave_39 {E : mE} (t0 : Option Nat) (i1 : Int32) (i2 : Int32) (i3 : Int32) (M : mM) : mVr E mi_M_leave 4 39 [some (.inr t0), some (.inl i1), some (.inl i2), some (.inl i3)] [] M enI (q_M_leave_39 t0 i1 i2 i3 M) := by
  unfold q_M_leave_39
  refine m_aload_n (d_M_leave (k := 26) rfl) rfl ?_
  refine m_iload_n (d_M_leave (k := 27) rfl) rfl ?_
  refine m_cvU (c := 10) (vs := [.inl i3]) (st := []) (d_M_leave (k := 28) rfl) (s_M_reset t0 i3 M) cd_M_reset ml_M_398 im_M_reset se_M_reset rfl (by decide) rfl (Nat.le_of_ble_eq_true rfl) (fun _ M => ?_)
  refine m_aload_n (d_M_leave (k := 29) rfl) rfl ?_
  refine m_getR (d_M_leave (k := 30) rfl) fl_M_110 rfl (fun a1 => ?_)
  refine m_iload_n (d_M_leave (k := 31) rfl) rfl ?_
  refine m_iconst (v := 3) (d_M_leave (k := 32) rfl) (by decide) ?_
  refine m_iast (d_M_leave (k := 33) rfl) (fun M => ?_)
  refine m_aload_n (d_M_leave (k := 34) rfl) rfl ?_
  refine m_getR (d_M_leave (k := 35) rfl) fl_M_134 rfl (fun a2 => ?_)
  refine m_iload_n (d_M_leave (k := 36) rfl) rfl ?_
  refine m_iconst (v := 1) (d_M_leave (k := 37) rfl) (by decide) ?_
  refine m_iast (d_M_leave (k := 38) rfl) (fun M => ?_)
  refine m_aload_n (d_M_leave (k := 39) rfl) rfl ?_
  refine m_getR (d_M_leave (k := 40) rfl) fl_M_131 rfl (fun a3 => ?_)
  refine m_iload_n (d_M_leave (k := 41) rfl) rfl ?_
  refine m_aload_n (d_M_leave (k := 42) rfl) rfl ?_
  refine m_getR (d_M_leave (k := 43) rfl) fl_M_44 rfl (fun a4 => ?_)
  refine m_bipush (v := 9) (d_M_leave (k := 44) rfl) (by decide) ?_
  refine m_iload_n (d_M_leave (k := 45) rfl) rfl ?_
  refine m_imul (d_M_leave (k := 46) rfl) ?_
  refine m_iconst (v := 4) (d_M_leave (k := 47) rfl) (by decide) ?_
  refine m_iadd (d_M_leave (k := 48) rfl) ?_
  refine m_iald (d_M_leave (k := 49) rfl) (fun x5 => ?_)
  refine m_iast (d_M_leave (k := 50) rfl) (fun M => ?_)
  refine m_aload_n (d_M_leave (k := 51) rfl) rfl ?_
  refine m_iload_n (d_M_leave (k := 52) rfl) rfl ?_
  refine m_iload_n (d_M_leave (k := 53) rfl) rfl ?_
  refine m_iconst (v := 1) (d_M_leave (k := 54) rfl) (by decide) ?_
  refine m_bipush (v := 83) (d_M_leave (k := 55) rfl) (by decide) ?_
  refine m_cvU (c := 10) (vs := [.inl i1, .inl i2, .inl (1 : Int32), .inl (83 : Int32)]) (st := []) (d_M_leave (k := 56) rfl) (s_M_say t0 i1 i2 (1 : Int32) (83 : Int32) M) cd_M_say ml_M_391 im_M_say se_M_say rfl (by decide) rfl (Nat.le_of_ble_eq_true rfl) (fun _ M => ?_)
  refine m_iconst (v := 1) (d_M_leave (k := 57) rfl) (by decide) ?_
  exact m_zret (d_M_leave (k := 58) rfl) rfl
def q_M_leave (t0 : Option Nat) (i1 : Int32) (i2 : Int32) (M : mM) : Option (Int32 × mM) :=
    x_cl (q_M_isLink i1 i2 M) fun x1 M =>
    if x1 = 0 then
      x_rz (0 : Int32) M
    else
      x_lt (((6 : Int32) * i1) + i2) fun x2 =>
      x_gR M 10 t0 49 fun a3 =>
      x_aI M 0 a3 x2 fun x4 =>
      if x4 = (1 : Int32) then
        q_M_leave_39 t0 i1 i2 x2 M
      else
        x_gR M 10 t0 49 fun a5 =>
        x_aI M 0 a5 x2 fun x6 =>
        if x6 = (2 : Int32) then
          q_M_leave_39 t0 i1 i2 x2 M
        else
          x_rz (0 : Int32) M
set_option maxRecDepth 20000 in
theorem v_M_leave {E : mE} (t0 : Option Nat) (i1 : Int32) (i2 : Int32) (M : mM) : mVr E mi_M_leave 4 0 [some (.inr t0), some (.inl i1), some (.inl i2), none] [] M enI (q_M_leave t0 i1 i2 M) := by
  unfold q_M_leave
  refine m_iload_n (d_M_leave (k := 0) rfl) rfl ?_
  refine m_iload_n (d_M_leave (k := 1) rfl) rfl ?_
  refine m_csI (vs := [.inl i1, .inl i2]) (st := []) (d_M_leave (k := 2) rfl) (s_M_isLink i1 i2 M) cd_M_isLink ml_M_258 sa_M_isLink (by decide) rfl (Nat.le_of_ble_eq_true rfl) (fun x1 M => ?_)
  refine m_if_ne (tgt := 10) (d_M_leave (k := 3) rfl) rfl ?_ ?_
  · refine m_iconst (v := 0) (d_M_leave (k := 4) rfl) (by decide) ?_
    exact m_zret (d_M_leave (k := 5) rfl) rfl
  · refine m_bipush (v := 6) (d_M_leave (k := 6) rfl) (by decide) ?_
    refine m_iload_n (d_M_leave (k := 7) rfl) rfl ?_
    refine m_imul (d_M_leave (k := 8) rfl) ?_
    refine m_iload_n (d_M_leave (k := 9) rfl) rfl ?_
    refine m_iadd (d_M_leave (k := 10) rfl) ?_
    refine m_lt (fun x2 => ?_)
    refine m_ist_n (ls' := [some (.inr t0), some (.inl i1), some (.inl i2), some (.inl x2)]) (d_M_leave (k := 11) rfl) (by decide) rfl ?_
    refine m_aload_n (d_M_leave (k := 12) rfl) rfl ?_
    refine m_getR (d_M_leave (k := 13) rfl) fl_M_110 rfl (fun a3 => ?_)
    refine m_iload_n (d_M_leave (k := 14) rfl) rfl ?_
    refine m_iald (d_M_leave (k := 15) rfl) (fun x4 => ?_)
    refine m_iconst (v := 1) (d_M_leave (k := 16) rfl) (by decide) ?_
    refine m_icmp_eq (tgt := 39) (d_M_leave (k := 17) rfl) rfl ?_ ?_
    · exact m_drop (mles_s (mles_s (mles_s (mles_s mles_0)))) (v_M_leave_39 t0 i1 i2 x2 M)
    · refine m_aload_n (d_M_leave (k := 18) rfl) rfl ?_
      refine m_getR (d_M_leave (k := 19) rfl) fl_M_110 rfl (fun a5 => ?_)
      refine m_iload_n (d_M_leave (k := 20) rfl) rfl ?_
      refine m_iald (d_M_leave (k := 21) rfl) (fun x6 => ?_)
      refine m_iconst (v := 2) (d_M_leave (k := 22) rfl) (by decide) ?_
      refine m_icmp_eq (tgt := 39) (d_M_leave (k := 23) rfl) rfl ?_ ?_
      · exact m_drop (mles_s (mles_s (mles_s (mles_s mles_0)))) (v_M_leave_39 t0 i1 i2 x2 M)
      · refine m_iconst (v := 0) (d_M_leave (k := 24) rfl) (by decide) ?_
        exact m_zret (d_M_leave (k := 25) rfl) rfl
theorem s_M_leave {E : mE} (t0 : Option Nat) (i1 : Int32) (i2 : Int32) (M : mM) : mSnd E mi_M_leave 4 [.inr t0, .inl i1, .inl i2] M enI (q_M_leave t0 i1 i2 M) := m_entryZ (by decide) (Nat.le_of_ble_eq_true rfl) rfl (m_drop (mles_s (mles_s (mles_s (mles_e mles_0)))) (v_M_leave t0 i1 i2 M))
def dt_M_keepLetter : List (Nat × Instr × Nat) := [(0, .aload_n 0, 1), (1, .getfield 194, 3), (4, .iload_n 1, 1), (5, .iaload, 1), (6, .bipush 8, 2), (8, .if_icmp .ne 10, 3), (11, .aload_n 0, 1), (12, .iload_n 1, 1), (13, .iconst 4, 1), (14, .invokevirtual 267, 3), (17, .return_, 1), (18, .bipush 120, 2), (20, .iload_n 1, 1), (21, .imul, 1), (22, .bipush 15, 2), (24, .aload_n 0, 1), (25, .getfield 194, 3), (28, .iload_n 1, 1), (29, .iaload, 1), (30, .imul, 1), (31, .iadd, 1), (32, .istore_n 2, 1), (33, .aload_n 0, 1), (34, .getfield 197, 3), (37, .iload_n 2, 1), (38, .aload_n 0, 1), (39, .getfield 191, 3), (42, .iconst 0, 1), (43, .iaload, 1), (44, .iastore, 1), (45, .aload_n 0, 1), (46, .getfield 197, 3), (49, .iload_n 2, 1), (50, .iconst 1, 1), (51, .iadd, 1), (52, .aload_n 0, 1), (53, .getfield 191, 3), (56, .iconst 3, 1), (57, .iaload, 1), (58, .iastore, 1), (59, .aload_n 0, 1), (60, .getfield 197, 3), (63, .iload_n 2, 1), (64, .iconst 2, 1), (65, .iadd, 1), (66, .aload_n 0, 1), (67, .getfield 437, 3), (70, .iconst 4, 1), (71, .isub, 1), (72, .iastore, 1), (73, .iconst 0, 1), (74, .istore_n 3, 1), (75, .iload_n 3, 1), (76, .iconst 4, 1), (77, .iadd, 1), (78, .aload_n 0, 1), (79, .getfield 437, 3), (82, .if_icmp .ge 27, 3), (85, .aload_n 0, 1), (86, .getfield 197, 3), (89, .iload_n 2, 1), (90, .iconst 3, 1), (91, .iadd, 1), (92, .iload_n 3, 1), (93, .iadd, 1), (94, .aload_n 0, 1), (95, .getfield 191, 3), (98, .iconst 4, 1), (99, .iload_n 3, 1), (100, .iadd, 1), (101, .iaload, 1), (102, .iastore, 1), (103, .iinc 3 1, 3), (106, .goto (-31), 3), (109, .aload_n 0, 1), (110, .getfield 194, 3), (113, .iload_n 1, 1), (114, .dup2, 1), (115, .iaload, 1), (116, .iconst 1, 1), (117, .iadd, 1), (118, .iastore, 1), (119, .return_, 1)]
theorem dx_M_keepLetter : ∀ p ∈ dt_M_keepLetter, decode prog_12_method_75_code p.1 = .ok p.2 := by decide +kernel
theorem d_M_keepLetter {k pc : Nat} {i : Instr} {n : Nat} (h : dt_M_keepLetter[k]? = some (pc, i, n)) : decode mi_M_keepLetter.2.1 pc = .ok (i, n) := dx_M_keepLetter (pc, i, n) (List.mem_of_getElem? h)
def q_M_keepLetter_75_b (r75 : Option Nat → Int32 → Int32 → Int32 → mM → Option (Unit × mM)) (t0 : Option Nat) (i1 : Int32) (i2 : Int32) (i3 : Int32) (M : mM) : Option (Unit × mM) :=
    x_gI M 10 t0 77 fun x1 =>
    if (i3 + (4 : Int32)) < x1 then
      x_gR M 10 t0 79 fun a2 =>
      x_gR M 10 t0 76 fun a3 =>
      x_aI M 0 a3 ((4 : Int32) + i3) fun x4 =>
      x_wI M a2 ((i2 + (3 : Int32)) + i3) x4 fun M =>
      r75 t0 i1 i2 (i3 + 1) M
    else
      x_gR M 10 t0 78 fun a5 =>
      x_aI M 0 a5 i1 fun x6 =>
      x_wI M a5 i1 (x6 + (1 : Int32)) fun M =>
      some ((), M)
def q_M_keepLetter_75 : Nat → Option Nat → Int32 → Int32 → Int32 → mM → Option (Unit × mM)
  | 0, _, _, _, _, _ => none
  | n + 1, t0, i1, i2, i3, M => q_M_keepLetter_75_b (q_M_keepLetter_75 n) t0 i1 i2 i3 M
set_option maxRecDepth 20000 in
theorem v_M_keepLetter_75_b {E : mE} (r75 : Option Nat → Int32 → Int32 → Int32 → mM → Option (Unit × mM)) (h75 : ∀ (t0 : Option Nat) (i1 : Int32) (i2 : Int32) (i3 : Int32) (M : mM), mVr E mi_M_keepLetter 1 75 [some (.inr t0), some (.inl i1), some (.inl i2), some (.inl i3)] [] M enU (r75 t0 i1 i2 i3 M)) (t0 : Option Nat) (i1 : Int32) (i2 : Int32) (i3 : Int32) (M : mM) : mVr E mi_M_keepLetter 1 75 [some (.inr t0), some (.inl i1), some (.inl i2), some (.inl i3)] [] M enU (q_M_keepLetter_75_b r75 t0 i1 i2 i3 M) := by
  unfold q_M_keepLetter_75_b
  refine m_iload_n (d_M_keepLetter (k := 52) rfl) rfl ?_
  refine m_iconst (v := 4) (d_M_keepLetter (k := 53) rfl) (by decide) ?_
  refine m_iadd (d_M_keepLetter (k := 54) rfl) ?_
  refine m_aload_n (d_M_keepLetter (k := 55) rfl) rfl ?_
  refine m_getI (d_M_keepLetter (k := 56) rfl) fl_M_437 rfl (fun x1 => ?_)
  refine m_icmp_ge (tgt := 109) (d_M_keepLetter (k := 57) rfl) rfl ?_ ?_
  · refine m_aload_n (d_M_keepLetter (k := 58) rfl) rfl ?_
    refine m_getR (d_M_keepLetter (k := 59) rfl) fl_M_197 rfl (fun a2 => ?_)
    refine m_iload_n (d_M_keepLetter (k := 60) rfl) rfl ?_
    refine m_iconst (v := 3) (d_M_keepLetter (k := 61) rfl) (by decide) ?_
    refine m_iadd (d_M_keepLetter (k := 62) rfl) ?_
    refine m_iload_n (d_M_keepLetter (k := 63) rfl) rfl ?_
    refine m_iadd (d_M_keepLetter (k := 64) rfl) ?_
    refine m_aload_n (d_M_keepLetter (k := 65) rfl) rfl ?_
    refine m_getR (d_M_keepLetter (k := 66) rfl) fl_M_191 rfl (fun a3 => ?_)
    refine m_iconst (v := 4) (d_M_keepLetter (k := 67) rfl) (by decide) ?_
    refine m_iload_n (d_M_keepLetter (k := 68) rfl) rfl ?_
    refine m_iadd (d_M_keepLetter (k := 69) rfl) ?_
    refine m_iald (d_M_keepLetter (k := 70) rfl) (fun x4 => ?_)
    refine m_iast (d_M_keepLetter (k := 71) rfl) (fun M => ?_)
    refine m_inc (v := 1) (ls' := [some (.inr t0), some (.inl i1), some (.inl i2), some (.inl (i3 + 1))]) (d_M_keepLetter (k := 72) rfl) rfl (by decide) (by decide) rfl ?_
    refine m_goto (tgt := 75) (d_M_keepLetter (k := 73) rfl) rfl ?_
    exact m_drop (mles_s (mles_s (mles_s (mles_s mles_0)))) (h75 t0 i1 i2 (i3 + 1) M)
  · refine m_aload_n (d_M_keepLetter (k := 74) rfl) rfl ?_
    refine m_getR (d_M_keepLetter (k := 75) rfl) fl_M_194 rfl (fun a5 => ?_)
    refine m_iload_n (d_M_keepLetter (k := 76) rfl) rfl ?_
    refine m_dup2 (d_M_keepLetter (k := 77) rfl) ?_
    refine m_iald (d_M_keepLetter (k := 78) rfl) (fun x6 => ?_)
    refine m_iconst (v := 1) (d_M_keepLetter (k := 79) rfl) (by decide) ?_
    refine m_iadd (d_M_keepLetter (k := 80) rfl) ?_
    refine m_iast (d_M_keepLetter (k := 81) rfl) (fun M => ?_)
    exact m_vret (d_M_keepLetter (k := 82) rfl) rfl
theorem v_M_keepLetter_75 {E : mE} : ∀ (n : Nat) (t0 : Option Nat) (i1 : Int32) (i2 : Int32) (i3 : Int32) (M : mM), mVr E mi_M_keepLetter 1 75 [some (.inr t0), some (.inl i1), some (.inl i2), some (.inl i3)] [] M enU (q_M_keepLetter_75 n t0 i1 i2 i3 M)
  | 0, _, _, _, _, _ => m_none
  | n + 1, t0, i1, i2, i3, M => v_M_keepLetter_75_b _ (v_M_keepLetter_75 n) t0 i1 i2 i3 M
def q_M_keepLetter (t0 : Option Nat) (i1 : Int32) (M : mM) : Option (Unit × mM) :=
    x_gR M 10 t0 78 fun a1 =>
    x_aI M 0 a1 i1 fun x2 =>
    if x2 = (8 : Int32) then
      x_cv M 10 t0 (q_M_count t0 i1 (4 : Int32) M) fun _ M =>
      some ((), M)
    else
      x_gR M 10 t0 78 fun a3 =>
      x_aI M 0 a3 i1 fun x4 =>
      x_lt (((120 : Int32) * i1) + ((15 : Int32) * x4)) fun x5 =>
      x_gR M 10 t0 79 fun a6 =>
      x_gR M 10 t0 76 fun a7 =>
      x_aI M 0 a7 (0 : Int32) fun x8 =>
      x_wI M a6 x5 x8 fun M =>
      x_gR M 10 t0 79 fun a9 =>
      x_gR M 10 t0 76 fun a10 =>
      x_aI M 0 a10 (3 : Int32) fun x11 =>
      x_wI M a9 (x5 + (1 : Int32)) x11 fun M =>
      x_gR M 10 t0 79 fun a12 =>
      x_gI M 10 t0 77 fun x13 =>
      x_wI M a12 (x5 + (2 : Int32)) (x13 - (4 : Int32)) fun M =>
      q_M_keepLetter_75 mFU t0 i1 x5 (0 : Int32) M
set_option maxRecDepth 20000 in
theorem v_M_keepLetter {E : mE} (t0 : Option Nat) (i1 : Int32) (M : mM) : mVr E mi_M_keepLetter 1 0 [some (.inr t0), some (.inl i1), none, none] [] M enU (q_M_keepLetter t0 i1 M) := by
  unfold q_M_keepLetter
  refine m_aload_n (d_M_keepLetter (k := 0) rfl) rfl ?_
  refine m_getR (d_M_keepLetter (k := 1) rfl) fl_M_194 rfl (fun a1 => ?_)
  refine m_iload_n (d_M_keepLetter (k := 2) rfl) rfl ?_
  refine m_iald (d_M_keepLetter (k := 3) rfl) (fun x2 => ?_)
  refine m_bipush (v := 8) (d_M_keepLetter (k := 4) rfl) (by decide) ?_
  refine m_icmp_ne (tgt := 18) (d_M_keepLetter (k := 5) rfl) rfl ?_ ?_
  · refine m_aload_n (d_M_keepLetter (k := 6) rfl) rfl ?_
    refine m_iload_n (d_M_keepLetter (k := 7) rfl) rfl ?_
    refine m_iconst (v := 4) (d_M_keepLetter (k := 8) rfl) (by decide) ?_
    refine m_cvU (c := 10) (vs := [.inl i1, .inl (4 : Int32)]) (st := []) (d_M_keepLetter (k := 9) rfl) (s_M_count t0 i1 (4 : Int32) M) cd_M_count ml_M_267 im_M_count se_M_count rfl (by decide) rfl (Nat.le_of_ble_eq_true rfl) (fun _ M => ?_)
    exact m_vret (d_M_keepLetter (k := 10) rfl) rfl
  · refine m_bipush (v := 120) (d_M_keepLetter (k := 11) rfl) (by decide) ?_
    refine m_iload_n (d_M_keepLetter (k := 12) rfl) rfl ?_
    refine m_imul (d_M_keepLetter (k := 13) rfl) ?_
    refine m_bipush (v := 15) (d_M_keepLetter (k := 14) rfl) (by decide) ?_
    refine m_aload_n (d_M_keepLetter (k := 15) rfl) rfl ?_
    refine m_getR (d_M_keepLetter (k := 16) rfl) fl_M_194 rfl (fun a3 => ?_)
    refine m_iload_n (d_M_keepLetter (k := 17) rfl) rfl ?_
    refine m_iald (d_M_keepLetter (k := 18) rfl) (fun x4 => ?_)
    refine m_imul (d_M_keepLetter (k := 19) rfl) ?_
    refine m_iadd (d_M_keepLetter (k := 20) rfl) ?_
    refine m_lt (fun x5 => ?_)
    refine m_ist_n (ls' := [some (.inr t0), some (.inl i1), some (.inl x5), none]) (d_M_keepLetter (k := 21) rfl) (by decide) rfl ?_
    refine m_aload_n (d_M_keepLetter (k := 22) rfl) rfl ?_
    refine m_getR (d_M_keepLetter (k := 23) rfl) fl_M_197 rfl (fun a6 => ?_)
    refine m_iload_n (d_M_keepLetter (k := 24) rfl) rfl ?_
    refine m_aload_n (d_M_keepLetter (k := 25) rfl) rfl ?_
    refine m_getR (d_M_keepLetter (k := 26) rfl) fl_M_191 rfl (fun a7 => ?_)
    refine m_iconst (v := 0) (d_M_keepLetter (k := 27) rfl) (by decide) ?_
    refine m_iald (d_M_keepLetter (k := 28) rfl) (fun x8 => ?_)
    refine m_iast (d_M_keepLetter (k := 29) rfl) (fun M => ?_)
    refine m_aload_n (d_M_keepLetter (k := 30) rfl) rfl ?_
    refine m_getR (d_M_keepLetter (k := 31) rfl) fl_M_197 rfl (fun a9 => ?_)
    refine m_iload_n (d_M_keepLetter (k := 32) rfl) rfl ?_
    refine m_iconst (v := 1) (d_M_keepLetter (k := 33) rfl) (by decide) ?_
    refine m_iadd (d_M_keepLetter (k := 34) rfl) ?_
    refine m_aload_n (d_M_keepLetter (k := 35) rfl) rfl ?_
    refine m_getR (d_M_keepLetter (k := 36) rfl) fl_M_191 rfl (fun a10 => ?_)
    refine m_iconst (v := 3) (d_M_keepLetter (k := 37) rfl) (by decide) ?_
    refine m_iald (d_M_keepLetter (k := 38) rfl) (fun x11 => ?_)
    refine m_iast (d_M_keepLetter (k := 39) rfl) (fun M => ?_)
    refine m_aload_n (d_M_keepLetter (k := 40) rfl) rfl ?_
    refine m_getR (d_M_keepLetter (k := 41) rfl) fl_M_197 rfl (fun a12 => ?_)
    refine m_iload_n (d_M_keepLetter (k := 42) rfl) rfl ?_
    refine m_iconst (v := 2) (d_M_keepLetter (k := 43) rfl) (by decide) ?_
    refine m_iadd (d_M_keepLetter (k := 44) rfl) ?_
    refine m_aload_n (d_M_keepLetter (k := 45) rfl) rfl ?_
    refine m_getI (d_M_keepLetter (k := 46) rfl) fl_M_437 rfl (fun x13 => ?_)
    refine m_iconst (v := 4) (d_M_keepLetter (k := 47) rfl) (by decide) ?_
    refine m_isub (d_M_keepLetter (k := 48) rfl) ?_
    refine m_iast (d_M_keepLetter (k := 49) rfl) (fun M => ?_)
    refine m_iconst (v := 0) (d_M_keepLetter (k := 50) rfl) (by decide) ?_
    refine m_ist_n (ls' := [some (.inr t0), some (.inl i1), some (.inl x5), some (.inl (0 : Int32))]) (d_M_keepLetter (k := 51) rfl) (by decide) rfl ?_
    exact m_drop (mles_s (mles_s (mles_s (mles_s mles_0)))) (v_M_keepLetter_75 mFU t0 i1 x5 (0 : Int32) M)
theorem s_M_keepLetter {E : mE} (t0 : Option Nat) (i1 : Int32) (M : mM) : mSnd E mi_M_keepLetter 1 [.inr t0, .inl i1] M enU (q_M_keepLetter t0 i1 M) := m_entryU (by decide) (Nat.le_of_ble_eq_true rfl) rfl (m_drop (mles_s (mles_s (mles_e (mles_e mles_0)))) (v_M_keepLetter t0 i1 M))
def dt_M_packetComes_0 : List (Nat × Instr × Nat) := [(0, .aload_n 0, 1), (1, .getfield 437, 3), (4, .iconst 5, 1), (5, .bipush 16, 2), (7, .invokestatic 203, 3), (10, .ifCond .eq 27, 3), (13, .aload_n 0, 1), (14, .getfield 191, 3), (17, .iconst 0, 1), (18, .iaload, 1), (19, .invokestatic 207, 3), (22, .ifCond .eq 15, 3), (25, .aload_n 0, 1), (26, .getfield 191, 3), (29, .iconst 1, 1), (30, .iaload, 1), (31, .invokestatic 207, 3), (34, .ifCond .ne 10, 3), (37, .aload_n 0, 1), (38, .iload_n 1, 1), (39, .iconst 3, 1), (40, .invokevirtual 267, 3), (43, .return_, 1), (44, .aload_n 0, 1), (45, .getfield 191, 3), (48, .iconst 1, 1), (49, .iaload, 1), (50, .istore_n 2, 1), (51, .iload_n 2, 1), (52, .iload_n 1, 1), (53, .if_icmp .ne 9, 3), (56, .aload_n 0, 1), (57, .iload_n 1, 1), (58, .invokevirtual 455, 3), (61, .return_, 1), (62, .aload_n 0, 1), (63, .getfield 191, 3), (66, .iconst 2, 1), (67, .iaload, 1), (68, .ifCond .ne 7, 3)]
theorem dx_M_packetComes_0 : ∀ p ∈ dt_M_packetComes_0, decode prog_12_method_74_code p.1 = .ok p.2 := by decide +kernel
theorem d_M_packetComes_0 {k pc : Nat} {i : Instr} {n : Nat} (h : dt_M_packetComes_0[k]? = some (pc, i, n)) : decode mi_M_packetComes.2.1 pc = .ok (i, n) := dx_M_packetComes_0 (pc, i, n) (List.mem_of_getElem? h)
def dt_M_packetComes_1 : List (Nat × Instr × Nat) := [(71, .iconst (-1), 1), (72, .goto 9, 3), (75, .aload_n 0, 1), (76, .iload_n 1, 1), (77, .iload_n 2, 1), (78, .invokevirtual 449, 3), (81, .istore_n 3, 1), (82, .iload_n 3, 1), (83, .iconst (-1), 1), (84, .if_icmp .ne 10, 3), (87, .aload_n 0, 1), (88, .iload_n 1, 1), (89, .iconst 4, 1), (90, .invokevirtual 267, 3), (93, .return_, 1), (94, .bipush 6, 2), (96, .iload_n 1, 1), (97, .imul, 1), (98, .iload_n 3, 1), (99, .iadd, 1), (100, .istore 4, 2), (102, .aload_n 0, 1), (103, .getfield 110, 3), (106, .iload 4, 2), (108, .iaload, 1), (109, .ifCond .ne 25, 3), (112, .aload_n 0, 1), (113, .getfield 113, 3), (116, .iload 4, 2), (118, .iconst (-1), 1), (119, .iastore, 1), (120, .aload_n 0, 1), (121, .getfield 116, 3), (124, .iload 4, 2), (126, .iconst (-1), 1), (127, .iastore, 1), (128, .aload_n 0, 1), (129, .iload_n 1, 1), (130, .iload_n 3, 1), (131, .invokevirtual 458, 3)]
theorem dx_M_packetComes_1 : ∀ p ∈ dt_M_packetComes_1, decode prog_12_method_74_code p.1 = .ok p.2 := by decide +kernel
theorem d_M_packetComes_1 {k pc : Nat} {i : Instr} {n : Nat} (h : dt_M_packetComes_1[k]? = some (pc, i, n)) : decode mi_M_packetComes.2.1 pc = .ok (i, n) := dx_M_packetComes_1 (pc, i, n) (List.mem_of_getElem? h)
def dt_M_packetComes_2 : List (Nat × Instr × Nat) := [(134, .aload_n 0, 1), (135, .getfield 170, 3), (138, .iload 4, 2), (140, .iaload, 1), (141, .bipush 6, 2), (143, .if_icmp .ne 10, 3), (146, .aload_n 0, 1), (147, .iload_n 1, 1), (148, .iconst 4, 1), (149, .invokevirtual 267, 3), (152, .return_, 1), (153, .aload_n 0, 1), (154, .getfield 170, 3), (157, .iload 4, 2), (159, .iaload, 1), (160, .istore 5, 2), (162, .aload_n 0, 1), (163, .getfield 167, 3), (166, .bipush 6, 2), (168, .iload 4, 2), (170, .imul, 1), (171, .iload 5, 2), (173, .iadd, 1), (174, .aload_n 0, 1), (175, .getfield 437, 3), (178, .iastore, 1), (179, .iconst 0, 1), (180, .istore 6, 2), (182, .iload 6, 2), (184, .aload_n 0, 1), (185, .getfield 437, 3), (188, .if_icmp .ge 35, 3), (191, .aload_n 0, 1), (192, .getfield 164, 3), (195, .bipush 96, 2), (197, .iload 4, 2), (199, .imul, 1), (200, .bipush 16, 2), (202, .iload 5, 2), (204, .imul, 1)]
theorem dx_M_packetComes_2 : ∀ p ∈ dt_M_packetComes_2, decode prog_12_method_74_code p.1 = .ok p.2 := by decide +kernel
theorem d_M_packetComes_2 {k pc : Nat} {i : Instr} {n : Nat} (h : dt_M_packetComes_2[k]? = some (pc, i, n)) : decode mi_M_packetComes.2.1 pc = .ok (i, n) := dx_M_packetComes_2 (pc, i, n) (List.mem_of_getElem? h)
def dt_M_packetComes_3 : List (Nat × Instr × Nat) := [(205, .iadd, 1), (206, .iload 6, 2), (208, .iadd, 1), (209, .aload_n 0, 1), (210, .getfield 191, 3), (213, .iload 6, 2), (215, .iaload, 1), (216, .iastore, 1), (217, .iinc 6 1, 3), (220, .goto (-38), 3), (223, .aload_n 0, 1), (224, .getfield 164, 3), (227, .bipush 96, 2), (229, .iload 4, 2), (231, .imul, 1), (232, .bipush 16, 2), (234, .iload 5, 2), (236, .imul, 1), (237, .iadd, 1), (238, .iconst 2, 1), (239, .iadd, 1), (240, .dup2, 1), (241, .iaload, 1), (242, .iconst 1, 1), (243, .isub, 1), (244, .iastore, 1), (245, .aload_n 0, 1), (246, .getfield 170, 3), (249, .iload 4, 2), (251, .dup2, 1), (252, .iaload, 1), (253, .iconst 1, 1), (254, .iadd, 1), (255, .iastore, 1), (256, .return_, 1)]
theorem dx_M_packetComes_3 : ∀ p ∈ dt_M_packetComes_3, decode prog_12_method_74_code p.1 = .ok p.2 := by decide +kernel
theorem d_M_packetComes_3 {k pc : Nat} {i : Instr} {n : Nat} (h : dt_M_packetComes_3[k]? = some (pc, i, n)) : decode mi_M_packetComes.2.1 pc = .ok (i, n) := dx_M_packetComes_3 (pc, i, n) (List.mem_of_getElem? h)
def q_M_packetComes_37 (t0 : Option Nat) (i1 : Int32) (M : mM) : Option (Unit × mM) :=
    x_cv M 10 t0 (q_M_count t0 i1 (3 : Int32) M) fun _ M =>
    some ((), M)
set_option maxRecDepth 20000 in
theorem v_M_packetComes_37 {E : mE} (t0 : Option Nat) (i1 : Int32) (M : mM) : mVr E mi_M_packetComes 5 37 [some (.inr t0), some (.inl i1), none, none, none, none, none] [] M enU (q_M_packetComes_37 t0 i1 M) := by
  unfold q_M_packetComes_37
  refine m_aload_n (d_M_packetComes_0 (k := 18) rfl) rfl ?_
  refine m_iload_n (d_M_packetComes_0 (k := 19) rfl) rfl ?_
  refine m_iconst (v := 3) (d_M_packetComes_0 (k := 20) rfl) (by decide) ?_
  refine m_cvU (c := 10) (vs := [.inl i1, .inl (3 : Int32)]) (st := []) (d_M_packetComes_0 (k := 21) rfl) (s_M_count t0 i1 (3 : Int32) M) cd_M_count ml_M_267 im_M_count se_M_count rfl (by decide) rfl (Nat.le_of_ble_eq_true rfl) (fun _ M => ?_)
  exact m_vret (d_M_packetComes_0 (k := 22) rfl) rfl
def q_M_packetComes_182_b (r182 : Option Nat → Int32 → Int32 → Int32 → mM → Option (Unit × mM)) (t0 : Option Nat) (i4 : Int32) (i5 : Int32) (i6 : Int32) (M : mM) : Option (Unit × mM) :=
    x_gI M 10 t0 77 fun x1 =>
    if i6 < x1 then
      x_gR M 10 t0 67 fun a2 =>
      x_gR M 10 t0 76 fun a3 =>
      x_aI M 0 a3 i6 fun x4 =>
      x_wI M a2 ((((96 : Int32) * i4) + ((16 : Int32) * i5)) + i6) x4 fun M =>
      r182 t0 i4 i5 (i6 + 1) M
    else
      x_gR M 10 t0 67 fun a5 =>
      x_lt ((((96 : Int32) * i4) + ((16 : Int32) * i5)) + (2 : Int32)) fun x6 =>
      x_aI M 0 a5 x6 fun x7 =>
      x_wI M a5 x6 (x7 - (1 : Int32)) fun M =>
      x_gR M 10 t0 69 fun a8 =>
      x_aI M 0 a8 i4 fun x9 =>
      x_wI M a8 i4 (x9 + (1 : Int32)) fun M =>
      some ((), M)
def q_M_packetComes_182 : Nat → Option Nat → Int32 → Int32 → Int32 → mM → Option (Unit × mM)
  | 0, _, _, _, _, _ => none
  | n + 1, t0, i4, i5, i6, M => q_M_packetComes_182_b (q_M_packetComes_182 n) t0 i4 i5 i6 M
set_option maxRecDepth 20000 in
theorem v_M_packetComes_182_b {E : mE} (r182 : Option Nat → Int32 → Int32 → Int32 → mM → Option (Unit × mM)) (h182 : ∀ (t0 : Option Nat) (i4 : Int32) (i5 : Int32) (i6 : Int32) (M : mM), mVr E mi_M_packetComes 5 182 [some (.inr t0), none, none, none, some (.inl i4), some (.inl i5), some (.inl i6)] [] M enU (r182 t0 i4 i5 i6 M)) (t0 : Option Nat) (i4 : Int32) (i5 : Int32) (i6 : Int32) (M : mM) : mVr E mi_M_packetComes 5 182 [some (.inr t0), none, none, none, some (.inl i4), some (.inl i5), some (.inl i6)] [] M enU (q_M_packetComes_182_b r182 t0 i4 i5 i6 M) := by
  unfold q_M_packetComes_182_b
  refine m_iload (d_M_packetComes_2 (k := 28) rfl) rfl ?_
  refine m_aload_n (d_M_packetComes_2 (k := 29) rfl) rfl ?_
  refine m_getI (d_M_packetComes_2 (k := 30) rfl) fl_M_437 rfl (fun x1 => ?_)
  refine m_icmp_ge (tgt := 223) (d_M_packetComes_2 (k := 31) rfl) rfl ?_ ?_
  · refine m_aload_n (d_M_packetComes_2 (k := 32) rfl) rfl ?_
    refine m_getR (d_M_packetComes_2 (k := 33) rfl) fl_M_164 rfl (fun a2 => ?_)
    refine m_bipush (v := 96) (d_M_packetComes_2 (k := 34) rfl) (by decide) ?_
    refine m_iload (d_M_packetComes_2 (k := 35) rfl) rfl ?_
    refine m_imul (d_M_packetComes_2 (k := 36) rfl) ?_
    refine m_bipush (v := 16) (d_M_packetComes_2 (k := 37) rfl) (by decide) ?_
    refine m_iload (d_M_packetComes_2 (k := 38) rfl) rfl ?_
    refine m_imul (d_M_packetComes_2 (k := 39) rfl) ?_
    refine m_iadd (d_M_packetComes_3 (k := 0) rfl) ?_
    refine m_iload (d_M_packetComes_3 (k := 1) rfl) rfl ?_
    refine m_iadd (d_M_packetComes_3 (k := 2) rfl) ?_
    refine m_aload_n (d_M_packetComes_3 (k := 3) rfl) rfl ?_
    refine m_getR (d_M_packetComes_3 (k := 4) rfl) fl_M_191 rfl (fun a3 => ?_)
    refine m_iload (d_M_packetComes_3 (k := 5) rfl) rfl ?_
    refine m_iald (d_M_packetComes_3 (k := 6) rfl) (fun x4 => ?_)
    refine m_iast (d_M_packetComes_3 (k := 7) rfl) (fun M => ?_)
    refine m_inc (v := 1) (ls' := [some (.inr t0), none, none, none, some (.inl i4), some (.inl i5), some (.inl (i6 + 1))]) (d_M_packetComes_3 (k := 8) rfl) rfl (by decide) (by decide) rfl ?_
    refine m_goto (tgt := 182) (d_M_packetComes_3 (k := 9) rfl) rfl ?_
    exact m_drop (mles_s (mles_n (mles_n (mles_n (mles_s (mles_s (mles_s mles_0))))))) (h182 t0 i4 i5 (i6 + 1) M)
  · refine m_aload_n (d_M_packetComes_3 (k := 10) rfl) rfl ?_
    refine m_getR (d_M_packetComes_3 (k := 11) rfl) fl_M_164 rfl (fun a5 => ?_)
    refine m_bipush (v := 96) (d_M_packetComes_3 (k := 12) rfl) (by decide) ?_
    refine m_iload (d_M_packetComes_3 (k := 13) rfl) rfl ?_
    refine m_imul (d_M_packetComes_3 (k := 14) rfl) ?_
    refine m_bipush (v := 16) (d_M_packetComes_3 (k := 15) rfl) (by decide) ?_
    refine m_iload (d_M_packetComes_3 (k := 16) rfl) rfl ?_
    refine m_imul (d_M_packetComes_3 (k := 17) rfl) ?_
    refine m_iadd (d_M_packetComes_3 (k := 18) rfl) ?_
    refine m_iconst (v := 2) (d_M_packetComes_3 (k := 19) rfl) (by decide) ?_
    refine m_iadd (d_M_packetComes_3 (k := 20) rfl) ?_
    refine m_lt (fun x6 => ?_)
    refine m_dup2 (d_M_packetComes_3 (k := 21) rfl) ?_
    refine m_iald (d_M_packetComes_3 (k := 22) rfl) (fun x7 => ?_)
    refine m_iconst (v := 1) (d_M_packetComes_3 (k := 23) rfl) (by decide) ?_
    refine m_isub (d_M_packetComes_3 (k := 24) rfl) ?_
    refine m_iast (d_M_packetComes_3 (k := 25) rfl) (fun M => ?_)
    refine m_aload_n (d_M_packetComes_3 (k := 26) rfl) rfl ?_
    refine m_getR (d_M_packetComes_3 (k := 27) rfl) fl_M_170 rfl (fun a8 => ?_)
    refine m_iload (d_M_packetComes_3 (k := 28) rfl) rfl ?_
    refine m_dup2 (d_M_packetComes_3 (k := 29) rfl) ?_
    refine m_iald (d_M_packetComes_3 (k := 30) rfl) (fun x9 => ?_)
    refine m_iconst (v := 1) (d_M_packetComes_3 (k := 31) rfl) (by decide) ?_
    refine m_iadd (d_M_packetComes_3 (k := 32) rfl) ?_
    refine m_iast (d_M_packetComes_3 (k := 33) rfl) (fun M => ?_)
    exact m_vret (d_M_packetComes_3 (k := 34) rfl) rfl
theorem v_M_packetComes_182 {E : mE} : ∀ (n : Nat) (t0 : Option Nat) (i4 : Int32) (i5 : Int32) (i6 : Int32) (M : mM), mVr E mi_M_packetComes 5 182 [some (.inr t0), none, none, none, some (.inl i4), some (.inl i5), some (.inl i6)] [] M enU (q_M_packetComes_182 n t0 i4 i5 i6 M)
  | 0, _, _, _, _, _ => m_none
  | n + 1, t0, i4, i5, i6, M => v_M_packetComes_182_b _ (v_M_packetComes_182 n) t0 i4 i5 i6 M
def q_M_packetComes_134 (t0 : Option Nat) (i1 : Int32) (i4 : Int32) (M : mM) : Option (Unit × mM) :=
    x_gR M 10 t0 69 fun a1 =>
    x_aI M 0 a1 i4 fun x2 =>
    if x2 = (6 : Int32) then
      x_cv M 10 t0 (q_M_count t0 i1 (4 : Int32) M) fun _ M =>
      some ((), M)
    else
      x_gR M 10 t0 69 fun a3 =>
      x_aI M 0 a3 i4 fun x4 =>
      x_gR M 10 t0 68 fun a5 =>
      x_gI M 10 t0 77 fun x6 =>
      x_wI M a5 (((6 : Int32) * i4) + x4) x6 fun M =>
      q_M_packetComes_182 mFU t0 i4 x4 (0 : Int32) M
set_option maxRecDepth 20000 in
theorem v_M_packetComes_134 {E : mE} (t0 : Option Nat) (i1 : Int32) (i4 : Int32) (M : mM) : mVr E mi_M_packetComes 5 134 [some (.inr t0), some (.inl i1), none, none, some (.inl i4), none, none] [] M enU (q_M_packetComes_134 t0 i1 i4 M) := by
  unfold q_M_packetComes_134
  refine m_aload_n (d_M_packetComes_2 (k := 0) rfl) rfl ?_
  refine m_getR (d_M_packetComes_2 (k := 1) rfl) fl_M_170 rfl (fun a1 => ?_)
  refine m_iload (d_M_packetComes_2 (k := 2) rfl) rfl ?_
  refine m_iald (d_M_packetComes_2 (k := 3) rfl) (fun x2 => ?_)
  refine m_bipush (v := 6) (d_M_packetComes_2 (k := 4) rfl) (by decide) ?_
  refine m_icmp_ne (tgt := 153) (d_M_packetComes_2 (k := 5) rfl) rfl ?_ ?_
  · refine m_aload_n (d_M_packetComes_2 (k := 6) rfl) rfl ?_
    refine m_iload_n (d_M_packetComes_2 (k := 7) rfl) rfl ?_
    refine m_iconst (v := 4) (d_M_packetComes_2 (k := 8) rfl) (by decide) ?_
    refine m_cvU (c := 10) (vs := [.inl i1, .inl (4 : Int32)]) (st := []) (d_M_packetComes_2 (k := 9) rfl) (s_M_count t0 i1 (4 : Int32) M) cd_M_count ml_M_267 im_M_count se_M_count rfl (by decide) rfl (Nat.le_of_ble_eq_true rfl) (fun _ M => ?_)
    exact m_vret (d_M_packetComes_2 (k := 10) rfl) rfl
  · refine m_aload_n (d_M_packetComes_2 (k := 11) rfl) rfl ?_
    refine m_getR (d_M_packetComes_2 (k := 12) rfl) fl_M_170 rfl (fun a3 => ?_)
    refine m_iload (d_M_packetComes_2 (k := 13) rfl) rfl ?_
    refine m_iald (d_M_packetComes_2 (k := 14) rfl) (fun x4 => ?_)
    refine m_ist (ls' := [some (.inr t0), some (.inl i1), none, none, some (.inl i4), some (.inl x4), none]) (d_M_packetComes_2 (k := 15) rfl) (by decide) rfl ?_
    refine m_aload_n (d_M_packetComes_2 (k := 16) rfl) rfl ?_
    refine m_getR (d_M_packetComes_2 (k := 17) rfl) fl_M_167 rfl (fun a5 => ?_)
    refine m_bipush (v := 6) (d_M_packetComes_2 (k := 18) rfl) (by decide) ?_
    refine m_iload (d_M_packetComes_2 (k := 19) rfl) rfl ?_
    refine m_imul (d_M_packetComes_2 (k := 20) rfl) ?_
    refine m_iload (d_M_packetComes_2 (k := 21) rfl) rfl ?_
    refine m_iadd (d_M_packetComes_2 (k := 22) rfl) ?_
    refine m_aload_n (d_M_packetComes_2 (k := 23) rfl) rfl ?_
    refine m_getI (d_M_packetComes_2 (k := 24) rfl) fl_M_437 rfl (fun x6 => ?_)
    refine m_iast (d_M_packetComes_2 (k := 25) rfl) (fun M => ?_)
    refine m_iconst (v := 0) (d_M_packetComes_2 (k := 26) rfl) (by decide) ?_
    refine m_ist (ls' := [some (.inr t0), some (.inl i1), none, none, some (.inl i4), some (.inl x4), some (.inl (0 : Int32))]) (d_M_packetComes_2 (k := 27) rfl) (by decide) rfl ?_
    exact m_drop (mles_s (mles_n (mles_n (mles_n (mles_s (mles_s (mles_s mles_0))))))) (v_M_packetComes_182 mFU t0 i4 x4 (0 : Int32) M)
def q_M_packetComes_81 (t0 : Option Nat) (i1 : Int32) (j0 : Int32) (M : mM) : Option (Unit × mM) :=
    if j0 = (-1 : Int32) then
      x_cv M 10 t0 (q_M_count t0 i1 (4 : Int32) M) fun _ M =>
      some ((), M)
    else
      x_lt (((6 : Int32) * i1) + j0) fun x1 =>
      x_gR M 10 t0 49 fun a2 =>
      x_aI M 0 a2 x1 fun x3 =>
      if x3 = 0 then
        x_gR M 10 t0 50 fun a4 =>
        x_wI M a4 x1 (-1 : Int32) fun M =>
        x_gR M 10 t0 51 fun a5 =>
        x_wI M a5 x1 (-1 : Int32) fun M =>
        x_cv M 10 t0 (q_M_called t0 i1 j0 M) fun _ M =>
        q_M_packetComes_134 t0 i1 x1 M
      else
        q_M_packetComes_134 t0 i1 x1 M
set_option maxRecDepth 20000 in
theorem v_M_packetComes_81 {E : mE} (t0 : Option Nat) (i1 : Int32) (j0 : Int32) (M : mM) : mVr E mi_M_packetComes 5 81 [some (.inr t0), some (.inl i1), none, none, none, none, none] [.inl j0] M enU (q_M_packetComes_81 t0 i1 j0 M) := by
  unfold q_M_packetComes_81
  refine m_ist_n (ls' := [some (.inr t0), some (.inl i1), none, some (.inl j0), none, none, none]) (d_M_packetComes_1 (k := 6) rfl) (by decide) rfl ?_
  refine m_iload_n (d_M_packetComes_1 (k := 7) rfl) rfl ?_
  refine m_iconst (v := (-1)) (d_M_packetComes_1 (k := 8) rfl) (by decide) ?_
  refine m_icmp_ne (tgt := 94) (d_M_packetComes_1 (k := 9) rfl) rfl ?_ ?_
  · refine m_aload_n (d_M_packetComes_1 (k := 10) rfl) rfl ?_
    refine m_iload_n (d_M_packetComes_1 (k := 11) rfl) rfl ?_
    refine m_iconst (v := 4) (d_M_packetComes_1 (k := 12) rfl) (by decide) ?_
    refine m_cvU (c := 10) (vs := [.inl i1, .inl (4 : Int32)]) (st := []) (d_M_packetComes_1 (k := 13) rfl) (s_M_count t0 i1 (4 : Int32) M) cd_M_count ml_M_267 im_M_count se_M_count rfl (by decide) rfl (Nat.le_of_ble_eq_true rfl) (fun _ M => ?_)
    exact m_vret (d_M_packetComes_1 (k := 14) rfl) rfl
  · refine m_bipush (v := 6) (d_M_packetComes_1 (k := 15) rfl) (by decide) ?_
    refine m_iload_n (d_M_packetComes_1 (k := 16) rfl) rfl ?_
    refine m_imul (d_M_packetComes_1 (k := 17) rfl) ?_
    refine m_iload_n (d_M_packetComes_1 (k := 18) rfl) rfl ?_
    refine m_iadd (d_M_packetComes_1 (k := 19) rfl) ?_
    refine m_lt (fun x1 => ?_)
    refine m_ist (ls' := [some (.inr t0), some (.inl i1), none, some (.inl j0), some (.inl x1), none, none]) (d_M_packetComes_1 (k := 20) rfl) (by decide) rfl ?_
    refine m_aload_n (d_M_packetComes_1 (k := 21) rfl) rfl ?_
    refine m_getR (d_M_packetComes_1 (k := 22) rfl) fl_M_110 rfl (fun a2 => ?_)
    refine m_iload (d_M_packetComes_1 (k := 23) rfl) rfl ?_
    refine m_iald (d_M_packetComes_1 (k := 24) rfl) (fun x3 => ?_)
    refine m_if_ne (tgt := 134) (d_M_packetComes_1 (k := 25) rfl) rfl ?_ ?_
    · refine m_aload_n (d_M_packetComes_1 (k := 26) rfl) rfl ?_
      refine m_getR (d_M_packetComes_1 (k := 27) rfl) fl_M_113 rfl (fun a4 => ?_)
      refine m_iload (d_M_packetComes_1 (k := 28) rfl) rfl ?_
      refine m_iconst (v := (-1)) (d_M_packetComes_1 (k := 29) rfl) (by decide) ?_
      refine m_iast (d_M_packetComes_1 (k := 30) rfl) (fun M => ?_)
      refine m_aload_n (d_M_packetComes_1 (k := 31) rfl) rfl ?_
      refine m_getR (d_M_packetComes_1 (k := 32) rfl) fl_M_116 rfl (fun a5 => ?_)
      refine m_iload (d_M_packetComes_1 (k := 33) rfl) rfl ?_
      refine m_iconst (v := (-1)) (d_M_packetComes_1 (k := 34) rfl) (by decide) ?_
      refine m_iast (d_M_packetComes_1 (k := 35) rfl) (fun M => ?_)
      refine m_aload_n (d_M_packetComes_1 (k := 36) rfl) rfl ?_
      refine m_iload_n (d_M_packetComes_1 (k := 37) rfl) rfl ?_
      refine m_iload_n (d_M_packetComes_1 (k := 38) rfl) rfl ?_
      refine m_cvU (c := 10) (vs := [.inl i1, .inl j0]) (st := []) (d_M_packetComes_1 (k := 39) rfl) (s_M_called t0 i1 j0 M) cd_M_called ml_M_458 im_M_called se_M_called rfl (by decide) rfl (Nat.le_of_ble_eq_true rfl) (fun _ M => ?_)
      exact m_drop (mles_s (mles_s (mles_n (mles_n (mles_s (mles_n (mles_n mles_0))))))) (v_M_packetComes_134 t0 i1 x1 M)
    · exact m_drop (mles_s (mles_s (mles_n (mles_n (mles_s (mles_n (mles_n mles_0))))))) (v_M_packetComes_134 t0 i1 x1 M)
def q_M_packetComes (t0 : Option Nat) (i1 : Int32) (M : mM) : Option (Unit × mM) :=
    x_gI M 10 t0 77 fun x1 =>
    x_cl (q_M_in x1 (5 : Int32) (16 : Int32) M) fun x2 M =>
    if x2 = 0 then
      q_M_packetComes_37 t0 i1 M
    else
      x_gR M 10 t0 76 fun a3 =>
      x_aI M 0 a3 (0 : Int32) fun x4 =>
      x_cl (q_M_isStation x4 M) fun x5 M =>
      if x5 = 0 then
        q_M_packetComes_37 t0 i1 M
      else
        x_gR M 10 t0 76 fun a6 =>
        x_aI M 0 a6 (1 : Int32) fun x7 =>
        x_cl (q_M_isStation x7 M) fun x8 M =>
        if x8 = 0 then
          q_M_packetComes_37 t0 i1 M
        else
          x_gR M 10 t0 76 fun a9 =>
          x_aI M 0 a9 (1 : Int32) fun x10 =>
          if x10 = i1 then
            x_cv M 10 t0 (q_M_keepLetter t0 i1 M) fun _ M =>
            some ((), M)
          else
            x_gR M 10 t0 76 fun a11 =>
            x_aI M 0 a11 (2 : Int32) fun x12 =>
            if x12 = 0 then
              q_M_packetComes_81 t0 i1 (-1 : Int32) M
            else
              x_cv M 10 t0 (q_M_bestTo t0 i1 x10 M) fun x13 M =>
              q_M_packetComes_81 t0 i1 x13 M
set_option maxRecDepth 20000 in
theorem v_M_packetComes {E : mE} (t0 : Option Nat) (i1 : Int32) (M : mM) : mVr E mi_M_packetComes 5 0 [some (.inr t0), some (.inl i1), none, none, none, none, none] [] M enU (q_M_packetComes t0 i1 M) := by
  unfold q_M_packetComes
  refine m_aload_n (d_M_packetComes_0 (k := 0) rfl) rfl ?_
  refine m_getI (d_M_packetComes_0 (k := 1) rfl) fl_M_437 rfl (fun x1 => ?_)
  refine m_iconst (v := 5) (d_M_packetComes_0 (k := 2) rfl) (by decide) ?_
  refine m_bipush (v := 16) (d_M_packetComes_0 (k := 3) rfl) (by decide) ?_
  refine m_csI (vs := [.inl x1, .inl (5 : Int32), .inl (16 : Int32)]) (st := []) (d_M_packetComes_0 (k := 4) rfl) (s_M_in x1 (5 : Int32) (16 : Int32) M) cd_M_in ml_M_203 sa_M_in (by decide) rfl (Nat.le_of_ble_eq_true rfl) (fun x2 M => ?_)
  refine m_if_eq (tgt := 37) (d_M_packetComes_0 (k := 5) rfl) rfl ?_ ?_
  · exact m_drop (mles_s (mles_s (mles_n (mles_n (mles_n (mles_n (mles_n mles_0))))))) (v_M_packetComes_37 t0 i1 M)
  · refine m_aload_n (d_M_packetComes_0 (k := 6) rfl) rfl ?_
    refine m_getR (d_M_packetComes_0 (k := 7) rfl) fl_M_191 rfl (fun a3 => ?_)
    refine m_iconst (v := 0) (d_M_packetComes_0 (k := 8) rfl) (by decide) ?_
    refine m_iald (d_M_packetComes_0 (k := 9) rfl) (fun x4 => ?_)
    refine m_csI (vs := [.inl x4]) (st := []) (d_M_packetComes_0 (k := 10) rfl) (s_M_isStation x4 M) cd_M_isStation ml_M_207 sa_M_isStation (by decide) rfl (Nat.le_of_ble_eq_true rfl) (fun x5 M => ?_)
    refine m_if_eq (tgt := 37) (d_M_packetComes_0 (k := 11) rfl) rfl ?_ ?_
    · exact m_drop (mles_s (mles_s (mles_n (mles_n (mles_n (mles_n (mles_n mles_0))))))) (v_M_packetComes_37 t0 i1 M)
    · refine m_aload_n (d_M_packetComes_0 (k := 12) rfl) rfl ?_
      refine m_getR (d_M_packetComes_0 (k := 13) rfl) fl_M_191 rfl (fun a6 => ?_)
      refine m_iconst (v := 1) (d_M_packetComes_0 (k := 14) rfl) (by decide) ?_
      refine m_iald (d_M_packetComes_0 (k := 15) rfl) (fun x7 => ?_)
      refine m_csI (vs := [.inl x7]) (st := []) (d_M_packetComes_0 (k := 16) rfl) (s_M_isStation x7 M) cd_M_isStation ml_M_207 sa_M_isStation (by decide) rfl (Nat.le_of_ble_eq_true rfl) (fun x8 M => ?_)
      refine m_if_ne (tgt := 44) (d_M_packetComes_0 (k := 17) rfl) rfl ?_ ?_
      · exact m_drop (mles_s (mles_s (mles_n (mles_n (mles_n (mles_n (mles_n mles_0))))))) (v_M_packetComes_37 t0 i1 M)
      · refine m_aload_n (d_M_packetComes_0 (k := 23) rfl) rfl ?_
        refine m_getR (d_M_packetComes_0 (k := 24) rfl) fl_M_191 rfl (fun a9 => ?_)
        refine m_iconst (v := 1) (d_M_packetComes_0 (k := 25) rfl) (by decide) ?_
        refine m_iald (d_M_packetComes_0 (k := 26) rfl) (fun x10 => ?_)
        refine m_ist_n (ls' := [some (.inr t0), some (.inl i1), some (.inl x10), none, none, none, none]) (d_M_packetComes_0 (k := 27) rfl) (by decide) rfl ?_
        refine m_iload_n (d_M_packetComes_0 (k := 28) rfl) rfl ?_
        refine m_iload_n (d_M_packetComes_0 (k := 29) rfl) rfl ?_
        refine m_icmp_ne (tgt := 62) (d_M_packetComes_0 (k := 30) rfl) rfl ?_ ?_
        · refine m_aload_n (d_M_packetComes_0 (k := 31) rfl) rfl ?_
          refine m_iload_n (d_M_packetComes_0 (k := 32) rfl) rfl ?_
          refine m_cvU (c := 10) (vs := [.inl i1]) (st := []) (d_M_packetComes_0 (k := 33) rfl) (s_M_keepLetter t0 i1 M) cd_M_keepLetter ml_M_455 im_M_keepLetter se_M_keepLetter rfl (by decide) rfl (Nat.le_of_ble_eq_true rfl) (fun _ M => ?_)
          exact m_vret (d_M_packetComes_0 (k := 34) rfl) rfl
        · refine m_aload_n (d_M_packetComes_0 (k := 35) rfl) rfl ?_
          refine m_getR (d_M_packetComes_0 (k := 36) rfl) fl_M_191 rfl (fun a11 => ?_)
          refine m_iconst (v := 2) (d_M_packetComes_0 (k := 37) rfl) (by decide) ?_
          refine m_iald (d_M_packetComes_0 (k := 38) rfl) (fun x12 => ?_)
          refine m_if_ne (tgt := 75) (d_M_packetComes_0 (k := 39) rfl) rfl ?_ ?_
          · refine m_iconst (v := (-1)) (d_M_packetComes_1 (k := 0) rfl) (by decide) ?_
            refine m_goto (tgt := 81) (d_M_packetComes_1 (k := 1) rfl) rfl ?_
            exact m_drop (mles_s (mles_s (mles_n (mles_n (mles_n (mles_n (mles_n mles_0))))))) (v_M_packetComes_81 t0 i1 (-1 : Int32) M)
          · refine m_aload_n (d_M_packetComes_1 (k := 2) rfl) rfl ?_
            refine m_iload_n (d_M_packetComes_1 (k := 3) rfl) rfl ?_
            refine m_iload_n (d_M_packetComes_1 (k := 4) rfl) rfl ?_
            refine m_cvI (c := 10) (vs := [.inl i1, .inl x10]) (st := []) (d_M_packetComes_1 (k := 5) rfl) (s_M_bestTo t0 i1 x10 M) cd_M_bestTo ml_M_449 im_M_bestTo se_M_bestTo rfl (by decide) rfl (Nat.le_of_ble_eq_true rfl) (fun x13 M => ?_)
            exact m_drop (mles_s (mles_s (mles_n (mles_n (mles_n (mles_n (mles_n mles_0))))))) (v_M_packetComes_81 t0 i1 x13 M)
theorem s_M_packetComes {E : mE} (t0 : Option Nat) (i1 : Int32) (M : mM) : mSnd E mi_M_packetComes 5 [.inr t0, .inl i1] M enU (q_M_packetComes t0 i1 M) := m_entryU (by decide) (Nat.le_of_ble_eq_true rfl) rfl (m_drop (mles_s (mles_s (mles_e (mles_e (mles_e (mles_e (mles_e mles_0))))))) (v_M_packetComes t0 i1 M))
def dt_M_letter2 : List (Nat × Instr × Nat) := [(0, .aload_n 0, 1), (1, .getfield 211, 3), (4, .istore_n 3, 1), (5, .aload_n 0, 1), (6, .iconst 0, 1), (7, .putfield 211, 3), (10, .iload_n 1, 1), (11, .invokestatic 207, 3), (14, .ifCond .eq 20, 3), (17, .iload_n 2, 1), (18, .invokestatic 207, 3), (21, .ifCond .eq 13, 3), (24, .iload_n 3, 1), (25, .iconst 1, 1), (26, .bipush 12, 2), (28, .invokestatic 203, 3), (31, .ifCond .ne 5, 3), (34, .iconst (-1), 1), (35, .ireturn, 1), (36, .aload_n 0, 1), (37, .getfield 200, 3), (40, .iload_n 1, 1), (41, .iaload, 1), (42, .sipush 255, 3), (45, .iand, 1), (46, .istore 4, 2), (48, .aload_n 0, 1), (49, .getfield 200, 3), (52, .iload_n 1, 1), (53, .dup2, 1), (54, .iaload, 1), (55, .iconst 1, 1), (56, .iadd, 1), (57, .iastore, 1), (58, .aload_n 0, 1), (59, .getfield 191, 3), (62, .iconst 0, 1), (63, .iload_n 1, 1), (64, .iastore, 1), (65, .aload_n 0, 1), (66, .getfield 191, 3), (69, .iconst 1, 1), (70, .iload_n 2, 1), (71, .iastore, 1), (72, .aload_n 0, 1), (73, .getfield 191, 3), (76, .iconst 2, 1), (77, .bipush 8, 2), (79, .iastore, 1), (80, .aload_n 0, 1), (81, .getfield 191, 3), (84, .iconst 3, 1), (85, .iload 4, 2), (87, .iastore, 1), (88, .iconst 0, 1), (89, .istore 5, 2), (91, .iload 5, 2), (93, .iload_n 3, 1), (94, .if_icmp .ge 25, 3), (97, .aload_n 0, 1), (98, .getfield 191, 3), (101, .iconst 4, 1), (102, .iload 5, 2), (104, .iadd, 1), (105, .aload_n 0, 1), (106, .getfield 7, 3), (109, .iload 5, 2), (111, .iaload, 1), (112, .iastore, 1), (113, .iinc 5 1, 3), (116, .goto (-25), 3), (119, .aload_n 0, 1), (120, .iload_n 3, 1), (121, .iconst 4, 1), (122, .iadd, 1), (123, .putfield 437, 3), (126, .aload_n 0, 1), (127, .iload_n 1, 1), (128, .invokevirtual 440, 3), (131, .iload 4, 2), (133, .ireturn, 1)]
theorem dx_M_letter2 : ∀ p ∈ dt_M_letter2, decode prog_12_method_80_code p.1 = .ok p.2 := by decide +kernel
theorem d_M_letter2 {k pc : Nat} {i : Instr} {n : Nat} (h : dt_M_letter2[k]? = some (pc, i, n)) : decode mi_M_letter2.2.1 pc = .ok (i, n) := dx_M_letter2 (pc, i, n) (List.mem_of_getElem? h)
def q_M_letter2_91_b (r91 : Option Nat → Int32 → Int32 → Int32 → Int32 → mM → Option (Int32 × mM)) (t0 : Option Nat) (i1 : Int32) (i3 : Int32) (i4 : Int32) (i5 : Int32) (M : mM) : Option (Int32 × mM) :=
    if i5 < i3 then
      x_gR M 10 t0 76 fun a1 =>
      x_gR M 10 t0 0 fun a2 =>
      x_aI M 0 a2 i5 fun x3 =>
      x_wI M a1 ((4 : Int32) + i5) x3 fun M =>
      r91 t0 i1 i3 i4 (i5 + 1) M
    else
      x_pI M 10 t0 77 (i3 + (4 : Int32)) fun M =>
      x_cv M 10 t0 (q_M_packetComes t0 i1 M) fun _ M =>
      some (i4, M)
def q_M_letter2_91 : Nat → Option Nat → Int32 → Int32 → Int32 → Int32 → mM → Option (Int32 × mM)
  | 0, _, _, _, _, _, _ => none
  | n + 1, t0, i1, i3, i4, i5, M => q_M_letter2_91_b (q_M_letter2_91 n) t0 i1 i3 i4 i5 M
set_option maxRecDepth 20000 in
theorem v_M_letter2_91_b {E : mE} (r91 : Option Nat → Int32 → Int32 → Int32 → Int32 → mM → Option (Int32 × mM)) (h91 : ∀ (t0 : Option Nat) (i1 : Int32) (i3 : Int32) (i4 : Int32) (i5 : Int32) (M : mM), mVr E mi_M_letter2 6 91 [some (.inr t0), some (.inl i1), none, some (.inl i3), some (.inl i4), some (.inl i5)] [] M enI (r91 t0 i1 i3 i4 i5 M)) (t0 : Option Nat) (i1 : Int32) (i3 : Int32) (i4 : Int32) (i5 : Int32) (M : mM) : mVr E mi_M_letter2 6 91 [some (.inr t0), some (.inl i1), none, some (.inl i3), some (.inl i4), some (.inl i5)] [] M enI (q_M_letter2_91_b r91 t0 i1 i3 i4 i5 M) := by
  unfold q_M_letter2_91_b
  refine m_iload (d_M_letter2 (k := 56) rfl) rfl ?_
  refine m_iload_n (d_M_letter2 (k := 57) rfl) rfl ?_
  refine m_icmp_ge (tgt := 119) (d_M_letter2 (k := 58) rfl) rfl ?_ ?_
  · refine m_aload_n (d_M_letter2 (k := 59) rfl) rfl ?_
    refine m_getR (d_M_letter2 (k := 60) rfl) fl_M_191 rfl (fun a1 => ?_)
    refine m_iconst (v := 4) (d_M_letter2 (k := 61) rfl) (by decide) ?_
    refine m_iload (d_M_letter2 (k := 62) rfl) rfl ?_
    refine m_iadd (d_M_letter2 (k := 63) rfl) ?_
    refine m_aload_n (d_M_letter2 (k := 64) rfl) rfl ?_
    refine m_getR (d_M_letter2 (k := 65) rfl) fl_M_7 rfl (fun a2 => ?_)
    refine m_iload (d_M_letter2 (k := 66) rfl) rfl ?_
    refine m_iald (d_M_letter2 (k := 67) rfl) (fun x3 => ?_)
    refine m_iast (d_M_letter2 (k := 68) rfl) (fun M => ?_)
    refine m_inc (v := 1) (ls' := [some (.inr t0), some (.inl i1), none, some (.inl i3), some (.inl i4), some (.inl (i5 + 1))]) (d_M_letter2 (k := 69) rfl) rfl (by decide) (by decide) rfl ?_
    refine m_goto (tgt := 91) (d_M_letter2 (k := 70) rfl) rfl ?_
    exact m_drop (mles_s (mles_s (mles_n (mles_s (mles_s (mles_s mles_0)))))) (h91 t0 i1 i3 i4 (i5 + 1) M)
  · refine m_aload_n (d_M_letter2 (k := 71) rfl) rfl ?_
    refine m_iload_n (d_M_letter2 (k := 72) rfl) rfl ?_
    refine m_iconst (v := 4) (d_M_letter2 (k := 73) rfl) (by decide) ?_
    refine m_iadd (d_M_letter2 (k := 74) rfl) ?_
    refine m_pI (d_M_letter2 (k := 75) rfl) fp_M_437 (fun h => absurd h (by decide)) rfl (fun M => ?_)
    refine m_aload_n (d_M_letter2 (k := 76) rfl) rfl ?_
    refine m_iload_n (d_M_letter2 (k := 77) rfl) rfl ?_
    refine m_cvU (c := 10) (vs := [.inl i1]) (st := []) (d_M_letter2 (k := 78) rfl) (s_M_packetComes t0 i1 M) cd_M_packetComes ml_M_440 im_M_packetComes se_M_packetComes rfl (by decide) rfl (Nat.le_of_ble_eq_true rfl) (fun _ M => ?_)
    refine m_iload (d_M_letter2 (k := 79) rfl) rfl ?_
    exact m_iret (d_M_letter2 (k := 80) rfl) rfl
theorem v_M_letter2_91 {E : mE} : ∀ (n : Nat) (t0 : Option Nat) (i1 : Int32) (i3 : Int32) (i4 : Int32) (i5 : Int32) (M : mM), mVr E mi_M_letter2 6 91 [some (.inr t0), some (.inl i1), none, some (.inl i3), some (.inl i4), some (.inl i5)] [] M enI (q_M_letter2_91 n t0 i1 i3 i4 i5 M)
  | 0, _, _, _, _, _, _ => m_none
  | n + 1, t0, i1, i3, i4, i5, M => v_M_letter2_91_b _ (v_M_letter2_91 n) t0 i1 i3 i4 i5 M
def q_M_letter2 (t0 : Option Nat) (i1 : Int32) (i2 : Int32) (M : mM) : Option (Int32 × mM) :=
    x_gI M 10 t0 1 fun x1 =>
    x_pI M 10 t0 1 (0 : Int32) fun M =>
    x_cl (q_M_isStation i1 M) fun x2 M =>
    if x2 = 0 then
      some ((-1 : Int32), M)
    else
      x_cl (q_M_isStation i2 M) fun x3 M =>
      if x3 = 0 then
        some ((-1 : Int32), M)
      else
        x_cl (q_M_in x1 (1 : Int32) (12 : Int32) M) fun x4 M =>
        if x4 = 0 then
          some ((-1 : Int32), M)
        else
          x_gR M 10 t0 80 fun a5 =>
          x_aI M 0 a5 i1 fun x6 =>
          x_lt (x6 &&& (255 : Int32)) fun x7 =>
          x_gR M 10 t0 80 fun a8 =>
          x_aI M 0 a8 i1 fun x9 =>
          x_wI M a8 i1 (x9 + (1 : Int32)) fun M =>
          x_gR M 10 t0 76 fun a10 =>
          x_wI M a10 (0 : Int32) i1 fun M =>
          x_gR M 10 t0 76 fun a11 =>
          x_wI M a11 (1 : Int32) i2 fun M =>
          x_gR M 10 t0 76 fun a12 =>
          x_wI M a12 (2 : Int32) (8 : Int32) fun M =>
          x_gR M 10 t0 76 fun a13 =>
          x_wI M a13 (3 : Int32) x7 fun M =>
          q_M_letter2_91 mFU t0 i1 x1 x7 (0 : Int32) M
set_option maxRecDepth 20000 in
theorem v_M_letter2 {E : mE} (t0 : Option Nat) (i1 : Int32) (i2 : Int32) (M : mM) : mVr E mi_M_letter2 6 0 [some (.inr t0), some (.inl i1), some (.inl i2), none, none, none] [] M enI (q_M_letter2 t0 i1 i2 M) := by
  unfold q_M_letter2
  refine m_aload_n (d_M_letter2 (k := 0) rfl) rfl ?_
  refine m_getI (d_M_letter2 (k := 1) rfl) fl_M_211 rfl (fun x1 => ?_)
  refine m_ist_n (ls' := [some (.inr t0), some (.inl i1), some (.inl i2), some (.inl x1), none, none]) (d_M_letter2 (k := 2) rfl) (by decide) rfl ?_
  refine m_aload_n (d_M_letter2 (k := 3) rfl) rfl ?_
  refine m_iconst (v := 0) (d_M_letter2 (k := 4) rfl) (by decide) ?_
  refine m_pI (d_M_letter2 (k := 5) rfl) fp_M_211 (fun h => absurd h (by decide)) rfl (fun M => ?_)
  refine m_iload_n (d_M_letter2 (k := 6) rfl) rfl ?_
  refine m_csI (vs := [.inl i1]) (st := []) (d_M_letter2 (k := 7) rfl) (s_M_isStation i1 M) cd_M_isStation ml_M_207 sa_M_isStation (by decide) rfl (Nat.le_of_ble_eq_true rfl) (fun x2 M => ?_)
  refine m_if_eq (tgt := 34) (d_M_letter2 (k := 8) rfl) rfl ?_ ?_
  · refine m_iconst (v := (-1)) (d_M_letter2 (k := 17) rfl) (by decide) ?_
    exact m_iret (d_M_letter2 (k := 18) rfl) rfl
  · refine m_iload_n (d_M_letter2 (k := 9) rfl) rfl ?_
    refine m_csI (vs := [.inl i2]) (st := []) (d_M_letter2 (k := 10) rfl) (s_M_isStation i2 M) cd_M_isStation ml_M_207 sa_M_isStation (by decide) rfl (Nat.le_of_ble_eq_true rfl) (fun x3 M => ?_)
    refine m_if_eq (tgt := 34) (d_M_letter2 (k := 11) rfl) rfl ?_ ?_
    · refine m_iconst (v := (-1)) (d_M_letter2 (k := 17) rfl) (by decide) ?_
      exact m_iret (d_M_letter2 (k := 18) rfl) rfl
    · refine m_iload_n (d_M_letter2 (k := 12) rfl) rfl ?_
      refine m_iconst (v := 1) (d_M_letter2 (k := 13) rfl) (by decide) ?_
      refine m_bipush (v := 12) (d_M_letter2 (k := 14) rfl) (by decide) ?_
      refine m_csI (vs := [.inl x1, .inl (1 : Int32), .inl (12 : Int32)]) (st := []) (d_M_letter2 (k := 15) rfl) (s_M_in x1 (1 : Int32) (12 : Int32) M) cd_M_in ml_M_203 sa_M_in (by decide) rfl (Nat.le_of_ble_eq_true rfl) (fun x4 M => ?_)
      refine m_if_ne (tgt := 36) (d_M_letter2 (k := 16) rfl) rfl ?_ ?_
      · refine m_iconst (v := (-1)) (d_M_letter2 (k := 17) rfl) (by decide) ?_
        exact m_iret (d_M_letter2 (k := 18) rfl) rfl
      · refine m_aload_n (d_M_letter2 (k := 19) rfl) rfl ?_
        refine m_getR (d_M_letter2 (k := 20) rfl) fl_M_200 rfl (fun a5 => ?_)
        refine m_iload_n (d_M_letter2 (k := 21) rfl) rfl ?_
        refine m_iald (d_M_letter2 (k := 22) rfl) (fun x6 => ?_)
        refine m_sipush (v := 255) (d_M_letter2 (k := 23) rfl) (by decide) ?_
        refine m_iand (d_M_letter2 (k := 24) rfl) ?_
        refine m_lt (fun x7 => ?_)
        refine m_ist (ls' := [some (.inr t0), some (.inl i1), some (.inl i2), some (.inl x1), some (.inl x7), none]) (d_M_letter2 (k := 25) rfl) (by decide) rfl ?_
        refine m_aload_n (d_M_letter2 (k := 26) rfl) rfl ?_
        refine m_getR (d_M_letter2 (k := 27) rfl) fl_M_200 rfl (fun a8 => ?_)
        refine m_iload_n (d_M_letter2 (k := 28) rfl) rfl ?_
        refine m_dup2 (d_M_letter2 (k := 29) rfl) ?_
        refine m_iald (d_M_letter2 (k := 30) rfl) (fun x9 => ?_)
        refine m_iconst (v := 1) (d_M_letter2 (k := 31) rfl) (by decide) ?_
        refine m_iadd (d_M_letter2 (k := 32) rfl) ?_
        refine m_iast (d_M_letter2 (k := 33) rfl) (fun M => ?_)
        refine m_aload_n (d_M_letter2 (k := 34) rfl) rfl ?_
        refine m_getR (d_M_letter2 (k := 35) rfl) fl_M_191 rfl (fun a10 => ?_)
        refine m_iconst (v := 0) (d_M_letter2 (k := 36) rfl) (by decide) ?_
        refine m_iload_n (d_M_letter2 (k := 37) rfl) rfl ?_
        refine m_iast (d_M_letter2 (k := 38) rfl) (fun M => ?_)
        refine m_aload_n (d_M_letter2 (k := 39) rfl) rfl ?_
        refine m_getR (d_M_letter2 (k := 40) rfl) fl_M_191 rfl (fun a11 => ?_)
        refine m_iconst (v := 1) (d_M_letter2 (k := 41) rfl) (by decide) ?_
        refine m_iload_n (d_M_letter2 (k := 42) rfl) rfl ?_
        refine m_iast (d_M_letter2 (k := 43) rfl) (fun M => ?_)
        refine m_aload_n (d_M_letter2 (k := 44) rfl) rfl ?_
        refine m_getR (d_M_letter2 (k := 45) rfl) fl_M_191 rfl (fun a12 => ?_)
        refine m_iconst (v := 2) (d_M_letter2 (k := 46) rfl) (by decide) ?_
        refine m_bipush (v := 8) (d_M_letter2 (k := 47) rfl) (by decide) ?_
        refine m_iast (d_M_letter2 (k := 48) rfl) (fun M => ?_)
        refine m_aload_n (d_M_letter2 (k := 49) rfl) rfl ?_
        refine m_getR (d_M_letter2 (k := 50) rfl) fl_M_191 rfl (fun a13 => ?_)
        refine m_iconst (v := 3) (d_M_letter2 (k := 51) rfl) (by decide) ?_
        refine m_iload (d_M_letter2 (k := 52) rfl) rfl ?_
        refine m_iast (d_M_letter2 (k := 53) rfl) (fun M => ?_)
        refine m_iconst (v := 0) (d_M_letter2 (k := 54) rfl) (by decide) ?_
        refine m_ist (ls' := [some (.inr t0), some (.inl i1), some (.inl i2), some (.inl x1), some (.inl x7), some (.inl (0 : Int32))]) (d_M_letter2 (k := 55) rfl) (by decide) rfl ?_
        exact m_drop (mles_s (mles_s (mles_n (mles_s (mles_s (mles_s mles_0)))))) (v_M_letter2_91 mFU t0 i1 x1 x7 (0 : Int32) M)
theorem s_M_letter2 {E : mE} (t0 : Option Nat) (i1 : Int32) (i2 : Int32) (M : mM) : mSnd E mi_M_letter2 6 [.inr t0, .inl i1, .inl i2] M enI (q_M_letter2 t0 i1 i2 M) := m_entryI (by decide) (Nat.le_of_ble_eq_true rfl) rfl (m_drop (mles_s (mles_s (mles_s (mles_e (mles_e (mles_e mles_0)))))) (v_M_letter2 t0 i1 i2 M))
def dt_M_link_0 : List (Nat × Instr × Nat) := [(0, .iload_n 1, 1), (1, .iload_n 2, 1), (2, .invokestatic 258, 3), (5, .ifCond .ne 5, 3), (8, .iconst (-1), 1), (9, .ireturn, 1), (10, .bipush 6, 2), (12, .iload_n 1, 1), (13, .imul, 1), (14, .iload_n 2, 1), (15, .iadd, 1), (16, .istore 4, 2), (18, .iload_n 3, 1), (19, .tableswitch 229 0 15 #[77, 85, 93, 101, 109, 117, 125, 141, 157, 173, 181, 189, 197, 205, 213, 221], 77), (96, .aload_n 0, 1), (97, .getfield 110, 3), (100, .iload 4, 2), (102, .iaload, 1), (103, .ireturn, 1), (104, .aload_n 0, 1), (105, .getfield 122, 3), (108, .iload 4, 2), (110, .iaload, 1), (111, .ireturn, 1), (112, .aload_n 0, 1), (113, .getfield 125, 3), (116, .iload 4, 2), (118, .iaload, 1), (119, .ireturn, 1), (120, .aload_n 0, 1), (121, .getfield 128, 3), (124, .iload 4, 2), (126, .iaload, 1), (127, .ireturn, 1), (128, .aload_n 0, 1), (129, .getfield 131, 3), (132, .iload 4, 2), (134, .iaload, 1), (135, .ireturn, 1), (136, .aload_n 0, 1)]
theorem dx_M_link_0 : ∀ p ∈ dt_M_link_0, decode prog_12_method_83_code p.1 = .ok p.2 := by decide +kernel
theorem d_M_link_0 {k pc : Nat} {i : Instr} {n : Nat} (h : dt_M_link_0[k]? = some (pc, i, n)) : decode mi_M_link.2.1 pc = .ok (i, n) := dx_M_link_0 (pc, i, n) (List.mem_of_getElem? h)
def dt_M_link_1 : List (Nat × Instr × Nat) := [(137, .getfield 134, 3), (140, .iload 4, 2), (142, .iaload, 1), (143, .ireturn, 1), (144, .aload_n 0, 1), (145, .getfield 137, 3), (148, .iload 4, 2), (150, .baload, 1), (151, .ifCond .eq 7, 3), (154, .iconst 1, 1), (155, .goto 4, 3), (158, .iconst 0, 1), (159, .ireturn, 1), (160, .aload_n 0, 1), (161, .getfield 140, 3), (164, .iload 4, 2), (166, .baload, 1), (167, .ifCond .eq 7, 3), (170, .iconst 1, 1), (171, .goto 4, 3), (174, .iconst 0, 1), (175, .ireturn, 1), (176, .aload_n 0, 1), (177, .getfield 143, 3), (180, .iload 4, 2), (182, .baload, 1), (183, .ifCond .eq 7, 3), (186, .iconst 1, 1), (187, .goto 4, 3), (190, .iconst 0, 1), (191, .ireturn, 1), (192, .aload_n 0, 1), (193, .getfield 155, 3), (196, .iload 4, 2), (198, .iaload, 1), (199, .ireturn, 1), (200, .aload_n 0, 1), (201, .getfield 161, 3), (204, .iload 4, 2), (206, .iaload, 1)]
theorem dx_M_link_1 : ∀ p ∈ dt_M_link_1, decode prog_12_method_83_code p.1 = .ok p.2 := by decide +kernel
theorem d_M_link_1 {k pc : Nat} {i : Instr} {n : Nat} (h : dt_M_link_1[k]? = some (pc, i, n)) : decode mi_M_link.2.1 pc = .ok (i, n) := dx_M_link_1 (pc, i, n) (List.mem_of_getElem? h)
def dt_M_link_2 : List (Nat × Instr × Nat) := [(207, .ireturn, 1), (208, .aload_n 0, 1), (209, .getfield 170, 3), (212, .iload 4, 2), (214, .iaload, 1), (215, .ireturn, 1), (216, .aload_n 0, 1), (217, .getfield 182, 3), (220, .iload 4, 2), (222, .iaload, 1), (223, .ireturn, 1), (224, .aload_n 0, 1), (225, .getfield 119, 3), (228, .iload 4, 2), (230, .iaload, 1), (231, .ireturn, 1), (232, .aload_n 0, 1), (233, .getfield 113, 3), (236, .iload 4, 2), (238, .iaload, 1), (239, .ireturn, 1), (240, .aload_n 0, 1), (241, .getfield 116, 3), (244, .iload 4, 2), (246, .iaload, 1), (247, .ireturn, 1), (248, .iconst (-1), 1), (249, .ireturn, 1)]
theorem dx_M_link_2 : ∀ p ∈ dt_M_link_2, decode prog_12_method_83_code p.1 = .ok p.2 := by decide +kernel
theorem d_M_link_2 {k pc : Nat} {i : Instr} {n : Nat} (h : dt_M_link_2[k]? = some (pc, i, n)) : decode mi_M_link.2.1 pc = .ok (i, n) := dx_M_link_2 (pc, i, n) (List.mem_of_getElem? h)
def q_M_link (t0 : Option Nat) (i1 : Int32) (i2 : Int32) (i3 : Int32) (M : mM) : Option (Int32 × mM) :=
    x_cl (q_M_isLink i1 i2 M) fun x1 M =>
    if x1 = 0 then
      some ((-1 : Int32), M)
    else
      x_lt (((6 : Int32) * i1) + i2) fun x2 =>
      x_sw i3 [
        ((0 : Int32), (
          x_gR M 10 t0 49 fun a3 =>
          x_aI M 0 a3 x2 fun x4 =>
          some (x4, M)
        )),
        ((1 : Int32), (
          x_gR M 10 t0 53 fun a5 =>
          x_aI M 0 a5 x2 fun x6 =>
          some (x6, M)
        )),
        ((2 : Int32), (
          x_gR M 10 t0 54 fun a7 =>
          x_aI M 0 a7 x2 fun x8 =>
          some (x8, M)
        )),
        ((3 : Int32), (
          x_gR M 10 t0 55 fun a9 =>
          x_aI M 0 a9 x2 fun x10 =>
          some (x10, M)
        )),
        ((4 : Int32), (
          x_gR M 10 t0 56 fun a11 =>
          x_aI M 0 a11 x2 fun x12 =>
          some (x12, M)
        )),
        ((5 : Int32), (
          x_gR M 10 t0 57 fun a13 =>
          x_aI M 0 a13 x2 fun x14 =>
          some (x14, M)
        )),
        ((6 : Int32), (
          x_gR M 10 t0 58 fun a15 =>
          x_aI M 1 a15 x2 fun x16 =>
          if x16 = 0 then
            some ((0 : Int32), M)
          else
            some ((1 : Int32), M)
        )),
        ((7 : Int32), (
          x_gR M 10 t0 59 fun a17 =>
          x_aI M 1 a17 x2 fun x18 =>
          if x18 = 0 then
            some ((0 : Int32), M)
          else
            some ((1 : Int32), M)
        )),
        ((8 : Int32), (
          x_gR M 10 t0 60 fun a19 =>
          x_aI M 1 a19 x2 fun x20 =>
          if x20 = 0 then
            some ((0 : Int32), M)
          else
            some ((1 : Int32), M)
        )),
        ((9 : Int32), (
          x_gR M 10 t0 64 fun a21 =>
          x_aI M 0 a21 x2 fun x22 =>
          some (x22, M)
        )),
        ((10 : Int32), (
          x_gR M 10 t0 66 fun a23 =>
          x_aI M 0 a23 x2 fun x24 =>
          some (x24, M)
        )),
        ((11 : Int32), (
          x_gR M 10 t0 69 fun a25 =>
          x_aI M 0 a25 x2 fun x26 =>
          some (x26, M)
        )),
        ((12 : Int32), (
          x_gR M 10 t0 73 fun a27 =>
          x_aI M 0 a27 x2 fun x28 =>
          some (x28, M)
        )),
        ((13 : Int32), (
          x_gR M 10 t0 52 fun a29 =>
          x_aI M 0 a29 x2 fun x30 =>
          some (x30, M)
        )),
        ((14 : Int32), (
          x_gR M 10 t0 50 fun a31 =>
          x_aI M 0 a31 x2 fun x32 =>
          some (x32, M)
        )),
        ((15 : Int32), (
          x_gR M 10 t0 51 fun a33 =>
          x_aI M 0 a33 x2 fun x34 =>
          some (x34, M)
        ))
      ] (
        some ((-1 : Int32), M)
      )
set_option maxRecDepth 20000 in
theorem v_M_link {E : mE} (t0 : Option Nat) (i1 : Int32) (i2 : Int32) (i3 : Int32) (M : mM) : mVr E mi_M_link 3 0 [some (.inr t0), some (.inl i1), some (.inl i2), some (.inl i3), none] [] M enI (q_M_link t0 i1 i2 i3 M) := by
  unfold q_M_link
  refine m_iload_n (d_M_link_0 (k := 0) rfl) rfl ?_
  refine m_iload_n (d_M_link_0 (k := 1) rfl) rfl ?_
  refine m_csI (vs := [.inl i1, .inl i2]) (st := []) (d_M_link_0 (k := 2) rfl) (s_M_isLink i1 i2 M) cd_M_isLink ml_M_258 sa_M_isLink (by decide) rfl (Nat.le_of_ble_eq_true rfl) (fun x1 M => ?_)
  refine m_if_ne (tgt := 10) (d_M_link_0 (k := 3) rfl) rfl ?_ ?_
  · refine m_iconst (v := (-1)) (d_M_link_0 (k := 4) rfl) (by decide) ?_
    exact m_iret (d_M_link_0 (k := 5) rfl) rfl
  · refine m_bipush (v := 6) (d_M_link_0 (k := 6) rfl) (by decide) ?_
    refine m_iload_n (d_M_link_0 (k := 7) rfl) rfl ?_
    refine m_imul (d_M_link_0 (k := 8) rfl) ?_
    refine m_iload_n (d_M_link_0 (k := 9) rfl) rfl ?_
    refine m_iadd (d_M_link_0 (k := 10) rfl) ?_
    refine m_lt (fun x2 => ?_)
    refine m_ist (ls' := [some (.inr t0), some (.inl i1), some (.inl i2), some (.inl i3), some (.inl x2)]) (d_M_link_0 (k := 11) rfl) (by decide) rfl ?_
    refine m_iload_n (d_M_link_0 (k := 12) rfl) rfl ?_
    refine m_sw ?_ (fun hx => ?_)
    ·
      refine List.forall_mem_cons.mpr ⟨?_, ?_⟩
      · dsimp only
        refine m_tin (x := (0 : Int32)) (tgt := 96) (d_M_link_0 (k := 13) rfl) (by decide) (by decide) rfl rfl ?_
        refine m_aload_n (d_M_link_0 (k := 14) rfl) rfl ?_
        refine m_getR (d_M_link_0 (k := 15) rfl) fl_M_110 rfl (fun a3 => ?_)
        refine m_iload (d_M_link_0 (k := 16) rfl) rfl ?_
        refine m_iald (d_M_link_0 (k := 17) rfl) (fun x4 => ?_)
        exact m_iret (d_M_link_0 (k := 18) rfl) rfl
      refine List.forall_mem_cons.mpr ⟨?_, ?_⟩
      · dsimp only
        refine m_tin (x := (1 : Int32)) (tgt := 104) (d_M_link_0 (k := 13) rfl) (by decide) (by decide) rfl rfl ?_
        refine m_aload_n (d_M_link_0 (k := 19) rfl) rfl ?_
        refine m_getR (d_M_link_0 (k := 20) rfl) fl_M_122 rfl (fun a5 => ?_)
        refine m_iload (d_M_link_0 (k := 21) rfl) rfl ?_
        refine m_iald (d_M_link_0 (k := 22) rfl) (fun x6 => ?_)
        exact m_iret (d_M_link_0 (k := 23) rfl) rfl
      refine List.forall_mem_cons.mpr ⟨?_, ?_⟩
      · dsimp only
        refine m_tin (x := (2 : Int32)) (tgt := 112) (d_M_link_0 (k := 13) rfl) (by decide) (by decide) rfl rfl ?_
        refine m_aload_n (d_M_link_0 (k := 24) rfl) rfl ?_
        refine m_getR (d_M_link_0 (k := 25) rfl) fl_M_125 rfl (fun a7 => ?_)
        refine m_iload (d_M_link_0 (k := 26) rfl) rfl ?_
        refine m_iald (d_M_link_0 (k := 27) rfl) (fun x8 => ?_)
        exact m_iret (d_M_link_0 (k := 28) rfl) rfl
      refine List.forall_mem_cons.mpr ⟨?_, ?_⟩
      · dsimp only
        refine m_tin (x := (3 : Int32)) (tgt := 120) (d_M_link_0 (k := 13) rfl) (by decide) (by decide) rfl rfl ?_
        refine m_aload_n (d_M_link_0 (k := 29) rfl) rfl ?_
        refine m_getR (d_M_link_0 (k := 30) rfl) fl_M_128 rfl (fun a9 => ?_)
        refine m_iload (d_M_link_0 (k := 31) rfl) rfl ?_
        refine m_iald (d_M_link_0 (k := 32) rfl) (fun x10 => ?_)
        exact m_iret (d_M_link_0 (k := 33) rfl) rfl
      refine List.forall_mem_cons.mpr ⟨?_, ?_⟩
      · dsimp only
        refine m_tin (x := (4 : Int32)) (tgt := 128) (d_M_link_0 (k := 13) rfl) (by decide) (by decide) rfl rfl ?_
        refine m_aload_n (d_M_link_0 (k := 34) rfl) rfl ?_
        refine m_getR (d_M_link_0 (k := 35) rfl) fl_M_131 rfl (fun a11 => ?_)
        refine m_iload (d_M_link_0 (k := 36) rfl) rfl ?_
        refine m_iald (d_M_link_0 (k := 37) rfl) (fun x12 => ?_)
        exact m_iret (d_M_link_0 (k := 38) rfl) rfl
      refine List.forall_mem_cons.mpr ⟨?_, ?_⟩
      · dsimp only
        refine m_tin (x := (5 : Int32)) (tgt := 136) (d_M_link_0 (k := 13) rfl) (by decide) (by decide) rfl rfl ?_
        refine m_aload_n (d_M_link_0 (k := 39) rfl) rfl ?_
        refine m_getR (d_M_link_1 (k := 0) rfl) fl_M_134 rfl (fun a13 => ?_)
        refine m_iload (d_M_link_1 (k := 1) rfl) rfl ?_
        refine m_iald (d_M_link_1 (k := 2) rfl) (fun x14 => ?_)
        exact m_iret (d_M_link_1 (k := 3) rfl) rfl
      refine List.forall_mem_cons.mpr ⟨?_, ?_⟩
      · dsimp only
        refine m_tin (x := (6 : Int32)) (tgt := 144) (d_M_link_0 (k := 13) rfl) (by decide) (by decide) rfl rfl ?_
        refine m_aload_n (d_M_link_1 (k := 4) rfl) rfl ?_
        refine m_getR (d_M_link_1 (k := 5) rfl) fl_M_137 rfl (fun a15 => ?_)
        refine m_iload (d_M_link_1 (k := 6) rfl) rfl ?_
        refine m_zald (d_M_link_1 (k := 7) rfl) (fun x16 => ?_)
        refine m_if_eq (tgt := 158) (d_M_link_1 (k := 8) rfl) rfl ?_ ?_
        · refine m_iconst (v := 0) (d_M_link_1 (k := 11) rfl) (by decide) ?_
          exact m_iret (d_M_link_1 (k := 12) rfl) rfl
        · refine m_iconst (v := 1) (d_M_link_1 (k := 9) rfl) (by decide) ?_
          refine m_goto (tgt := 159) (d_M_link_1 (k := 10) rfl) rfl ?_
          exact m_iret (d_M_link_1 (k := 12) rfl) rfl
      refine List.forall_mem_cons.mpr ⟨?_, ?_⟩
      · dsimp only
        refine m_tin (x := (7 : Int32)) (tgt := 160) (d_M_link_0 (k := 13) rfl) (by decide) (by decide) rfl rfl ?_
        refine m_aload_n (d_M_link_1 (k := 13) rfl) rfl ?_
        refine m_getR (d_M_link_1 (k := 14) rfl) fl_M_140 rfl (fun a17 => ?_)
        refine m_iload (d_M_link_1 (k := 15) rfl) rfl ?_
        refine m_zald (d_M_link_1 (k := 16) rfl) (fun x18 => ?_)
        refine m_if_eq (tgt := 174) (d_M_link_1 (k := 17) rfl) rfl ?_ ?_
        · refine m_iconst (v := 0) (d_M_link_1 (k := 20) rfl) (by decide) ?_
          exact m_iret (d_M_link_1 (k := 21) rfl) rfl
        · refine m_iconst (v := 1) (d_M_link_1 (k := 18) rfl) (by decide) ?_
          refine m_goto (tgt := 175) (d_M_link_1 (k := 19) rfl) rfl ?_
          exact m_iret (d_M_link_1 (k := 21) rfl) rfl
      refine List.forall_mem_cons.mpr ⟨?_, ?_⟩
      · dsimp only
        refine m_tin (x := (8 : Int32)) (tgt := 176) (d_M_link_0 (k := 13) rfl) (by decide) (by decide) rfl rfl ?_
        refine m_aload_n (d_M_link_1 (k := 22) rfl) rfl ?_
        refine m_getR (d_M_link_1 (k := 23) rfl) fl_M_143 rfl (fun a19 => ?_)
        refine m_iload (d_M_link_1 (k := 24) rfl) rfl ?_
        refine m_zald (d_M_link_1 (k := 25) rfl) (fun x20 => ?_)
        refine m_if_eq (tgt := 190) (d_M_link_1 (k := 26) rfl) rfl ?_ ?_
        · refine m_iconst (v := 0) (d_M_link_1 (k := 29) rfl) (by decide) ?_
          exact m_iret (d_M_link_1 (k := 30) rfl) rfl
        · refine m_iconst (v := 1) (d_M_link_1 (k := 27) rfl) (by decide) ?_
          refine m_goto (tgt := 191) (d_M_link_1 (k := 28) rfl) rfl ?_
          exact m_iret (d_M_link_1 (k := 30) rfl) rfl
      refine List.forall_mem_cons.mpr ⟨?_, ?_⟩
      · dsimp only
        refine m_tin (x := (9 : Int32)) (tgt := 192) (d_M_link_0 (k := 13) rfl) (by decide) (by decide) rfl rfl ?_
        refine m_aload_n (d_M_link_1 (k := 31) rfl) rfl ?_
        refine m_getR (d_M_link_1 (k := 32) rfl) fl_M_155 rfl (fun a21 => ?_)
        refine m_iload (d_M_link_1 (k := 33) rfl) rfl ?_
        refine m_iald (d_M_link_1 (k := 34) rfl) (fun x22 => ?_)
        exact m_iret (d_M_link_1 (k := 35) rfl) rfl
      refine List.forall_mem_cons.mpr ⟨?_, ?_⟩
      · dsimp only
        refine m_tin (x := (10 : Int32)) (tgt := 200) (d_M_link_0 (k := 13) rfl) (by decide) (by decide) rfl rfl ?_
        refine m_aload_n (d_M_link_1 (k := 36) rfl) rfl ?_
        refine m_getR (d_M_link_1 (k := 37) rfl) fl_M_161 rfl (fun a23 => ?_)
        refine m_iload (d_M_link_1 (k := 38) rfl) rfl ?_
        refine m_iald (d_M_link_1 (k := 39) rfl) (fun x24 => ?_)
        exact m_iret (d_M_link_2 (k := 0) rfl) rfl
      refine List.forall_mem_cons.mpr ⟨?_, ?_⟩
      · dsimp only
        refine m_tin (x := (11 : Int32)) (tgt := 208) (d_M_link_0 (k := 13) rfl) (by decide) (by decide) rfl rfl ?_
        refine m_aload_n (d_M_link_2 (k := 1) rfl) rfl ?_
        refine m_getR (d_M_link_2 (k := 2) rfl) fl_M_170 rfl (fun a25 => ?_)
        refine m_iload (d_M_link_2 (k := 3) rfl) rfl ?_
        refine m_iald (d_M_link_2 (k := 4) rfl) (fun x26 => ?_)
        exact m_iret (d_M_link_2 (k := 5) rfl) rfl
      refine List.forall_mem_cons.mpr ⟨?_, ?_⟩
      · dsimp only
        refine m_tin (x := (12 : Int32)) (tgt := 216) (d_M_link_0 (k := 13) rfl) (by decide) (by decide) rfl rfl ?_
        refine m_aload_n (d_M_link_2 (k := 6) rfl) rfl ?_
        refine m_getR (d_M_link_2 (k := 7) rfl) fl_M_182 rfl (fun a27 => ?_)
        refine m_iload (d_M_link_2 (k := 8) rfl) rfl ?_
        refine m_iald (d_M_link_2 (k := 9) rfl) (fun x28 => ?_)
        exact m_iret (d_M_link_2 (k := 10) rfl) rfl
      refine List.forall_mem_cons.mpr ⟨?_, ?_⟩
      · dsimp only
        refine m_tin (x := (13 : Int32)) (tgt := 224) (d_M_link_0 (k := 13) rfl) (by decide) (by decide) rfl rfl ?_
        refine m_aload_n (d_M_link_2 (k := 11) rfl) rfl ?_
        refine m_getR (d_M_link_2 (k := 12) rfl) fl_M_119 rfl (fun a29 => ?_)
        refine m_iload (d_M_link_2 (k := 13) rfl) rfl ?_
        refine m_iald (d_M_link_2 (k := 14) rfl) (fun x30 => ?_)
        exact m_iret (d_M_link_2 (k := 15) rfl) rfl
      refine List.forall_mem_cons.mpr ⟨?_, ?_⟩
      · dsimp only
        refine m_tin (x := (14 : Int32)) (tgt := 232) (d_M_link_0 (k := 13) rfl) (by decide) (by decide) rfl rfl ?_
        refine m_aload_n (d_M_link_2 (k := 16) rfl) rfl ?_
        refine m_getR (d_M_link_2 (k := 17) rfl) fl_M_113 rfl (fun a31 => ?_)
        refine m_iload (d_M_link_2 (k := 18) rfl) rfl ?_
        refine m_iald (d_M_link_2 (k := 19) rfl) (fun x32 => ?_)
        exact m_iret (d_M_link_2 (k := 20) rfl) rfl
      refine List.forall_mem_cons.mpr ⟨?_, ?_⟩
      · dsimp only
        refine m_tin (x := (15 : Int32)) (tgt := 240) (d_M_link_0 (k := 13) rfl) (by decide) (by decide) rfl rfl ?_
        refine m_aload_n (d_M_link_2 (k := 21) rfl) rfl ?_
        refine m_getR (d_M_link_2 (k := 22) rfl) fl_M_116 rfl (fun a33 => ?_)
        refine m_iload (d_M_link_2 (k := 23) rfl) rfl ?_
        refine m_iald (d_M_link_2 (k := 24) rfl) (fun x34 => ?_)
        exact m_iret (d_M_link_2 (k := 25) rfl) rfl
      exact fun _ h => absurd h List.not_mem_nil
    · refine m_tout (ks := [0, 1, 2, 3, 4, 5, 6, 7, 8, 9, 10, 11, 12, 13, 14, 15]) (tgt := 248) (d_M_link_0 (k := 13) rfl) (m_ks hx) (by decide) rfl ?_
      refine m_iconst (v := (-1)) (d_M_link_2 (k := 26) rfl) (by decide) ?_
      exact m_iret (d_M_link_2 (k := 27) rfl) rfl
theorem s_M_link {E : mE} (t0 : Option Nat) (i1 : Int32) (i2 : Int32) (i3 : Int32) (M : mM) : mSnd E mi_M_link 3 [.inr t0, .inl i1, .inl i2, .inl i3] M enI (q_M_link t0 i1 i2 i3 M) := m_entryI (by decide) (Nat.le_of_ble_eq_true rfl) rfl (m_drop (mles_s (mles_s (mles_s (mles_s (mles_e mles_0))))) (v_M_link t0 i1 i2 i3 M))
def dt_M_out : List (Nat × Instr × Nat) := [(0, .iload_n 1, 1), (1, .iconst 0, 1), (2, .aload_n 0, 1), (3, .getfield 219, 3), (6, .iconst 1, 1), (7, .isub, 1), (8, .invokestatic 203, 3), (11, .ifCond .eq 12, 3), (14, .aload_n 0, 1), (15, .getfield 13, 3), (18, .iload_n 1, 1), (19, .iaload, 1), (20, .goto 4, 3), (23, .iconst (-1), 1), (24, .ireturn, 1)]
theorem dx_M_out : ∀ p ∈ dt_M_out, decode prog_12_method_9_code p.1 = .ok p.2 := by decide +kernel
theorem d_M_out {k pc : Nat} {i : Instr} {n : Nat} (h : dt_M_out[k]? = some (pc, i, n)) : decode mi_M_out.2.1 pc = .ok (i, n) := dx_M_out (pc, i, n) (List.mem_of_getElem? h)
def q_M_out (t0 : Option Nat) (i1 : Int32) (M : mM) : Option (Int32 × mM) :=
    x_gI M 10 t0 3 fun x1 =>
    x_cl (q_M_in i1 (0 : Int32) (x1 - (1 : Int32)) M) fun x2 M =>
    if x2 = 0 then
      some ((-1 : Int32), M)
    else
      x_gR M 10 t0 2 fun a3 =>
      x_aI M 0 a3 i1 fun x4 =>
      some (x4, M)
set_option maxRecDepth 20000 in
theorem v_M_out {E : mE} (t0 : Option Nat) (i1 : Int32) (M : mM) : mVr E mi_M_out 1 0 [some (.inr t0), some (.inl i1)] [] M enI (q_M_out t0 i1 M) := by
  unfold q_M_out
  refine m_iload_n (d_M_out (k := 0) rfl) rfl ?_
  refine m_iconst (v := 0) (d_M_out (k := 1) rfl) (by decide) ?_
  refine m_aload_n (d_M_out (k := 2) rfl) rfl ?_
  refine m_getI (d_M_out (k := 3) rfl) fl_M_219 rfl (fun x1 => ?_)
  refine m_iconst (v := 1) (d_M_out (k := 4) rfl) (by decide) ?_
  refine m_isub (d_M_out (k := 5) rfl) ?_
  refine m_csI (vs := [.inl i1, .inl (0 : Int32), .inl (x1 - (1 : Int32))]) (st := []) (d_M_out (k := 6) rfl) (s_M_in i1 (0 : Int32) (x1 - (1 : Int32)) M) cd_M_in ml_M_203 sa_M_in (by decide) rfl (Nat.le_of_ble_eq_true rfl) (fun x2 M => ?_)
  refine m_if_eq (tgt := 23) (d_M_out (k := 7) rfl) rfl ?_ ?_
  · refine m_iconst (v := (-1)) (d_M_out (k := 13) rfl) (by decide) ?_
    exact m_iret (d_M_out (k := 14) rfl) rfl
  · refine m_aload_n (d_M_out (k := 8) rfl) rfl ?_
    refine m_getR (d_M_out (k := 9) rfl) fl_M_13 rfl (fun a3 => ?_)
    refine m_iload_n (d_M_out (k := 10) rfl) rfl ?_
    refine m_iald (d_M_out (k := 11) rfl) (fun x4 => ?_)
    refine m_goto (tgt := 24) (d_M_out (k := 12) rfl) rfl ?_
    exact m_iret (d_M_out (k := 14) rfl) rfl
theorem s_M_out {E : mE} (t0 : Option Nat) (i1 : Int32) (M : mM) : mSnd E mi_M_out 1 [.inr t0, .inl i1] M enI (q_M_out t0 i1 M) := m_entryI (by decide) (Nat.le_of_ble_eq_true rfl) rfl (m_drop (mles_s (mles_s mles_0)) (v_M_out t0 i1 M))
def dt_M_queued : List (Nat × Instr × Nat) := [(0, .iload_n 1, 1), (1, .invokestatic 207, 3), (4, .ifCond .eq 19, 3), (7, .iload_n 2, 1), (8, .iconst 0, 1), (9, .aload_n 0, 1), (10, .getfield 50, 3), (13, .iload_n 1, 1), (14, .iaload, 1), (15, .iconst 1, 1), (16, .isub, 1), (17, .invokestatic 203, 3), (20, .ifCond .ne 5, 3), (23, .iconst (-1), 1), (24, .ireturn, 1), (25, .bipush 12, 2), (27, .iload_n 1, 1), (28, .imul, 1), (29, .iload_n 2, 1), (30, .iadd, 1), (31, .istore 4, 2), (33, .iload_n 3, 1), (34, .iconst 0, 1), (35, .aload_n 0, 1), (36, .getfield 53, 3), (39, .iload 4, 2), (41, .iaload, 1), (42, .iconst 1, 1), (43, .isub, 1), (44, .invokestatic 203, 3), (47, .ifCond .eq 18, 3), (50, .aload_n 0, 1), (51, .getfield 56, 3), (54, .bipush 90, 2), (56, .iload 4, 2), (58, .imul, 1), (59, .iload_n 3, 1), (60, .iadd, 1), (61, .iaload, 1), (62, .goto 4, 3), (65, .iconst (-1), 1), (66, .ireturn, 1)]
theorem dx_M_queued : ∀ p ∈ dt_M_queued, decode prog_12_method_28_code p.1 = .ok p.2 := by decide +kernel
theorem d_M_queued {k pc : Nat} {i : Instr} {n : Nat} (h : dt_M_queued[k]? = some (pc, i, n)) : decode mi_M_queued.2.1 pc = .ok (i, n) := dx_M_queued (pc, i, n) (List.mem_of_getElem? h)
def q_M_queued (t0 : Option Nat) (i1 : Int32) (i2 : Int32) (i3 : Int32) (M : mM) : Option (Int32 × mM) :=
    x_cl (q_M_isStation i1 M) fun x1 M =>
    if x1 = 0 then
      some ((-1 : Int32), M)
    else
      x_gR M 10 t0 18 fun a2 =>
      x_aI M 0 a2 i1 fun x3 =>
      x_cl (q_M_in i2 (0 : Int32) (x3 - (1 : Int32)) M) fun x4 M =>
      if x4 = 0 then
        some ((-1 : Int32), M)
      else
        x_lt (((12 : Int32) * i1) + i2) fun x5 =>
        x_gR M 10 t0 19 fun a6 =>
        x_aI M 0 a6 x5 fun x7 =>
        x_cl (q_M_in i3 (0 : Int32) (x7 - (1 : Int32)) M) fun x8 M =>
        if x8 = 0 then
          some ((-1 : Int32), M)
        else
          x_gR M 10 t0 20 fun a9 =>
          x_aI M 0 a9 (((90 : Int32) * x5) + i3) fun x10 =>
          some (x10, M)
set_option maxRecDepth 20000 in
theorem v_M_queued {E : mE} (t0 : Option Nat) (i1 : Int32) (i2 : Int32) (i3 : Int32) (M : mM) : mVr E mi_M_queued 2 0 [some (.inr t0), some (.inl i1), some (.inl i2), some (.inl i3), none] [] M enI (q_M_queued t0 i1 i2 i3 M) := by
  unfold q_M_queued
  refine m_iload_n (d_M_queued (k := 0) rfl) rfl ?_
  refine m_csI (vs := [.inl i1]) (st := []) (d_M_queued (k := 1) rfl) (s_M_isStation i1 M) cd_M_isStation ml_M_207 sa_M_isStation (by decide) rfl (Nat.le_of_ble_eq_true rfl) (fun x1 M => ?_)
  refine m_if_eq (tgt := 23) (d_M_queued (k := 2) rfl) rfl ?_ ?_
  · refine m_iconst (v := (-1)) (d_M_queued (k := 13) rfl) (by decide) ?_
    exact m_iret (d_M_queued (k := 14) rfl) rfl
  · refine m_iload_n (d_M_queued (k := 3) rfl) rfl ?_
    refine m_iconst (v := 0) (d_M_queued (k := 4) rfl) (by decide) ?_
    refine m_aload_n (d_M_queued (k := 5) rfl) rfl ?_
    refine m_getR (d_M_queued (k := 6) rfl) fl_M_50 rfl (fun a2 => ?_)
    refine m_iload_n (d_M_queued (k := 7) rfl) rfl ?_
    refine m_iald (d_M_queued (k := 8) rfl) (fun x3 => ?_)
    refine m_iconst (v := 1) (d_M_queued (k := 9) rfl) (by decide) ?_
    refine m_isub (d_M_queued (k := 10) rfl) ?_
    refine m_csI (vs := [.inl i2, .inl (0 : Int32), .inl (x3 - (1 : Int32))]) (st := []) (d_M_queued (k := 11) rfl) (s_M_in i2 (0 : Int32) (x3 - (1 : Int32)) M) cd_M_in ml_M_203 sa_M_in (by decide) rfl (Nat.le_of_ble_eq_true rfl) (fun x4 M => ?_)
    refine m_if_ne (tgt := 25) (d_M_queued (k := 12) rfl) rfl ?_ ?_
    · refine m_iconst (v := (-1)) (d_M_queued (k := 13) rfl) (by decide) ?_
      exact m_iret (d_M_queued (k := 14) rfl) rfl
    · refine m_bipush (v := 12) (d_M_queued (k := 15) rfl) (by decide) ?_
      refine m_iload_n (d_M_queued (k := 16) rfl) rfl ?_
      refine m_imul (d_M_queued (k := 17) rfl) ?_
      refine m_iload_n (d_M_queued (k := 18) rfl) rfl ?_
      refine m_iadd (d_M_queued (k := 19) rfl) ?_
      refine m_lt (fun x5 => ?_)
      refine m_ist (ls' := [some (.inr t0), some (.inl i1), some (.inl i2), some (.inl i3), some (.inl x5)]) (d_M_queued (k := 20) rfl) (by decide) rfl ?_
      refine m_iload_n (d_M_queued (k := 21) rfl) rfl ?_
      refine m_iconst (v := 0) (d_M_queued (k := 22) rfl) (by decide) ?_
      refine m_aload_n (d_M_queued (k := 23) rfl) rfl ?_
      refine m_getR (d_M_queued (k := 24) rfl) fl_M_53 rfl (fun a6 => ?_)
      refine m_iload (d_M_queued (k := 25) rfl) rfl ?_
      refine m_iald (d_M_queued (k := 26) rfl) (fun x7 => ?_)
      refine m_iconst (v := 1) (d_M_queued (k := 27) rfl) (by decide) ?_
      refine m_isub (d_M_queued (k := 28) rfl) ?_
      refine m_csI (vs := [.inl i3, .inl (0 : Int32), .inl (x7 - (1 : Int32))]) (st := []) (d_M_queued (k := 29) rfl) (s_M_in i3 (0 : Int32) (x7 - (1 : Int32)) M) cd_M_in ml_M_203 sa_M_in (by decide) rfl (Nat.le_of_ble_eq_true rfl) (fun x8 M => ?_)
      refine m_if_eq (tgt := 65) (d_M_queued (k := 30) rfl) rfl ?_ ?_
      · refine m_iconst (v := (-1)) (d_M_queued (k := 40) rfl) (by decide) ?_
        exact m_iret (d_M_queued (k := 41) rfl) rfl
      · refine m_aload_n (d_M_queued (k := 31) rfl) rfl ?_
        refine m_getR (d_M_queued (k := 32) rfl) fl_M_56 rfl (fun a9 => ?_)
        refine m_bipush (v := 90) (d_M_queued (k := 33) rfl) (by decide) ?_
        refine m_iload (d_M_queued (k := 34) rfl) rfl ?_
        refine m_imul (d_M_queued (k := 35) rfl) ?_
        refine m_iload_n (d_M_queued (k := 36) rfl) rfl ?_
        refine m_iadd (d_M_queued (k := 37) rfl) ?_
        refine m_iald (d_M_queued (k := 38) rfl) (fun x10 => ?_)
        refine m_goto (tgt := 66) (d_M_queued (k := 39) rfl) rfl ?_
        exact m_iret (d_M_queued (k := 41) rfl) rfl
theorem s_M_queued {E : mE} (t0 : Option Nat) (i1 : Int32) (i2 : Int32) (i3 : Int32) (M : mM) : mSnd E mi_M_queued 2 [.inr t0, .inl i1, .inl i2, .inl i3] M enI (q_M_queued t0 i1 i2 i3 M) := m_entryI (by decide) (Nat.le_of_ble_eq_true rfl) rfl (m_drop (mles_s (mles_s (mles_s (mles_s (mles_e mles_0))))) (v_M_queued t0 i1 i2 i3 M))
def dt_M_raw : List (Nat × Instr × Nat) := [(0, .aload_n 0, 1), (1, .getfield 211, 3), (4, .istore_n 2, 1), (5, .aload_n 0, 1), (6, .iconst 0, 1), (7, .putfield 211, 3), (10, .iload_n 1, 1), (11, .invokestatic 207, 3), (14, .ifCond .eq 25, 3), (17, .iload_n 2, 1), (18, .bipush 15, 2), (20, .bipush 90, 2), (22, .invokestatic 203, 3), (25, .ifCond .eq 14, 3), (28, .aload_n 0, 1), (29, .getfield 50, 3), (32, .iload_n 1, 1), (33, .iaload, 1), (34, .bipush 12, 2), (36, .if_icmp .ne 5, 3), (39, .iconst 0, 1), (40, .ireturn, 1), (41, .aload_n 0, 1), (42, .iconst 0, 1), (43, .putfield 264, 3), (46, .iconst 0, 1), (47, .istore_n 3, 1), (48, .iload_n 3, 1), (49, .iload_n 2, 1), (50, .if_icmp .ge 19, 3), (53, .aload_n 0, 1), (54, .aload_n 0, 1), (55, .getfield 7, 3), (58, .iload_n 3, 1), (59, .iaload, 1), (60, .invokevirtual 270, 3), (63, .iinc 3 1, 3), (66, .goto (-18), 3), (69, .aload_n 0, 1), (70, .iload_n 1, 1), (71, .invokevirtual 273, 3), (74, .iconst 1, 1), (75, .ireturn, 1)]
theorem dx_M_raw : ∀ p ∈ dt_M_raw, decode prog_12_method_27_code p.1 = .ok p.2 := by decide +kernel
theorem d_M_raw {k pc : Nat} {i : Instr} {n : Nat} (h : dt_M_raw[k]? = some (pc, i, n)) : decode mi_M_raw.2.1 pc = .ok (i, n) := dx_M_raw (pc, i, n) (List.mem_of_getElem? h)
def q_M_raw_48_b (r48 : Option Nat → Int32 → Int32 → Int32 → mM → Option (Int32 × mM)) (t0 : Option Nat) (i1 : Int32) (i2 : Int32) (i3 : Int32) (M : mM) : Option (Int32 × mM) :=
    if i3 < i2 then
      x_gR M 10 t0 0 fun a1 =>
      x_aI M 0 a1 i3 fun x2 =>
      x_cv M 10 t0 (q_M_put t0 x2 M) fun _ M =>
      r48 t0 i1 i2 (i3 + 1) M
    else
      x_cv M 10 t0 (q_M_enqueue t0 i1 M) fun _ M =>
      x_rz (1 : Int32) M
def q_M_raw_48 : Nat → Option Nat → Int32 → Int32 → Int32 → mM → Option (Int32 × mM)
  | 0, _, _, _, _, _ => none
  | n + 1, t0, i1, i2, i3, M => q_M_raw_48_b (q_M_raw_48 n) t0 i1 i2 i3 M
set_option maxRecDepth 20000 in
theorem v_M_raw_48_b {E : mE} (r48 : Option Nat → Int32 → Int32 → Int32 → mM → Option (Int32 × mM)) (h48 : ∀ (t0 : Option Nat) (i1 : Int32) (i2 : Int32) (i3 : Int32) (M : mM), mVr E mi_M_raw 2 48 [some (.inr t0), some (.inl i1), some (.inl i2), some (.inl i3)] [] M enI (r48 t0 i1 i2 i3 M)) (t0 : Option Nat) (i1 : Int32) (i2 : Int32) (i3 : Int32) (M : mM) : mVr E mi_M_raw 2 48 [some (.inr t0), some (.inl i1), some (.inl i2), some (.inl i3)] [] M enI (q_M_raw_48_b r48 t0 i1 i2 i3 M) := by
  unfold q_M_raw_48_b
  refine m_iload_n (d_M_raw (k := 27) rfl) rfl ?_
  refine m_iload_n (d_M_raw (k := 28) rfl) rfl ?_
  refine m_icmp_ge (tgt := 69) (d_M_raw (k := 29) rfl) rfl ?_ ?_
  · refine m_aload_n (d_M_raw (k := 30) rfl) rfl ?_
    refine m_aload_n (d_M_raw (k := 31) rfl) rfl ?_
    refine m_getR (d_M_raw (k := 32) rfl) fl_M_7 rfl (fun a1 => ?_)
    refine m_iload_n (d_M_raw (k := 33) rfl) rfl ?_
    refine m_iald (d_M_raw (k := 34) rfl) (fun x2 => ?_)
    refine m_cvU (c := 10) (vs := [.inl x2]) (st := []) (d_M_raw (k := 35) rfl) (s_M_put t0 x2 M) cd_M_put ml_M_270 im_M_put se_M_put rfl (by decide) rfl (Nat.le_of_ble_eq_true rfl) (fun _ M => ?_)
    refine m_inc (v := 1) (ls' := [some (.inr t0), some (.inl i1), some (.inl i2), some (.inl (i3 + 1))]) (d_M_raw (k := 36) rfl) rfl (by decide) (by decide) rfl ?_
    refine m_goto (tgt := 48) (d_M_raw (k := 37) rfl) rfl ?_
    exact m_drop (mles_s (mles_s (mles_s (mles_s mles_0)))) (h48 t0 i1 i2 (i3 + 1) M)
  · refine m_aload_n (d_M_raw (k := 38) rfl) rfl ?_
    refine m_iload_n (d_M_raw (k := 39) rfl) rfl ?_
    refine m_cvU (c := 10) (vs := [.inl i1]) (st := []) (d_M_raw (k := 40) rfl) (s_M_enqueue t0 i1 M) cd_M_enqueue ml_M_273 im_M_enqueue se_M_enqueue rfl (by decide) rfl (Nat.le_of_ble_eq_true rfl) (fun _ M => ?_)
    refine m_iconst (v := 1) (d_M_raw (k := 41) rfl) (by decide) ?_
    exact m_zret (d_M_raw (k := 42) rfl) rfl
theorem v_M_raw_48 {E : mE} : ∀ (n : Nat) (t0 : Option Nat) (i1 : Int32) (i2 : Int32) (i3 : Int32) (M : mM), mVr E mi_M_raw 2 48 [some (.inr t0), some (.inl i1), some (.inl i2), some (.inl i3)] [] M enI (q_M_raw_48 n t0 i1 i2 i3 M)
  | 0, _, _, _, _, _ => m_none
  | n + 1, t0, i1, i2, i3, M => v_M_raw_48_b _ (v_M_raw_48 n) t0 i1 i2 i3 M
def q_M_raw (t0 : Option Nat) (i1 : Int32) (M : mM) : Option (Int32 × mM) :=
    x_gI M 10 t0 1 fun x1 =>
    x_pI M 10 t0 1 (0 : Int32) fun M =>
    x_cl (q_M_isStation i1 M) fun x2 M =>
    if x2 = 0 then
      x_rz (0 : Int32) M
    else
      x_cl (q_M_in x1 (15 : Int32) (90 : Int32) M) fun x3 M =>
      if x3 = 0 then
        x_rz (0 : Int32) M
      else
        x_gR M 10 t0 18 fun a4 =>
        x_aI M 0 a4 i1 fun x5 =>
        if x5 = (12 : Int32) then
          x_rz (0 : Int32) M
        else
          x_pI M 10 t0 34 (0 : Int32) fun M =>
          q_M_raw_48 mFU t0 i1 x1 (0 : Int32) M
set_option maxRecDepth 20000 in
theorem v_M_raw {E : mE} (t0 : Option Nat) (i1 : Int32) (M : mM) : mVr E mi_M_raw 2 0 [some (.inr t0), some (.inl i1), none, none] [] M enI (q_M_raw t0 i1 M) := by
  unfold q_M_raw
  refine m_aload_n (d_M_raw (k := 0) rfl) rfl ?_
  refine m_getI (d_M_raw (k := 1) rfl) fl_M_211 rfl (fun x1 => ?_)
  refine m_ist_n (ls' := [some (.inr t0), some (.inl i1), some (.inl x1), none]) (d_M_raw (k := 2) rfl) (by decide) rfl ?_
  refine m_aload_n (d_M_raw (k := 3) rfl) rfl ?_
  refine m_iconst (v := 0) (d_M_raw (k := 4) rfl) (by decide) ?_
  refine m_pI (d_M_raw (k := 5) rfl) fp_M_211 (fun h => absurd h (by decide)) rfl (fun M => ?_)
  refine m_iload_n (d_M_raw (k := 6) rfl) rfl ?_
  refine m_csI (vs := [.inl i1]) (st := []) (d_M_raw (k := 7) rfl) (s_M_isStation i1 M) cd_M_isStation ml_M_207 sa_M_isStation (by decide) rfl (Nat.le_of_ble_eq_true rfl) (fun x2 M => ?_)
  refine m_if_eq (tgt := 39) (d_M_raw (k := 8) rfl) rfl ?_ ?_
  · refine m_iconst (v := 0) (d_M_raw (k := 20) rfl) (by decide) ?_
    exact m_zret (d_M_raw (k := 21) rfl) rfl
  · refine m_iload_n (d_M_raw (k := 9) rfl) rfl ?_
    refine m_bipush (v := 15) (d_M_raw (k := 10) rfl) (by decide) ?_
    refine m_bipush (v := 90) (d_M_raw (k := 11) rfl) (by decide) ?_
    refine m_csI (vs := [.inl x1, .inl (15 : Int32), .inl (90 : Int32)]) (st := []) (d_M_raw (k := 12) rfl) (s_M_in x1 (15 : Int32) (90 : Int32) M) cd_M_in ml_M_203 sa_M_in (by decide) rfl (Nat.le_of_ble_eq_true rfl) (fun x3 M => ?_)
    refine m_if_eq (tgt := 39) (d_M_raw (k := 13) rfl) rfl ?_ ?_
    · refine m_iconst (v := 0) (d_M_raw (k := 20) rfl) (by decide) ?_
      exact m_zret (d_M_raw (k := 21) rfl) rfl
    · refine m_aload_n (d_M_raw (k := 14) rfl) rfl ?_
      refine m_getR (d_M_raw (k := 15) rfl) fl_M_50 rfl (fun a4 => ?_)
      refine m_iload_n (d_M_raw (k := 16) rfl) rfl ?_
      refine m_iald (d_M_raw (k := 17) rfl) (fun x5 => ?_)
      refine m_bipush (v := 12) (d_M_raw (k := 18) rfl) (by decide) ?_
      refine m_icmp_ne (tgt := 41) (d_M_raw (k := 19) rfl) rfl ?_ ?_
      · refine m_iconst (v := 0) (d_M_raw (k := 20) rfl) (by decide) ?_
        exact m_zret (d_M_raw (k := 21) rfl) rfl
      · refine m_aload_n (d_M_raw (k := 22) rfl) rfl ?_
        refine m_iconst (v := 0) (d_M_raw (k := 23) rfl) (by decide) ?_
        refine m_pI (d_M_raw (k := 24) rfl) fp_M_264 (fun h => absurd h (by decide)) rfl (fun M => ?_)
        refine m_iconst (v := 0) (d_M_raw (k := 25) rfl) (by decide) ?_
        refine m_ist_n (ls' := [some (.inr t0), some (.inl i1), some (.inl x1), some (.inl (0 : Int32))]) (d_M_raw (k := 26) rfl) (by decide) rfl ?_
        exact m_drop (mles_s (mles_s (mles_s (mles_s mles_0)))) (v_M_raw_48 mFU t0 i1 x1 (0 : Int32) M)
theorem s_M_raw {E : mE} (t0 : Option Nat) (i1 : Int32) (M : mM) : mSnd E mi_M_raw 2 [.inr t0, .inl i1] M enI (q_M_raw t0 i1 M) := m_entryZ (by decide) (Nat.le_of_ble_eq_true rfl) rfl (m_drop (mles_s (mles_s (mles_e (mles_e mles_0)))) (v_M_raw t0 i1 M))
def dt_M_isBusy : List (Nat × Instr × Nat) := [(0, .aload_n 0, 1), (1, .getfield 161, 3), (4, .iload_n 1, 1), (5, .iaload, 1), (6, .bipush 48, 2), (8, .if_icmp .le 7, 3), (11, .iconst 1, 1), (12, .goto 4, 3), (15, .iconst 0, 1), (16, .ireturn, 1)]
theorem dx_M_isBusy : ∀ p ∈ dt_M_isBusy, decode prog_12_method_48_code p.1 = .ok p.2 := by decide +kernel
theorem d_M_isBusy {k pc : Nat} {i : Instr} {n : Nat} (h : dt_M_isBusy[k]? = some (pc, i, n)) : decode mi_M_isBusy.2.1 pc = .ok (i, n) := dx_M_isBusy (pc, i, n) (List.mem_of_getElem? h)
def q_M_isBusy (t0 : Option Nat) (i1 : Int32) (M : mM) : Option (Int32 × mM) :=
    x_gR M 10 t0 66 fun a1 =>
    x_aI M 0 a1 i1 fun x2 =>
    if (48 : Int32) < x2 then
      x_rz (1 : Int32) M
    else
      x_rz (0 : Int32) M
set_option maxRecDepth 20000 in
theorem v_M_isBusy {E : mE} (t0 : Option Nat) (i1 : Int32) (M : mM) : mVr E mi_M_isBusy 0 0 [some (.inr t0), some (.inl i1)] [] M enI (q_M_isBusy t0 i1 M) := by
  unfold q_M_isBusy
  refine m_aload_n (d_M_isBusy (k := 0) rfl) rfl ?_
  refine m_getR (d_M_isBusy (k := 1) rfl) fl_M_161 rfl (fun a1 => ?_)
  refine m_iload_n (d_M_isBusy (k := 2) rfl) rfl ?_
  refine m_iald (d_M_isBusy (k := 3) rfl) (fun x2 => ?_)
  refine m_bipush (v := 48) (d_M_isBusy (k := 4) rfl) (by decide) ?_
  refine m_icmp_le (tgt := 15) (d_M_isBusy (k := 5) rfl) rfl ?_ ?_
  · refine m_iconst (v := 1) (d_M_isBusy (k := 6) rfl) (by decide) ?_
    refine m_goto (tgt := 16) (d_M_isBusy (k := 7) rfl) rfl ?_
    exact m_zret (d_M_isBusy (k := 9) rfl) rfl
  · refine m_iconst (v := 0) (d_M_isBusy (k := 8) rfl) (by decide) ?_
    exact m_zret (d_M_isBusy (k := 9) rfl) rfl
theorem s_M_isBusy {E : mE} (t0 : Option Nat) (i1 : Int32) (M : mM) : mSnd E mi_M_isBusy 0 [.inr t0, .inl i1] M enI (q_M_isBusy t0 i1 M) := m_entryZ (by decide) (Nat.le_of_ble_eq_true rfl) rfl (m_drop (mles_s (mles_s mles_0)) (v_M_isBusy t0 i1 M))
def dt_M_sayNumber : List (Nat × Instr × Nat) := [(0, .aload_n 0, 1), (1, .iload_n 1, 1), (2, .iload_n 2, 1), (3, .iload_n 3, 1), (4, .iload 4, 2), (6, .bipush 32, 2), (8, .aload_n 0, 1), (9, .getfield 128, 3), (12, .bipush 6, 2), (14, .iload_n 1, 1), (15, .imul, 1), (16, .iload_n 2, 1), (17, .iadd, 1), (18, .iaload, 1), (19, .imul, 1), (20, .iadd, 1), (21, .iload 5, 2), (23, .ifCond .eq 8, 3), (26, .bipush 16, 2), (28, .goto 4, 3), (31, .iconst 0, 1), (32, .iadd, 1), (33, .invokevirtual 391, 3), (36, .return_, 1)]
theorem dx_M_sayNumber : ∀ p ∈ dt_M_sayNumber, decode prog_12_method_53_code p.1 = .ok p.2 := by decide +kernel
theorem d_M_sayNumber {k pc : Nat} {i : Instr} {n : Nat} (h : dt_M_sayNumber[k]? = some (pc, i, n)) : decode mi_M_sayNumber.2.1 pc = .ok (i, n) := dx_M_sayNumber (pc, i, n) (List.mem_of_getElem? h)
def q_M_sayNumber_32 (j0 : Int32) (j1 : Int32) (j2 : Int32) (j3 : Int32) (j4 : Int32) (u5 : Option Nat) (M : mM) : Option (Unit × mM) :=
    x_cv M 10 u5 (q_M_say u5 j4 j3 j2 (j1 + j0) M) fun _ M =>
    some ((), M)
set_option maxRecDepth 20000 in
theorem v_M_sayNumber_32 {E : mE} (j0 : Int32) (j1 : Int32) (j2 : Int32) (j3 : Int32) (j4 : Int32) (u5 : Option Nat) (M : mM) : mVr E mi_M_sayNumber 4 32 [none, none, none, none, none, none] [.inl j0, .inl j1, .inl j2, .inl j3, .inl j4, .inr u5] M enU (q_M_sayNumber_32 j0 j1 j2 j3 j4 u5 M) := by
  unfold q_M_sayNumber_32
  refine m_iadd (d_M_sayNumber (k := 21) rfl) ?_
  refine m_cvU (c := 10) (vs := [.inl j4, .inl j3, .inl j2, .inl (j1 + j0)]) (st := []) (d_M_sayNumber (k := 22) rfl) (s_M_say u5 j4 j3 j2 (j1 + j0) M) cd_M_say ml_M_391 im_M_say se_M_say rfl (by decide) rfl (Nat.le_of_ble_eq_true rfl) (fun _ M => ?_)
  exact m_vret (d_M_sayNumber (k := 23) rfl) rfl
def q_M_sayNumber (t0 : Option Nat) (i1 : Int32) (i2 : Int32) (i3 : Int32) (i4 : Int32) (i5 : Int32) (M : mM) : Option (Unit × mM) :=
    x_gR M 10 t0 55 fun a1 =>
    x_aI M 0 a1 (((6 : Int32) * i1) + i2) fun x2 =>
    if i5 = 0 then
      q_M_sayNumber_32 (0 : Int32) (i4 + ((32 : Int32) * x2)) i3 i2 i1 t0 M
    else
      q_M_sayNumber_32 (16 : Int32) (i4 + ((32 : Int32) * x2)) i3 i2 i1 t0 M
set_option maxRecDepth 20000 in
theorem v_M_sayNumber {E : mE} (t0 : Option Nat) (i1 : Int32) (i2 : Int32) (i3 : Int32) (i4 : Int32) (i5 : Int32) (M : mM) : mVr E mi_M_sayNumber 4 0 [some (.inr t0), some (.inl i1), some (.inl i2), some (.inl i3), some (.inl i4), some (.inl i5)] [] M enU (q_M_sayNumber t0 i1 i2 i3 i4 i5 M) := by
  unfold q_M_sayNumber
  refine m_aload_n (d_M_sayNumber (k := 0) rfl) rfl ?_
  refine m_iload_n (d_M_sayNumber (k := 1) rfl) rfl ?_
  refine m_iload_n (d_M_sayNumber (k := 2) rfl) rfl ?_
  refine m_iload_n (d_M_sayNumber (k := 3) rfl) rfl ?_
  refine m_iload (d_M_sayNumber (k := 4) rfl) rfl ?_
  refine m_bipush (v := 32) (d_M_sayNumber (k := 5) rfl) (by decide) ?_
  refine m_aload_n (d_M_sayNumber (k := 6) rfl) rfl ?_
  refine m_getR (d_M_sayNumber (k := 7) rfl) fl_M_128 rfl (fun a1 => ?_)
  refine m_bipush (v := 6) (d_M_sayNumber (k := 8) rfl) (by decide) ?_
  refine m_iload_n (d_M_sayNumber (k := 9) rfl) rfl ?_
  refine m_imul (d_M_sayNumber (k := 10) rfl) ?_
  refine m_iload_n (d_M_sayNumber (k := 11) rfl) rfl ?_
  refine m_iadd (d_M_sayNumber (k := 12) rfl) ?_
  refine m_iald (d_M_sayNumber (k := 13) rfl) (fun x2 => ?_)
  refine m_imul (d_M_sayNumber (k := 14) rfl) ?_
  refine m_iadd (d_M_sayNumber (k := 15) rfl) ?_
  refine m_iload (d_M_sayNumber (k := 16) rfl) rfl ?_
  refine m_if_eq (tgt := 31) (d_M_sayNumber (k := 17) rfl) rfl ?_ ?_
  · refine m_iconst (v := 0) (d_M_sayNumber (k := 20) rfl) (by decide) ?_
    exact m_drop (mles_n (mles_n (mles_n (mles_n (mles_n (mles_n mles_0)))))) (v_M_sayNumber_32 (0 : Int32) (i4 + ((32 : Int32) * x2)) i3 i2 i1 t0 M)
  · refine m_bipush (v := 16) (d_M_sayNumber (k := 18) rfl) (by decide) ?_
    refine m_goto (tgt := 32) (d_M_sayNumber (k := 19) rfl) rfl ?_
    exact m_drop (mles_n (mles_n (mles_n (mles_n (mles_n (mles_n mles_0)))))) (v_M_sayNumber_32 (16 : Int32) (i4 + ((32 : Int32) * x2)) i3 i2 i1 t0 M)
theorem s_M_sayNumber {E : mE} (t0 : Option Nat) (i1 : Int32) (i2 : Int32) (i3 : Int32) (i4 : Int32) (i5 : Int32) (M : mM) : mSnd E mi_M_sayNumber 4 [.inr t0, .inl i1, .inl i2, .inl i3, .inl i4, .inl i5] M enU (q_M_sayNumber t0 i1 i2 i3 i4 i5 M) := m_entryU (by decide) (Nat.le_of_ble_eq_true rfl) rfl (m_drop (mles_s (mles_s (mles_s (mles_s (mles_s (mles_s mles_0)))))) (v_M_sayNumber t0 i1 i2 i3 i4 i5 M))
def dt_M_read_0 : List (Nat × Instr × Nat) := [(0, .iload_n 1, 1), (1, .iload_n 2, 1), (2, .invokestatic 258, 3), (5, .ifCond .eq 13, 3), (8, .iload_n 3, 1), (9, .iconst 1, 1), (10, .bipush 64, 2), (12, .invokestatic 203, 3), (15, .ifCond .ne 5, 3), (18, .iconst (-1), 1), (19, .ireturn, 1), (20, .bipush 6, 2), (22, .iload_n 1, 1), (23, .imul, 1), (24, .iload_n 2, 1), (25, .iadd, 1), (26, .istore 4, 2), (28, .aload_n 0, 1), (29, .iload 4, 2), (31, .invokevirtual 395, 3), (34, .istore 5, 2), (36, .iload_n 3, 1), (37, .aload_n 0, 1), (38, .getfield 161, 3), (41, .iload 4, 2), (43, .iaload, 1), (44, .if_icmp .ge 7, 3), (47, .iload_n 3, 1), (48, .goto 10, 3), (51, .aload_n 0, 1), (52, .getfield 161, 3), (55, .iload 4, 2), (57, .iaload, 1), (58, .istore 6, 2), (60, .iconst 0, 1), (61, .istore 7, 2), (63, .iload 7, 2), (65, .iload 6, 2), (67, .if_icmp .ge 29, 3), (70, .aload_n 0, 1)]
theorem dx_M_read_0 : ∀ p ∈ dt_M_read_0, decode prog_12_method_79_code p.1 = .ok p.2 := by decide +kernel
theorem d_M_read_0 {k pc : Nat} {i : Instr} {n : Nat} (h : dt_M_read_0[k]? = some (pc, i, n)) : decode mi_M_read.2.1 pc = .ok (i, n) := dx_M_read_0 (pc, i, n) (List.mem_of_getElem? h)
def dt_M_read_1 : List (Nat × Instr × Nat) := [(71, .getfield 13, 3), (74, .iload 7, 2), (76, .aload_n 0, 1), (77, .getfield 158, 3), (80, .bipush 64, 2), (82, .iload 4, 2), (84, .imul, 1), (85, .iload 7, 2), (87, .iadd, 1), (88, .iaload, 1), (89, .iastore, 1), (90, .iinc 7 1, 3), (93, .goto (-30), 3), (96, .aload_n 0, 1), (97, .iload 6, 2), (99, .putfield 219, 3), (102, .aload_n 0, 1), (103, .getfield 161, 3), (106, .iload 4, 2), (108, .dup2, 1), (109, .iaload, 1), (110, .iload 6, 2), (112, .isub, 1), (113, .iastore, 1), (114, .iconst 0, 1), (115, .istore 7, 2), (117, .iload 7, 2), (119, .aload_n 0, 1), (120, .getfield 161, 3), (123, .iload 4, 2), (125, .iaload, 1), (126, .if_icmp .ge 38, 3), (129, .aload_n 0, 1), (130, .getfield 158, 3), (133, .bipush 64, 2), (135, .iload 4, 2), (137, .imul, 1), (138, .iload 7, 2), (140, .iadd, 1), (141, .aload_n 0, 1)]
theorem dx_M_read_1 : ∀ p ∈ dt_M_read_1, decode prog_12_method_79_code p.1 = .ok p.2 := by decide +kernel
theorem d_M_read_1 {k pc : Nat} {i : Instr} {n : Nat} (h : dt_M_read_1[k]? = some (pc, i, n)) : decode mi_M_read.2.1 pc = .ok (i, n) := dx_M_read_1 (pc, i, n) (List.mem_of_getElem? h)
def dt_M_read_2 : List (Nat × Instr × Nat) := [(142, .getfield 158, 3), (145, .bipush 64, 2), (147, .iload 4, 2), (149, .imul, 1), (150, .iload 7, 2), (152, .iadd, 1), (153, .iload 6, 2), (155, .iadd, 1), (156, .iaload, 1), (157, .iastore, 1), (158, .iinc 7 1, 3), (161, .goto (-44), 3), (164, .iload 5, 2), (166, .ifCond .eq 32, 3), (169, .aload_n 0, 1), (170, .iload 4, 2), (172, .invokevirtual 395, 3), (175, .ifCond .ne 23, 3), (178, .aload_n 0, 1), (179, .getfield 110, 3), (182, .iload 4, 2), (184, .iaload, 1), (185, .iconst 2, 1), (186, .if_icmp .ne 12, 3), (189, .aload_n 0, 1), (190, .iload_n 1, 1), (191, .iload_n 2, 1), (192, .iconst 0, 1), (193, .iconst 1, 1), (194, .iconst 0, 1), (195, .invokevirtual 433, 3), (198, .iload 6, 2), (200, .ireturn, 1)]
theorem dx_M_read_2 : ∀ p ∈ dt_M_read_2, decode prog_12_method_79_code p.1 = .ok p.2 := by decide +kernel
theorem d_M_read_2 {k pc : Nat} {i : Instr} {n : Nat} (h : dt_M_read_2[k]? = some (pc, i, n)) : decode mi_M_read.2.1 pc = .ok (i, n) := dx_M_read_2 (pc, i, n) (List.mem_of_getElem? h)
def q_M_read_117_b (r117 : Option Nat → Int32 → Int32 → Int32 → Int32 → Int32 → Int32 → mM → Option (Int32 × mM)) (t0 : Option Nat) (i1 : Int32) (i2 : Int32) (i4 : Int32) (i5 : Int32) (i6 : Int32) (i7 : Int32) (M : mM) : Option (Int32 × mM) :=
    x_gR M 10 t0 66 fun a1 =>
    x_aI M 0 a1 i4 fun x2 =>
    if i7 < x2 then
      x_gR M 10 t0 65 fun a3 =>
      x_gR M 10 t0 65 fun a4 =>
      x_aI M 0 a4 ((((64 : Int32) * i4) + i7) + i6) fun x5 =>
      x_wI M a3 (((64 : Int32) * i4) + i7) x5 fun M =>
      r117 t0 i1 i2 i4 i5 i6 (i7 + 1) M
    else
      if i5 = 0 then
        some (i6, M)
      else
        x_cv M 10 t0 (q_M_isBusy t0 i4 M) fun x6 M =>
        if x6 = 0 then
          x_gR M 10 t0 49 fun a7 =>
          x_aI M 0 a7 i4 fun x8 =>
          if x8 = (2 : Int32) then
            x_cv M 10 t0 (q_M_sayNumber t0 i1 i2 (0 : Int32) (1 : Int32) (0 : Int32) M) fun _ M =>
            some (i6, M)
          else
            some (i6, M)
        else
          some (i6, M)
def q_M_read_117 : Nat → Option Nat → Int32 → Int32 → Int32 → Int32 → Int32 → Int32 → mM → Option (Int32 × mM)
  | 0, _, _, _, _, _, _, _, _ => none
  | n + 1, t0, i1, i2, i4, i5, i6, i7, M => q_M_read_117_b (q_M_read_117 n) t0 i1 i2 i4 i5 i6 i7 M
set_option maxRecDepth 20000 in
theorem v_M_read_117_b {E : mE} (r117 : Option Nat → Int32 → Int32 → Int32 → Int32 → Int32 → Int32 → mM → Option (Int32 × mM)) (h117 : ∀ (t0 : Option Nat) (i1 : Int32) (i2 : Int32) (i4 : Int32) (i5 : Int32) (i6 : Int32) (i7 : Int32) (M : mM), mVr E mi_M_read 5 117 [some (.inr t0), some (.inl i1), some (.inl i2), none, some (.inl i4), some (.inl i5), some (.inl i6), some (.inl i7)] [] M enI (r117 t0 i1 i2 i4 i5 i6 i7 M)) (t0 : Option Nat) (i1 : Int32) (i2 : Int32) (i4 : Int32) (i5 : Int32) (i6 : Int32) (i7 : Int32) (M : mM) : mVr E mi_M_read 5 117 [some (.inr t0), some (.inl i1), some (.inl i2), none, some (.inl i4), some (.inl i5), some (.inl i6), some (.inl i7)] [] M enI (q_M_read_117_b r117 t0 i1 i2 i4 i5 i6 i7 M) := by
  unfold q_M_read_117_b
  refine m_iload (d_M_read_1 (k := 26) rfl) rfl ?_
  refine m_aload_n (d_M_read_1 (k := 27) rfl) rfl ?_
  refine m_getR (d_M_read_1 (k := 28) rfl) fl_M_161 rfl (fun a1 => ?_)
  refine m_iload (d_M_read_1 (k := 29) rfl) rfl ?_
  refine m_iald (d_M_read_1 (k := 30) rfl) (fun x2 => ?_)
  refine m_icmp_ge (tgt := 164) (d_M_read_1 (k := 31) rfl) rfl ?_ ?_
  · refine m_aload_n (d_M_read_1 (k := 32) rfl) rfl ?_
    refine m_getR (d_M_read_1 (k := 33) rfl) fl_M_158 rfl (fun a3 => ?_)
    refine m_bipush (v := 64) (d_M_read_1 (k := 34) rfl) (by decide) ?_
    refine m_iload (d_M_read_1 (k := 35) rfl) rfl ?_
    refine m_imul (d_M_read_1 (k := 36) rfl) ?_
    refine m_iload (d_M_read_1 (k := 37) rfl) rfl ?_
    refine m_iadd (d_M_read_1 (k := 38) rfl) ?_
    refine m_aload_n (d_M_read_1 (k := 39) rfl) rfl ?_
    refine m_getR (d_M_read_2 (k := 0) rfl) fl_M_158 rfl (fun a4 => ?_)
    refine m_bipush (v := 64) (d_M_read_2 (k := 1) rfl) (by decide) ?_
    refine m_iload (d_M_read_2 (k := 2) rfl) rfl ?_
    refine m_imul (d_M_read_2 (k := 3) rfl) ?_
    refine m_iload (d_M_read_2 (k := 4) rfl) rfl ?_
    refine m_iadd (d_M_read_2 (k := 5) rfl) ?_
    refine m_iload (d_M_read_2 (k := 6) rfl) rfl ?_
    refine m_iadd (d_M_read_2 (k := 7) rfl) ?_
    refine m_iald (d_M_read_2 (k := 8) rfl) (fun x5 => ?_)
    refine m_iast (d_M_read_2 (k := 9) rfl) (fun M => ?_)
    refine m_inc (v := 1) (ls' := [some (.inr t0), some (.inl i1), some (.inl i2), none, some (.inl i4), some (.inl i5), some (.inl i6), some (.inl (i7 + 1))]) (d_M_read_2 (k := 10) rfl) rfl (by decide) (by decide) rfl ?_
    refine m_goto (tgt := 117) (d_M_read_2 (k := 11) rfl) rfl ?_
    exact m_drop (mles_s (mles_s (mles_s (mles_n (mles_s (mles_s (mles_s (mles_s mles_0)))))))) (h117 t0 i1 i2 i4 i5 i6 (i7 + 1) M)
  · refine m_iload (d_M_read_2 (k := 12) rfl) rfl ?_
    refine m_if_eq (tgt := 198) (d_M_read_2 (k := 13) rfl) rfl ?_ ?_
    · refine m_iload (d_M_read_2 (k := 31) rfl) rfl ?_
      exact m_iret (d_M_read_2 (k := 32) rfl) rfl
    · refine m_aload_n (d_M_read_2 (k := 14) rfl) rfl ?_
      refine m_iload (d_M_read_2 (k := 15) rfl) rfl ?_
      refine m_cvI (c := 10) (vs := [.inl i4]) (st := []) (d_M_read_2 (k := 16) rfl) (s_M_isBusy t0 i4 M) cd_M_isBusy ml_M_395 im_M_isBusy se_M_isBusy rfl (by decide) rfl (Nat.le_of_ble_eq_true rfl) (fun x6 M => ?_)
      refine m_if_ne (tgt := 198) (d_M_read_2 (k := 17) rfl) rfl ?_ ?_
      · refine m_aload_n (d_M_read_2 (k := 18) rfl) rfl ?_
        refine m_getR (d_M_read_2 (k := 19) rfl) fl_M_110 rfl (fun a7 => ?_)
        refine m_iload (d_M_read_2 (k := 20) rfl) rfl ?_
        refine m_iald (d_M_read_2 (k := 21) rfl) (fun x8 => ?_)
        refine m_iconst (v := 2) (d_M_read_2 (k := 22) rfl) (by decide) ?_
        refine m_icmp_ne (tgt := 198) (d_M_read_2 (k := 23) rfl) rfl ?_ ?_
        · refine m_aload_n (d_M_read_2 (k := 24) rfl) rfl ?_
          refine m_iload_n (d_M_read_2 (k := 25) rfl) rfl ?_
          refine m_iload_n (d_M_read_2 (k := 26) rfl) rfl ?_
          refine m_iconst (v := 0) (d_M_read_2 (k := 27) rfl) (by decide) ?_
          refine m_iconst (v := 1) (d_M_read_2 (k := 28) rfl) (by decide) ?_
          refine m_iconst (v := 0) (d_M_read_2 (k := 29) rfl) (by decide) ?_
          refine m_cvU (c := 10) (vs := [.inl i1, .inl i2, .inl (0 : Int32), .inl (1 : Int32), .inl (0 : Int32)]) (st := []) (d_M_read_2 (k := 30) rfl) (s_M_sayNumber t0 i1 i2 (0 : Int32) (1 : Int32) (0 : Int32) M) cd_M_sayNumber ml_M_433 im_M_sayNumber se_M_sayNumber rfl (by decide) rfl (Nat.le_of_ble_eq_true rfl) (fun _ M => ?_)
          refine m_iload (d_M_read_2 (k := 31) rfl) rfl ?_
          exact m_iret (d_M_read_2 (k := 32) rfl) rfl
        · refine m_iload (d_M_read_2 (k := 31) rfl) rfl ?_
          exact m_iret (d_M_read_2 (k := 32) rfl) rfl
      · refine m_iload (d_M_read_2 (k := 31) rfl) rfl ?_
        exact m_iret (d_M_read_2 (k := 32) rfl) rfl
theorem v_M_read_117 {E : mE} : ∀ (n : Nat) (t0 : Option Nat) (i1 : Int32) (i2 : Int32) (i4 : Int32) (i5 : Int32) (i6 : Int32) (i7 : Int32) (M : mM), mVr E mi_M_read 5 117 [some (.inr t0), some (.inl i1), some (.inl i2), none, some (.inl i4), some (.inl i5), some (.inl i6), some (.inl i7)] [] M enI (q_M_read_117 n t0 i1 i2 i4 i5 i6 i7 M)
  | 0, _, _, _, _, _, _, _, _ => m_none
  | n + 1, t0, i1, i2, i4, i5, i6, i7, M => v_M_read_117_b _ (v_M_read_117 n) t0 i1 i2 i4 i5 i6 i7 M
def q_M_read_63_b (r63 : Option Nat → Int32 → Int32 → Int32 → Int32 → Int32 → Int32 → mM → Option (Int32 × mM)) (t0 : Option Nat) (i1 : Int32) (i2 : Int32) (i4 : Int32) (i5 : Int32) (i6 : Int32) (i7 : Int32) (M : mM) : Option (Int32 × mM) :=
    if i7 < i6 then
      x_gR M 10 t0 2 fun a1 =>
      x_gR M 10 t0 65 fun a2 =>
      x_aI M 0 a2 (((64 : Int32) * i4) + i7) fun x3 =>
      x_wI M a1 i7 x3 fun M =>
      r63 t0 i1 i2 i4 i5 i6 (i7 + 1) M
    else
      x_pI M 10 t0 3 i6 fun M =>
      x_gR M 10 t0 66 fun a4 =>
      x_aI M 0 a4 i4 fun x5 =>
      x_wI M a4 i4 (x5 - i6) fun M =>
      q_M_read_117 mFU t0 i1 i2 i4 i5 i6 (0 : Int32) M
def q_M_read_63 : Nat → Option Nat → Int32 → Int32 → Int32 → Int32 → Int32 → Int32 → mM → Option (Int32 × mM)
  | 0, _, _, _, _, _, _, _, _ => none
  | n + 1, t0, i1, i2, i4, i5, i6, i7, M => q_M_read_63_b (q_M_read_63 n) t0 i1 i2 i4 i5 i6 i7 M
set_option maxRecDepth 20000 in
theorem v_M_read_63_b {E : mE} (r63 : Option Nat → Int32 → Int32 → Int32 → Int32 → Int32 → Int32 → mM → Option (Int32 × mM)) (h63 : ∀ (t0 : Option Nat) (i1 : Int32) (i2 : Int32) (i4 : Int32) (i5 : Int32) (i6 : Int32) (i7 : Int32) (M : mM), mVr E mi_M_read 5 63 [some (.inr t0), some (.inl i1), some (.inl i2), none, some (.inl i4), some (.inl i5), some (.inl i6), some (.inl i7)] [] M enI (r63 t0 i1 i2 i4 i5 i6 i7 M)) (t0 : Option Nat) (i1 : Int32) (i2 : Int32) (i4 : Int32) (i5 : Int32) (i6 : Int32) (i7 : Int32) (M : mM) : mVr E mi_M_read 5 63 [some (.inr t0), some (.inl i1), some (.inl i2), none, some (.inl i4), some (.inl i5), some (.inl i6), some (.inl i7)] [] M enI (q_M_read_63_b r63 t0 i1 i2 i4 i5 i6 i7 M) := by
  unfold q_M_read_63_b
  refine m_iload (d_M_read_0 (k := 36) rfl) rfl ?_
  refine m_iload (d_M_read_0 (k := 37) rfl) rfl ?_
  refine m_icmp_ge (tgt := 96) (d_M_read_0 (k := 38) rfl) rfl ?_ ?_
  · refine m_aload_n (d_M_read_0 (k := 39) rfl) rfl ?_
    refine m_getR (d_M_read_1 (k := 0) rfl) fl_M_13 rfl (fun a1 => ?_)
    refine m_iload (d_M_read_1 (k := 1) rfl) rfl ?_
    refine m_aload_n (d_M_read_1 (k := 2) rfl) rfl ?_
    refine m_getR (d_M_read_1 (k := 3) rfl) fl_M_158 rfl (fun a2 => ?_)
    refine m_bipush (v := 64) (d_M_read_1 (k := 4) rfl) (by decide) ?_
    refine m_iload (d_M_read_1 (k := 5) rfl) rfl ?_
    refine m_imul (d_M_read_1 (k := 6) rfl) ?_
    refine m_iload (d_M_read_1 (k := 7) rfl) rfl ?_
    refine m_iadd (d_M_read_1 (k := 8) rfl) ?_
    refine m_iald (d_M_read_1 (k := 9) rfl) (fun x3 => ?_)
    refine m_iast (d_M_read_1 (k := 10) rfl) (fun M => ?_)
    refine m_inc (v := 1) (ls' := [some (.inr t0), some (.inl i1), some (.inl i2), none, some (.inl i4), some (.inl i5), some (.inl i6), some (.inl (i7 + 1))]) (d_M_read_1 (k := 11) rfl) rfl (by decide) (by decide) rfl ?_
    refine m_goto (tgt := 63) (d_M_read_1 (k := 12) rfl) rfl ?_
    exact m_drop (mles_s (mles_s (mles_s (mles_n (mles_s (mles_s (mles_s (mles_s mles_0)))))))) (h63 t0 i1 i2 i4 i5 i6 (i7 + 1) M)
  · refine m_aload_n (d_M_read_1 (k := 13) rfl) rfl ?_
    refine m_iload (d_M_read_1 (k := 14) rfl) rfl ?_
    refine m_pI (d_M_read_1 (k := 15) rfl) fp_M_219 (fun h => absurd h (by decide)) rfl (fun M => ?_)
    refine m_aload_n (d_M_read_1 (k := 16) rfl) rfl ?_
    refine m_getR (d_M_read_1 (k := 17) rfl) fl_M_161 rfl (fun a4 => ?_)
    refine m_iload (d_M_read_1 (k := 18) rfl) rfl ?_
    refine m_dup2 (d_M_read_1 (k := 19) rfl) ?_
    refine m_iald (d_M_read_1 (k := 20) rfl) (fun x5 => ?_)
    refine m_iload (d_M_read_1 (k := 21) rfl) rfl ?_
    refine m_isub (d_M_read_1 (k := 22) rfl) ?_
    refine m_iast (d_M_read_1 (k := 23) rfl) (fun M => ?_)
    refine m_iconst (v := 0) (d_M_read_1 (k := 24) rfl) (by decide) ?_
    refine m_ist (ls' := [some (.inr t0), some (.inl i1), some (.inl i2), none, some (.inl i4), some (.inl i5), some (.inl i6), some (.inl (0 : Int32))]) (d_M_read_1 (k := 25) rfl) (by decide) rfl ?_
    exact m_drop (mles_s (mles_s (mles_s (mles_n (mles_s (mles_s (mles_s (mles_s mles_0)))))))) (v_M_read_117 mFU t0 i1 i2 i4 i5 i6 (0 : Int32) M)
theorem v_M_read_63 {E : mE} : ∀ (n : Nat) (t0 : Option Nat) (i1 : Int32) (i2 : Int32) (i4 : Int32) (i5 : Int32) (i6 : Int32) (i7 : Int32) (M : mM), mVr E mi_M_read 5 63 [some (.inr t0), some (.inl i1), some (.inl i2), none, some (.inl i4), some (.inl i5), some (.inl i6), some (.inl i7)] [] M enI (q_M_read_63 n t0 i1 i2 i4 i5 i6 i7 M)
  | 0, _, _, _, _, _, _, _, _ => m_none
  | n + 1, t0, i1, i2, i4, i5, i6, i7, M => v_M_read_63_b _ (v_M_read_63 n) t0 i1 i2 i4 i5 i6 i7 M
def q_M_read_58 (t0 : Option Nat) (i1 : Int32) (i2 : Int32) (i4 : Int32) (i5 : Int32) (j0 : Int32) (M : mM) : Option (Int32 × mM) :=
    q_M_read_63 mFU t0 i1 i2 i4 i5 j0 (0 : Int32) M
set_option maxRecDepth 20000 in
theorem v_M_read_58 {E : mE} (t0 : Option Nat) (i1 : Int32) (i2 : Int32) (i4 : Int32) (i5 : Int32) (j0 : Int32) (M : mM) : mVr E mi_M_read 5 58 [some (.inr t0), some (.inl i1), some (.inl i2), none, some (.inl i4), some (.inl i5), none, none] [.inl j0] M enI (q_M_read_58 t0 i1 i2 i4 i5 j0 M) := by
  unfold q_M_read_58
  refine m_ist (ls' := [some (.inr t0), some (.inl i1), some (.inl i2), none, some (.inl i4), some (.inl i5), some (.inl j0), none]) (d_M_read_0 (k := 33) rfl) (by decide) rfl ?_
  refine m_iconst (v := 0) (d_M_read_0 (k := 34) rfl) (by decide) ?_
  refine m_ist (ls' := [some (.inr t0), some (.inl i1), some (.inl i2), none, some (.inl i4), some (.inl i5), some (.inl j0), some (.inl (0 : Int32))]) (d_M_read_0 (k := 35) rfl) (by decide) rfl ?_
  exact m_drop (mles_s (mles_s (mles_s (mles_n (mles_s (mles_s (mles_s (mles_s mles_0)))))))) (v_M_read_63 mFU t0 i1 i2 i4 i5 j0 (0 : Int32) M)
def q_M_read (t0 : Option Nat) (i1 : Int32) (i2 : Int32) (i3 : Int32) (M : mM) : Option (Int32 × mM) :=
    x_cl (q_M_isLink i1 i2 M) fun x1 M =>
    if x1 = 0 then
      some ((-1 : Int32), M)
    else
      x_cl (q_M_in i3 (1 : Int32) (64 : Int32) M) fun x2 M =>
      if x2 = 0 then
        some ((-1 : Int32), M)
      else
        x_lt (((6 : Int32) * i1) + i2) fun x3 =>
        x_cv M 10 t0 (q_M_isBusy t0 x3 M) fun x4 M =>
        x_gR M 10 t0 66 fun a5 =>
        x_aI M 0 a5 x3 fun x6 =>
        if i3 < x6 then
          q_M_read_58 t0 i1 i2 x3 x4 i3 M
        else
          x_gR M 10 t0 66 fun a7 =>
          x_aI M 0 a7 x3 fun x8 =>
          q_M_read_58 t0 i1 i2 x3 x4 x8 M
set_option maxRecDepth 20000 in
theorem v_M_read {E : mE} (t0 : Option Nat) (i1 : Int32) (i2 : Int32) (i3 : Int32) (M : mM) : mVr E mi_M_read 5 0 [some (.inr t0), some (.inl i1), some (.inl i2), some (.inl i3), none, none, none, none] [] M enI (q_M_read t0 i1 i2 i3 M) := by
  unfold q_M_read
  refine m_iload_n (d_M_read_0 (k := 0) rfl) rfl ?_
  refine m_iload_n (d_M_read_0 (k := 1) rfl) rfl ?_
  refine m_csI (vs := [.inl i1, .inl i2]) (st := []) (d_M_read_0 (k := 2) rfl) (s_M_isLink i1 i2 M) cd_M_isLink ml_M_258 sa_M_isLink (by decide) rfl (Nat.le_of_ble_eq_true rfl) (fun x1 M => ?_)
  refine m_if_eq (tgt := 18) (d_M_read_0 (k := 3) rfl) rfl ?_ ?_
  · refine m_iconst (v := (-1)) (d_M_read_0 (k := 9) rfl) (by decide) ?_
    exact m_iret (d_M_read_0 (k := 10) rfl) rfl
  · refine m_iload_n (d_M_read_0 (k := 4) rfl) rfl ?_
    refine m_iconst (v := 1) (d_M_read_0 (k := 5) rfl) (by decide) ?_
    refine m_bipush (v := 64) (d_M_read_0 (k := 6) rfl) (by decide) ?_
    refine m_csI (vs := [.inl i3, .inl (1 : Int32), .inl (64 : Int32)]) (st := []) (d_M_read_0 (k := 7) rfl) (s_M_in i3 (1 : Int32) (64 : Int32) M) cd_M_in ml_M_203 sa_M_in (by decide) rfl (Nat.le_of_ble_eq_true rfl) (fun x2 M => ?_)
    refine m_if_ne (tgt := 20) (d_M_read_0 (k := 8) rfl) rfl ?_ ?_
    · refine m_iconst (v := (-1)) (d_M_read_0 (k := 9) rfl) (by decide) ?_
      exact m_iret (d_M_read_0 (k := 10) rfl) rfl
    · refine m_bipush (v := 6) (d_M_read_0 (k := 11) rfl) (by decide) ?_
      refine m_iload_n (d_M_read_0 (k := 12) rfl) rfl ?_
      refine m_imul (d_M_read_0 (k := 13) rfl) ?_
      refine m_iload_n (d_M_read_0 (k := 14) rfl) rfl ?_
      refine m_iadd (d_M_read_0 (k := 15) rfl) ?_
      refine m_lt (fun x3 => ?_)
      refine m_ist (ls' := [some (.inr t0), some (.inl i1), some (.inl i2), some (.inl i3), some (.inl x3), none, none, none]) (d_M_read_0 (k := 16) rfl) (by decide) rfl ?_
      refine m_aload_n (d_M_read_0 (k := 17) rfl) rfl ?_
      refine m_iload (d_M_read_0 (k := 18) rfl) rfl ?_
      refine m_cvI (c := 10) (vs := [.inl x3]) (st := []) (d_M_read_0 (k := 19) rfl) (s_M_isBusy t0 x3 M) cd_M_isBusy ml_M_395 im_M_isBusy se_M_isBusy rfl (by decide) rfl (Nat.le_of_ble_eq_true rfl) (fun x4 M => ?_)
      refine m_ist (ls' := [some (.inr t0), some (.inl i1), some (.inl i2), some (.inl i3), some (.inl x3), some (.inl x4), none, none]) (d_M_read_0 (k := 20) rfl) (by decide) rfl ?_
      refine m_iload_n (d_M_read_0 (k := 21) rfl) rfl ?_
      refine m_aload_n (d_M_read_0 (k := 22) rfl) rfl ?_
      refine m_getR (d_M_read_0 (k := 23) rfl) fl_M_161 rfl (fun a5 => ?_)
      refine m_iload (d_M_read_0 (k := 24) rfl) rfl ?_
      refine m_iald (d_M_read_0 (k := 25) rfl) (fun x6 => ?_)
      refine m_icmp_ge (tgt := 51) (d_M_read_0 (k := 26) rfl) rfl ?_ ?_
      · refine m_iload_n (d_M_read_0 (k := 27) rfl) rfl ?_
        refine m_goto (tgt := 58) (d_M_read_0 (k := 28) rfl) rfl ?_
        exact m_drop (mles_s (mles_s (mles_s (mles_n (mles_s (mles_s (mles_n (mles_n mles_0)))))))) (v_M_read_58 t0 i1 i2 x3 x4 i3 M)
      · refine m_aload_n (d_M_read_0 (k := 29) rfl) rfl ?_
        refine m_getR (d_M_read_0 (k := 30) rfl) fl_M_161 rfl (fun a7 => ?_)
        refine m_iload (d_M_read_0 (k := 31) rfl) rfl ?_
        refine m_iald (d_M_read_0 (k := 32) rfl) (fun x8 => ?_)
        exact m_drop (mles_s (mles_s (mles_s (mles_n (mles_s (mles_s (mles_n (mles_n mles_0)))))))) (v_M_read_58 t0 i1 i2 x3 x4 x8 M)
theorem s_M_read {E : mE} (t0 : Option Nat) (i1 : Int32) (i2 : Int32) (i3 : Int32) (M : mM) : mSnd E mi_M_read 5 [.inr t0, .inl i1, .inl i2, .inl i3] M enI (q_M_read t0 i1 i2 i3 M) := m_entryI (by decide) (Nat.le_of_ble_eq_true rfl) rfl (m_drop (mles_s (mles_s (mles_s (mles_s (mles_e (mles_e (mles_e (mles_e mles_0)))))))) (v_M_read t0 i1 i2 i3 M))
def dt_M_route : List (Nat × Instr × Nat) := [(0, .iload_n 1, 1), (1, .invokestatic 207, 3), (4, .ifCond .eq 29, 3), (7, .iload_n 1, 1), (8, .iload_n 2, 1), (9, .invokestatic 258, 3), (12, .ifCond .eq 21, 3), (15, .iload_n 1, 1), (16, .iload_n 3, 1), (17, .invokestatic 258, 3), (20, .ifCond .eq 13, 3), (23, .iload 4, 2), (25, .iconst 0, 1), (26, .iconst 1, 1), (27, .invokestatic 203, 3), (30, .ifCond .ne 5, 3), (33, .iconst (-1), 1), (34, .ireturn, 1), (35, .bipush 36, 2), (37, .iload_n 1, 1), (38, .imul, 1), (39, .bipush 6, 2), (41, .iload_n 2, 1), (42, .imul, 1), (43, .iadd, 1), (44, .iload_n 3, 1), (45, .iadd, 1), (46, .istore 5, 2), (48, .iload 4, 2), (50, .ifCond .ne 13, 3), (53, .aload_n 0, 1), (54, .getfield 185, 3), (57, .iload 5, 2), (59, .iaload, 1), (60, .goto 24, 3), (63, .aload_n 0, 1), (64, .getfield 185, 3), (67, .iload 5, 2), (69, .iaload, 1), (70, .ifCond .ne 7, 3), (73, .iconst 0, 1), (74, .goto 10, 3), (77, .aload_n 0, 1), (78, .getfield 188, 3), (81, .iload 5, 2), (83, .iaload, 1), (84, .ireturn, 1)]
theorem dx_M_route : ∀ p ∈ dt_M_route, decode prog_12_method_84_code p.1 = .ok p.2 := by decide +kernel
theorem d_M_route {k pc : Nat} {i : Instr} {n : Nat} (h : dt_M_route[k]? = some (pc, i, n)) : decode mi_M_route.2.1 pc = .ok (i, n) := dx_M_route (pc, i, n) (List.mem_of_getElem? h)
def q_M_route (t0 : Option Nat) (i1 : Int32) (i2 : Int32) (i3 : Int32) (i4 : Int32) (M : mM) : Option (Int32 × mM) :=
    x_cl (q_M_isStation i1 M) fun x1 M =>
    if x1 = 0 then
      some ((-1 : Int32), M)
    else
      x_cl (q_M_isLink i1 i2 M) fun x2 M =>
      if x2 = 0 then
        some ((-1 : Int32), M)
      else
        x_cl (q_M_isLink i1 i3 M) fun x3 M =>
        if x3 = 0 then
          some ((-1 : Int32), M)
        else
          x_cl (q_M_in i4 (0 : Int32) (1 : Int32) M) fun x4 M =>
          if x4 = 0 then
            some ((-1 : Int32), M)
          else
            x_lt ((((36 : Int32) * i1) + ((6 : Int32) * i2)) + i3) fun x5 =>
            if i4 = 0 then
              x_gR M 10 t0 74 fun a6 =>
              x_aI M 0 a6 x5 fun x7 =>
              some (x7, M)
            else
              x_gR M 10 t0 74 fun a8 =>
              x_aI M 0 a8 x5 fun x9 =>
              if x9 = 0 then
                some ((0 : Int32), M)
              else
                x_gR M 10 t0 75 fun a10 =>
                x_aI M 0 a10 x5 fun x11 =>
                some (x11, M)
set_option maxRecDepth 20000 in
theorem v_M_route {E : mE} (t0 : Option Nat) (i1 : Int32) (i2 : Int32) (i3 : Int32) (i4 : Int32) (M : mM) : mVr E mi_M_route 3 0 [some (.inr t0), some (.inl i1), some (.inl i2), some (.inl i3), some (.inl i4), none] [] M enI (q_M_route t0 i1 i2 i3 i4 M) := by
  unfold q_M_route
  refine m_iload_n (d_M_route (k := 0) rfl) rfl ?_
  refine m_csI (vs := [.inl i1]) (st := []) (d_M_route (k := 1) rfl) (s_M_isStation i1 M) cd_M_isStation ml_M_207 sa_M_isStation (by decide) rfl (Nat.le_of_ble_eq_true rfl) (fun x1 M => ?_)
  refine m_if_eq (tgt := 33) (d_M_route (k := 2) rfl) rfl ?_ ?_
  · refine m_iconst (v := (-1)) (d_M_route (k := 16) rfl) (by decide) ?_
    exact m_iret (d_M_route (k := 17) rfl) rfl
  · refine m_iload_n (d_M_route (k := 3) rfl) rfl ?_
    refine m_iload_n (d_M_route (k := 4) rfl) rfl ?_
    refine m_csI (vs := [.inl i1, .inl i2]) (st := []) (d_M_route (k := 5) rfl) (s_M_isLink i1 i2 M) cd_M_isLink ml_M_258 sa_M_isLink (by decide) rfl (Nat.le_of_ble_eq_true rfl) (fun x2 M => ?_)
    refine m_if_eq (tgt := 33) (d_M_route (k := 6) rfl) rfl ?_ ?_
    · refine m_iconst (v := (-1)) (d_M_route (k := 16) rfl) (by decide) ?_
      exact m_iret (d_M_route (k := 17) rfl) rfl
    · refine m_iload_n (d_M_route (k := 7) rfl) rfl ?_
      refine m_iload_n (d_M_route (k := 8) rfl) rfl ?_
      refine m_csI (vs := [.inl i1, .inl i3]) (st := []) (d_M_route (k := 9) rfl) (s_M_isLink i1 i3 M) cd_M_isLink ml_M_258 sa_M_isLink (by decide) rfl (Nat.le_of_ble_eq_true rfl) (fun x3 M => ?_)
      refine m_if_eq (tgt := 33) (d_M_route (k := 10) rfl) rfl ?_ ?_
      · refine m_iconst (v := (-1)) (d_M_route (k := 16) rfl) (by decide) ?_
        exact m_iret (d_M_route (k := 17) rfl) rfl
      · refine m_iload (d_M_route (k := 11) rfl) rfl ?_
        refine m_iconst (v := 0) (d_M_route (k := 12) rfl) (by decide) ?_
        refine m_iconst (v := 1) (d_M_route (k := 13) rfl) (by decide) ?_
        refine m_csI (vs := [.inl i4, .inl (0 : Int32), .inl (1 : Int32)]) (st := []) (d_M_route (k := 14) rfl) (s_M_in i4 (0 : Int32) (1 : Int32) M) cd_M_in ml_M_203 sa_M_in (by decide) rfl (Nat.le_of_ble_eq_true rfl) (fun x4 M => ?_)
        refine m_if_ne (tgt := 35) (d_M_route (k := 15) rfl) rfl ?_ ?_
        · refine m_iconst (v := (-1)) (d_M_route (k := 16) rfl) (by decide) ?_
          exact m_iret (d_M_route (k := 17) rfl) rfl
        · refine m_bipush (v := 36) (d_M_route (k := 18) rfl) (by decide) ?_
          refine m_iload_n (d_M_route (k := 19) rfl) rfl ?_
          refine m_imul (d_M_route (k := 20) rfl) ?_
          refine m_bipush (v := 6) (d_M_route (k := 21) rfl) (by decide) ?_
          refine m_iload_n (d_M_route (k := 22) rfl) rfl ?_
          refine m_imul (d_M_route (k := 23) rfl) ?_
          refine m_iadd (d_M_route (k := 24) rfl) ?_
          refine m_iload_n (d_M_route (k := 25) rfl) rfl ?_
          refine m_iadd (d_M_route (k := 26) rfl) ?_
          refine m_lt (fun x5 => ?_)
          refine m_ist (ls' := [some (.inr t0), some (.inl i1), some (.inl i2), some (.inl i3), some (.inl i4), some (.inl x5)]) (d_M_route (k := 27) rfl) (by decide) rfl ?_
          refine m_iload (d_M_route (k := 28) rfl) rfl ?_
          refine m_if_ne (tgt := 63) (d_M_route (k := 29) rfl) rfl ?_ ?_
          · refine m_aload_n (d_M_route (k := 30) rfl) rfl ?_
            refine m_getR (d_M_route (k := 31) rfl) fl_M_185 rfl (fun a6 => ?_)
            refine m_iload (d_M_route (k := 32) rfl) rfl ?_
            refine m_iald (d_M_route (k := 33) rfl) (fun x7 => ?_)
            refine m_goto (tgt := 84) (d_M_route (k := 34) rfl) rfl ?_
            exact m_iret (d_M_route (k := 46) rfl) rfl
          · refine m_aload_n (d_M_route (k := 35) rfl) rfl ?_
            refine m_getR (d_M_route (k := 36) rfl) fl_M_185 rfl (fun a8 => ?_)
            refine m_iload (d_M_route (k := 37) rfl) rfl ?_
            refine m_iald (d_M_route (k := 38) rfl) (fun x9 => ?_)
            refine m_if_ne (tgt := 77) (d_M_route (k := 39) rfl) rfl ?_ ?_
            · refine m_iconst (v := 0) (d_M_route (k := 40) rfl) (by decide) ?_
              refine m_goto (tgt := 84) (d_M_route (k := 41) rfl) rfl ?_
              exact m_iret (d_M_route (k := 46) rfl) rfl
            · refine m_aload_n (d_M_route (k := 42) rfl) rfl ?_
              refine m_getR (d_M_route (k := 43) rfl) fl_M_188 rfl (fun a10 => ?_)
              refine m_iload (d_M_route (k := 44) rfl) rfl ?_
              refine m_iald (d_M_route (k := 45) rfl) (fun x11 => ?_)
              exact m_iret (d_M_route (k := 46) rfl) rfl
theorem s_M_route {E : mE} (t0 : Option Nat) (i1 : Int32) (i2 : Int32) (i3 : Int32) (i4 : Int32) (M : mM) : mSnd E mi_M_route 3 [.inr t0, .inl i1, .inl i2, .inl i3, .inl i4] M enI (q_M_route t0 i1 i2 i3 i4 M) := m_entryI (by decide) (Nat.le_of_ble_eq_true rfl) rfl (m_drop (mles_s (mles_s (mles_s (mles_s (mles_s (mles_e mles_0)))))) (v_M_route t0 i1 i2 i3 i4 M))
def dt_M_goDown : List (Nat × Instr × Nat) := [(0, .aload_n 0, 1), (1, .iload_n 1, 1), (2, .invokevirtual 398, 3), (5, .aload_n 0, 1), (6, .getfield 170, 3), (9, .iload_n 1, 1), (10, .iconst 0, 1), (11, .iastore, 1), (12, .return_, 1)]
theorem dx_M_goDown : ∀ p ∈ dt_M_goDown, decode prog_12_method_57_code p.1 = .ok p.2 := by decide +kernel
theorem d_M_goDown {k pc : Nat} {i : Instr} {n : Nat} (h : dt_M_goDown[k]? = some (pc, i, n)) : decode mi_M_goDown.2.1 pc = .ok (i, n) := dx_M_goDown (pc, i, n) (List.mem_of_getElem? h)
def q_M_goDown (t0 : Option Nat) (i1 : Int32) (M : mM) : Option (Unit × mM) :=
    x_cv M 10 t0 (q_M_reset t0 i1 M) fun _ M =>
    x_gR M 10 t0 69 fun a1 =>
    x_wI M a1 i1 (0 : Int32) fun M =>
    some ((), M)
set_option maxRecDepth 20000 in
theorem v_M_goDown {E : mE} (t0 : Option Nat) (i1 : Int32) (M : mM) : mVr E mi_M_goDown 1 0 [some (.inr t0), some (.inl i1)] [] M enU (q_M_goDown t0 i1 M) := by
  unfold q_M_goDown
  refine m_aload_n (d_M_goDown (k := 0) rfl) rfl ?_
  refine m_iload_n (d_M_goDown (k := 1) rfl) rfl ?_
  refine m_cvU (c := 10) (vs := [.inl i1]) (st := []) (d_M_goDown (k := 2) rfl) (s_M_reset t0 i1 M) cd_M_reset ml_M_398 im_M_reset se_M_reset rfl (by decide) rfl (Nat.le_of_ble_eq_true rfl) (fun _ M => ?_)
  refine m_aload_n (d_M_goDown (k := 3) rfl) rfl ?_
  refine m_getR (d_M_goDown (k := 4) rfl) fl_M_170 rfl (fun a1 => ?_)
  refine m_iload_n (d_M_goDown (k := 5) rfl) rfl ?_
  refine m_iconst (v := 0) (d_M_goDown (k := 6) rfl) (by decide) ?_
  refine m_iast (d_M_goDown (k := 7) rfl) (fun M => ?_)
  exact m_vret (d_M_goDown (k := 8) rfl) rfl
theorem s_M_goDown {E : mE} (t0 : Option Nat) (i1 : Int32) (M : mM) : mSnd E mi_M_goDown 1 [.inr t0, .inl i1] M enU (q_M_goDown t0 i1 M) := m_entryU (by decide) (Nat.le_of_ble_eq_true rfl) rfl (m_drop (mles_s (mles_s mles_0)) (v_M_goDown t0 i1 M))
def dt_M_ready : List (Nat × Instr × Nat) := [(0, .aload_n 0, 1), (1, .iload_n 1, 1), (2, .invokevirtual 395, 3), (5, .ifCond .eq 7, 3), (8, .iconst 5, 1), (9, .goto 4, 3), (12, .iconst 1, 1), (13, .ireturn, 1)]
theorem dx_M_ready : ∀ p ∈ dt_M_ready, decode prog_12_method_54_code p.1 = .ok p.2 := by decide +kernel
theorem d_M_ready {k pc : Nat} {i : Instr} {n : Nat} (h : dt_M_ready[k]? = some (pc, i, n)) : decode mi_M_ready.2.1 pc = .ok (i, n) := dx_M_ready (pc, i, n) (List.mem_of_getElem? h)
def q_M_ready (t0 : Option Nat) (i1 : Int32) (M : mM) : Option (Int32 × mM) :=
    x_cv M 10 t0 (q_M_isBusy t0 i1 M) fun x1 M =>
    if x1 = 0 then
      some ((1 : Int32), M)
    else
      some ((5 : Int32), M)
set_option maxRecDepth 20000 in
theorem v_M_ready {E : mE} (t0 : Option Nat) (i1 : Int32) (M : mM) : mVr E mi_M_ready 1 0 [some (.inr t0), some (.inl i1)] [] M enI (q_M_ready t0 i1 M) := by
  unfold q_M_ready
  refine m_aload_n (d_M_ready (k := 0) rfl) rfl ?_
  refine m_iload_n (d_M_ready (k := 1) rfl) rfl ?_
  refine m_cvI (c := 10) (vs := [.inl i1]) (st := []) (d_M_ready (k := 2) rfl) (s_M_isBusy t0 i1 M) cd_M_isBusy ml_M_395 im_M_isBusy se_M_isBusy rfl (by decide) rfl (Nat.le_of_ble_eq_true rfl) (fun x1 M => ?_)
  refine m_if_eq (tgt := 12) (d_M_ready (k := 3) rfl) rfl ?_ ?_
  · refine m_iconst (v := 1) (d_M_ready (k := 6) rfl) (by decide) ?_
    exact m_iret (d_M_ready (k := 7) rfl) rfl
  · refine m_iconst (v := 5) (d_M_ready (k := 4) rfl) (by decide) ?_
    refine m_goto (tgt := 13) (d_M_ready (k := 5) rfl) rfl ?_
    exact m_iret (d_M_ready (k := 7) rfl) rfl
theorem s_M_ready {E : mE} (t0 : Option Nat) (i1 : Int32) (M : mM) : mSnd E mi_M_ready 1 [.inr t0, .inl i1] M enI (q_M_ready t0 i1 M) := m_entryI (by decide) (Nat.le_of_ble_eq_true rfl) rfl (m_drop (mles_s (mles_s mles_0)) (v_M_ready t0 i1 M))
def dt_M_clockGoes_0 : List (Nat × Instr × Nat) := [(0, .bipush 6, 2), (2, .iload_n 1, 1), (3, .imul, 1), (4, .iload_n 2, 1), (5, .iadd, 1), (6, .istore_n 3, 1), (7, .aload_n 0, 1), (8, .getfield 131, 3), (11, .iload_n 3, 1), (12, .iaload, 1), (13, .ifCond .ne 4, 3), (16, .return_, 1), (17, .aload_n 0, 1), (18, .getfield 131, 3), (21, .iload_n 3, 1), (22, .dup2, 1), (23, .iaload, 1), (24, .iconst 1, 1), (25, .isub, 1), (26, .iastore, 1), (27, .aload_n 0, 1), (28, .getfield 131, 3), (31, .iload_n 3, 1), (32, .iaload, 1), (33, .ifCond .le 4, 3), (36, .return_, 1), (37, .aload_n 0, 1), (38, .getfield 134, 3), (41, .iload_n 3, 1), (42, .iaload, 1), (43, .bipush 6, 2), (45, .if_icmp .ne 28, 3), (48, .aload_n 0, 1), (49, .getfield 110, 3), (52, .iload_n 3, 1), (53, .iaload, 1), (54, .iconst 2, 1), (55, .if_icmp .ne 12, 3), (58, .aload_n 0, 1), (59, .iload_n 1, 1)]
theorem dx_M_clockGoes_0 : ∀ p ∈ dt_M_clockGoes_0, decode prog_12_method_66_code p.1 = .ok p.2 := by decide +kernel
theorem d_M_clockGoes_0 {k pc : Nat} {i : Instr} {n : Nat} (h : dt_M_clockGoes_0[k]? = some (pc, i, n)) : decode mi_M_clockGoes.2.1 pc = .ok (i, n) := dx_M_clockGoes_0 (pc, i, n) (List.mem_of_getElem? h)
def dt_M_clockGoes_1 : List (Nat × Instr × Nat) := [(60, .iload_n 2, 1), (61, .iconst 0, 1), (62, .bipush 15, 2), (64, .invokevirtual 391, 3), (67, .aload_n 0, 1), (68, .iload_n 3, 1), (69, .invokevirtual 410, 3), (72, .return_, 1), (73, .aload_n 0, 1), (74, .getfield 134, 3), (77, .iload_n 3, 1), (78, .dup2, 1), (79, .iaload, 1), (80, .iconst 1, 1), (81, .iadd, 1), (82, .iastore, 1), (83, .aload_n 0, 1), (84, .getfield 131, 3), (87, .iload_n 3, 1), (88, .aload_n 0, 1), (89, .getfield 44, 3), (92, .bipush 9, 2), (94, .iload_n 1, 1), (95, .imul, 1), (96, .iconst 4, 1), (97, .iadd, 1), (98, .iaload, 1), (99, .iastore, 1), (100, .aload_n 0, 1), (101, .getfield 110, 3), (104, .iload_n 3, 1), (105, .iaload, 1), (106, .iconst 1, 1), (107, .if_icmp .ne 12, 3), (110, .aload_n 0, 1), (111, .iload_n 1, 1), (112, .iload_n 2, 1), (113, .iconst 1, 1), (114, .bipush 63, 2), (116, .invokevirtual 391, 3)]
theorem dx_M_clockGoes_1 : ∀ p ∈ dt_M_clockGoes_1, decode prog_12_method_66_code p.1 = .ok p.2 := by decide +kernel
theorem d_M_clockGoes_1 {k pc : Nat} {i : Instr} {n : Nat} (h : dt_M_clockGoes_1[k]? = some (pc, i, n)) : decode mi_M_clockGoes.2.1 pc = .ok (i, n) := dx_M_clockGoes_1 (pc, i, n) (List.mem_of_getElem? h)
def dt_M_clockGoes_2 : List (Nat × Instr × Nat) := [(119, .aload_n 0, 1), (120, .getfield 110, 3), (123, .iload_n 3, 1), (124, .iaload, 1), (125, .iconst 3, 1), (126, .if_icmp .ne 12, 3), (129, .aload_n 0, 1), (130, .iload_n 1, 1), (131, .iload_n 2, 1), (132, .iconst 1, 1), (133, .bipush 83, 2), (135, .invokevirtual 391, 3), (138, .aload_n 0, 1), (139, .getfield 110, 3), (142, .iload_n 3, 1), (143, .iaload, 1), (144, .iconst 2, 1), (145, .if_icmp .eq 4, 3), (148, .return_, 1), (149, .aload_n 0, 1), (150, .iload_n 1, 1), (151, .iload_n 2, 1), (152, .iconst 1, 1), (153, .aload_n 0, 1), (154, .iload_n 3, 1), (155, .invokevirtual 430, 3), (158, .iconst 1, 1), (159, .invokevirtual 433, 3), (162, .aload_n 0, 1), (163, .getfield 137, 3), (166, .iload_n 3, 1), (167, .iconst 1, 1), (168, .bastore, 1), (169, .return_, 1)]
theorem dx_M_clockGoes_2 : ∀ p ∈ dt_M_clockGoes_2, decode prog_12_method_66_code p.1 = .ok p.2 := by decide +kernel
theorem d_M_clockGoes_2 {k pc : Nat} {i : Instr} {n : Nat} (h : dt_M_clockGoes_2[k]? = some (pc, i, n)) : decode mi_M_clockGoes.2.1 pc = .ok (i, n) := dx_M_clockGoes_2 (pc, i, n) (List.mem_of_getElem? h)
def q_M_clockGoes_67 (t0 : Option Nat) (i3 : Int32) (M : mM) : Option (Unit × mM) :=
    x_cv M 10 t0 (q_M_goDown t0 i3 M) fun _ M =>
    some ((), M)
set_option maxRecDepth 20000 in
theorem v_M_clockGoes_67 {E : mE} (t0 : Option Nat) (i3 : Int32) (M : mM) : mVr E mi_M_clockGoes 5 67 [some (.inr t0), none, none, some (.inl i3)] [] M enU (q_M_clockGoes_67 t0 i3 M) := by
  unfold q_M_clockGoes_67
  refine m_aload_n (d_M_clockGoes_1 (k := 4) rfl) rfl ?_
  refine m_iload_n (d_M_clockGoes_1 (k := 5) rfl) rfl ?_
  refine m_cvU (c := 10) (vs := [.inl i3]) (st := []) (d_M_clockGoes_1 (k := 6) rfl) (s_M_goDown t0 i3 M) cd_M_goDown ml_M_410 im_M_goDown se_M_goDown rfl (by decide) rfl (Nat.le_of_ble_eq_true rfl) (fun _ M => ?_)
  exact m_vret (d_M_clockGoes_1 (k := 7) rfl) rfl
def q_M_clockGoes_138 (t0 : Option Nat) (i1 : Int32) (i2 : Int32) (i3 : Int32) (M : mM) : Option (Unit × mM) :=
    x_gR M 10 t0 49 fun a1 =>
    x_aI M 0 a1 i3 fun x2 =>
    if x2 = (2 : Int32) then
      x_cv M 10 t0 (q_M_ready t0 i3 M) fun x3 M =>
      x_cv M 10 t0 (q_M_sayNumber t0 i1 i2 (1 : Int32) x3 (1 : Int32) M) fun _ M =>
      x_gR M 10 t0 58 fun a4 =>
      x_wZ M a4 i3 (1 : Int32) fun M =>
      some ((), M)
    else
      some ((), M)
set_option maxRecDepth 20000 in
theorem v_M_clockGoes_138 {E : mE} (t0 : Option Nat) (i1 : Int32) (i2 : Int32) (i3 : Int32) (M : mM) : mVr E mi_M_clockGoes 5 138 [some (.inr t0), some (.inl i1), some (.inl i2), some (.inl i3)] [] M enU (q_M_clockGoes_138 t0 i1 i2 i3 M) := by
  unfold q_M_clockGoes_138
  refine m_aload_n (d_M_clockGoes_2 (k := 12) rfl) rfl ?_
  refine m_getR (d_M_clockGoes_2 (k := 13) rfl) fl_M_110 rfl (fun a1 => ?_)
  refine m_iload_n (d_M_clockGoes_2 (k := 14) rfl) rfl ?_
  refine m_iald (d_M_clockGoes_2 (k := 15) rfl) (fun x2 => ?_)
  refine m_iconst (v := 2) (d_M_clockGoes_2 (k := 16) rfl) (by decide) ?_
  refine m_icmp_eq (tgt := 149) (d_M_clockGoes_2 (k := 17) rfl) rfl ?_ ?_
  · refine m_aload_n (d_M_clockGoes_2 (k := 19) rfl) rfl ?_
    refine m_iload_n (d_M_clockGoes_2 (k := 20) rfl) rfl ?_
    refine m_iload_n (d_M_clockGoes_2 (k := 21) rfl) rfl ?_
    refine m_iconst (v := 1) (d_M_clockGoes_2 (k := 22) rfl) (by decide) ?_
    refine m_aload_n (d_M_clockGoes_2 (k := 23) rfl) rfl ?_
    refine m_iload_n (d_M_clockGoes_2 (k := 24) rfl) rfl ?_
    refine m_cvI (c := 10) (vs := [.inl i3]) (st := [.inl (1 : Int32), .inl i2, .inl i1, .inr t0]) (d_M_clockGoes_2 (k := 25) rfl) (s_M_ready t0 i3 M) cd_M_ready ml_M_430 im_M_ready se_M_ready rfl (by decide) rfl (Nat.le_of_ble_eq_true rfl) (fun x3 M => ?_)
    refine m_iconst (v := 1) (d_M_clockGoes_2 (k := 26) rfl) (by decide) ?_
    refine m_cvU (c := 10) (vs := [.inl i1, .inl i2, .inl (1 : Int32), .inl x3, .inl (1 : Int32)]) (st := []) (d_M_clockGoes_2 (k := 27) rfl) (s_M_sayNumber t0 i1 i2 (1 : Int32) x3 (1 : Int32) M) cd_M_sayNumber ml_M_433 im_M_sayNumber se_M_sayNumber rfl (by decide) rfl (Nat.le_of_ble_eq_true rfl) (fun _ M => ?_)
    refine m_aload_n (d_M_clockGoes_2 (k := 28) rfl) rfl ?_
    refine m_getR (d_M_clockGoes_2 (k := 29) rfl) fl_M_137 rfl (fun a4 => ?_)
    refine m_iload_n (d_M_clockGoes_2 (k := 30) rfl) rfl ?_
    refine m_iconst (v := 1) (d_M_clockGoes_2 (k := 31) rfl) (by decide) ?_
    refine m_zast (d_M_clockGoes_2 (k := 32) rfl) (fun M => ?_)
    exact m_vret (d_M_clockGoes_2 (k := 33) rfl) rfl
  · exact m_vret (d_M_clockGoes_2 (k := 18) rfl) rfl
def q_M_clockGoes_119 (t0 : Option Nat) (i1 : Int32) (i2 : Int32) (i3 : Int32) (M : mM) : Option (Unit × mM) :=
    x_gR M 10 t0 49 fun a1 =>
    x_aI M 0 a1 i3 fun x2 =>
    if x2 = (3 : Int32) then
      x_cv M 10 t0 (q_M_say t0 i1 i2 (1 : Int32) (83 : Int32) M) fun _ M =>
      q_M_clockGoes_138 t0 i1 i2 i3 M
    else
      q_M_clockGoes_138 t0 i1 i2 i3 M
set_option maxRecDepth 20000 in
theorem v_M_clockGoes_119 {E : mE} (t0 : Option Nat) (i1 : Int32) (i2 : Int32) (i3 : Int32) (M : mM) : mVr E mi_M_clockGoes 5 119 [some (.inr t0), some (.inl i1), some (.inl i2), some (.inl i3)] [] M enU (q_M_clockGoes_119 t0 i1 i2 i3 M) := by
  unfold q_M_clockGoes_119
  refine m_aload_n (d_M_clockGoes_2 (k := 0) rfl) rfl ?_
  refine m_getR (d_M_clockGoes_2 (k := 1) rfl) fl_M_110 rfl (fun a1 => ?_)
  refine m_iload_n (d_M_clockGoes_2 (k := 2) rfl) rfl ?_
  refine m_iald (d_M_clockGoes_2 (k := 3) rfl) (fun x2 => ?_)
  refine m_iconst (v := 3) (d_M_clockGoes_2 (k := 4) rfl) (by decide) ?_
  refine m_icmp_ne (tgt := 138) (d_M_clockGoes_2 (k := 5) rfl) rfl ?_ ?_
  · refine m_aload_n (d_M_clockGoes_2 (k := 6) rfl) rfl ?_
    refine m_iload_n (d_M_clockGoes_2 (k := 7) rfl) rfl ?_
    refine m_iload_n (d_M_clockGoes_2 (k := 8) rfl) rfl ?_
    refine m_iconst (v := 1) (d_M_clockGoes_2 (k := 9) rfl) (by decide) ?_
    refine m_bipush (v := 83) (d_M_clockGoes_2 (k := 10) rfl) (by decide) ?_
    refine m_cvU (c := 10) (vs := [.inl i1, .inl i2, .inl (1 : Int32), .inl (83 : Int32)]) (st := []) (d_M_clockGoes_2 (k := 11) rfl) (s_M_say t0 i1 i2 (1 : Int32) (83 : Int32) M) cd_M_say ml_M_391 im_M_say se_M_say rfl (by decide) rfl (Nat.le_of_ble_eq_true rfl) (fun _ M => ?_)
    exact m_drop (mles_s (mles_s (mles_s (mles_s mles_0)))) (v_M_clockGoes_138 t0 i1 i2 i3 M)
  · exact m_drop (mles_s (mles_s (mles_s (mles_s mles_0)))) (v_M_clockGoes_138 t0 i1 i2 i3 M)
def q_M_clockGoes (t0 : Option Nat) (i1 : Int32) (i2 : Int32) (M : mM) : Option (Unit × mM) :=
    x_lt (((6 : Int32) * i1) + i2) fun x1 =>
    x_gR M 10 t0 56 fun a2 =>
    x_aI M 0 a2 x1 fun x3 =>
    if x3 = 0 then
      some ((), M)
    else
      x_gR M 10 t0 56 fun a4 =>
      x_aI M 0 a4 x1 fun x5 =>
      x_wI M a4 x1 (x5 - (1 : Int32)) fun M =>
      x_gR M 10 t0 56 fun a6 =>
      x_aI M 0 a6 x1 fun x7 =>
      if 0 < x7 then
        some ((), M)
      else
        x_gR M 10 t0 57 fun a8 =>
        x_aI M 0 a8 x1 fun x9 =>
        if x9 = (6 : Int32) then
          x_gR M 10 t0 49 fun a10 =>
          x_aI M 0 a10 x1 fun x11 =>
          if x11 = (2 : Int32) then
            x_cv M 10 t0 (q_M_say t0 i1 i2 (0 : Int32) (15 : Int32) M) fun _ M =>
            q_M_clockGoes_67 t0 x1 M
          else
            q_M_clockGoes_67 t0 x1 M
        else
          x_gR M 10 t0 57 fun a12 =>
          x_aI M 0 a12 x1 fun x13 =>
          x_wI M a12 x1 (x13 + (1 : Int32)) fun M =>
          x_gR M 10 t0 56 fun a14 =>
          x_gR M 10 t0 16 fun a15 =>
          x_aI M 0 a15 (((9 : Int32) * i1) + (4 : Int32)) fun x16 =>
          x_wI M a14 x1 x16 fun M =>
          x_gR M 10 t0 49 fun a17 =>
          x_aI M 0 a17 x1 fun x18 =>
          if x18 = (1 : Int32) then
            x_cv M 10 t0 (q_M_say t0 i1 i2 (1 : Int32) (63 : Int32) M) fun _ M =>
            q_M_clockGoes_119 t0 i1 i2 x1 M
          else
            q_M_clockGoes_119 t0 i1 i2 x1 M
set_option maxRecDepth 20000 in
theorem v_M_clockGoes {E : mE} (t0 : Option Nat) (i1 : Int32) (i2 : Int32) (M : mM) : mVr E mi_M_clockGoes 5 0 [some (.inr t0), some (.inl i1), some (.inl i2), none] [] M enU (q_M_clockGoes t0 i1 i2 M) := by
  unfold q_M_clockGoes
  refine m_bipush (v := 6) (d_M_clockGoes_0 (k := 0) rfl) (by decide) ?_
  refine m_iload_n (d_M_clockGoes_0 (k := 1) rfl) rfl ?_
  refine m_imul (d_M_clockGoes_0 (k := 2) rfl) ?_
  refine m_iload_n (d_M_clockGoes_0 (k := 3) rfl) rfl ?_
  refine m_iadd (d_M_clockGoes_0 (k := 4) rfl) ?_
  refine m_lt (fun x1 => ?_)
  refine m_ist_n (ls' := [some (.inr t0), some (.inl i1), some (.inl i2), some (.inl x1)]) (d_M_clockGoes_0 (k := 5) rfl) (by decide) rfl ?_
  refine m_aload_n (d_M_clockGoes_0 (k := 6) rfl) rfl ?_
  refine m_getR (d_M_clockGoes_0 (k := 7) rfl) fl_M_131 rfl (fun a2 => ?_)
  refine m_iload_n (d_M_clockGoes_0 (k := 8) rfl) rfl ?_
  refine m_iald (d_M_clockGoes_0 (k := 9) rfl) (fun x3 => ?_)
  refine m_if_ne (tgt := 17) (d_M_clockGoes_0 (k := 10) rfl) rfl ?_ ?_
  · exact m_vret (d_M_clockGoes_0 (k := 11) rfl) rfl
  · refine m_aload_n (d_M_clockGoes_0 (k := 12) rfl) rfl ?_
    refine m_getR (d_M_clockGoes_0 (k := 13) rfl) fl_M_131 rfl (fun a4 => ?_)
    refine m_iload_n (d_M_clockGoes_0 (k := 14) rfl) rfl ?_
    refine m_dup2 (d_M_clockGoes_0 (k := 15) rfl) ?_
    refine m_iald (d_M_clockGoes_0 (k := 16) rfl) (fun x5 => ?_)
    refine m_iconst (v := 1) (d_M_clockGoes_0 (k := 17) rfl) (by decide) ?_
    refine m_isub (d_M_clockGoes_0 (k := 18) rfl) ?_
    refine m_iast (d_M_clockGoes_0 (k := 19) rfl) (fun M => ?_)
    refine m_aload_n (d_M_clockGoes_0 (k := 20) rfl) rfl ?_
    refine m_getR (d_M_clockGoes_0 (k := 21) rfl) fl_M_131 rfl (fun a6 => ?_)
    refine m_iload_n (d_M_clockGoes_0 (k := 22) rfl) rfl ?_
    refine m_iald (d_M_clockGoes_0 (k := 23) rfl) (fun x7 => ?_)
    refine m_if_le (tgt := 37) (d_M_clockGoes_0 (k := 24) rfl) rfl ?_ ?_
    · exact m_vret (d_M_clockGoes_0 (k := 25) rfl) rfl
    · refine m_aload_n (d_M_clockGoes_0 (k := 26) rfl) rfl ?_
      refine m_getR (d_M_clockGoes_0 (k := 27) rfl) fl_M_134 rfl (fun a8 => ?_)
      refine m_iload_n (d_M_clockGoes_0 (k := 28) rfl) rfl ?_
      refine m_iald (d_M_clockGoes_0 (k := 29) rfl) (fun x9 => ?_)
      refine m_bipush (v := 6) (d_M_clockGoes_0 (k := 30) rfl) (by decide) ?_
      refine m_icmp_ne (tgt := 73) (d_M_clockGoes_0 (k := 31) rfl) rfl ?_ ?_
      · refine m_aload_n (d_M_clockGoes_0 (k := 32) rfl) rfl ?_
        refine m_getR (d_M_clockGoes_0 (k := 33) rfl) fl_M_110 rfl (fun a10 => ?_)
        refine m_iload_n (d_M_clockGoes_0 (k := 34) rfl) rfl ?_
        refine m_iald (d_M_clockGoes_0 (k := 35) rfl) (fun x11 => ?_)
        refine m_iconst (v := 2) (d_M_clockGoes_0 (k := 36) rfl) (by decide) ?_
        refine m_icmp_ne (tgt := 67) (d_M_clockGoes_0 (k := 37) rfl) rfl ?_ ?_
        · refine m_aload_n (d_M_clockGoes_0 (k := 38) rfl) rfl ?_
          refine m_iload_n (d_M_clockGoes_0 (k := 39) rfl) rfl ?_
          refine m_iload_n (d_M_clockGoes_1 (k := 0) rfl) rfl ?_
          refine m_iconst (v := 0) (d_M_clockGoes_1 (k := 1) rfl) (by decide) ?_
          refine m_bipush (v := 15) (d_M_clockGoes_1 (k := 2) rfl) (by decide) ?_
          refine m_cvU (c := 10) (vs := [.inl i1, .inl i2, .inl (0 : Int32), .inl (15 : Int32)]) (st := []) (d_M_clockGoes_1 (k := 3) rfl) (s_M_say t0 i1 i2 (0 : Int32) (15 : Int32) M) cd_M_say ml_M_391 im_M_say se_M_say rfl (by decide) rfl (Nat.le_of_ble_eq_true rfl) (fun _ M => ?_)
          exact m_drop (mles_s (mles_n (mles_n (mles_s mles_0)))) (v_M_clockGoes_67 t0 x1 M)
        · exact m_drop (mles_s (mles_n (mles_n (mles_s mles_0)))) (v_M_clockGoes_67 t0 x1 M)
      · refine m_aload_n (d_M_clockGoes_1 (k := 8) rfl) rfl ?_
        refine m_getR (d_M_clockGoes_1 (k := 9) rfl) fl_M_134 rfl (fun a12 => ?_)
        refine m_iload_n (d_M_clockGoes_1 (k := 10) rfl) rfl ?_
        refine m_dup2 (d_M_clockGoes_1 (k := 11) rfl) ?_
        refine m_iald (d_M_clockGoes_1 (k := 12) rfl) (fun x13 => ?_)
        refine m_iconst (v := 1) (d_M_clockGoes_1 (k := 13) rfl) (by decide) ?_
        refine m_iadd (d_M_clockGoes_1 (k := 14) rfl) ?_
        refine m_iast (d_M_clockGoes_1 (k := 15) rfl) (fun M => ?_)
        refine m_aload_n (d_M_clockGoes_1 (k := 16) rfl) rfl ?_
        refine m_getR (d_M_clockGoes_1 (k := 17) rfl) fl_M_131 rfl (fun a14 => ?_)
        refine m_iload_n (d_M_clockGoes_1 (k := 18) rfl) rfl ?_
        refine m_aload_n (d_M_clockGoes_1 (k := 19) rfl) rfl ?_
        refine m_getR (d_M_clockGoes_1 (k := 20) rfl) fl_M_44 rfl (fun a15 => ?_)
        refine m_bipush (v := 9) (d_M_clockGoes_1 (k := 21) rfl) (by decide) ?_
        refine m_iload_n (d_M_clockGoes_1 (k := 22) rfl) rfl ?_
        refine m_imul (d_M_clockGoes_1 (k := 23) rfl) ?_
        refine m_iconst (v := 4) (d_M_clockGoes_1 (k := 24) rfl) (by decide) ?_
        refine m_iadd (d_M_clockGoes_1 (k := 25) rfl) ?_
        refine m_iald (d_M_clockGoes_1 (k := 26) rfl) (fun x16 => ?_)
        refine m_iast (d_M_clockGoes_1 (k := 27) rfl) (fun M => ?_)
        refine m_aload_n (d_M_clockGoes_1 (k := 28) rfl) rfl ?_
        refine m_getR (d_M_clockGoes_1 (k := 29) rfl) fl_M_110 rfl (fun a17 => ?_)
        refine m_iload_n (d_M_clockGoes_1 (k := 30) rfl) rfl ?_
        refine m_iald (d_M_clockGoes_1 (k := 31) rfl) (fun x18 => ?_)
        refine m_iconst (v := 1) (d_M_clockGoes_1 (k := 32) rfl) (by decide) ?_
        refine m_icmp_ne (tgt := 119) (d_M_clockGoes_1 (k := 33) rfl) rfl ?_ ?_
        · refine m_aload_n (d_M_clockGoes_1 (k := 34) rfl) rfl ?_
          refine m_iload_n (d_M_clockGoes_1 (k := 35) rfl) rfl ?_
          refine m_iload_n (d_M_clockGoes_1 (k := 36) rfl) rfl ?_
          refine m_iconst (v := 1) (d_M_clockGoes_1 (k := 37) rfl) (by decide) ?_
          refine m_bipush (v := 63) (d_M_clockGoes_1 (k := 38) rfl) (by decide) ?_
          refine m_cvU (c := 10) (vs := [.inl i1, .inl i2, .inl (1 : Int32), .inl (63 : Int32)]) (st := []) (d_M_clockGoes_1 (k := 39) rfl) (s_M_say t0 i1 i2 (1 : Int32) (63 : Int32) M) cd_M_say ml_M_391 im_M_say se_M_say rfl (by decide) rfl (Nat.le_of_ble_eq_true rfl) (fun _ M => ?_)
          exact m_drop (mles_s (mles_s (mles_s (mles_s mles_0)))) (v_M_clockGoes_119 t0 i1 i2 x1 M)
        · exact m_drop (mles_s (mles_s (mles_s (mles_s mles_0)))) (v_M_clockGoes_119 t0 i1 i2 x1 M)
theorem s_M_clockGoes {E : mE} (t0 : Option Nat) (i1 : Int32) (i2 : Int32) (M : mM) : mSnd E mi_M_clockGoes 5 [.inr t0, .inl i1, .inl i2] M enU (q_M_clockGoes t0 i1 i2 M) := m_entryU (by decide) (Nat.le_of_ble_eq_true rfl) rfl (m_drop (mles_s (mles_s (mles_s (mles_e mles_0)))) (v_M_clockGoes t0 i1 i2 M))
