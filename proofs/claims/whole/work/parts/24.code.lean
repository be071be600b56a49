def dt_F_readOther : List (Nat × Instr × Nat) := [(0, .bipush 7, 2), (2, .aload_n 0, 1), (3, .getfield 25, 3), (6, .imul, 1), (7, .istore_n 3, 1), (8, .aload_n 0, 1), (9, .iload_n 2, 1), (10, .bipush 16, 2), (12, .iand, 1), (13, .putfield 93, 3), (16, .aload_n 0, 1), (17, .getfield 12, 3), (20, .aload_n 1, 1), (21, .iload_n 3, 1), (22, .iconst 1, 1), (23, .iadd, 1), (24, .invokevirtual 29, 3), (27, .putfield 102, 3), (30, .aload_n 1, 1), (31, .getfield 90, 3), (34, .iload_n 3, 1), (35, .iconst 2, 1), (36, .iadd, 1), (37, .if_icmp .eq 5, 3), (40, .iconst 0, 1), (41, .ireturn, 1), (42, .aload_n 0, 1), (43, .iload_n 2, 1), (44, .aload_n 0, 1), (45, .getfield 93, 3), (48, .isub, 1), (49, .putfield 84, 3), (52, .aload_n 0, 1), (53, .getfield 84, 3), (56, .bipush 47, 2), (58, .if_icmp .eq 12, 3), (61, .aload_n 0, 1), (62, .getfield 84, 3), (65, .bipush 67, 2), (67, .if_icmp .ne 8, 3), (70, .aload_n 0, 1), (71, .getfield 58, 3), (74, .ireturn, 1), (75, .aload_n 0, 1), (76, .getfield 84, 3), (79, .bipush 15, 2), (81, .if_icmp .eq 12, 3), (84, .aload_n 0, 1), (85, .getfield 84, 3), (88, .bipush 99, 2), (90, .if_icmp .ne 16, 3), (93, .aload_n 0, 1), (94, .getfield 58, 3), (97, .ifCond .ne 7, 3), (100, .iconst 1, 1), (101, .goto 4, 3), (104, .iconst 0, 1), (105, .ireturn, 1), (106, .aload_n 0, 1), (107, .iload_n 2, 1), (108, .bipush 15, 2), (110, .iand, 1), (111, .putfield 84, 3), (114, .aload_n 0, 1), (115, .iload_n 2, 1), (116, .iconst 5, 1), (117, .ishr, 1), (118, .putfield 96, 3), (121, .aload_n 0, 1), (122, .getfield 84, 3), (125, .iconst 1, 1), (126, .if_icmp .eq 20, 3), (129, .aload_n 0, 1), (130, .getfield 84, 3), (133, .iconst 5, 1), (134, .if_icmp .eq 12, 3), (137, .aload_n 0, 1), (138, .getfield 84, 3), (141, .bipush 9, 2), (143, .if_icmp .ne 7, 3), (146, .iconst 1, 1), (147, .goto 4, 3), (150, .iconst 0, 1), (151, .ireturn, 1)]
theorem dx_F_readOther : ∀ p ∈ dt_F_readOther, decode prog_3_method_9_code p.1 = .ok p.2 := by decide +kernel
theorem d_F_readOther {k pc : Nat} {i : Instr} {n : Nat} (h : dt_F_readOther[k]? = some (pc, i, n)) : decode mi_F_readOther.2.1 pc = .ok (i, n) := dx_F_readOther (pc, i, n) (List.mem_of_getElem? h)
def q_F_readOther_93 (t0 : Option Nat) (M : mM) : Option (Int32 × mM) :=
    x_gI M 1 t0 4 fun x1 =>
    if x1 = 0 then
      x_rz (1 : Int32) M
    else
      x_rz (0 : Int32) M
set_option maxRecDepth 20000 in
theorem v_F_readOther_93 {E : mE} (t0 : Option Nat) (M : mM) : mVr E mi_F_readOther 1 93 [some (.inr t0), none, none, none] [] M enI (q_F_readOther_93 t0 M) := by
  unfold q_F_readOther_93
  refine m_aload_n (d_F_readOther (k := 51) rfl) rfl ?_
  refine m_getI (d_F_readOther (k := 52) rfl) fl_F_58 rfl (fun x1 => ?_)
  refine m_if_ne (tgt := 104) (d_F_readOther (k := 53) rfl) rfl ?_ ?_
  · refine m_iconst (v := 1) (d_F_readOther (k := 54) rfl) (by decide) ?_
    refine m_goto (tgt := 105) (d_F_readOther (k := 55) rfl) rfl ?_
    exact m_zret (d_F_readOther (k := 57) rfl) rfl
  · refine m_iconst (v := 0) (d_F_readOther (k := 56) rfl) (by decide) ?_
    exact m_zret (d_F_readOther (k := 57) rfl) rfl
def q_F_readOther_146 (M : mM) : Option (Int32 × mM) :=
    x_rz (1 : Int32) M
set_option maxRecDepth 20000 in
theorem v_F_readOther_146 {E : mE} (M : mM) : mVr E mi_F_readOther 1 146 [none, none, none, none] [] M enI (q_F_readOther_146 M) := by
  unfold q_F_readOther_146
  refine m_iconst (v := 1) (d_F_readOther (k := 80) rfl) (by decide) ?_
  refine m_goto (tgt := 151) (d_F_readOther (k := 81) rfl) rfl ?_
  exact m_zret (d_F_readOther (k := 83) rfl) rfl
def q_F_readOther (t0 : Option Nat) (t1 : Option Nat) (i2 : Int32) (M : mM) : Option (Int32 × mM) :=
    x_gI M 1 t0 2 fun x1 =>
    x_lt ((7 : Int32) * x1) fun x2 =>
    x_pI M 1 t0 6 (i2 &&& (16 : Int32)) fun M =>
    x_gR M 1 t0 11 fun a3 =>
    x_cv M 0 t1 (q_B_at t1 (x2 + (1 : Int32)) M) fun x4 M =>
    x_pI M 3 a3 3 x4 fun M =>
    x_gI M 0 t1 1 fun x5 =>
    if x5 = (x2 + (2 : Int32)) then
      x_gI M 1 t0 6 fun x6 =>
      x_pI M 1 t0 5 (i2 - x6) fun M =>
      x_gI M 1 t0 5 fun x7 =>
      if x7 = (47 : Int32) then
        x_gI M 1 t0 4 fun x8 =>
        x_rz x8 M
      else
        x_gI M 1 t0 5 fun x9 =>
        if x9 = (67 : Int32) then
          x_gI M 1 t0 4 fun x10 =>
          x_rz x10 M
        else
          x_gI M 1 t0 5 fun x11 =>
          if x11 = (15 : Int32) then
            q_F_readOther_93 t0 M
          else
            x_gI M 1 t0 5 fun x12 =>
            if x12 = (99 : Int32) then
              q_F_readOther_93 t0 M
            else
              x_pI M 1 t0 5 (i2 &&& (15 : Int32)) fun M =>
              x_pI M 1 t0 7 (i2 >>> ((5 : Int32) &&& 31)) fun M =>
              x_gI M 1 t0 5 fun x13 =>
              if x13 = (1 : Int32) then
                q_F_readOther_146 M
              else
                x_gI M 1 t0 5 fun x14 =>
                if x14 = (5 : Int32) then
                  q_F_readOther_146 M
                else
                  x_gI M 1 t0 5 fun x15 =>
                  if x15 = (9 : Int32) then
                    q_F_readOther_146 M
                  else
                    x_rz (0 : Int32) M
    else
      x_rz (0 : Int32) M
set_option maxRecDepth 20000 in
theorem v_F_readOther {E : mE} (t0 : Option Nat) (t1 : Option Nat) (i2 : Int32) (M : mM) : mVr E mi_F_readOther 1 0 [some (.inr t0), some (.inr t1), some (.inl i2), none] [] M enI (q_F_readOther t0 t1 i2 M) := by
  unfold q_F_readOther
  refine m_bipush (v := 7) (d_F_readOther (k := 0) rfl) (by decide) ?_
  refine m_aload_n (d_F_readOther (k := 1) rfl) rfl ?_
  refine m_getI (d_F_readOther (k := 2) rfl) fl_F_25 rfl (fun x1 => ?_)
  refine m_imul (d_F_readOther (k := 3) rfl) ?_
  refine m_lt (fun x2 => ?_)
  refine m_ist_n (ls' := [some (.inr t0), some (.inr t1), some (.inl i2), some (.inl x2)]) (d_F_readOther (k := 4) rfl) (by decide) rfl ?_
  refine m_aload_n (d_F_readOther (k := 5) rfl) rfl ?_
  refine m_iload_n (d_F_readOther (k := 6) rfl) rfl ?_
  refine m_bipush (v := 16) (d_F_readOther (k := 7) rfl) (by decide) ?_
  refine m_iand (d_F_readOther (k := 8) rfl) ?_
  refine m_pI (d_F_readOther (k := 9) rfl) fp_F_93 (fun h => absurd h (by decide)) rfl (fun M => ?_)
  refine m_aload_n (d_F_readOther (k := 10) rfl) rfl ?_
  refine m_getR (d_F_readOther (k := 11) rfl) fl_F_12 rfl (fun a3 => ?_)
  refine m_aload_n (d_F_readOther (k := 12) rfl) rfl ?_
  refine m_iload_n (d_F_readOther (k := 13) rfl) rfl ?_
  refine m_iconst (v := 1) (d_F_readOther (k := 14) rfl) (by decide) ?_
  refine m_iadd (d_F_readOther (k := 15) rfl) ?_
  refine m_cvI (c := 0) (vs := [.inl (x2 + (1 : Int32))]) (st := [.inr a3]) (d_F_readOther (k := 16) rfl) (s_B_at t1 (x2 + (1 : Int32)) M) cd_B_at ml_F_29 im_B_at se_B_at rfl (by decide) rfl (Nat.le_of_ble_eq_true rfl) (fun x4 M => ?_)
  refine m_pI (d_F_readOther (k := 17) rfl) fp_F_102 (fun h => absurd h (by decide)) rfl (fun M => ?_)
  refine m_aload_n (d_F_readOther (k := 18) rfl) rfl ?_
  refine m_getI (d_F_readOther (k := 19) rfl) fl_F_90 rfl (fun x5 => ?_)
  refine m_iload_n (d_F_readOther (k := 20) rfl) rfl ?_
  refine m_iconst (v := 2) (d_F_readOther (k := 21) rfl) (by decide) ?_
  refine m_iadd (d_F_readOther (k := 22) rfl) ?_
  refine m_icmp_eq (tgt := 42) (d_F_readOther (k := 23) rfl) rfl ?_ ?_
  · refine m_aload_n (d_F_readOther (k := 26) rfl) rfl ?_
    refine m_iload_n (d_F_readOther (k := 27) rfl) rfl ?_
    refine m_aload_n (d_F_readOther (k := 28) rfl) rfl ?_
    refine m_getI (d_F_readOther (k := 29) rfl) fl_F_93 rfl (fun x6 => ?_)
    refine m_isub (d_F_readOther (k := 30) rfl) ?_
    refine m_pI (d_F_readOther (k := 31) rfl) fp_F_84 (fun h => absurd h (by decide)) rfl (fun M => ?_)
    refine m_aload_n (d_F_readOther (k := 32) rfl) rfl ?_
    refine m_getI (d_F_readOther (k := 33) rfl) fl_F_84 rfl (fun x7 => ?_)
    refine m_bipush (v := 47) (d_F_readOther (k := 34) rfl) (by decide) ?_
    refine m_icmp_eq (tgt := 70) (d_F_readOther (k := 35) rfl) rfl ?_ ?_
    · refine m_aload_n (d_F_readOther (k := 40) rfl) rfl ?_
      refine m_getI (d_F_readOther (k := 41) rfl) fl_F_58 rfl (fun x8 => ?_)
      exact m_zret (d_F_readOther (k := 42) rfl) rfl
    · refine m_aload_n (d_F_readOther (k := 36) rfl) rfl ?_
      refine m_getI (d_F_readOther (k := 37) rfl) fl_F_84 rfl (fun x9 => ?_)
      refine m_bipush (v := 67) (d_F_readOther (k := 38) rfl) (by decide) ?_
      refine m_icmp_ne (tgt := 75) (d_F_readOther (k := 39) rfl) rfl ?_ ?_
      · refine m_aload_n (d_F_readOther (k := 40) rfl) rfl ?_
        refine m_getI (d_F_readOther (k := 41) rfl) fl_F_58 rfl (fun x10 => ?_)
        exact m_zret (d_F_readOther (k := 42) rfl) rfl
      · refine m_aload_n (d_F_readOther (k := 43) rfl) rfl ?_
        refine m_getI (d_F_readOther (k := 44) rfl) fl_F_84 rfl (fun x11 => ?_)
        refine m_bipush (v := 15) (d_F_readOther (k := 45) rfl) (by decide) ?_
        refine m_icmp_eq (tgt := 93) (d_F_readOther (k := 46) rfl) rfl ?_ ?_
        · exact m_drop (mles_s (mles_n (mles_n (mles_n mles_0)))) (v_F_readOther_93 t0 M)
        · refine m_aload_n (d_F_readOther (k := 47) rfl) rfl ?_
          refine m_getI (d_F_readOther (k := 48) rfl) fl_F_84 rfl (fun x12 => ?_)
          refine m_bipush (v := 99) (d_F_readOther (k := 49) rfl) (by decide) ?_
          refine m_icmp_ne (tgt := 106) (d_F_readOther (k := 50) rfl) rfl ?_ ?_
          · exact m_drop (mles_s (mles_n (mles_n (mles_n mles_0)))) (v_F_readOther_93 t0 M)
          · refine m_aload_n (d_F_readOther (k := 58) rfl) rfl ?_
            refine m_iload_n (d_F_readOther (k := 59) rfl) rfl ?_
            refine m_bipush (v := 15) (d_F_readOther (k := 60) rfl) (by decide) ?_
            refine m_iand (d_F_readOther (k := 61) rfl) ?_
            refine m_pI (d_F_readOther (k := 62) rfl) fp_F_84 (fun h => absurd h (by decide)) rfl (fun M => ?_)
            refine m_aload_n (d_F_readOther (k := 63) rfl) rfl ?_
            refine m_iload_n (d_F_readOther (k := 64) rfl) rfl ?_
            refine m_iconst (v := 5) (d_F_readOther (k := 65) rfl) (by decide) ?_
            refine m_ishr (d_F_readOther (k := 66) rfl) ?_
            refine m_pI (d_F_readOther (k := 67) rfl) fp_F_96 (fun h => absurd h (by decide)) rfl (fun M => ?_)
            refine m_aload_n (d_F_readOther (k := 68) rfl) rfl ?_
            refine m_getI (d_F_readOther (k := 69) rfl) fl_F_84 rfl (fun x13 => ?_)
            refine m_iconst (v := 1) (d_F_readOther (k := 70) rfl) (by decide) ?_
            refine m_icmp_eq (tgt := 146) (d_F_readOther (k := 71) rfl) rfl ?_ ?_
            · exact m_drop (mles_n (mles_n (mles_n (mles_n mles_0)))) (v_F_readOther_146 M)
            · refine m_aload_n (d_F_readOther (k := 72) rfl) rfl ?_
              refine m_getI (d_F_readOther (k := 73) rfl) fl_F_84 rfl (fun x14 => ?_)
              refine m_iconst (v := 5) (d_F_readOther (k := 74) rfl) (by decide) ?_
              refine m_icmp_eq (tgt := 146) (d_F_readOther (k := 75) rfl) rfl ?_ ?_
              · exact m_drop (mles_n (mles_n (mles_n (mles_n mles_0)))) (v_F_readOther_146 M)
              · refine m_aload_n (d_F_readOther (k := 76) rfl) rfl ?_
                refine m_getI (d_F_readOther (k := 77) rfl) fl_F_84 rfl (fun x15 => ?_)
                refine m_bipush (v := 9) (d_F_readOther (k := 78) rfl) (by decide) ?_
                refine m_icmp_ne (tgt := 150) (d_F_readOther (k := 79) rfl) rfl ?_ ?_
                · exact m_drop (mles_n (mles_n (mles_n (mles_n mles_0)))) (v_F_readOther_146 M)
                · refine m_iconst (v := 0) (d_F_readOther (k := 82) rfl) (by decide) ?_
                  exact m_zret (d_F_readOther (k := 83) rfl) rfl
  · refine m_iconst (v := 0) (d_F_readOther (k := 24) rfl) (by decide) ?_
    exact m_zret (d_F_readOther (k := 25) rfl) rfl
theorem s_F_readOther {E : mE} (t0 : Option Nat) (t1 : Option Nat) (i2 : Int32) (M : mM) : mSnd E mi_F_readOther 1 [.inr t0, .inr t1, .inl i2] M enI (q_F_readOther t0 t1 i2 M) := m_entryZ (by decide) (Nat.le_of_ble_eq_true rfl) rfl (m_drop (mles_s (mles_s (mles_s (mles_e mles_0)))) (v_F_readOther t0 t1 i2 M))
def dt_F_understand : List (Nat × Instr × Nat) := [(0, .aload_n 0, 1), (1, .aload_n 1, 1), (2, .invokevirtual 18, 3), (5, .ifCond .eq 11, 3), (8, .aload_n 0, 1), (9, .aload_n 1, 1), (10, .invokevirtual 22, 3), (13, .ifCond .ne 5, 3), (16, .iconst 0, 1), (17, .ireturn, 1), (18, .aload_n 1, 1), (19, .bipush 7, 2), (21, .aload_n 0, 1), (22, .getfield 25, 3), (25, .imul, 1), (26, .invokevirtual 29, 3), (29, .istore_n 2, 1), (30, .iload_n 2, 1), (31, .iconst (-1), 1), (32, .if_icmp .ne 5, 3), (35, .iconst 0, 1), (36, .ireturn, 1), (37, .aload_n 0, 1), (38, .getfield 35, 3), (41, .bipush 6, 2), (43, .if_icmp .ne 10, 3), (46, .aload_n 0, 1), (47, .aload_n 1, 1), (48, .iload_n 2, 1), (49, .invokevirtual 38, 3), (52, .ireturn, 1), (53, .iload_n 2, 1), (54, .iconst 1, 1), (55, .iand, 1), (56, .ifCond .ne 12, 3), (59, .aload_n 0, 1), (60, .aload_n 1, 1), (61, .iload_n 2, 1), (62, .invokevirtual 42, 3), (65, .goto 9, 3), (68, .aload_n 0, 1), (69, .aload_n 1, 1), (70, .iload_n 2, 1), (71, .invokevirtual 45, 3), (74, .ireturn, 1)]
theorem dx_F_understand : ∀ p ∈ dt_F_understand, decode prog_3_method_2_code p.1 = .ok p.2 := by decide +kernel
theorem d_F_understand {k pc : Nat} {i : Instr} {n : Nat} (h : dt_F_understand[k]? = some (pc, i, n)) : decode mi_F_understand.2.1 pc = .ok (i, n) := dx_F_understand (pc, i, n) (List.mem_of_getElem? h)
def q_F_understand (t0 : Option Nat) (t1 : Option Nat) (M : mM) : Option (Int32 × mM) :=
    x_cv M 1 t0 (q_F_readAddresses t0 t1 M) fun x1 M =>
    if x1 = 0 then
      x_rz (0 : Int32) M
    else
      x_cv M 1 t0 (q_F_readDirection t0 t1 M) fun x2 M =>
      if x2 = 0 then
        x_rz (0 : Int32) M
      else
        x_gI M 1 t0 2 fun x3 =>
        x_cv M 0 t1 (q_B_at t1 ((7 : Int32) * x3) M) fun x4 M =>
        if x4 = (-1 : Int32) then
          x_rz (0 : Int32) M
        else
          x_gI M 1 t0 0 fun x5 =>
          if x5 = (6 : Int32) then
            x_cv M 1 t0 (q_F_readNodes t0 t1 x4 M) fun x6 M =>
            x_rz x6 M
          else
            if (x4 &&& (1 : Int32)) = 0 then
              x_cv M 1 t0 (q_F_readInformation t0 t1 x4 M) fun x7 M =>
              x_rz x7 M
            else
              x_cv M 1 t0 (q_F_readOther t0 t1 x4 M) fun x8 M =>
              x_rz x8 M
set_option maxRecDepth 20000 in
theorem v_F_understand {E : mE} (t0 : Option Nat) (t1 : Option Nat) (M : mM) : mVr E mi_F_understand 3 0 [some (.inr t0), some (.inr t1), none] [] M enI (q_F_understand t0 t1 M) := by
  unfold q_F_understand
  refine m_aload_n (d_F_understand (k := 0) rfl) rfl ?_
  refine m_aload_n (d_F_understand (k := 1) rfl) rfl ?_
  refine m_cvI (c := 1) (vs := [.inr t1]) (st := []) (d_F_understand (k := 2) rfl) (s_F_readAddresses t0 t1 M) cd_F_readAddresses ml_F_18 im_F_readAddresses se_F_readAddresses rfl (by decide) rfl (Nat.le_of_ble_eq_true rfl) (fun x1 M => ?_)
  refine m_if_eq (tgt := 16) (d_F_understand (k := 3) rfl) rfl ?_ ?_
  · refine m_iconst (v := 0) (d_F_understand (k := 8) rfl) (by decide) ?_
    exact m_zret (d_F_understand (k := 9) rfl) rfl
  · refine m_aload_n (d_F_understand (k := 4) rfl) rfl ?_
    refine m_aload_n (d_F_understand (k := 5) rfl) rfl ?_
    refine m_cvI (c := 1) (vs := [.inr t1]) (st := []) (d_F_understand (k := 6) rfl) (s_F_readDirection t0 t1 M) cd_F_readDirection ml_F_22 im_F_readDirection se_F_readDirection rfl (by decide) rfl (Nat.le_of_ble_eq_true rfl) (fun x2 M => ?_)
    refine m_if_ne (tgt := 18) (d_F_understand (k := 7) rfl) rfl ?_ ?_
    · refine m_iconst (v := 0) (d_F_understand (k := 8) rfl) (by decide) ?_
      exact m_zret (d_F_understand (k := 9) rfl) rfl
    · refine m_aload_n (d_F_understand (k := 10) rfl) rfl ?_
      refine m_bipush (v := 7) (d_F_understand (k := 11) rfl) (by decide) ?_
      refine m_aload_n (d_F_understand (k := 12) rfl) rfl ?_
      refine m_getI (d_F_understand (k := 13) rfl) fl_F_25 rfl (fun x3 => ?_)
      refine m_imul (d_F_understand (k := 14) rfl) ?_
      refine m_cvI (c := 0) (vs := [.inl ((7 : Int32) * x3)]) (st := []) (d_F_understand (k := 15) rfl) (s_B_at t1 ((7 : Int32) * x3) M) cd_B_at ml_F_29 im_B_at se_B_at rfl (by decide) rfl (Nat.le_of_ble_eq_true rfl) (fun x4 M => ?_)
      refine m_ist_n (ls' := [some (.inr t0), some (.inr t1), some (.inl x4)]) (d_F_understand (k := 16) rfl) (by decide) rfl ?_
      refine m_iload_n (d_F_understand (k := 17) rfl) rfl ?_
      refine m_iconst (v := (-1)) (d_F_understand (k := 18) rfl) (by decide) ?_
      refine m_icmp_ne (tgt := 37) (d_F_understand (k := 19) rfl) rfl ?_ ?_
      · refine m_iconst (v := 0) (d_F_understand (k := 20) rfl) (by decide) ?_
        exact m_zret (d_F_understand (k := 21) rfl) rfl
      · refine m_aload_n (d_F_understand (k := 22) rfl) rfl ?_
        refine m_getI (d_F_understand (k := 23) rfl) fl_F_35 rfl (fun x5 => ?_)
        refine m_bipush (v := 6) (d_F_understand (k := 24) rfl) (by decide) ?_
        refine m_icmp_ne (tgt := 53) (d_F_understand (k := 25) rfl) rfl ?_ ?_
        · refine m_aload_n (d_F_understand (k := 26) rfl) rfl ?_
          refine m_aload_n (d_F_understand (k := 27) rfl) rfl ?_
          refine m_iload_n (d_F_understand (k := 28) rfl) rfl ?_
          refine m_cvI (c := 1) (vs := [.inr t1, .inl x4]) (st := []) (d_F_understand (k := 29) rfl) (s_F_readNodes t0 t1 x4 M) cd_F_readNodes ml_F_38 im_F_readNodes se_F_readNodes rfl (by decide) rfl (Nat.le_of_ble_eq_true rfl) (fun x6 M => ?_)
          exact m_zret (d_F_understand (k := 30) rfl) rfl
        · refine m_iload_n (d_F_understand (k := 31) rfl) rfl ?_
          refine m_iconst (v := 1) (d_F_understand (k := 32) rfl) (by decide) ?_
          refine m_iand (d_F_understand (k := 33) rfl) ?_
          refine m_if_ne (tgt := 68) (d_F_understand (k := 34) rfl) rfl ?_ ?_
          · refine m_aload_n (d_F_understand (k := 35) rfl) rfl ?_
            refine m_aload_n (d_F_understand (k := 36) rfl) rfl ?_
            refine m_iload_n (d_F_understand (k := 37) rfl) rfl ?_
            refine m_cvI (c := 1) (vs := [.inr t1, .inl x4]) (st := []) (d_F_understand (k := 38) rfl) (s_F_readInformation t0 t1 x4 M) cd_F_readInformation ml_F_42 im_F_readInformation se_F_readInformation rfl (by decide) rfl (Nat.le_of_ble_eq_true rfl) (fun x7 M => ?_)
            refine m_goto (tgt := 74) (d_F_understand (k := 39) rfl) rfl ?_
            exact m_zret (d_F_understand (k := 44) rfl) rfl
          · refine m_aload_n (d_F_understand (k := 40) rfl) rfl ?_
            refine m_aload_n (d_F_understand (k := 41) rfl) rfl ?_
            refine m_iload_n (d_F_understand (k := 42) rfl) rfl ?_
            refine m_cvI (c := 1) (vs := [.inr t1, .inl x4]) (st := []) (d_F_understand (k := 43) rfl) (s_F_readOther t0 t1 x4 M) cd_F_readOther ml_F_45 im_F_readOther se_F_readOther rfl (by decide) rfl (Nat.le_of_ble_eq_true rfl) (fun x8 M => ?_)
            exact m_zret (d_F_understand (k := 44) rfl) rfl
theorem s_F_understand {E : mE} (t0 : Option Nat) (t1 : Option Nat) (M : mM) : mSnd E mi_F_understand 3 [.inr t0, .inr t1] M enI (q_F_understand t0 t1 M) := m_entryZ (by decide) (Nat.le_of_ble_eq_true rfl) rfl (m_drop (mles_s (mles_s (mles_e mles_0))) (v_F_understand t0 t1 M))
def dt_T_put : List (Nat × Instr × Nat) := [(0, .iload_n 1, 1), (1, .invokestatic 22, 3), (4, .ifCond .eq 34, 3), (7, .iload_n 2, 1), (8, .invokestatic 22, 3), (11, .ifCond .eq 27, 3), (14, .aload_n 0, 1), (15, .getfield 15, 3), (18, .bipush 6, 2), (20, .iload_n 1, 1), (21, .imul, 1), (22, .iload_n 2, 1), (23, .iadd, 1), (24, .iload_n 3, 1), (25, .iastore, 1), (26, .aload_n 0, 1), (27, .getfield 19, 3), (30, .bipush 6, 2), (32, .iload_n 1, 1), (33, .imul, 1), (34, .iload_n 2, 1), (35, .iadd, 1), (36, .iconst 5, 1), (37, .iastore, 1), (38, .return_, 1)]
theorem dx_T_put : ∀ p ∈ dt_T_put, decode prog_7_method_4_code p.1 = .ok p.2 := by decide +kernel
theorem d_T_put {k pc : Nat} {i : Instr} {n : Nat} (h : dt_T_put[k]? = some (pc, i, n)) : decode mi_T_put.2.1 pc = .ok (i, n) := dx_T_put (pc, i, n) (List.mem_of_getElem? h)
def q_T_put (t0 : Option Nat) (i1 : Int32) (i2 : Int32) (i3 : Int32) (M : mM) : Option (Unit × mM) :=
    x_cl (q_C_isStation i1 M) fun x1 M =>
    if x1 = 0 then
      some ((), M)
    else
      x_cl (q_C_isStation i2 M) fun x2 M =>
      if x2 = 0 then
        some ((), M)
      else
        x_gR M 5 t0 1 fun a3 =>
        x_wI M a3 (((6 : Int32) * i1) + i2) i3 fun M =>
        x_gR M 5 t0 2 fun a4 =>
        x_wI M a4 (((6 : Int32) * i1) + i2) (5 : Int32) fun M =>
        some ((), M)
set_option maxRecDepth 20000 in
theorem v_T_put {E : mE} (t0 : Option Nat) (i1 : Int32) (i2 : Int32) (i3 : Int32) (M : mM) : mVr E mi_T_put 1 0 [some (.inr t0), some (.inl i1), some (.inl i2), some (.inl i3)] [] M enU (q_T_put t0 i1 i2 i3 M) := by
  unfold q_T_put
  refine m_iload_n (d_T_put (k := 0) rfl) rfl ?_
  refine m_nsI (vs := [.inl i1]) (st := []) (d_T_put (k := 1) rfl) (s_C_isStation i1 M) cd_C_isStation mn_T_22 sa_C_isStation (by decide) rfl (Nat.le_of_ble_eq_true rfl) (fun x1 M => ?_)
  refine m_if_eq (tgt := 38) (d_T_put (k := 2) rfl) rfl ?_ ?_
  · exact m_vret (d_T_put (k := 24) rfl) rfl
  · refine m_iload_n (d_T_put (k := 3) rfl) rfl ?_
    refine m_nsI (vs := [.inl i2]) (st := []) (d_T_put (k := 4) rfl) (s_C_isStation i2 M) cd_C_isStation mn_T_22 sa_C_isStation (by decide) rfl (Nat.le_of_ble_eq_true rfl) (fun x2 M => ?_)
    refine m_if_eq (tgt := 38) (d_T_put (k := 5) rfl) rfl ?_ ?_
    · exact m_vret (d_T_put (k := 24) rfl) rfl
    · refine m_aload_n (d_T_put (k := 6) rfl) rfl ?_
      refine m_getR (d_T_put (k := 7) rfl) fl_T_15 rfl (fun a3 => ?_)
      refine m_bipush (v := 6) (d_T_put (k := 8) rfl) (by decide) ?_
      refine m_iload_n (d_T_put (k := 9) rfl) rfl ?_
      refine m_imul (d_T_put (k := 10) rfl) ?_
      refine m_iload_n (d_T_put (k := 11) rfl) rfl ?_
      refine m_iadd (d_T_put (k := 12) rfl) ?_
      refine m_iload_n (d_T_put (k := 13) rfl) rfl ?_
      refine m_iast (d_T_put (k := 14) rfl) (fun M => ?_)
      refine m_aload_n (d_T_put (k := 15) rfl) rfl ?_
      refine m_getR (d_T_put (k := 16) rfl) fl_T_19 rfl (fun a4 => ?_)
      refine m_bipush (v := 6) (d_T_put (k := 17) rfl) (by decide) ?_
      refine m_iload_n (d_T_put (k := 18) rfl) rfl ?_
      refine m_imul (d_T_put (k := 19) rfl) ?_
      refine m_iload_n (d_T_put (k := 20) rfl) rfl ?_
      refine m_iadd (d_T_put (k := 21) rfl) ?_
      refine m_iconst (v := 5) (d_T_put (k := 22) rfl) (by decide) ?_
      refine m_iast (d_T_put (k := 23) rfl) (fun M => ?_)
      exact m_vret (d_T_put (k := 24) rfl) rfl
theorem s_T_put {E : mE} (t0 : Option Nat) (i1 : Int32) (i2 : Int32) (i3 : Int32) (M : mM) : mSnd E mi_T_put 1 [.inr t0, .inl i1, .inl i2, .inl i3] M enU (q_T_put t0 i1 i2 i3 M) := m_entryU (by decide) (Nat.le_of_ble_eq_true rfl) rfl (m_drop (mles_s (mles_s (mles_s (mles_s mles_0)))) (v_T_put t0 i1 i2 i3 M))
def dt_T_learn : List (Nat × Instr × Nat) := [(0, .aload_n 0, 1), (1, .iload_n 1, 1), (2, .iload_n 1, 1), (3, .iload_n 2, 1), (4, .invokevirtual 40, 3), (7, .iload 4, 2), (9, .istore 5, 2), (11, .iload 5, 2), (13, .iconst 2, 1), (14, .iadd, 1), (15, .aload_n 3, 1), (16, .getfield 44, 3), (19, .if_icmp .ge 74, 3), (22, .aload_n 3, 1), (23, .iload 5, 2), (25, .invokevirtual 47, 3), (28, .istore 6, 2), (30, .aload_n 3, 1), (31, .iload 5, 2), (33, .iconst 2, 1), (34, .iadd, 1), (35, .invokevirtual 47, 3), (38, .istore 7, 2), (40, .iload 6, 2), (42, .aload_n 0, 1), (43, .getfield 9, 3), (46, .if_icmp .eq 41, 3), (49, .aload_n 0, 1), (50, .iload 6, 2), (52, .iload_n 1, 1), (53, .aload_n 3, 1), (54, .iload 5, 2), (56, .iconst 1, 1), (57, .iadd, 1), (58, .invokevirtual 47, 3), (61, .aload_n 0, 1), (62, .getfield 9, 3), (65, .if_icmp .ne 7, 3), (68, .iconst 0, 1), (69, .goto 15, 3), (72, .iload 7, 2), (74, .iload_n 2, 1), (75, .imul, 1), (76, .sipush 128, 3), (79, .iadd, 1), (80, .sipush 256, 3), (83, .idiv, 1), (84, .invokevirtual 40, 3), (87, .iinc 5 3, 3), (90, .goto (-79), 3), (93, .return_, 1)]
theorem dx_T_learn : ∀ p ∈ dt_T_learn, decode prog_7_method_9_code p.1 = .ok p.2 := by decide +kernel
theorem d_T_learn {k pc : Nat} {i : Instr} {n : Nat} (h : dt_T_learn[k]? = some (pc, i, n)) : decode mi_T_learn.2.1 pc = .ok (i, n) := dx_T_learn (pc, i, n) (List.mem_of_getElem? h)
def q_T_learn_87 (r11 : Option Nat → Int32 → Int32 → Option Nat → Int32 → mM → Option (Unit × mM)) (t0 : Option Nat) (i1 : Int32) (i2 : Int32) (t3 : Option Nat) (i5 : Int32) (M : mM) : Option (Unit × mM) :=
    r11 t0 i1 i2 t3 (i5 + 3) M
set_option maxRecDepth 20000 in
theorem v_T_learn_87 {E : mE} (r11 : Option Nat → Int32 → Int32 → Option Nat → Int32 → mM → Option (Unit × mM)) (h11 : ∀ (t0 : Option Nat) (i1 : Int32) (i2 : Int32) (t3 : Option Nat) (i5 : Int32) (M : mM), mVr E mi_T_learn 2 11 [some (.inr t0), some (.inl i1), some (.inl i2), some (.inr t3), none, some (.inl i5), none, none] [] M enU (r11 t0 i1 i2 t3 i5 M)) (t0 : Option Nat) (i1 : Int32) (i2 : Int32) (t3 : Option Nat) (i5 : Int32) (M : mM) : mVr E mi_T_learn 2 87 [some (.inr t0), some (.inl i1), some (.inl i2), some (.inr t3), none, some (.inl i5), none, none] [] M enU (q_T_learn_87 r11 t0 i1 i2 t3 i5 M) := by
  unfold q_T_learn_87
  refine m_inc (v := 3) (ls' := [some (.inr t0), some (.inl i1), some (.inl i2), some (.inr t3), none, some (.inl (i5 + 3)), none, none]) (d_T_learn (k := 48) rfl) rfl (by decide) (by decide) rfl ?_
  refine m_goto (tgt := 11) (d_T_learn (k := 49) rfl) rfl ?_
  exact m_drop (mles_s (mles_s (mles_s (mles_s (mles_n (mles_s (mles_n (mles_n mles_0)))))))) (h11 t0 i1 i2 t3 (i5 + 3) M)
def q_T_learn_84 (r11 : Option Nat → Int32 → Int32 → Option Nat → Int32 → mM → Option (Unit × mM)) (t0 : Option Nat) (i1 : Int32) (i2 : Int32) (t3 : Option Nat) (i5 : Int32) (j0 : Int32) (j1 : Int32) (j2 : Int32) (u3 : Option Nat) (M : mM) : Option (Unit × mM) :=
    x_cv M 5 u3 (q_T_put u3 j2 j1 j0 M) fun _ M =>
    q_T_learn_87 r11 t0 i1 i2 t3 i5 M
set_option maxRecDepth 20000 in
theorem v_T_learn_84 {E : mE} (r11 : Option Nat → Int32 → Int32 → Option Nat → Int32 → mM → Option (Unit × mM)) (h11 : ∀ (t0 : Option Nat) (i1 : Int32) (i2 : Int32) (t3 : Option Nat) (i5 : Int32) (M : mM), mVr E mi_T_learn 2 11 [some (.inr t0), some (.inl i1), some (.inl i2), some (.inr t3), none, some (.inl i5), none, none] [] M enU (r11 t0 i1 i2 t3 i5 M)) (t0 : Option Nat) (i1 : Int32) (i2 : Int32) (t3 : Option Nat) (i5 : Int32) (j0 : Int32) (j1 : Int32) (j2 : Int32) (u3 : Option Nat) (M : mM) : mVr E mi_T_learn 2 84 [some (.inr t0), some (.inl i1), some (.inl i2), some (.inr t3), none, some (.inl i5), none, none] [.inl j0, .inl j1, .inl j2, .inr u3] M enU (q_T_learn_84 r11 t0 i1 i2 t3 i5 j0 j1 j2 u3 M) := by
  unfold q_T_learn_84
  refine m_cvU (c := 5) (vs := [.inl j2, .inl j1, .inl j0]) (st := []) (d_T_learn (k := 47) rfl) (s_T_put u3 j2 j1 j0 M) cd_T_put ml_T_40 im_T_put se_T_put rfl (by decide) rfl (Nat.le_of_ble_eq_true rfl) (fun _ M => ?_)
  exact m_drop (mles_s (mles_s (mles_s (mles_s (mles_n (mles_s (mles_n (mles_n mles_0)))))))) (v_T_learn_87 r11 h11 t0 i1 i2 t3 i5 M)
def q_T_learn_11_b (r11 : Option Nat → Int32 → Int32 → Option Nat → Int32 → mM → Option (Unit × mM)) (t0 : Option Nat) (i1 : Int32) (i2 : Int32) (t3 : Option Nat) (i5 : Int32) (M : mM) : Option (Unit × mM) :=
    x_gI M 0 t3 1 fun x1 =>
    if (i5 + (2 : Int32)) < x1 then
      x_cv M 0 t3 (q_B_at t3 i5 M) fun x2 M =>
      x_cv M 0 t3 (q_B_at t3 (i5 + (2 : Int32)) M) fun x3 M =>
      x_gI M 5 t0 0 fun x4 =>
      if x2 = x4 then
        q_T_learn_87 r11 t0 i1 i2 t3 i5 M
      else
        x_cv M 0 t3 (q_B_at t3 (i5 + (1 : Int32)) M) fun x5 M =>
        x_gI M 5 t0 0 fun x6 =>
        if x5 = x6 then
          q_T_learn_84 r11 t0 i1 i2 t3 i5 (0 : Int32) i1 x2 t0 M
        else
          x_dv ((x3 * i2) + (128 : Int32)) (256 : Int32) fun x7 =>
          q_T_learn_84 r11 t0 i1 i2 t3 i5 x7 i1 x2 t0 M
    else
      some ((), M)
def q_T_learn_11 : Nat → Option Nat → Int32 → Int32 → Option Nat → Int32 → mM → Option (Unit × mM)
  | 0, _, _, _, _, _, _ => none
  | n + 1, t0, i1, i2, t3, i5, M => q_T_learn_11_b (q_T_learn_11 n) t0 i1 i2 t3 i5 M
set_option maxRecDepth 20000 in
theorem v_T_learn_11_b {E : mE} (r11 : Option Nat → Int32 → Int32 → Option Nat → Int32 → mM → Option (Unit × mM)) (h11 : ∀ (t0 : Option Nat) (i1 : Int32) (i2 : Int32) (t3 : Option Nat) (i5 : Int32) (M : mM), mVr E mi_T_learn 2 11 [some (.inr t0), some (.inl i1), some (.inl i2), some (.inr t3), none, some (.inl i5), none, none] [] M enU (r11 t0 i1 i2 t3 i5 M)) (t0 : Option Nat) (i1 : Int32) (i2 : Int32) (t3 : Option Nat) (i5 : Int32) (M : mM) : mVr E mi_T_learn 2 11 [some (.inr t0), some (.inl i1), some (.inl i2), some (.inr t3), none, some (.inl i5), none, none] [] M enU (q_T_learn_11_b r11 t0 i1 i2 t3 i5 M) := by
  unfold q_T_learn_11_b
  refine m_iload (d_T_learn (k := 7) rfl) rfl ?_
  refine m_iconst (v := 2) (d_T_learn (k := 8) rfl) (by decide) ?_
  refine m_iadd (d_T_learn (k := 9) rfl) ?_
  refine m_aload_n (d_T_learn (k := 10) rfl) rfl ?_
  refine m_getI (d_T_learn (k := 11) rfl) fl_T_44 rfl (fun x1 => ?_)
  refine m_icmp_ge (tgt := 93) (d_T_learn (k := 12) rfl) rfl ?_ ?_
  · refine m_aload_n (d_T_learn (k := 13) rfl) rfl ?_
    refine m_iload (d_T_learn (k := 14) rfl) rfl ?_
    refine m_cvI (c := 0) (vs := [.inl i5]) (st := []) (d_T_learn (k := 15) rfl) (s_B_at t3 i5 M) cd_B_at ml_T_47 im_B_at se_B_at rfl (by decide) rfl (Nat.le_of_ble_eq_true rfl) (fun x2 M => ?_)
    refine m_ist (ls' := [some (.inr t0), some (.inl i1), some (.inl i2), some (.inr t3), none, some (.inl i5), some (.inl x2), none]) (d_T_learn (k := 16) rfl) (by decide) rfl ?_
    refine m_aload_n (d_T_learn (k := 17) rfl) rfl ?_
    refine m_iload (d_T_learn (k := 18) rfl) rfl ?_
    refine m_iconst (v := 2) (d_T_learn (k := 19) rfl) (by decide) ?_
    refine m_iadd (d_T_learn (k := 20) rfl) ?_
    refine m_cvI (c := 0) (vs := [.inl (i5 + (2 : Int32))]) (st := []) (d_T_learn (k := 21) rfl) (s_B_at t3 (i5 + (2 : Int32)) M) cd_B_at ml_T_47 im_B_at se_B_at rfl (by decide) rfl (Nat.le_of_ble_eq_true rfl) (fun x3 M => ?_)
    refine m_ist (ls' := [some (.inr t0), some (.inl i1), some (.inl i2), some (.inr t3), none, some (.inl i5), some (.inl x2), some (.inl x3)]) (d_T_learn (k := 22) rfl) (by decide) rfl ?_
    refine m_iload (d_T_learn (k := 23) rfl) rfl ?_
    refine m_aload_n (d_T_learn (k := 24) rfl) rfl ?_
    refine m_getI (d_T_learn (k := 25) rfl) fl_T_9 rfl (fun x4 => ?_)
    refine m_icmp_eq (tgt := 87) (d_T_learn (k := 26) rfl) rfl ?_ ?_
    · exact m_drop (mles_s (mles_s (mles_s (mles_s (mles_n (mles_s (mles_n (mles_n mles_0)))))))) (v_T_learn_87 r11 h11 t0 i1 i2 t3 i5 M)
    · refine m_aload_n (d_T_learn (k := 27) rfl) rfl ?_
      refine m_iload (d_T_learn (k := 28) rfl) rfl ?_
      refine m_iload_n (d_T_learn (k := 29) rfl) rfl ?_
      refine m_aload_n (d_T_learn (k := 30) rfl) rfl ?_
      refine m_iload (d_T_learn (k := 31) rfl) rfl ?_
      refine m_iconst (v := 1) (d_T_learn (k := 32) rfl) (by decide) ?_
      refine m_iadd (d_T_learn (k := 33) rfl) ?_
      refine m_cvI (c := 0) (vs := [.inl (i5 + (1 : Int32))]) (st := [.inl i1, .inl x2, .inr t0]) (d_T_learn (k := 34) rfl) (s_B_at t3 (i5 + (1 : Int32)) M) cd_B_at ml_T_47 im_B_at se_B_at rfl (by decide) rfl (Nat.le_of_ble_eq_true rfl) (fun x5 M => ?_)
      refine m_aload_n (d_T_learn (k := 35) rfl) rfl ?_
      refine m_getI (d_T_learn (k := 36) rfl) fl_T_9 rfl (fun x6 => ?_)
      refine m_icmp_ne (tgt := 72) (d_T_learn (k := 37) rfl) rfl ?_ ?_
      · refine m_iconst (v := 0) (d_T_learn (k := 38) rfl) (by decide) ?_
        refine m_goto (tgt := 84) (d_T_learn (k := 39) rfl) rfl ?_
        exact m_drop (mles_s (mles_s (mles_s (mles_s (mles_n (mles_s (mles_n (mles_n mles_0)))))))) (v_T_learn_84 r11 h11 t0 i1 i2 t3 i5 (0 : Int32) i1 x2 t0 M)
      · refine m_iload (d_T_learn (k := 40) rfl) rfl ?_
        refine m_iload_n (d_T_learn (k := 41) rfl) rfl ?_
        refine m_imul (d_T_learn (k := 42) rfl) ?_
        refine m_sipush (v := 128) (d_T_learn (k := 43) rfl) (by decide) ?_
        refine m_iadd (d_T_learn (k := 44) rfl) ?_
        refine m_sipush (v := 256) (d_T_learn (k := 45) rfl) (by decide) ?_
        refine m_idiv (d_T_learn (k := 46) rfl) (fun x7 => ?_)
        exact m_drop (mles_s (mles_s (mles_s (mles_s (mles_n (mles_s (mles_n (mles_n mles_0)))))))) (v_T_learn_84 r11 h11 t0 i1 i2 t3 i5 x7 i1 x2 t0 M)
  · exact m_vret (d_T_learn (k := 50) rfl) rfl
theorem v_T_learn_11 {E : mE} : ∀ (n : Nat) (t0 : Option Nat) (i1 : Int32) (i2 : Int32) (t3 : Option Nat) (i5 : Int32) (M : mM), mVr E mi_T_learn 2 11 [some (.inr t0), some (.inl i1), some (.inl i2), some (.inr t3), none, some (.inl i5), none, none] [] M enU (q_T_learn_11 n t0 i1 i2 t3 i5 M)
  | 0, _, _, _, _, _, _ => m_none
  | n + 1, t0, i1, i2, t3, i5, M => v_T_learn_11_b _ (v_T_learn_11 n) t0 i1 i2 t3 i5 M
def q_T_learn (t0 : Option Nat) (i1 : Int32) (i2 : Int32) (t3 : Option Nat) (i4 : Int32) (M : mM) : Option (Unit × mM) :=
    x_cv M 5 t0 (q_T_put t0 i1 i1 i2 M) fun _ M =>
    q_T_learn_11 mFU t0 i1 i2 t3 i4 M
set_option maxRecDepth 20000 in
theorem v_T_learn {E : mE} (t0 : Option Nat) (i1 : Int32) (i2 : Int32) (t3 : Option Nat) (i4 : Int32) (M : mM) : mVr E mi_T_learn 2 0 [some (.inr t0), some (.inl i1), some (.inl i2), some (.inr t3), some (.inl i4), none, none, none] [] M enU (q_T_learn t0 i1 i2 t3 i4 M) := by
  unfold q_T_learn
  refine m_aload_n (d_T_learn (k := 0) rfl) rfl ?_
  refine m_iload_n (d_T_learn (k := 1) rfl) rfl ?_
  refine m_iload_n (d_T_learn (k := 2) rfl) rfl ?_
  refine m_iload_n (d_T_learn (k := 3) rfl) rfl ?_
  refine m_cvU (c := 5) (vs := [.inl i1, .inl i1, .inl i2]) (st := []) (d_T_learn (k := 4) rfl) (s_T_put t0 i1 i1 i2 M) cd_T_put ml_T_40 im_T_put se_T_put rfl (by decide) rfl (Nat.le_of_ble_eq_true rfl) (fun _ M => ?_)
  refine m_iload (d_T_learn (k := 5) rfl) rfl ?_
  refine m_ist (ls' := [some (.inr t0), some (.inl i1), some (.inl i2), some (.inr t3), some (.inl i4), some (.inl i4), none, none]) (d_T_learn (k := 6) rfl) (by decide) rfl ?_
  exact m_drop (mles_s (mles_s (mles_s (mles_s (mles_n (mles_s (mles_n (mles_n mles_0)))))))) (v_T_learn_11 mFU t0 i1 i2 t3 i4 M)
theorem s_T_learn {E : mE} (t0 : Option Nat) (i1 : Int32) (i2 : Int32) (t3 : Option Nat) (i4 : Int32) (M : mM) : mSnd E mi_T_learn 2 [.inr t0, .inl i1, .inl i2, .inr t3, .inl i4] M enU (q_T_learn t0 i1 i2 t3 i4 M) := m_entryU (by decide) (Nat.le_of_ble_eq_true rfl) rfl (m_drop (mles_s (mles_s (mles_s (mles_s (mles_s (mles_e (mles_e (mles_e mles_0)))))))) (v_T_learn t0 i1 i2 t3 i4 M))
def dt_C_takeFrame_0 : List (Nat × Instr × Nat) := [(0, .aload_n 1, 1), (1, .getfield 374, 3), (4, .getfield 99, 3), (7, .astore_n 2, 1), (8, .aload_n 0, 1), (9, .getfield 57, 3), (12, .aload_n 2, 1), (13, .invokevirtual 396, 3), (16, .ifCond .ne 14, 3), (19, .aload_n 1, 1), (20, .dup, 1), (21, .getfield 282, 3), (24, .iconst 1, 1), (25, .iadd, 1), (26, .putfield 282, 3), (29, .return_, 1), (30, .aload_n 0, 1), (31, .getfield 57, 3), (34, .getfield 399, 3), (37, .iconst (-1), 1), (38, .if_icmp .eq 10, 3), (41, .aload_n 0, 1), (42, .aload_n 1, 1), (43, .aload_n 2, 1), (44, .invokevirtual 402, 3), (47, .return_, 1), (48, .aload_n 0, 1), (49, .getfield 57, 3), (52, .getfield 406, 3), (55, .iconst 3, 1), (56, .if_icmp .ne 46, 3), (59, .aload_n 0, 1), (60, .getfield 57, 3), (63, .getfield 409, 3), (66, .aload_n 1, 1), (67, .getfield 368, 3), (70, .if_icmp .eq 31, 3), (73, .aload_n 1, 1), (74, .getfield 318, 3), (77, .aload_n 0, 1)]
theorem dx_C_takeFrame_0 : ∀ p ∈ dt_C_takeFrame_0, decode prog_1_method_41_code p.1 = .ok p.2 := by decide +kernel
theorem d_C_takeFrame_0 {k pc : Nat} {i : Instr} {n : Nat} (h : dt_C_takeFrame_0[k]? = some (pc, i, n)) : decode mi_C_takeFrame.2.1 pc = .ok (i, n) := dx_C_takeFrame_0 (pc, i, n) (List.mem_of_getElem? h)
def dt_C_takeFrame_1 : List (Nat × Instr × Nat) := [(78, .getfield 57, 3), (81, .getfield 409, 3), (84, .aload_n 1, 1), (85, .getfield 120, 3), (88, .iconst 5, 1), (89, .iaload, 1), (90, .aload_n 2, 1), (91, .aload_n 0, 1), (92, .getfield 57, 3), (95, .getfield 412, 3), (98, .invokevirtual 415, 3), (101, .return_, 1), (102, .aload_n 1, 1), (103, .aload_n 0, 1), (104, .getfield 57, 3), (107, .getfield 409, 3), (110, .invokevirtual 339, 3), (113, .astore_n 3, 1), (114, .aload_n 0, 1), (115, .getfield 57, 3), (118, .getfield 419, 3), (121, .aload_n 1, 1), (122, .getfield 368, 3), (125, .if_icmp .ne 7, 3), (128, .aload_n 3, 1), (129, .ifnonnull 4, 3), (132, .return_, 1), (133, .aload_n 0, 1), (134, .getfield 57, 3), (137, .getfield 406, 3), (140, .bipush 47, 2), (142, .if_icmp .ne 11, 3), (145, .aload_n 0, 1), (146, .aload_n 3, 1), (147, .invokevirtual 422, 3), (150, .goto 71, 3), (153, .aload_n 0, 1), (154, .getfield 57, 3), (157, .getfield 425, 3), (160, .getfield 315, 3)]
theorem dx_C_takeFrame_1 : ∀ p ∈ dt_C_takeFrame_1, decode prog_1_method_41_code p.1 = .ok p.2 := by decide +kernel
theorem d_C_takeFrame_1 {k pc : Nat} {i : Instr} {n : Nat} (h : dt_C_takeFrame_1[k]? = some (pc, i, n)) : decode mi_C_takeFrame.2.1 pc = .ok (i, n) := dx_C_takeFrame_1 (pc, i, n) (List.mem_of_getElem? h)
def dt_C_takeFrame_2 : List (Nat × Instr × Nat) := [(163, .aload_n 3, 1), (164, .getfield 148, 3), (167, .getfield 315, 3), (170, .if_icmp .ne 10, 3), (173, .aload_n 3, 1), (174, .getfield 141, 3), (177, .ifCond .ne 23, 3), (180, .aload_n 0, 1), (181, .getfield 57, 3), (184, .getfield 428, 3), (187, .ifCond .eq 34, 3), (190, .aload_n 0, 1), (191, .aload_n 1, 1), (192, .bipush 15, 2), (194, .invokevirtual 431, 3), (197, .goto 24, 3), (200, .aload_n 3, 1), (201, .getfield 141, 3), (204, .iconst 2, 1), (205, .if_icmp .ne 11, 3), (208, .aload_n 0, 1), (209, .aload_n 3, 1), (210, .invokevirtual 433, 3), (213, .goto 8, 3), (216, .aload_n 0, 1), (217, .aload_n 3, 1), (218, .invokevirtual 436, 3), (221, .return_, 1)]
theorem dx_C_takeFrame_2 : ∀ p ∈ dt_C_takeFrame_2, decode prog_1_method_41_code p.1 = .ok p.2 := by decide +kernel
theorem d_C_takeFrame_2 {k pc : Nat} {i : Instr} {n : Nat} (h : dt_C_takeFrame_2[k]? = some (pc, i, n)) : decode mi_C_takeFrame.2.1 pc = .ok (i, n) := dx_C_takeFrame_2 (pc, i, n) (List.mem_of_getElem? h)
def q_C_takeFrame_180 (t0 : Option Nat) (t1 : Option Nat) (M : mM) : Option (Unit × mM) :=
    x_gR M 9 t0 6 fun a1 =>
    x_gI M 1 a1 4 fun x2 =>
    if x2 = 0 then
      some ((), M)
    else
      x_cv M 9 t0 (q_C_answer t0 t1 (15 : Int32) M) fun _ M =>
      some ((), M)
set_option maxRecDepth 20000 in
theorem v_C_takeFrame_180 {E : mE} (t0 : Option Nat) (t1 : Option Nat) (M : mM) : mVr E mi_C_takeFrame 7 180 [some (.inr t0), some (.inr t1), none, none] [] M enU (q_C_takeFrame_180 t0 t1 M) := by
  unfold q_C_takeFrame_180
  refine m_aload_n (d_C_takeFrame_2 (k := 7) rfl) rfl ?_
  refine m_getR (d_C_takeFrame_2 (k := 8) rfl) fl_C_57 rfl (fun a1 => ?_)
  refine m_getI (d_C_takeFrame_2 (k := 9) rfl) fl_C_428 rfl (fun x2 => ?_)
  refine m_if_eq (tgt := 221) (d_C_takeFrame_2 (k := 10) rfl) rfl ?_ ?_
  · exact m_vret (d_C_takeFrame_2 (k := 27) rfl) rfl
  · refine m_aload_n (d_C_takeFrame_2 (k := 11) rfl) rfl ?_
    refine m_aload_n (d_C_takeFrame_2 (k := 12) rfl) rfl ?_
    refine m_bipush (v := 15) (d_C_takeFrame_2 (k := 13) rfl) (by decide) ?_
    refine m_cvU (c := 9) (vs := [.inr t1, .inl (15 : Int32)]) (st := []) (d_C_takeFrame_2 (k := 14) rfl) (s_C_answer t0 t1 (15 : Int32) M) cd_C_answer ml_C_431 im_C_answer se_C_answer rfl (by decide) rfl (Nat.le_of_ble_eq_true rfl) (fun _ M => ?_)
    refine m_goto (tgt := 221) (d_C_takeFrame_2 (k := 15) rfl) rfl ?_
    exact m_vret (d_C_takeFrame_2 (k := 27) rfl) rfl
def q_C_takeFrame (t0 : Option Nat) (t1 : Option Nat) (M : mM) : Option (Unit × mM) :=
    x_gR M 8 t1 3 fun a1 =>
    x_gR M 4 a1 5 fun a2 =>
    x_gR M 9 t0 6 fun a3 =>
    x_cv M 1 a3 (q_F_understand a3 a2 M) fun x4 M =>
    if x4 = 0 then
      x_gI M 8 t1 16 fun x5 =>
      x_pI M 8 t1 16 (x5 + (1 : Int32)) fun M =>
      some ((), M)
    else
      x_gR M 9 t0 6 fun a6 =>
      x_gI M 1 a6 3 fun x7 =>
      if x7 = (-1 : Int32) then
        x_gR M 9 t0 6 fun a8 =>
        x_gI M 1 a8 5 fun x9 =>
        if x9 = (3 : Int32) then
          x_gR M 9 t0 6 fun a10 =>
          x_gI M 1 a10 1 fun x11 =>
          x_gI M 8 t1 0 fun x12 =>
          if x11 = x12 then
            some ((), M)
          else
            x_gR M 8 t1 7 fun a13 =>
            x_gR M 9 t0 6 fun a14 =>
            x_gI M 1 a14 1 fun x15 =>
            x_gR M 8 t1 1 fun a16 =>
            x_aI M 0 a16 (5 : Int32) fun x17 =>
            x_gR M 9 t0 6 fun a18 =>
            x_gI M 1 a18 10 fun x19 =>
            x_cv M 5 a13 (q_T_learn a13 x15 x17 a2 x19 M) fun _ M =>
            some ((), M)
        else
          x_gR M 9 t0 6 fun a20 =>
          x_gI M 1 a20 1 fun x21 =>
          x_cv M 8 t1 (q_N_linkTo t1 x21 M) fun a22 M =>
          x_gR M 9 t0 6 fun a23 =>
          x_gI M 1 a23 0 fun x24 =>
          x_gI M 8 t1 0 fun x25 =>
          if x24 = x25 then
            x_nl a22 (
              some ((), M)
            ) (
              x_gR M 9 t0 6 fun a26 =>
              x_gI M 1 a26 5 fun x27 =>
              if x27 = (47 : Int32) then
                x_cv M 9 t0 (q_C_takeSabm t0 a22 M) fun _ M =>
                some ((), M)
              else
                x_gR M 9 t0 6 fun a28 =>
                x_gR M 1 a28 11 fun a29 =>
                x_gI M 3 a29 3 fun x30 =>
                x_gR M 2 a22 2 fun a31 =>
                x_gI M 3 a31 3 fun x32 =>
                if x30 = x32 then
                  x_gI M 2 a22 7 fun x33 =>
                  if x33 = 0 then
                    q_C_takeFrame_180 t0 t1 M
                  else
                    x_gI M 2 a22 7 fun x34 =>
                    if x34 = (2 : Int32) then
                      x_cv M 9 t0 (q_C_takeWhileUp t0 a22 M) fun _ M =>
                      some ((), M)
                    else
                      x_cv M 9 t0 (q_C_takeWhileWaiting t0 a22 M) fun _ M =>
                      some ((), M)
                else
                  q_C_takeFrame_180 t0 t1 M
            )
          else
            some ((), M)
      else
        x_cv M 9 t0 (q_C_repeat t0 t1 a2 M) fun _ M =>
        some ((), M)
set_option maxRecDepth 20000 in
theorem v_C_takeFrame {E : mE} (t0 : Option Nat) (t1 : Option Nat) (M : mM) : mVr E mi_C_takeFrame 7 0 [some (.inr t0), some (.inr t1), none, none] [] M enU (q_C_takeFrame t0 t1 M) := by
  unfold q_C_takeFrame
  refine m_aload_n (d_C_takeFrame_0 (k := 0) rfl) rfl ?_
  refine m_getR (d_C_takeFrame_0 (k := 1) rfl) fl_C_374 rfl (fun a1 => ?_)
  refine m_getR (d_C_takeFrame_0 (k := 2) rfl) fl_C_99 rfl (fun a2 => ?_)
  refine m_ast_n (ls' := [some (.inr t0), some (.inr t1), some (.inr a2), none]) (d_C_takeFrame_0 (k := 3) rfl) (by decide) rfl ?_
  refine m_aload_n (d_C_takeFrame_0 (k := 4) rfl) rfl ?_
  refine m_getR (d_C_takeFrame_0 (k := 5) rfl) fl_C_57 rfl (fun a3 => ?_)
  refine m_aload_n (d_C_takeFrame_0 (k := 6) rfl) rfl ?_
  refine m_cvI (c := 1) (vs := [.inr a2]) (st := []) (d_C_takeFrame_0 (k := 7) rfl) (s_F_understand a3 a2 M) cd_F_understand ml_C_396 im_F_understand se_F_understand rfl (by decide) rfl (Nat.le_of_ble_eq_true rfl) (fun x4 M => ?_)
  refine m_if_ne (tgt := 30) (d_C_takeFrame_0 (k := 8) rfl) rfl ?_ ?_
  · refine m_aload_n (d_C_takeFrame_0 (k := 9) rfl) rfl ?_
    refine m_dup (d_C_takeFrame_0 (k := 10) rfl) ?_
    refine m_getI (d_C_takeFrame_0 (k := 11) rfl) fl_C_282 rfl (fun x5 => ?_)
    refine m_iconst (v := 1) (d_C_takeFrame_0 (k := 12) rfl) (by decide) ?_
    refine m_iadd (d_C_takeFrame_0 (k := 13) rfl) ?_
    refine m_pI (d_C_takeFrame_0 (k := 14) rfl) fp_C_282 (fun h => absurd h (by decide)) rfl (fun M => ?_)
    exact m_vret (d_C_takeFrame_0 (k := 15) rfl) rfl
  · refine m_aload_n (d_C_takeFrame_0 (k := 16) rfl) rfl ?_
    refine m_getR (d_C_takeFrame_0 (k := 17) rfl) fl_C_57 rfl (fun a6 => ?_)
    refine m_getI (d_C_takeFrame_0 (k := 18) rfl) fl_C_399 rfl (fun x7 => ?_)
    refine m_iconst (v := (-1)) (d_C_takeFrame_0 (k := 19) rfl) (by decide) ?_
    refine m_icmp_eq (tgt := 48) (d_C_takeFrame_0 (k := 20) rfl) rfl ?_ ?_
    · refine m_aload_n (d_C_takeFrame_0 (k := 26) rfl) rfl ?_
      refine m_getR (d_C_takeFrame_0 (k := 27) rfl) fl_C_57 rfl (fun a8 => ?_)
      refine m_getI (d_C_takeFrame_0 (k := 28) rfl) fl_C_406 rfl (fun x9 => ?_)
      refine m_iconst (v := 3) (d_C_takeFrame_0 (k := 29) rfl) (by decide) ?_
      refine m_icmp_ne (tgt := 102) (d_C_takeFrame_0 (k := 30) rfl) rfl ?_ ?_
      · refine m_aload_n (d_C_takeFrame_0 (k := 31) rfl) rfl ?_
        refine m_getR (d_C_takeFrame_0 (k := 32) rfl) fl_C_57 rfl (fun a10 => ?_)
        refine m_getI (d_C_takeFrame_0 (k := 33) rfl) fl_C_409 rfl (fun x11 => ?_)
        refine m_aload_n (d_C_takeFrame_0 (k := 34) rfl) rfl ?_
        refine m_getI (d_C_takeFrame_0 (k := 35) rfl) fl_C_368 rfl (fun x12 => ?_)
        refine m_icmp_eq (tgt := 101) (d_C_takeFrame_0 (k := 36) rfl) rfl ?_ ?_
        · exact m_vret (d_C_takeFrame_1 (k := 11) rfl) rfl
        · refine m_aload_n (d_C_takeFrame_0 (k := 37) rfl) rfl ?_
          refine m_getR (d_C_takeFrame_0 (k := 38) rfl) fl_C_318 rfl (fun a13 => ?_)
          refine m_aload_n (d_C_takeFrame_0 (k := 39) rfl) rfl ?_
          refine m_getR (d_C_takeFrame_1 (k := 0) rfl) fl_C_57 rfl (fun a14 => ?_)
          refine m_getI (d_C_takeFrame_1 (k := 1) rfl) fl_C_409 rfl (fun x15 => ?_)
          refine m_aload_n (d_C_takeFrame_1 (k := 2) rfl) rfl ?_
          refine m_getR (d_C_takeFrame_1 (k := 3) rfl) fl_C_120 rfl (fun a16 => ?_)
          refine m_iconst (v := 5) (d_C_takeFrame_1 (k := 4) rfl) (by decide) ?_
          refine m_iald (d_C_takeFrame_1 (k := 5) rfl) (fun x17 => ?_)
          refine m_aload_n (d_C_takeFrame_1 (k := 6) rfl) rfl ?_
          refine m_aload_n (d_C_takeFrame_1 (k := 7) rfl) rfl ?_
          refine m_getR (d_C_takeFrame_1 (k := 8) rfl) fl_C_57 rfl (fun a18 => ?_)
          refine m_getI (d_C_takeFrame_1 (k := 9) rfl) fl_C_412 rfl (fun x19 => ?_)
          refine m_cvU (c := 5) (vs := [.inl x15, .inl x17, .inr a2, .inl x19]) (st := []) (d_C_takeFrame_1 (k := 10) rfl) (s_T_learn a13 x15 x17 a2 x19 M) cd_T_learn ml_C_415 im_T_learn se_T_learn rfl (by decide) rfl (Nat.le_of_ble_eq_true rfl) (fun _ M => ?_)
          exact m_vret (d_C_takeFrame_1 (k := 11) rfl) rfl
      · refine m_aload_n (d_C_takeFrame_1 (k := 12) rfl) rfl ?_
        refine m_aload_n (d_C_takeFrame_1 (k := 13) rfl) rfl ?_
        refine m_getR (d_C_takeFrame_1 (k := 14) rfl) fl_C_57 rfl (fun a20 => ?_)
        refine m_getI (d_C_takeFrame_1 (k := 15) rfl) fl_C_409 rfl (fun x21 => ?_)
        refine m_cvR (c := 8) (vs := [.inl x21]) (st := []) (d_C_takeFrame_1 (k := 16) rfl) (s_N_linkTo t1 x21 M) cd_N_linkTo ml_C_339 im_N_linkTo se_N_linkTo rfl (by decide) rfl (Nat.le_of_ble_eq_true rfl) (fun a22 M => ?_)
        refine m_ast_n (ls' := [some (.inr t0), some (.inr t1), some (.inr a2), some (.inr a22)]) (d_C_takeFrame_1 (k := 17) rfl) (by decide) rfl ?_
        refine m_aload_n (d_C_takeFrame_1 (k := 18) rfl) rfl ?_
        refine m_getR (d_C_takeFrame_1 (k := 19) rfl) fl_C_57 rfl (fun a23 => ?_)
        refine m_getI (d_C_takeFrame_1 (k := 20) rfl) fl_C_419 rfl (fun x24 => ?_)
        refine m_aload_n (d_C_takeFrame_1 (k := 21) rfl) rfl ?_
        refine m_getI (d_C_takeFrame_1 (k := 22) rfl) fl_C_368 rfl (fun x25 => ?_)
        refine m_icmp_ne (tgt := 132) (d_C_takeFrame_1 (k := 23) rfl) rfl ?_ ?_
        · refine m_aload_n (d_C_takeFrame_1 (k := 24) rfl) rfl ?_
          refine m_ifnonnull (tgt := 133) (d_C_takeFrame_1 (k := 25) rfl) rfl ?_ ?_
          · exact m_vret (d_C_takeFrame_1 (k := 26) rfl) rfl
          · refine m_aload_n (d_C_takeFrame_1 (k := 27) rfl) rfl ?_
            refine m_getR (d_C_takeFrame_1 (k := 28) rfl) fl_C_57 rfl (fun a26 => ?_)
            refine m_getI (d_C_takeFrame_1 (k := 29) rfl) fl_C_406 rfl (fun x27 => ?_)
            refine m_bipush (v := 47) (d_C_takeFrame_1 (k := 30) rfl) (by decide) ?_
            refine m_icmp_ne (tgt := 153) (d_C_takeFrame_1 (k := 31) rfl) rfl ?_ ?_
            · refine m_aload_n (d_C_takeFrame_1 (k := 32) rfl) rfl ?_
              refine m_aload_n (d_C_takeFrame_1 (k := 33) rfl) rfl ?_
              refine m_cvU (c := 9) (vs := [.inr a22]) (st := []) (d_C_takeFrame_1 (k := 34) rfl) (s_C_takeSabm t0 a22 M) cd_C_takeSabm ml_C_422 im_C_takeSabm se_C_takeSabm rfl (by decide) rfl (Nat.le_of_ble_eq_true rfl) (fun _ M => ?_)
              refine m_goto (tgt := 221) (d_C_takeFrame_1 (k := 35) rfl) rfl ?_
              exact m_vret (d_C_takeFrame_2 (k := 27) rfl) rfl
            · refine m_aload_n (d_C_takeFrame_1 (k := 36) rfl) rfl ?_
              refine m_getR (d_C_takeFrame_1 (k := 37) rfl) fl_C_57 rfl (fun a28 => ?_)
              refine m_getR (d_C_takeFrame_1 (k := 38) rfl) fl_C_425 rfl (fun a29 => ?_)
              refine m_getI (d_C_takeFrame_1 (k := 39) rfl) fl_C_315 rfl (fun x30 => ?_)
              refine m_aload_n (d_C_takeFrame_2 (k := 0) rfl) rfl ?_
              refine m_getR (d_C_takeFrame_2 (k := 1) rfl) fl_C_148 rfl (fun a31 => ?_)
              refine m_getI (d_C_takeFrame_2 (k := 2) rfl) fl_C_315 rfl (fun x32 => ?_)
              refine m_icmp_ne (tgt := 180) (d_C_takeFrame_2 (k := 3) rfl) rfl ?_ ?_
              · refine m_aload_n (d_C_takeFrame_2 (k := 4) rfl) rfl ?_
                refine m_getI (d_C_takeFrame_2 (k := 5) rfl) fl_C_141 rfl (fun x33 => ?_)
                refine m_if_ne (tgt := 200) (d_C_takeFrame_2 (k := 6) rfl) rfl ?_ ?_
                · exact m_drop (mles_s (mles_s (mles_n (mles_n mles_0)))) (v_C_takeFrame_180 t0 t1 M)
                · refine m_aload_n (d_C_takeFrame_2 (k := 16) rfl) rfl ?_
                  refine m_getI (d_C_takeFrame_2 (k := 17) rfl) fl_C_141 rfl (fun x34 => ?_)
                  refine m_iconst (v := 2) (d_C_takeFrame_2 (k := 18) rfl) (by decide) ?_
                  refine m_icmp_ne (tgt := 216) (d_C_takeFrame_2 (k := 19) rfl) rfl ?_ ?_
                  · refine m_aload_n (d_C_takeFrame_2 (k := 20) rfl) rfl ?_
                    refine m_aload_n (d_C_takeFrame_2 (k := 21) rfl) rfl ?_
                    refine m_cvU (c := 9) (vs := [.inr a22]) (st := []) (d_C_takeFrame_2 (k := 22) rfl) (s_C_takeWhileUp t0 a22 M) cd_C_takeWhileUp ml_C_433 im_C_takeWhileUp se_C_takeWhileUp rfl (by decide) rfl (Nat.le_of_ble_eq_true rfl) (fun _ M => ?_)
                    refine m_goto (tgt := 221) (d_C_takeFrame_2 (k := 23) rfl) rfl ?_
                    exact m_vret (d_C_takeFrame_2 (k := 27) rfl) rfl
                  · refine m_aload_n (d_C_takeFrame_2 (k := 24) rfl) rfl ?_
                    refine m_aload_n (d_C_takeFrame_2 (k := 25) rfl) rfl ?_
                    refine m_cvU (c := 9) (vs := [.inr a22]) (st := []) (d_C_takeFrame_2 (k := 26) rfl) (s_C_takeWhileWaiting t0 a22 M) cd_C_takeWhileWaiting ml_C_436 im_C_takeWhileWaiting se_C_takeWhileWaiting rfl (by decide) rfl (Nat.le_of_ble_eq_true rfl) (fun _ M => ?_)
                    exact m_vret (d_C_takeFrame_2 (k := 27) rfl) rfl
              · exact m_drop (mles_s (mles_s (mles_n (mles_n mles_0)))) (v_C_takeFrame_180 t0 t1 M)
        · exact m_vret (d_C_takeFrame_1 (k := 26) rfl) rfl
    · refine m_aload_n (d_C_takeFrame_0 (k := 21) rfl) rfl ?_
      refine m_aload_n (d_C_takeFrame_0 (k := 22) rfl) rfl ?_
      refine m_aload_n (d_C_takeFrame_0 (k := 23) rfl) rfl ?_
      refine m_cvU (c := 9) (vs := [.inr t1, .inr a2]) (st := []) (d_C_takeFrame_0 (k := 24) rfl) (s_C_repeat t0 t1 a2 M) cd_C_repeat ml_C_402 im_C_repeat se_C_repeat rfl (by decide) rfl (Nat.le_of_ble_eq_true rfl) (fun _ M => ?_)
      exact m_vret (d_C_takeFrame_0 (k := 25) rfl) rfl
theorem s_C_takeFrame {E : mE} (t0 : Option Nat) (t1 : Option Nat) (M : mM) : mSnd E mi_C_takeFrame 7 [.inr t0, .inr t1] M enU (q_C_takeFrame t0 t1 M) := m_entryU (by decide) (Nat.le_of_ble_eq_true rfl) rfl (m_drop (mles_s (mles_s (mles_e (mles_e mles_0)))) (v_C_takeFrame t0 t1 M))
def dt_C_tellRoutesInTime : List (Nat × Instr × Nat) := [(0, .iconst 0, 1), (1, .istore_n 1, 1), (2, .iload_n 1, 1), (3, .bipush 6, 2), (5, .if_icmp .ge 45, 3), (8, .aload_n 0, 1), (9, .getfield 11, 3), (12, .iload_n 1, 1), (13, .aaload, 1), (14, .getfield 120, 3), (17, .bipush 6, 2), (19, .iaload, 1), (20, .istore_n 2, 1), (21, .iload_n 2, 1), (22, .ifCond .le 22, 3), (25, .aload_n 0, 1), (26, .getfield 226, 3), (29, .iload_n 2, 1), (30, .irem, 1), (31, .ifCond .ne 13, 3), (34, .aload_n 0, 1), (35, .getfield 11, 3), (38, .iload_n 1, 1), (39, .aaload, 1), (40, .invokestatic 222, 3), (43, .pop, 1), (44, .iinc 1 1, 3), (47, .goto (-45), 3), (50, .return_, 1)]
theorem dx_C_tellRoutesInTime : ∀ p ∈ dt_C_tellRoutesInTime, decode prog_1_method_60_code p.1 = .ok p.2 := by decide +kernel
theorem d_C_tellRoutesInTime {k pc : Nat} {i : Instr} {n : Nat} (h : dt_C_tellRoutesInTime[k]? = some (pc, i, n)) : decode mi_C_tellRoutesInTime.2.1 pc = .ok (i, n) := dx_C_tellRoutesInTime (pc, i, n) (List.mem_of_getElem? h)
def q_C_tellRoutesInTime_44 (r2 : Option Nat → Int32 → mM → Option (Unit × mM)) (t0 : Option Nat) (i1 : Int32) (M : mM) : Option (Unit × mM) :=
    r2 t0 (i1 + 1) M
set_option maxRecDepth 20000 in
theorem v_C_tellRoutesInTime_44 {E : mE} (r2 : Option Nat → Int32 → mM → Option (Unit × mM)) (h2 : ∀ (t0 : Option Nat) (i1 : Int32) (M : mM), mVr E mi_C_tellRoutesInTime 5 2 [some (.inr t0), some (.inl i1), none] [] M enU (r2 t0 i1 M)) (t0 : Option Nat) (i1 : Int32) (M : mM) : mVr E mi_C_tellRoutesInTime 5 44 [some (.inr t0), some (.inl i1), none] [] M enU (q_C_tellRoutesInTime_44 r2 t0 i1 M) := by
  unfold q_C_tellRoutesInTime_44
  refine m_inc (v := 1) (ls' := [some (.inr t0), some (.inl (i1 + 1)), none]) (d_C_tellRoutesInTime (k := 26) rfl) rfl (by decide) (by decide) rfl ?_
  refine m_goto (tgt := 2) (d_C_tellRoutesInTime (k := 27) rfl) rfl ?_
  exact m_drop (mles_s (mles_s (mles_n mles_0))) (h2 t0 (i1 + 1) M)
def q_C_tellRoutesInTime_2_b (r2 : Option Nat → Int32 → mM → Option (Unit × mM)) (t0 : Option Nat) (i1 : Int32) (M : mM) : Option (Unit × mM) :=
    if i1 < (6 : Int32) then
      x_gR M 9 t0 0 fun a1 =>
      x_aR M 2 a1 i1 fun a2 =>
      x_gR M 8 a2 1 fun a3 =>
      x_aI M 0 a3 (6 : Int32) fun x4 =>
      if 0 < x4 then
        x_gI M 9 t0 7 fun x5 =>
        x_rm x5 x4 fun x6 =>
        if x6 = 0 then
          x_gR M 9 t0 0 fun a7 =>
          x_aR M 2 a7 i1 fun a8 =>
          x_cl (q_C_tellRoutes a8 M) fun x9 M =>
          q_C_tellRoutesInTime_44 r2 t0 i1 M
        else
          q_C_tellRoutesInTime_44 r2 t0 i1 M
      else
        q_C_tellRoutesInTime_44 r2 t0 i1 M
    else
      some ((), M)
def q_C_tellRoutesInTime_2 : Nat → Option Nat → Int32 → mM → Option (Unit × mM)
  | 0, _, _, _ => none
  | n + 1, t0, i1, M => q_C_tellRoutesInTime_2_b (q_C_tellRoutesInTime_2 n) t0 i1 M
set_option maxRecDepth 20000 in
theorem v_C_tellRoutesInTime_2_b {E : mE} (r2 : Option Nat → Int32 → mM → Option (Unit × mM)) (h2 : ∀ (t0 : Option Nat) (i1 : Int32) (M : mM), mVr E mi_C_tellRoutesInTime 5 2 [some (.inr t0), some (.inl i1), none] [] M enU (r2 t0 i1 M)) (t0 : Option Nat) (i1 : Int32) (M : mM) : mVr E mi_C_tellRoutesInTime 5 2 [some (.inr t0), some (.inl i1), none] [] M enU (q_C_tellRoutesInTime_2_b r2 t0 i1 M) := by
  unfold q_C_tellRoutesInTime_2_b
  refine m_iload_n (d_C_tellRoutesInTime (k := 2) rfl) rfl ?_
  refine m_bipush (v := 6) (d_C_tellRoutesInTime (k := 3) rfl) (by decide) ?_
  refine m_icmp_ge (tgt := 50) (d_C_tellRoutesInTime (k := 4) rfl) rfl ?_ ?_
  · refine m_aload_n (d_C_tellRoutesInTime (k := 5) rfl) rfl ?_
    refine m_getR (d_C_tellRoutesInTime (k := 6) rfl) fl_C_11 rfl (fun a1 => ?_)
    refine m_iload_n (d_C_tellRoutesInTime (k := 7) rfl) rfl ?_
    refine m_aald (t := 2) (d_C_tellRoutesInTime (k := 8) rfl) rfl (fun a2 => ?_)
    refine m_getR (d_C_tellRoutesInTime (k := 9) rfl) fl_C_120 rfl (fun a3 => ?_)
    refine m_bipush (v := 6) (d_C_tellRoutesInTime (k := 10) rfl) (by decide) ?_
    refine m_iald (d_C_tellRoutesInTime (k := 11) rfl) (fun x4 => ?_)
    refine m_ist_n (ls' := [some (.inr t0), some (.inl i1), some (.inl x4)]) (d_C_tellRoutesInTime (k := 12) rfl) (by decide) rfl ?_
    refine m_iload_n (d_C_tellRoutesInTime (k := 13) rfl) rfl ?_
    refine m_if_le (tgt := 44) (d_C_tellRoutesInTime (k := 14) rfl) rfl ?_ ?_
    · refine m_aload_n (d_C_tellRoutesInTime (k := 15) rfl) rfl ?_
      refine m_getI (d_C_tellRoutesInTime (k := 16) rfl) fl_C_226 rfl (fun x5 => ?_)
      refine m_iload_n (d_C_tellRoutesInTime (k := 17) rfl) rfl ?_
      refine m_irem (d_C_tellRoutesInTime (k := 18) rfl) (fun x6 => ?_)
      refine m_if_ne (tgt := 44) (d_C_tellRoutesInTime (k := 19) rfl) rfl ?_ ?_
      · refine m_aload_n (d_C_tellRoutesInTime (k := 20) rfl) rfl ?_
        refine m_getR (d_C_tellRoutesInTime (k := 21) rfl) fl_C_11 rfl (fun a7 => ?_)
        refine m_iload_n (d_C_tellRoutesInTime (k := 22) rfl) rfl ?_
        refine m_aald (t := 2) (d_C_tellRoutesInTime (k := 23) rfl) rfl (fun a8 => ?_)
        refine m_csI (vs := [.inr a8]) (st := []) (d_C_tellRoutesInTime (k := 24) rfl) (s_C_tellRoutes a8 M) cd_C_tellRoutes ml_C_222 sa_C_tellRoutes (by decide) rfl (Nat.le_of_ble_eq_true rfl) (fun x9 M => ?_)
        refine m_pop (d_C_tellRoutesInTime (k := 25) rfl) ?_
        exact m_drop (mles_s (mles_s (mles_n mles_0))) (v_C_tellRoutesInTime_44 r2 h2 t0 i1 M)
      · exact m_drop (mles_s (mles_s (mles_n mles_0))) (v_C_tellRoutesInTime_44 r2 h2 t0 i1 M)
    · exact m_drop (mles_s (mles_s (mles_n mles_0))) (v_C_tellRoutesInTime_44 r2 h2 t0 i1 M)
  · exact m_vret (d_C_tellRoutesInTime (k := 28) rfl) rfl
theorem v_C_tellRoutesInTime_2 {E : mE} : ∀ (n : Nat) (t0 : Option Nat) (i1 : Int32) (M : mM), mVr E mi_C_tellRoutesInTime 5 2 [some (.inr t0), some (.inl i1), none] [] M enU (q_C_tellRoutesInTime_2 n t0 i1 M)
  | 0, _, _, _ => m_none
  | n + 1, t0, i1, M => v_C_tellRoutesInTime_2_b _ (v_C_tellRoutesInTime_2 n) t0 i1 M
def q_C_tellRoutesInTime (t0 : Option Nat) (M : mM) : Option (Unit × mM) :=
    q_C_tellRoutesInTime_2 mFU t0 (0 : Int32) M
set_option maxRecDepth 20000 in
theorem v_C_tellRoutesInTime {E : mE} (t0 : Option Nat) (M : mM) : mVr E mi_C_tellRoutesInTime 5 0 [some (.inr t0), none, none] [] M enU (q_C_tellRoutesInTime t0 M) := by
  unfold q_C_tellRoutesInTime
  refine m_iconst (v := 0) (d_C_tellRoutesInTime (k := 0) rfl) (by decide) ?_
  refine m_ist_n (ls' := [some (.inr t0), some (.inl (0 : Int32)), none]) (d_C_tellRoutesInTime (k := 1) rfl) (by decide) rfl ?_
  exact m_drop (mles_s (mles_s (mles_n mles_0))) (v_C_tellRoutesInTime_2 mFU t0 (0 : Int32) M)
theorem s_C_tellRoutesInTime {E : mE} (t0 : Option Nat) (M : mM) : mSnd E mi_C_tellRoutesInTime 5 [.inr t0] M enU (q_C_tellRoutesInTime t0 M) := m_entryU (by decide) (Nat.le_of_ble_eq_true rfl) rfl (m_drop (mles_s (mles_e (mles_e mles_0))) (v_C_tellRoutesInTime t0 M))
def dt_C_tryAgain : List (Nat × Instr × Nat) := [(0, .aload_n 0, 1), (1, .getfield 169, 3), (4, .astore_n 1, 1), (5, .aload_n 0, 1), (6, .getfield 166, 3), (9, .bipush 6, 2), (11, .if_icmp .lt 28, 3), (14, .aload_n 0, 1), (15, .getfield 141, 3), (18, .iconst 2, 1), (19, .if_icmp .ne 15, 3), (22, .aload_n 1, 1), (23, .aload_n 0, 1), (24, .getfield 148, 3), (27, .bipush 15, 2), (29, .iconst 0, 1), (30, .invokestatic 176, 3), (33, .pop, 1), (34, .aload_n 0, 1), (35, .invokevirtual 457, 3), (38, .return_, 1), (39, .aload_n 0, 1), (40, .dup, 1), (41, .getfield 166, 3), (44, .iconst 1, 1), (45, .iadd, 1), (46, .putfield 166, 3), (49, .aload_n 0, 1), (50, .aload_n 1, 1), (51, .getfield 120, 3), (54, .iconst 4, 1), (55, .iaload, 1), (56, .putfield 173, 3), (59, .aload_n 0, 1), (60, .getfield 141, 3), (63, .iconst 1, 1), (64, .if_icmp .ne 18, 3), (67, .aload_n 1, 1), (68, .aload_n 0, 1), (69, .getfield 148, 3), (72, .bipush 63, 2), (74, .iconst 1, 1), (75, .invokestatic 176, 3), (78, .pop, 1), (79, .goto 38, 3), (82, .aload_n 0, 1), (83, .getfield 141, 3), (86, .iconst 3, 1), (87, .if_icmp .ne 18, 3), (90, .aload_n 1, 1), (91, .aload_n 0, 1), (92, .getfield 148, 3), (95, .bipush 83, 2), (97, .iconst 1, 1), (98, .invokestatic 176, 3), (101, .pop, 1), (102, .goto 15, 3), (105, .aload_n 0, 1), (106, .bipush 16, 2), (108, .iconst 1, 1), (109, .invokestatic 200, 3), (112, .aload_n 0, 1), (113, .iconst 1, 1), (114, .putfield 297, 3), (117, .return_, 1)]
theorem dx_C_tryAgain : ∀ p ∈ dt_C_tryAgain, decode prog_1_method_56_code p.1 = .ok p.2 := by decide +kernel
theorem d_C_tryAgain {k pc : Nat} {i : Instr} {n : Nat} (h : dt_C_tryAgain[k]? = some (pc, i, n)) : decode mi_C_tryAgain.2.1 pc = .ok (i, n) := dx_C_tryAgain (pc, i, n) (List.mem_of_getElem? h)
def q_C_tryAgain_34 (t0 : Option Nat) (M : mM) : Option (Unit × mM) :=
    x_cv M 2 t0 (q_K_goDown t0 M) fun _ M =>
    some ((), M)
set_option maxRecDepth 20000 in
theorem v_C_tryAgain_34 {E : mE} (t0 : Option Nat) (M : mM) : mVr E mi_C_tryAgain 3 34 [some (.inr t0), none] [] M enU (q_C_tryAgain_34 t0 M) := by
  unfold q_C_tryAgain_34
  refine m_aload_n (d_C_tryAgain (k := 18) rfl) rfl ?_
  refine m_cvU (c := 2) (vs := []) (st := []) (d_C_tryAgain (k := 19) rfl) (s_K_goDown t0 M) cd_K_goDown ml_C_457 im_K_goDown se_K_goDown rfl (by decide) rfl (Nat.le_of_ble_eq_true rfl) (fun _ M => ?_)
  exact m_vret (d_C_tryAgain (k := 20) rfl) rfl
def q_C_tryAgain (t0 : Option Nat) (M : mM) : Option (Unit × mM) :=
    x_gR M 2 t0 0 fun a1 =>
    x_gI M 2 t0 12 fun x2 =>
    if x2 < (6 : Int32) then
      x_gI M 2 t0 12 fun x3 =>
      x_pI M 2 t0 12 (x3 + (1 : Int32)) fun M =>
      x_gR M 8 a1 1 fun a4 =>
      x_aI M 0 a4 (4 : Int32) fun x5 =>
      x_pI M 2 t0 11 x5 fun M =>
      x_gI M 2 t0 7 fun x6 =>
      if x6 = (1 : Int32) then
        x_gR M 2 t0 2 fun a7 =>
        x_cl (q_C_say a1 a7 (63 : Int32) (1 : Int32) M) fun a8 M =>
        some ((), M)
      else
        x_gI M 2 t0 7 fun x9 =>
        if x9 = (3 : Int32) then
          x_gR M 2 t0 2 fun a10 =>
          x_cl (q_C_say a1 a10 (83 : Int32) (1 : Int32) M) fun a11 M =>
          some ((), M)
        else
          x_cl (q_C_sayReady t0 (16 : Int32) (1 : Int32) M) fun _ M =>
          x_pZ M 2 t0 13 (1 : Int32) fun M =>
          some ((), M)
    else
      x_gI M 2 t0 7 fun x12 =>
      if x12 = (2 : Int32) then
        x_gR M 2 t0 2 fun a13 =>
        x_cl (q_C_say a1 a13 (15 : Int32) (0 : Int32) M) fun a14 M =>
        q_C_tryAgain_34 t0 M
      else
        q_C_tryAgain_34 t0 M
set_option maxRecDepth 20000 in
theorem v_C_tryAgain {E : mE} (t0 : Option Nat) (M : mM) : mVr E mi_C_tryAgain 3 0 [some (.inr t0), none] [] M enU (q_C_tryAgain t0 M) := by
  unfold q_C_tryAgain
  refine m_aload_n (d_C_tryAgain (k := 0) rfl) rfl ?_
  refine m_getR (d_C_tryAgain (k := 1) rfl) fl_C_169 rfl (fun a1 => ?_)
  refine m_ast_n (ls' := [some (.inr t0), some (.inr a1)]) (d_C_tryAgain (k := 2) rfl) (by decide) rfl ?_
  refine m_aload_n (d_C_tryAgain (k := 3) rfl) rfl ?_
  refine m_getI (d_C_tryAgain (k := 4) rfl) fl_C_166 rfl (fun x2 => ?_)
  refine m_bipush (v := 6) (d_C_tryAgain (k := 5) rfl) (by decide) ?_
  refine m_icmp_lt (tgt := 39) (d_C_tryAgain (k := 6) rfl) rfl ?_ ?_
  · refine m_aload_n (d_C_tryAgain (k := 21) rfl) rfl ?_
    refine m_dup (d_C_tryAgain (k := 22) rfl) ?_
    refine m_getI (d_C_tryAgain (k := 23) rfl) fl_C_166 rfl (fun x3 => ?_)
    refine m_iconst (v := 1) (d_C_tryAgain (k := 24) rfl) (by decide) ?_
    refine m_iadd (d_C_tryAgain (k := 25) rfl) ?_
    refine m_pI (d_C_tryAgain (k := 26) rfl) fp_C_166 (fun h => absurd h (by decide)) rfl (fun M => ?_)
    refine m_aload_n (d_C_tryAgain (k := 27) rfl) rfl ?_
    refine m_aload_n (d_C_tryAgain (k := 28) rfl) rfl ?_
    refine m_getR (d_C_tryAgain (k := 29) rfl) fl_C_120 rfl (fun a4 => ?_)
    refine m_iconst (v := 4) (d_C_tryAgain (k := 30) rfl) (by decide) ?_
    refine m_iald (d_C_tryAgain (k := 31) rfl) (fun x5 => ?_)
    refine m_pI (d_C_tryAgain (k := 32) rfl) fp_C_173 (fun h => absurd h (by decide)) rfl (fun M => ?_)
    refine m_aload_n (d_C_tryAgain (k := 33) rfl) rfl ?_
    refine m_getI (d_C_tryAgain (k := 34) rfl) fl_C_141 rfl (fun x6 => ?_)
    refine m_iconst (v := 1) (d_C_tryAgain (k := 35) rfl) (by decide) ?_
    refine m_icmp_ne (tgt := 82) (d_C_tryAgain (k := 36) rfl) rfl ?_ ?_
    · refine m_aload_n (d_C_tryAgain (k := 37) rfl) rfl ?_
      refine m_aload_n (d_C_tryAgain (k := 38) rfl) rfl ?_
      refine m_getR (d_C_tryAgain (k := 39) rfl) fl_C_148 rfl (fun a7 => ?_)
      refine m_bipush (v := 63) (d_C_tryAgain (k := 40) rfl) (by decide) ?_
      refine m_iconst (v := 1) (d_C_tryAgain (k := 41) rfl) (by decide) ?_
      refine m_csR (vs := [.inr a1, .inr a7, .inl (63 : Int32), .inl (1 : Int32)]) (st := []) (d_C_tryAgain (k := 42) rfl) (s_C_say a1 a7 (63 : Int32) (1 : Int32) M) cd_C_say ml_C_176 sa_C_say (by decide) rfl (Nat.le_of_ble_eq_true rfl) (fun a8 M => ?_)
      refine m_pop (d_C_tryAgain (k := 43) rfl) ?_
      refine m_goto (tgt := 117) (d_C_tryAgain (k := 44) rfl) rfl ?_
      exact m_vret (d_C_tryAgain (k := 64) rfl) rfl
    · refine m_aload_n (d_C_tryAgain (k := 45) rfl) rfl ?_
      refine m_getI (d_C_tryAgain (k := 46) rfl) fl_C_141 rfl (fun x9 => ?_)
      refine m_iconst (v := 3) (d_C_tryAgain (k := 47) rfl) (by decide) ?_
      refine m_icmp_ne (tgt := 105) (d_C_tryAgain (k := 48) rfl) rfl ?_ ?_
      · refine m_aload_n (d_C_tryAgain (k := 49) rfl) rfl ?_
        refine m_aload_n (d_C_tryAgain (k := 50) rfl) rfl ?_
        refine m_getR (d_C_tryAgain (k := 51) rfl) fl_C_148 rfl (fun a10 => ?_)
        refine m_bipush (v := 83) (d_C_tryAgain (k := 52) rfl) (by decide) ?_
        refine m_iconst (v := 1) (d_C_tryAgain (k := 53) rfl) (by decide) ?_
        refine m_csR (vs := [.inr a1, .inr a10, .inl (83 : Int32), .inl (1 : Int32)]) (st := []) (d_C_tryAgain (k := 54) rfl) (s_C_say a1 a10 (83 : Int32) (1 : Int32) M) cd_C_say ml_C_176 sa_C_say (by decide) rfl (Nat.le_of_ble_eq_true rfl) (fun a11 M => ?_)
        refine m_pop (d_C_tryAgain (k := 55) rfl) ?_
        refine m_goto (tgt := 117) (d_C_tryAgain (k := 56) rfl) rfl ?_
        exact m_vret (d_C_tryAgain (k := 64) rfl) rfl
      · refine m_aload_n (d_C_tryAgain (k := 57) rfl) rfl ?_
        refine m_bipush (v := 16) (d_C_tryAgain (k := 58) rfl) (by decide) ?_
        refine m_iconst (v := 1) (d_C_tryAgain (k := 59) rfl) (by decide) ?_
        refine m_csU (vs := [.inr t0, .inl (16 : Int32), .inl (1 : Int32)]) (st := []) (d_C_tryAgain (k := 60) rfl) (s_C_sayReady t0 (16 : Int32) (1 : Int32) M) cd_C_sayReady ml_C_200 sa_C_sayReady (by decide) rfl (Nat.le_of_ble_eq_true rfl) (fun _ M => ?_)
        refine m_aload_n (d_C_tryAgain (k := 61) rfl) rfl ?_
        refine m_iconst (v := 1) (d_C_tryAgain (k := 62) rfl) (by decide) ?_
        refine m_pZ (d_C_tryAgain (k := 63) rfl) fp_C_297 (fun h => absurd h (by decide)) rfl (fun M => ?_)
        exact m_vret (d_C_tryAgain (k := 64) rfl) rfl
  · refine m_aload_n (d_C_tryAgain (k := 7) rfl) rfl ?_
    refine m_getI (d_C_tryAgain (k := 8) rfl) fl_C_141 rfl (fun x12 => ?_)
    refine m_iconst (v := 2) (d_C_tryAgain (k := 9) rfl) (by decide) ?_
    refine m_icmp_ne (tgt := 34) (d_C_tryAgain (k := 10) rfl) rfl ?_ ?_
    · refine m_aload_n (d_C_tryAgain (k := 11) rfl) rfl ?_
      refine m_aload_n (d_C_tryAgain (k := 12) rfl) rfl ?_
      refine m_getR (d_C_tryAgain (k := 13) rfl) fl_C_148 rfl (fun a13 => ?_)
      refine m_bipush (v := 15) (d_C_tryAgain (k := 14) rfl) (by decide) ?_
      refine m_iconst (v := 0) (d_C_tryAgain (k := 15) rfl) (by decide) ?_
      refine m_csR (vs := [.inr a1, .inr a13, .inl (15 : Int32), .inl (0 : Int32)]) (st := []) (d_C_tryAgain (k := 16) rfl) (s_C_say a1 a13 (15 : Int32) (0 : Int32) M) cd_C_say ml_C_176 sa_C_say (by decide) rfl (Nat.le_of_ble_eq_true rfl) (fun a14 M => ?_)
      refine m_pop (d_C_tryAgain (k := 17) rfl) ?_
      exact m_drop (mles_s (mles_n mles_0)) (v_C_tryAgain_34 t0 M)
    · exact m_drop (mles_s (mles_n mles_0)) (v_C_tryAgain_34 t0 M)
theorem s_C_tryAgain {E : mE} (t0 : Option Nat) (M : mM) : mSnd E mi_C_tryAgain 3 [.inr t0] M enU (q_C_tryAgain t0 M) := m_entryU (by decide) (Nat.le_of_ble_eq_true rfl) rfl (m_drop (mles_s (mles_e mles_0)) (v_C_tryAgain t0 M))
def dt_C_turnClocks : List (Nat × Instr × Nat) := [(0, .iconst 0, 1), (1, .istore_n 1, 1), (2, .iload_n 1, 1), (3, .bipush 6, 2), (5, .if_icmp .ge 82, 3), (8, .aload_n 0, 1), (9, .getfield 11, 3), (12, .iload_n 1, 1), (13, .aaload, 1), (14, .astore_n 2, 1), (15, .iconst 0, 1), (16, .istore_n 3, 1), (17, .iload_n 3, 1), (18, .bipush 6, 2), (20, .if_icmp .ge 61, 3), (23, .aload_n 2, 1), (24, .getfield 503, 3), (27, .ifCond .le 54, 3), (30, .aload_n 2, 1), (31, .getfield 18, 3), (34, .iload_n 3, 1), (35, .aaload, 1), (36, .astore 4, 2), (38, .aload 4, 2), (40, .ifnull 35, 3), (43, .aload 4, 2), (45, .getfield 173, 3), (48, .ifCond .le 27, 3), (51, .aload 4, 2), (53, .dup, 1), (54, .getfield 173, 3), (57, .iconst 1, 1), (58, .isub, 1), (59, .putfield 173, 3), (62, .aload 4, 2), (64, .getfield 173, 3), (67, .ifCond .ne 8, 3), (70, .aload 4, 2), (72, .invokestatic 506, 3), (75, .iinc 3 1, 3), (78, .goto (-61), 3), (81, .iinc 1 1, 3), (84, .goto (-82), 3), (87, .return_, 1)]
theorem dx_C_turnClocks : ∀ p ∈ dt_C_turnClocks, decode prog_1_method_55_code p.1 = .ok p.2 := by decide +kernel
theorem d_C_turnClocks {k pc : Nat} {i : Instr} {n : Nat} (h : dt_C_turnClocks[k]? = some (pc, i, n)) : decode mi_C_turnClocks.2.1 pc = .ok (i, n) := dx_C_turnClocks (pc, i, n) (List.mem_of_getElem? h)
def q_C_turnClocks_75 (r2 : Option Nat → Int32 → mM → Option (Unit × mM)) (r17 : Option Nat → Int32 → Option Nat → Int32 → mM → Option (Unit × mM)) (t0 : Option Nat) (i1 : Int32) (t2 : Option Nat) (i3 : Int32) (M : mM) : Option (Unit × mM) :=
    r17 t0 i1 t2 (i3 + 1) M
set_option maxRecDepth 20000 in
theorem v_C_turnClocks_75 {E : mE} (r2 : Option Nat → Int32 → mM → Option (Unit × mM)) (h2 : ∀ (t0 : Option Nat) (i1 : Int32) (M : mM), mVr E mi_C_turnClocks 4 2 [some (.inr t0), some (.inl i1), none, none, none] [] M enU (r2 t0 i1 M)) (r17 : Option Nat → Int32 → Option Nat → Int32 → mM → Option (Unit × mM)) (h17 : ∀ (t0 : Option Nat) (i1 : Int32) (t2 : Option Nat) (i3 : Int32) (M : mM), mVr E mi_C_turnClocks 4 17 [some (.inr t0), some (.inl i1), some (.inr t2), some (.inl i3), none] [] M enU (r17 t0 i1 t2 i3 M)) (t0 : Option Nat) (i1 : Int32) (t2 : Option Nat) (i3 : Int32) (M : mM) : mVr E mi_C_turnClocks 4 75 [some (.inr t0), some (.inl i1), some (.inr t2), some (.inl i3), none] [] M enU (q_C_turnClocks_75 r2 r17 t0 i1 t2 i3 M) := by
  unfold q_C_turnClocks_75
  refine m_inc (v := 1) (ls' := [some (.inr t0), some (.inl i1), some (.inr t2), some (.inl (i3 + 1)), none]) (d_C_turnClocks (k := 39) rfl) rfl (by decide) (by decide) rfl ?_
  refine m_goto (tgt := 17) (d_C_turnClocks (k := 40) rfl) rfl ?_
  exact m_drop (mles_s (mles_s (mles_s (mles_s (mles_n mles_0))))) (h17 t0 i1 t2 (i3 + 1) M)
def q_C_turnClocks_81 (r2 : Option Nat → Int32 → mM → Option (Unit × mM)) (t0 : Option Nat) (i1 : Int32) (M : mM) : Option (Unit × mM) :=
    r2 t0 (i1 + 1) M
set_option maxRecDepth 20000 in
theorem v_C_turnClocks_81 {E : mE} (r2 : Option Nat → Int32 → mM → Option (Unit × mM)) (h2 : ∀ (t0 : Option Nat) (i1 : Int32) (M : mM), mVr E mi_C_turnClocks 4 2 [some (.inr t0), some (.inl i1), none, none, none] [] M enU (r2 t0 i1 M)) (t0 : Option Nat) (i1 : Int32) (M : mM) : mVr E mi_C_turnClocks 4 81 [some (.inr t0), some (.inl i1), none, none, none] [] M enU (q_C_turnClocks_81 r2 t0 i1 M) := by
  unfold q_C_turnClocks_81
  refine m_inc (v := 1) (ls' := [some (.inr t0), some (.inl (i1 + 1)), none, none, none]) (d_C_turnClocks (k := 41) rfl) rfl (by decide) (by decide) rfl ?_
  refine m_goto (tgt := 2) (d_C_turnClocks (k := 42) rfl) rfl ?_
  exact m_drop (mles_s (mles_s (mles_n (mles_n (mles_n mles_0))))) (h2 t0 (i1 + 1) M)
def q_C_turnClocks_17_b (r2 : Option Nat → Int32 → mM → Option (Unit × mM)) (r17 : Option Nat → Int32 → Option Nat → Int32 → mM → Option (Unit × mM)) (t0 : Option Nat) (i1 : Int32) (t2 : Option Nat) (i3 : Int32) (M : mM) : Option (Unit × mM) :=
    if i3 < (6 : Int32) then
      x_gI M 8 t2 11 fun x1 =>
      if 0 < x1 then
        x_gR M 8 t2 6 fun a2 =>
        x_aR M 1 a2 i3 fun a3 =>
        x_nl a3 (
          q_C_turnClocks_75 r2 r17 t0 i1 t2 i3 M
        ) (
          x_gI M 2 a3 11 fun x4 =>
          if 0 < x4 then
            x_gI M 2 a3 11 fun x5 =>
            x_pI M 2 a3 11 (x5 - (1 : Int32)) fun M =>
            x_gI M 2 a3 11 fun x6 =>
            if x6 = 0 then
              x_cl (q_C_tryAgain a3 M) fun _ M =>
              q_C_turnClocks_75 r2 r17 t0 i1 t2 i3 M
            else
              q_C_turnClocks_75 r2 r17 t0 i1 t2 i3 M
          else
            q_C_turnClocks_75 r2 r17 t0 i1 t2 i3 M
        )
      else
        q_C_turnClocks_81 r2 t0 i1 M
    else
      q_C_turnClocks_81 r2 t0 i1 M
def q_C_turnClocks_17 (r2 : Option Nat → Int32 → mM → Option (Unit × mM)) : Nat → Option Nat → Int32 → Option Nat → Int32 → mM → Option (Unit × mM)
  | 0, _, _, _, _, _ => none
  | n + 1, t0, i1, t2, i3, M => q_C_turnClocks_17_b r2 (q_C_turnClocks_17 r2 n) t0 i1 t2 i3 M
set_option maxRecDepth 20000 in
theorem v_C_turnClocks_17_b {E : mE} (r2 : Option Nat → Int32 → mM → Option (Unit × mM)) (h2 : ∀ (t0 : Option Nat) (i1 : Int32) (M : mM), mVr E mi_C_turnClocks 4 2 [some (.inr t0), some (.inl i1), none, none, none] [] M enU (r2 t0 i1 M)) (r17 : Option Nat → Int32 → Option Nat → Int32 → mM → Option (Unit × mM)) (h17 : ∀ (t0 : Option Nat) (i1 : Int32) (t2 : Option Nat) (i3 : Int32) (M : mM), mVr E mi_C_turnClocks 4 17 [some (.inr t0), some (.inl i1), some (.inr t2), some (.inl i3), none] [] M enU (r17 t0 i1 t2 i3 M)) (t0 : Option Nat) (i1 : Int32) (t2 : Option Nat) (i3 : Int32) (M : mM) : mVr E mi_C_turnClocks 4 17 [some (.inr t0), some (.inl i1), some (.inr t2), some (.inl i3), none] [] M enU (q_C_turnClocks_17_b r2 r17 t0 i1 t2 i3 M) := by
  unfold q_C_turnClocks_17_b
  refine m_iload_n (d_C_turnClocks (k := 12) rfl) rfl ?_
  refine m_bipush (v := 6) (d_C_turnClocks (k := 13) rfl) (by decide) ?_
  refine m_icmp_ge (tgt := 81) (d_C_turnClocks (k := 14) rfl) rfl ?_ ?_
  · refine m_aload_n (d_C_turnClocks (k := 15) rfl) rfl ?_
    refine m_getI (d_C_turnClocks (k := 16) rfl) fl_C_503 rfl (fun x1 => ?_)
    refine m_if_le (tgt := 81) (d_C_turnClocks (k := 17) rfl) rfl ?_ ?_
    · refine m_aload_n (d_C_turnClocks (k := 18) rfl) rfl ?_
      refine m_getR (d_C_turnClocks (k := 19) rfl) fl_C_18 rfl (fun a2 => ?_)
      refine m_iload_n (d_C_turnClocks (k := 20) rfl) rfl ?_
      refine m_aald (t := 1) (d_C_turnClocks (k := 21) rfl) rfl (fun a3 => ?_)
      refine m_ast (ls' := [some (.inr t0), some (.inl i1), some (.inr t2), some (.inl i3), some (.inr a3)]) (d_C_turnClocks (k := 22) rfl) (by decide) rfl ?_
      refine m_aload (d_C_turnClocks (k := 23) rfl) rfl ?_
      refine m_ifnull (tgt := 75) (d_C_turnClocks (k := 24) rfl) rfl ?_ ?_
      · exact m_drop (mles_s (mles_s (mles_s (mles_s (mles_n mles_0))))) (v_C_turnClocks_75 r2 h2 r17 h17 t0 i1 t2 i3 M)
      · refine m_aload (d_C_turnClocks (k := 25) rfl) rfl ?_
        refine m_getI (d_C_turnClocks (k := 26) rfl) fl_C_173 rfl (fun x4 => ?_)
        refine m_if_le (tgt := 75) (d_C_turnClocks (k := 27) rfl) rfl ?_ ?_
        · refine m_aload (d_C_turnClocks (k := 28) rfl) rfl ?_
          refine m_dup (d_C_turnClocks (k := 29) rfl) ?_
          refine m_getI (d_C_turnClocks (k := 30) rfl) fl_C_173 rfl (fun x5 => ?_)
          refine m_iconst (v := 1) (d_C_turnClocks (k := 31) rfl) (by decide) ?_
          refine m_isub (d_C_turnClocks (k := 32) rfl) ?_
          refine m_pI (d_C_turnClocks (k := 33) rfl) fp_C_173 (fun h => absurd h (by decide)) rfl (fun M => ?_)
          refine m_aload (d_C_turnClocks (k := 34) rfl) rfl ?_
          refine m_getI (d_C_turnClocks (k := 35) rfl) fl_C_173 rfl (fun x6 => ?_)
          refine m_if_ne (tgt := 75) (d_C_turnClocks (k := 36) rfl) rfl ?_ ?_
          · refine m_aload (d_C_turnClocks (k := 37) rfl) rfl ?_
            refine m_csU (vs := [.inr a3]) (st := []) (d_C_turnClocks (k := 38) rfl) (s_C_tryAgain a3 M) cd_C_tryAgain ml_C_506 sa_C_tryAgain (by decide) rfl (Nat.le_of_ble_eq_true rfl) (fun _ M => ?_)
            exact m_drop (mles_s (mles_s (mles_s (mles_s (mles_n mles_0))))) (v_C_turnClocks_75 r2 h2 r17 h17 t0 i1 t2 i3 M)
          · exact m_drop (mles_s (mles_s (mles_s (mles_s (mles_n mles_0))))) (v_C_turnClocks_75 r2 h2 r17 h17 t0 i1 t2 i3 M)
        · exact m_drop (mles_s (mles_s (mles_s (mles_s (mles_n mles_0))))) (v_C_turnClocks_75 r2 h2 r17 h17 t0 i1 t2 i3 M)
    · exact m_drop (mles_s (mles_s (mles_n (mles_n (mles_n mles_0))))) (v_C_turnClocks_81 r2 h2 t0 i1 M)
  · exact m_drop (mles_s (mles_s (mles_n (mles_n (mles_n mles_0))))) (v_C_turnClocks_81 r2 h2 t0 i1 M)
theorem v_C_turnClocks_17 {E : mE} (r2 : Option Nat → Int32 → mM → Option (Unit × mM)) (h2 : ∀ (t0 : Option Nat) (i1 : Int32) (M : mM), mVr E mi_C_turnClocks 4 2 [some (.inr t0), some (.inl i1), none, none, none] [] M enU (r2 t0 i1 M)) : ∀ (n : Nat) (t0 : Option Nat) (i1 : Int32) (t2 : Option Nat) (i3 : Int32) (M : mM), mVr E mi_C_turnClocks 4 17 [some (.inr t0), some (.inl i1), some (.inr t2), some (.inl i3), none] [] M enU (q_C_turnClocks_17 r2 n t0 i1 t2 i3 M)
  | 0, _, _, _, _, _ => m_none
  | n + 1, t0, i1, t2, i3, M => v_C_turnClocks_17_b r2 h2 _ (v_C_turnClocks_17 r2 h2 n) t0 i1 t2 i3 M
def q_C_turnClocks_2_b (r2 : Option Nat → Int32 → mM → Option (Unit × mM)) (t0 : Option Nat) (i1 : Int32) (M : mM) : Option (Unit × mM) :=
    if i1 < (6 : Int32) then
      x_gR M 9 t0 0 fun a1 =>
      x_aR M 2 a1 i1 fun a2 =>
      q_C_turnClocks_17 r2 mFU t0 i1 a2 (0 : Int32) M
    else
      some ((), M)
def q_C_turnClocks_2 : Nat → Option Nat → Int32 → mM → Option (Unit × mM)
  | 0, _, _, _ => none
  | n + 1, t0, i1, M => q_C_turnClocks_2_b (q_C_turnClocks_2 n) t0 i1 M
set_option maxRecDepth 20000 in
theorem v_C_turnClocks_2_b {E : mE} (r2 : Option Nat → Int32 → mM → Option (Unit × mM)) (h2 : ∀ (t0 : Option Nat) (i1 : Int32) (M : mM), mVr E mi_C_turnClocks 4 2 [some (.inr t0), some (.inl i1), none, none, none] [] M enU (r2 t0 i1 M)) (t0 : Option Nat) (i1 : Int32) (M : mM) : mVr E mi_C_turnClocks 4 2 [some (.inr t0), some (.inl i1), none, none, none] [] M enU (q_C_turnClocks_2_b r2 t0 i1 M) := by
  unfold q_C_turnClocks_2_b
  refine m_iload_n (d_C_turnClocks (k := 2) rfl) rfl ?_
  refine m_bipush (v := 6) (d_C_turnClocks (k := 3) rfl) (by decide) ?_
  refine m_icmp_ge (tgt := 87) (d_C_turnClocks (k := 4) rfl) rfl ?_ ?_
  · refine m_aload_n (d_C_turnClocks (k := 5) rfl) rfl ?_
    refine m_getR (d_C_turnClocks (k := 6) rfl) fl_C_11 rfl (fun a1 => ?_)
    refine m_iload_n (d_C_turnClocks (k := 7) rfl) rfl ?_
    refine m_aald (t := 2) (d_C_turnClocks (k := 8) rfl) rfl (fun a2 => ?_)
    refine m_ast_n (ls' := [some (.inr t0), some (.inl i1), some (.inr a2), none, none]) (d_C_turnClocks (k := 9) rfl) (by decide) rfl ?_
    refine m_iconst (v := 0) (d_C_turnClocks (k := 10) rfl) (by decide) ?_
    refine m_ist_n (ls' := [some (.inr t0), some (.inl i1), some (.inr a2), some (.inl (0 : Int32)), none]) (d_C_turnClocks (k := 11) rfl) (by decide) rfl ?_
    exact m_drop (mles_s (mles_s (mles_s (mles_s (mles_n mles_0))))) (v_C_turnClocks_17 r2 h2 mFU t0 i1 a2 (0 : Int32) M)
  · exact m_vret (d_C_turnClocks (k := 43) rfl) rfl
theorem v_C_turnClocks_2 {E : mE} : ∀ (n : Nat) (t0 : Option Nat) (i1 : Int32) (M : mM), mVr E mi_C_turnClocks 4 2 [some (.inr t0), some (.inl i1), none, none, none] [] M enU (q_C_turnClocks_2 n t0 i1 M)
  | 0, _, _, _ => m_none
  | n + 1, t0, i1, M => v_C_turnClocks_2_b _ (v_C_turnClocks_2 n) t0 i1 M
def q_C_turnClocks (t0 : Option Nat) (M : mM) : Option (Unit × mM) :=
    q_C_turnClocks_2 mFU t0 (0 : Int32) M
set_option maxRecDepth 20000 in
theorem v_C_turnClocks {E : mE} (t0 : Option Nat) (M : mM) : mVr E mi_C_turnClocks 4 0 [some (.inr t0), none, none, none, none] [] M enU (q_C_turnClocks t0 M) := by
  unfold q_C_turnClocks
  refine m_iconst (v := 0) (d_C_turnClocks (k := 0) rfl) (by decide) ?_
  refine m_ist_n (ls' := [some (.inr t0), some (.inl (0 : Int32)), none, none, none]) (d_C_turnClocks (k := 1) rfl) (by decide) rfl ?_
  exact m_drop (mles_s (mles_s (mles_n (mles_n (mles_n mles_0))))) (v_C_turnClocks_2 mFU t0 (0 : Int32) M)
theorem s_C_turnClocks {E : mE} (t0 : Option Nat) (M : mM) : mSnd E mi_C_turnClocks 4 [.inr t0] M enU (q_C_turnClocks t0 M) := m_entryU (by decide) (Nat.le_of_ble_eq_true rfl) rfl (m_drop (mles_s (mles_e (mles_e (mles_e (mles_e mles_0))))) (v_C_turnClocks t0 M))
def dt_C_run : List (Nat × Instr × Nat) := [(0, .iload_n 1, 1), (1, .iconst 1, 1), (2, .if_icmp .lt 10, 3), (5, .iload_n 1, 1), (6, .sipush 1000, 3), (9, .if_icmp .le 5, 3), (12, .iconst (-1), 1), (13, .ireturn, 1), (14, .iconst 0, 1), (15, .istore_n 2, 1), (16, .iconst 0, 1), (17, .istore_n 3, 1), (18, .iload_n 3, 1), (19, .iload_n 1, 1), (20, .if_icmp .ge 95, 3), (23, .aload_n 0, 1), (24, .dup, 1), (25, .getfield 226, 3), (28, .iconst 1, 1), (29, .iadd, 1), (30, .putfield 226, 3), (33, .aload_n 0, 1), (34, .invokevirtual 229, 3), (37, .aload_n 0, 1), (38, .invokevirtual 232, 3), (41, .aload_n 0, 1), (42, .invokevirtual 235, 3), (45, .istore 4, 2), (47, .iload_n 2, 1), (48, .iload 4, 2), (50, .invokestatic 239, 3), (53, .iadd, 1), (54, .istore_n 2, 1), (55, .iconst 0, 1), (56, .istore 5, 2), (58, .iload 5, 2), (60, .bipush 6, 2), (62, .if_icmp .ge 35, 3), (65, .iload 4, 2), (67, .ifCond .eq 30, 3), (70, .iload 4, 2), (72, .iload 5, 2), (74, .ishr, 1), (75, .iconst 1, 1), (76, .iand, 1), (77, .ifCond .eq 14, 3), (80, .aload_n 0, 1), (81, .aload_n 0, 1), (82, .getfield 11, 3), (85, .iload 5, 2), (87, .aaload, 1), (88, .invokevirtual 244, 3), (91, .iinc 5 1, 3), (94, .goto (-36), 3), (97, .aload_n 0, 1), (98, .invokevirtual 248, 3), (101, .aload_n 0, 1), (102, .invokevirtual 251, 3), (105, .aload_n 0, 1), (106, .invokevirtual 254, 3), (109, .iinc 3 1, 3), (112, .goto (-94), 3), (115, .iload_n 2, 1), (116, .ireturn, 1)]
theorem dx_C_run : ∀ p ∈ dt_C_run, decode prog_1_method_17_code p.1 = .ok p.2 := by decide +kernel
theorem d_C_run {k pc : Nat} {i : Instr} {n : Nat} (h : dt_C_run[k]? = some (pc, i, n)) : decode mi_C_run.2.1 pc = .ok (i, n) := dx_C_run (pc, i, n) (List.mem_of_getElem? h)
def q_C_run_97 (r18 : Option Nat → Int32 → Int32 → Int32 → mM → Option (Int32 × mM)) (t0 : Option Nat) (i1 : Int32) (i2 : Int32) (i3 : Int32) (M : mM) : Option (Int32 × mM) :=
    x_cv M 9 t0 (q_C_turnClocks t0 M) fun _ M =>
    x_cv M 9 t0 (q_C_tellRoutesInTime t0 M) fun _ M =>
    x_cv M 9 t0 (q_C_sayWhatMayBeSaid t0 M) fun _ M =>
    r18 t0 i1 i2 (i3 + 1) M
set_option maxRecDepth 20000 in
theorem v_C_run_97 {E : mE} (r18 : Option Nat → Int32 → Int32 → Int32 → mM → Option (Int32 × mM)) (h18 : ∀ (t0 : Option Nat) (i1 : Int32) (i2 : Int32) (i3 : Int32) (M : mM), mVr E mi_C_run 8 18 [some (.inr t0), some (.inl i1), some (.inl i2), some (.inl i3), none, none] [] M enI (r18 t0 i1 i2 i3 M)) (t0 : Option Nat) (i1 : Int32) (i2 : Int32) (i3 : Int32) (M : mM) : mVr E mi_C_run 8 97 [some (.inr t0), some (.inl i1), some (.inl i2), some (.inl i3), none, none] [] M enI (q_C_run_97 r18 t0 i1 i2 i3 M) := by
  unfold q_C_run_97
  refine m_aload_n (d_C_run (k := 54) rfl) rfl ?_
  refine m_cvU (c := 9) (vs := []) (st := []) (d_C_run (k := 55) rfl) (s_C_turnClocks t0 M) cd_C_turnClocks ml_C_248 im_C_turnClocks se_C_turnClocks rfl (by decide) rfl (Nat.le_of_ble_eq_true rfl) (fun _ M => ?_)
  refine m_aload_n (d_C_run (k := 56) rfl) rfl ?_
  refine m_cvU (c := 9) (vs := []) (st := []) (d_C_run (k := 57) rfl) (s_C_tellRoutesInTime t0 M) cd_C_tellRoutesInTime ml_C_251 im_C_tellRoutesInTime se_C_tellRoutesInTime rfl (by decide) rfl (Nat.le_of_ble_eq_true rfl) (fun _ M => ?_)
  refine m_aload_n (d_C_run (k := 58) rfl) rfl ?_
  refine m_cvU (c := 9) (vs := []) (st := []) (d_C_run (k := 59) rfl) (s_C_sayWhatMayBeSaid t0 M) cd_C_sayWhatMayBeSaid ml_C_254 im_C_sayWhatMayBeSaid se_C_sayWhatMayBeSaid rfl (by decide) rfl (Nat.le_of_ble_eq_true rfl) (fun _ M => ?_)
  refine m_inc (v := 1) (ls' := [some (.inr t0), some (.inl i1), some (.inl i2), some (.inl (i3 + 1)), none, none]) (d_C_run (k := 60) rfl) rfl (by decide) (by decide) rfl ?_
  refine m_goto (tgt := 18) (d_C_run (k := 61) rfl) rfl ?_
  exact m_drop (mles_s (mles_s (mles_s (mles_s (mles_n (mles_n mles_0)))))) (h18 t0 i1 i2 (i3 + 1) M)
def q_C_run_91 (r18 : Option Nat → Int32 → Int32 → Int32 → mM → Option (Int32 × mM)) (r58 : Option Nat → Int32 → Int32 → Int32 → Int32 → Int32 → mM → Option (Int32 × mM)) (t0 : Option Nat) (i1 : Int32) (i2 : Int32) (i3 : Int32) (i4 : Int32) (i5 : Int32) (M : mM) : Option (Int32 × mM) :=
    r58 t0 i1 i2 i3 i4 (i5 + 1) M
set_option maxRecDepth 20000 in
theorem v_C_run_91 {E : mE} (r18 : Option Nat → Int32 → Int32 → Int32 → mM → Option (Int32 × mM)) (h18 : ∀ (t0 : Option Nat) (i1 : Int32) (i2 : Int32) (i3 : Int32) (M : mM), mVr E mi_C_run 8 18 [some (.inr t0), some (.inl i1), some (.inl i2), some (.inl i3), none, none] [] M enI (r18 t0 i1 i2 i3 M)) (r58 : Option Nat → Int32 → Int32 → Int32 → Int32 → Int32 → mM → Option (Int32 × mM)) (h58 : ∀ (t0 : Option Nat) (i1 : Int32) (i2 : Int32) (i3 : Int32) (i4 : Int32) (i5 : Int32) (M : mM), mVr E mi_C_run 8 58 [some (.inr t0), some (.inl i1), some (.inl i2), some (.inl i3), some (.inl i4), some (.inl i5)] [] M enI (r58 t0 i1 i2 i3 i4 i5 M)) (t0 : Option Nat) (i1 : Int32) (i2 : Int32) (i3 : Int32) (i4 : Int32) (i5 : Int32) (M : mM) : mVr E mi_C_run 8 91 [some (.inr t0), some (.inl i1), some (.inl i2), some (.inl i3), some (.inl i4), some (.inl i5)] [] M enI (q_C_run_91 r18 r58 t0 i1 i2 i3 i4 i5 M) := by
  unfold q_C_run_91
  refine m_inc (v := 1) (ls' := [some (.inr t0), some (.inl i1), some (.inl i2), some (.inl i3), some (.inl i4), some (.inl (i5 + 1))]) (d_C_run (k := 52) rfl) rfl (by decide) (by decide) rfl ?_
  refine m_goto (tgt := 58) (d_C_run (k := 53) rfl) rfl ?_
  exact m_drop (mles_s (mles_s (mles_s (mles_s (mles_s (mles_s mles_0)))))) (h58 t0 i1 i2 i3 i4 (i5 + 1) M)
def q_C_run_58_b (r18 : Option Nat → Int32 → Int32 → Int32 → mM → Option (Int32 × mM)) (r58 : Option Nat → Int32 → Int32 → Int32 → Int32 → Int32 → mM → Option (Int32 × mM)) (t0 : Option Nat) (i1 : Int32) (i2 : Int32) (i3 : Int32) (i4 : Int32) (i5 : Int32) (M : mM) : Option (Int32 × mM) :=
    if i5 < (6 : Int32) then
      if i4 = 0 then
        q_C_run_97 r18 t0 i1 i2 i3 M
      else
        if ((i4 >>> (i5 &&& 31)) &&& (1 : Int32)) = 0 then
          q_C_run_91 r18 r58 t0 i1 i2 i3 i4 i5 M
        else
          x_gR M 9 t0 0 fun a1 =>
          x_aR M 2 a1 i5 fun a2 =>
          x_cv M 9 t0 (q_C_takeFrame t0 a2 M) fun _ M =>
          q_C_run_91 r18 r58 t0 i1 i2 i3 i4 i5 M
    else
      q_C_run_97 r18 t0 i1 i2 i3 M
def q_C_run_58 (r18 : Option Nat → Int32 → Int32 → Int32 → mM → Option (Int32 × mM)) : Nat → Option Nat → Int32 → Int32 → Int32 → Int32 → Int32 → mM → Option (Int32 × mM)
  | 0, _, _, _, _, _, _, _ => none
  | n + 1, t0, i1, i2, i3, i4, i5, M => q_C_run_58_b r18 (q_C_run_58 r18 n) t0 i1 i2 i3 i4 i5 M
set_option maxRecDepth 20000 in
theorem v_C_run_58_b {E : mE} (r18 : Option Nat → Int32 → Int32 → Int32 → mM → Option (Int32 × mM)) (h18 : ∀ (t0 : Option Nat) (i1 : Int32) (i2 : Int32) (i3 : Int32) (M : mM), mVr E mi_C_run 8 18 [some (.inr t0), some (.inl i1), some (.inl i2), some (.inl i3), none, none] [] M enI (r18 t0 i1 i2 i3 M)) (r58 : Option Nat → Int32 → Int32 → Int32 → Int32 → Int32 → mM → Option (Int32 × mM)) (h58 : ∀ (t0 : Option Nat) (i1 : Int32) (i2 : Int32) (i3 : Int32) (i4 : Int32) (i5 : Int32) (M : mM), mVr E mi_C_run 8 58 [some (.inr t0), some (.inl i1), some (.inl i2), some (.inl i3), some (.inl i4), some (.inl i5)] [] M enI (r58 t0 i1 i2 i3 i4 i5 M)) (t0 : Option Nat) (i1 : Int32) (i2 : Int32) (i3 : Int32) (i4 : Int32) (i5 : Int32) (M : mM) : mVr E mi_C_run 8 58 [some (.inr t0), some (.inl i1), some (.inl i2), some (.inl i3), some (.inl i4), some (.inl i5)] [] M enI (q_C_run_58_b r18 r58 t0 i1 i2 i3 i4 i5 M) := by
  unfold q_C_run_58_b
  refine m_iload (d_C_run (k := 35) rfl) rfl ?_
  refine m_bipush (v := 6) (d_C_run (k := 36) rfl) (by decide) ?_
  refine m_icmp_ge (tgt := 97) (d_C_run (k := 37) rfl) rfl ?_ ?_
  · refine m_iload (d_C_run (k := 38) rfl) rfl ?_
    refine m_if_eq (tgt := 97) (d_C_run (k := 39) rfl) rfl ?_ ?_
    · exact m_drop (mles_s (mles_s (mles_s (mles_s (mles_n (mles_n mles_0)))))) (v_C_run_97 r18 h18 t0 i1 i2 i3 M)
    · refine m_iload (d_C_run (k := 40) rfl) rfl ?_
      refine m_iload (d_C_run (k := 41) rfl) rfl ?_
      refine m_ishr (d_C_run (k := 42) rfl) ?_
      refine m_iconst (v := 1) (d_C_run (k := 43) rfl) (by decide) ?_
      refine m_iand (d_C_run (k := 44) rfl) ?_
      refine m_if_eq (tgt := 91) (d_C_run (k := 45) rfl) rfl ?_ ?_
      · exact m_drop (mles_s (mles_s (mles_s (mles_s (mles_s (mles_s mles_0)))))) (v_C_run_91 r18 h18 r58 h58 t0 i1 i2 i3 i4 i5 M)
      · refine m_aload_n (d_C_run (k := 46) rfl) rfl ?_
        refine m_aload_n (d_C_run (k := 47) rfl) rfl ?_
        refine m_getR (d_C_run (k := 48) rfl) fl_C_11 rfl (fun a1 => ?_)
        refine m_iload (d_C_run (k := 49) rfl) rfl ?_
        refine m_aald (t := 2) (d_C_run (k := 50) rfl) rfl (fun a2 => ?_)
        refine m_cvU (c := 9) (vs := [.inr a2]) (st := []) (d_C_run (k := 51) rfl) (s_C_takeFrame t0 a2 M) cd_C_takeFrame ml_C_244 im_C_takeFrame se_C_takeFrame rfl (by decide) rfl (Nat.le_of_ble_eq_true rfl) (fun _ M => ?_)
        exact m_drop (mles_s (mles_s (mles_s (mles_s (mles_s (mles_s mles_0)))))) (v_C_run_91 r18 h18 r58 h58 t0 i1 i2 i3 i4 i5 M)
  · exact m_drop (mles_s (mles_s (mles_s (mles_s (mles_n (mles_n mles_0)))))) (v_C_run_97 r18 h18 t0 i1 i2 i3 M)
theorem v_C_run_58 {E : mE} (r18 : Option Nat → Int32 → Int32 → Int32 → mM → Option (Int32 × mM)) (h18 : ∀ (t0 : Option Nat) (i1 : Int32) (i2 : Int32) (i3 : Int32) (M : mM), mVr E mi_C_run 8 18 [some (.inr t0), some (.inl i1), some (.inl i2), some (.inl i3), none, none] [] M enI (r18 t0 i1 i2 i3 M)) : ∀ (n : Nat) (t0 : Option Nat) (i1 : Int32) (i2 : Int32) (i3 : Int32) (i4 : Int32) (i5 : Int32) (M : mM), mVr E mi_C_run 8 58 [some (.inr t0), some (.inl i1), some (.inl i2), some (.inl i3), some (.inl i4), some (.inl i5)] [] M enI (q_C_run_58 r18 n t0 i1 i2 i3 i4 i5 M)
  | 0, _, _, _, _, _, _, _ => m_none
  | n + 1, t0, i1, i2, i3, i4, i5, M => v_C_run_58_b r18 h18 _ (v_C_run_58 r18 h18 n) t0 i1 i2 i3 i4 i5 M
def q_C_run_18_b (r18 : Option Nat → Int32 → Int32 → Int32 → mM → Option (Int32 × mM)) (t0 : Option Nat) (i1 : Int32) (i2 : Int32) (i3 : Int32) (M : mM) : Option (Int32 × mM) :=
    if i3 < i1 then
      x_gI M 9 t0 7 fun x1 =>
      x_pI M 9 t0 7 (x1 + (1 : Int32)) fun M =>
      x_cv M 9 t0 (q_C_drawForChannel t0 M) fun _ M =>
      x_cv M 9 t0 (q_C_sendBits t0 M) fun _ M =>
      x_cv M 9 t0 (q_C_hearLevels t0 M) fun x2 M =>
      x_cl (q_J_bitCount x2 M) fun x3 M =>
      x_lt (i2 + x3) fun x4 =>
      q_C_run_58 r18 mFU t0 i1 x4 i3 x2 (0 : Int32) M
    else
      some (i2, M)
def q_C_run_18 : Nat → Option Nat → Int32 → Int32 → Int32 → mM → Option (Int32 × mM)
  | 0, _, _, _, _, _ => none
  | n + 1, t0, i1, i2, i3, M => q_C_run_18_b (q_C_run_18 n) t0 i1 i2 i3 M
set_option maxRecDepth 20000 in
theorem v_C_run_18_b {E : mE} (r18 : Option Nat → Int32 → Int32 → Int32 → mM → Option (Int32 × mM)) (h18 : ∀ (t0 : Option Nat) (i1 : Int32) (i2 : Int32) (i3 : Int32) (M : mM), mVr E mi_C_run 8 18 [some (.inr t0), some (.inl i1), some (.inl i2), some (.inl i3), none, none] [] M enI (r18 t0 i1 i2 i3 M)) (t0 : Option Nat) (i1 : Int32) (i2 : Int32) (i3 : Int32) (M : mM) : mVr E mi_C_run 8 18 [some (.inr t0), some (.inl i1), some (.inl i2), some (.inl i3), none, none] [] M enI (q_C_run_18_b r18 t0 i1 i2 i3 M) := by
  unfold q_C_run_18_b
  refine m_iload_n (d_C_run (k := 12) rfl) rfl ?_
  refine m_iload_n (d_C_run (k := 13) rfl) rfl ?_
  refine m_icmp_ge (tgt := 115) (d_C_run (k := 14) rfl) rfl ?_ ?_
  · refine m_aload_n (d_C_run (k := 15) rfl) rfl ?_
    refine m_dup (d_C_run (k := 16) rfl) ?_
    refine m_getI (d_C_run (k := 17) rfl) fl_C_226 rfl (fun x1 => ?_)
    refine m_iconst (v := 1) (d_C_run (k := 18) rfl) (by decide) ?_
    refine m_iadd (d_C_run (k := 19) rfl) ?_
    refine m_pI (d_C_run (k := 20) rfl) fp_C_226 (fun h => absurd h (by decide)) rfl (fun M => ?_)
    refine m_aload_n (d_C_run (k := 21) rfl) rfl ?_
    refine m_cvU (c := 9) (vs := []) (st := []) (d_C_run (k := 22) rfl) (s_C_drawForChannel t0 M) cd_C_drawForChannel ml_C_229 im_C_drawForChannel se_C_drawForChannel rfl (by decide) rfl (Nat.le_of_ble_eq_true rfl) (fun _ M => ?_)
    refine m_aload_n (d_C_run (k := 23) rfl) rfl ?_
    refine m_cvU (c := 9) (vs := []) (st := []) (d_C_run (k := 24) rfl) (s_C_sendBits t0 M) cd_C_sendBits ml_C_232 im_C_sendBits se_C_sendBits rfl (by decide) rfl (Nat.le_of_ble_eq_true rfl) (fun _ M => ?_)
    refine m_aload_n (d_C_run (k := 25) rfl) rfl ?_
    refine m_cvI (c := 9) (vs := []) (st := []) (d_C_run (k := 26) rfl) (s_C_hearLevels t0 M) cd_C_hearLevels ml_C_235 im_C_hearLevels se_C_hearLevels rfl (by decide) rfl (Nat.le_of_ble_eq_true rfl) (fun x2 M => ?_)
    refine m_ist (ls' := [some (.inr t0), some (.inl i1), some (.inl i2), some (.inl i3), some (.inl x2), none]) (d_C_run (k := 27) rfl) (by decide) rfl ?_
    refine m_iload_n (d_C_run (k := 28) rfl) rfl ?_
    refine m_iload (d_C_run (k := 29) rfl) rfl ?_
    refine m_csI (vs := [.inl x2]) (st := [.inl i2]) (d_C_run (k := 30) rfl) (s_J_bitCount x2 M) cd_J_bitCount ml_C_239 sa_J_bitCount (by decide) rfl (Nat.le_of_ble_eq_true rfl) (fun x3 M => ?_)
    refine m_iadd (d_C_run (k := 31) rfl) ?_
    refine m_lt (fun x4 => ?_)
    refine m_ist_n (ls' := [some (.inr t0), some (.inl i1), some (.inl x4), some (.inl i3), some (.inl x2), none]) (d_C_run (k := 32) rfl) (by decide) rfl ?_
    refine m_iconst (v := 0) (d_C_run (k := 33) rfl) (by decide) ?_
    refine m_ist (ls' := [some (.inr t0), some (.inl i1), some (.inl x4), some (.inl i3), some (.inl x2), some (.inl (0 : Int32))]) (d_C_run (k := 34) rfl) (by decide) rfl ?_
    exact m_drop (mles_s (mles_s (mles_s (mles_s (mles_s (mles_s mles_0)))))) (v_C_run_58 r18 h18 mFU t0 i1 x4 i3 x2 (0 : Int32) M)
  · refine m_iload_n (d_C_run (k := 62) rfl) rfl ?_
    exact m_iret (d_C_run (k := 63) rfl) rfl
theorem v_C_run_18 {E : mE} : ∀ (n : Nat) (t0 : Option Nat) (i1 : Int32) (i2 : Int32) (i3 : Int32) (M : mM), mVr E mi_C_run 8 18 [some (.inr t0), some (.inl i1), some (.inl i2), some (.inl i3), none, none] [] M enI (q_C_run_18 n t0 i1 i2 i3 M)
  | 0, _, _, _, _, _ => m_none
  | n + 1, t0, i1, i2, i3, M => v_C_run_18_b _ (v_C_run_18 n) t0 i1 i2 i3 M
def q_C_run (t0 : Option Nat) (i1 : Int32) (M : mM) : Option (Int32 × mM) :=
    if i1 < (1 : Int32) then
      some ((-1 : Int32), M)
    else
      if (1000 : Int32) < i1 then
        some ((-1 : Int32), M)
      else
        q_C_run_18 mFU t0 i1 (0 : Int32) (0 : Int32) M
set_option maxRecDepth 20000 in
theorem v_C_run {E : mE} (t0 : Option Nat) (i1 : Int32) (M : mM) : mVr E mi_C_run 8 0 [some (.inr t0), some (.inl i1), none, none, none, none] [] M enI (q_C_run t0 i1 M) := by
  unfold q_C_run
  refine m_iload_n (d_C_run (k := 0) rfl) rfl ?_
  refine m_iconst (v := 1) (d_C_run (k := 1) rfl) (by decide) ?_
  refine m_icmp_lt (tgt := 12) (d_C_run (k := 2) rfl) rfl ?_ ?_
  · refine m_iconst (v := (-1)) (d_C_run (k := 6) rfl) (by decide) ?_
    exact m_iret (d_C_run (k := 7) rfl) rfl
  · refine m_iload_n (d_C_run (k := 3) rfl) rfl ?_
    refine m_sipush (v := 1000) (d_C_run (k := 4) rfl) (by decide) ?_
    refine m_icmp_le (tgt := 14) (d_C_run (k := 5) rfl) rfl ?_ ?_
    · refine m_iconst (v := (-1)) (d_C_run (k := 6) rfl) (by decide) ?_
      exact m_iret (d_C_run (k := 7) rfl) rfl
    · refine m_iconst (v := 0) (d_C_run (k := 8) rfl) (by decide) ?_
      refine m_ist_n (ls' := [some (.inr t0), some (.inl i1), some (.inl (0 : Int32)), none, none, none]) (d_C_run (k := 9) rfl) (by decide) rfl ?_
      refine m_iconst (v := 0) (d_C_run (k := 10) rfl) (by decide) ?_
      refine m_ist_n (ls' := [some (.inr t0), some (.inl i1), some (.inl (0 : Int32)), some (.inl (0 : Int32)), none, none]) (d_C_run (k := 11) rfl) (by decide) rfl ?_
      exact m_drop (mles_s (mles_s (mles_s (mles_s (mles_n (mles_n mles_0)))))) (v_C_run_18 mFU t0 i1 (0 : Int32) (0 : Int32) M)
theorem s_C_run {E : mE} (t0 : Option Nat) (i1 : Int32) (M : mM) : mSnd E mi_C_run 8 [.inr t0, .inl i1] M enI (q_C_run t0 i1 M) := m_entryI (by decide) (Nat.le_of_ble_eq_true rfl) rfl (m_drop (mles_s (mles_s (mles_e (mles_e (mles_e (mles_e mles_0)))))) (v_C_run t0 i1 M))
def dt_C_station : List (Nat × Instr × Nat) := [(0, .aload_n 0, 1), (1, .iload_n 1, 1), (2, .invokevirtual 106, 3), (5, .astore_n 3, 1), (6, .aload_n 3, 1), (7, .ifnonnull 5, 3), (10, .iconst (-1), 1), (11, .ireturn, 1), (12, .iload_n 2, 1), (13, .tableswitch 142 0 10 #[59, 75, 83, 96, 104, 109, 114, 119, 124, 129, 134], 59), (72, .aload_n 3, 1), (73, .getfield 257, 3), (76, .getfield 260, 3), (79, .ifCond .eq 7, 3), (82, .iconst 1, 1), (83, .goto 4, 3), (86, .iconst 0, 1), (87, .ireturn, 1), (88, .aload_n 3, 1), (89, .getfield 124, 3), (92, .getfield 264, 3), (95, .ireturn, 1), (96, .aload_n 3, 1), (97, .getfield 267, 3), (100, .ifCond .eq 7, 3), (103, .iconst 1, 1), (104, .goto 4, 3), (107, .iconst 0, 1), (108, .ireturn, 1), (109, .aload_n 3, 1), (110, .getfield 257, 3), (113, .getfield 79, 3), (116, .ireturn, 1), (117, .aload_n 3, 1), (118, .getfield 270, 3), (121, .ireturn, 1), (122, .aload_n 3, 1), (123, .getfield 273, 3), (126, .ireturn, 1), (127, .aload_n 3, 1), (128, .getfield 276, 3), (131, .ireturn, 1), (132, .aload_n 3, 1), (133, .getfield 279, 3), (136, .ireturn, 1), (137, .aload_n 3, 1), (138, .getfield 282, 3), (141, .ireturn, 1), (142, .aload_n 3, 1), (143, .getfield 285, 3), (146, .ireturn, 1), (147, .aload_n 3, 1), (148, .getfield 214, 3), (151, .getfield 264, 3), (154, .ireturn, 1), (155, .iconst (-1), 1), (156, .ireturn, 1)]
theorem dx_C_station : ∀ p ∈ dt_C_station, decode prog_1_method_19_code p.1 = .ok p.2 := by decide +kernel
theorem d_C_station {k pc : Nat} {i : Instr} {n : Nat} (h : dt_C_station[k]? = some (pc, i, n)) : decode mi_C_station.2.1 pc = .ok (i, n) := dx_C_station (pc, i, n) (List.mem_of_getElem? h)
def q_C_station (t0 : Option Nat) (i1 : Int32) (i2 : Int32) (M : mM) : Option (Int32 × mM) :=
    x_cv M 9 t0 (q_C_stationAt t0 i1 M) fun a1 M =>
    x_nl a1 (
      some ((-1 : Int32), M)
    ) (
      x_sw i2 [
        ((0 : Int32), (
          x_gR M 8 a1 2 fun a2 =>
          x_gI M 7 a2 5 fun x3 =>
          if x3 = 0 then
            some ((0 : Int32), M)
          else
            some ((1 : Int32), M)
        )),
        ((1 : Int32), (
          x_gR M 8 a1 4 fun a4 =>
          x_gI M 6 a4 2 fun x5 =>
          some (x5, M)
        )),
        ((2 : Int32), (
          x_gI M 8 a1 10 fun x6 =>
          if x6 = 0 then
            some ((0 : Int32), M)
          else
            some ((1 : Int32), M)
        )),
        ((3 : Int32), (
          x_gR M 8 a1 2 fun a7 =>
          x_gI M 7 a7 4 fun x8 =>
          some (x8, M)
        )),
        ((4 : Int32), (
          x_gI M 8 a1 9 fun x9 =>
          some (x9, M)
        )),
        ((5 : Int32), (
          x_gI M 8 a1 13 fun x10 =>
          some (x10, M)
        )),
        ((6 : Int32), (
          x_gI M 8 a1 14 fun x11 =>
          some (x11, M)
        )),
        ((7 : Int32), (
          x_gI M 8 a1 15 fun x12 =>
          some (x12, M)
        )),
        ((8 : Int32), (
          x_gI M 8 a1 16 fun x13 =>
          some (x13, M)
        )),
        ((9 : Int32), (
          x_gI M 8 a1 17 fun x14 =>
          some (x14, M)
        )),
        ((10 : Int32), (
          x_gR M 8 a1 5 fun a15 =>
          x_gI M 6 a15 2 fun x16 =>
          some (x16, M)
        ))
      ] (
        some ((-1 : Int32), M)
      )
    )
set_option maxRecDepth 20000 in
theorem v_C_station {E : mE} (t0 : Option Nat) (i1 : Int32) (i2 : Int32) (M : mM) : mVr E mi_C_station 2 0 [some (.inr t0), some (.inl i1), some (.inl i2), none] [] M enI (q_C_station t0 i1 i2 M) := by
  unfold q_C_station
  refine m_aload_n (d_C_station (k := 0) rfl) rfl ?_
  refine m_iload_n (d_C_station (k := 1) rfl) rfl ?_
  refine m_cvR (c := 9) (vs := [.inl i1]) (st := []) (d_C_station (k := 2) rfl) (s_C_stationAt t0 i1 M) cd_C_stationAt ml_C_106 im_C_stationAt se_C_stationAt rfl (by decide) rfl (Nat.le_of_ble_eq_true rfl) (fun a1 M => ?_)
  refine m_ast_n (ls' := [some (.inr t0), some (.inl i1), some (.inl i2), some (.inr a1)]) (d_C_station (k := 3) rfl) (by decide) rfl ?_
  refine m_aload_n (d_C_station (k := 4) rfl) rfl ?_
  refine m_ifnonnull (tgt := 12) (d_C_station (k := 5) rfl) rfl ?_ ?_
  · refine m_iconst (v := (-1)) (d_C_station (k := 6) rfl) (by decide) ?_
    exact m_iret (d_C_station (k := 7) rfl) rfl
  · refine m_iload_n (d_C_station (k := 8) rfl) rfl ?_
    refine m_sw ?_ (fun hx => ?_)
    ·
      refine List.forall_mem_cons.mpr ⟨?_, ?_⟩
      · dsimp only
        refine m_tin (x := (0 : Int32)) (tgt := 72) (d_C_station (k := 9) rfl) (by decide) (by decide) rfl rfl ?_
        refine m_aload_n (d_C_station (k := 10) rfl) rfl ?_
        refine m_getR (d_C_station (k := 11) rfl) fl_C_257 rfl (fun a2 => ?_)
        refine m_getI (d_C_station (k := 12) rfl) fl_C_260 rfl (fun x3 => ?_)
        refine m_if_eq (tgt := 86) (d_C_station (k := 13) rfl) rfl ?_ ?_
        · refine m_iconst (v := 0) (d_C_station (k := 16) rfl) (by decide) ?_
          exact m_iret (d_C_station (k := 17) rfl) rfl
        · refine m_iconst (v := 1) (d_C_station (k := 14) rfl) (by decide) ?_
          refine m_goto (tgt := 87) (d_C_station (k := 15) rfl) rfl ?_
          exact m_iret (d_C_station (k := 17) rfl) rfl
      refine List.forall_mem_cons.mpr ⟨?_, ?_⟩
      · dsimp only
        refine m_tin (x := (1 : Int32)) (tgt := 88) (d_C_station (k := 9) rfl) (by decide) (by decide) rfl rfl ?_
        refine m_aload_n (d_C_station (k := 18) rfl) rfl ?_
        refine m_getR (d_C_station (k := 19) rfl) fl_C_124 rfl (fun a4 => ?_)
        refine m_getI (d_C_station (k := 20) rfl) fl_C_264 rfl (fun x5 => ?_)
        exact m_iret (d_C_station (k := 21) rfl) rfl
      refine List.forall_mem_cons.mpr ⟨?_, ?_⟩
      · dsimp only
        refine m_tin (x := (2 : Int32)) (tgt := 96) (d_C_station (k := 9) rfl) (by decide) (by decide) rfl rfl ?_
        refine m_aload_n (d_C_station (k := 22) rfl) rfl ?_
        refine m_getI (d_C_station (k := 23) rfl) fl_C_267 rfl (fun x6 => ?_)
        refine m_if_eq (tgt := 107) (d_C_station (k := 24) rfl) rfl ?_ ?_
        · refine m_iconst (v := 0) (d_C_station (k := 27) rfl) (by decide) ?_
          exact m_iret (d_C_station (k := 28) rfl) rfl
        · refine m_iconst (v := 1) (d_C_station (k := 25) rfl) (by decide) ?_
          refine m_goto (tgt := 108) (d_C_station (k := 26) rfl) rfl ?_
          exact m_iret (d_C_station (k := 28) rfl) rfl
      refine List.forall_mem_cons.mpr ⟨?_, ?_⟩
      · dsimp only
        refine m_tin (x := (3 : Int32)) (tgt := 109) (d_C_station (k := 9) rfl) (by decide) (by decide) rfl rfl ?_
        refine m_aload_n (d_C_station (k := 29) rfl) rfl ?_
        refine m_getR (d_C_station (k := 30) rfl) fl_C_257 rfl (fun a7 => ?_)
        refine m_getI (d_C_station (k := 31) rfl) fl_C_79 rfl (fun x8 => ?_)
        exact m_iret (d_C_station (k := 32) rfl) rfl
      refine List.forall_mem_cons.mpr ⟨?_, ?_⟩
      · dsimp only
        refine m_tin (x := (4 : Int32)) (tgt := 117) (d_C_station (k := 9) rfl) (by decide) (by decide) rfl rfl ?_
        refine m_aload_n (d_C_station (k := 33) rfl) rfl ?_
        refine m_getI (d_C_station (k := 34) rfl) fl_C_270 rfl (fun x9 => ?_)
        exact m_iret (d_C_station (k := 35) rfl) rfl
      refine List.forall_mem_cons.mpr ⟨?_, ?_⟩
      · dsimp only
        refine m_tin (x := (5 : Int32)) (tgt := 122) (d_C_station (k := 9) rfl) (by decide) (by decide) rfl rfl ?_
        refine m_aload_n (d_C_station (k := 36) rfl) rfl ?_
        refine m_getI (d_C_station (k := 37) rfl) fl_C_273 rfl (fun x10 => ?_)
        exact m_iret (d_C_station (k := 38) rfl) rfl
      refine List.forall_mem_cons.mpr ⟨?_, ?_⟩
      · dsimp only
        refine m_tin (x := (6 : Int32)) (tgt := 127) (d_C_station (k := 9) rfl) (by decide) (by decide) rfl rfl ?_
        refine m_aload_n (d_C_station (k := 39) rfl) rfl ?_
        refine m_getI (d_C_station (k := 40) rfl) fl_C_276 rfl (fun x11 => ?_)
        exact m_iret (d_C_station (k := 41) rfl) rfl
      refine List.forall_mem_cons.mpr ⟨?_, ?_⟩
      · dsimp only
        refine m_tin (x := (7 : Int32)) (tgt := 132) (d_C_station (k := 9) rfl) (by decide) (by decide) rfl rfl ?_
        refine m_aload_n (d_C_station (k := 42) rfl) rfl ?_
        refine m_getI (d_C_station (k := 43) rfl) fl_C_279 rfl (fun x12 => ?_)
        exact m_iret (d_C_station (k := 44) rfl) rfl
      refine List.forall_mem_cons.mpr ⟨?_, ?_⟩
      · dsimp only
        refine m_tin (x := (8 : Int32)) (tgt := 137) (d_C_station (k := 9) rfl) (by decide) (by decide) rfl rfl ?_
        refine m_aload_n (d_C_station (k := 45) rfl) rfl ?_
        refine m_getI (d_C_station (k := 46) rfl) fl_C_282 rfl (fun x13 => ?_)
        exact m_iret (d_C_station (k := 47) rfl) rfl
      refine List.forall_mem_cons.mpr ⟨?_, ?_⟩
      · dsimp only
        refine m_tin (x := (9 : Int32)) (tgt := 142) (d_C_station (k := 9) rfl) (by decide) (by decide) rfl rfl ?_
        refine m_aload_n (d_C_station (k := 48) rfl) rfl ?_
        refine m_getI (d_C_station (k := 49) rfl) fl_C_285 rfl (fun x14 => ?_)
        exact m_iret (d_C_station (k := 50) rfl) rfl
      refine List.forall_mem_cons.mpr ⟨?_, ?_⟩
      · dsimp only
        refine m_tin (x := (10 : Int32)) (tgt := 147) (d_C_station (k := 9) rfl) (by decide) (by decide) rfl rfl ?_
        refine m_aload_n (d_C_station (k := 51) rfl) rfl ?_
        refine m_getR (d_C_station (k := 52) rfl) fl_C_214 rfl (fun a15 => ?_)
        refine m_getI (d_C_station (k := 53) rfl) fl_C_264 rfl (fun x16 => ?_)
        exact m_iret (d_C_station (k := 54) rfl) rfl
      exact fun _ h => absurd h List.not_mem_nil
    · refine m_tout (ks := [0, 1, 2, 3, 4, 5, 6, 7, 8, 9, 10]) (tgt := 155) (d_C_station (k := 9) rfl) (m_ks hx) (by decide) rfl ?_
      refine m_iconst (v := (-1)) (d_C_station (k := 55) rfl) (by decide) ?_
      exact m_iret (d_C_station (k := 56) rfl) rfl
theorem s_C_station {E : mE} (t0 : Option Nat) (i1 : Int32) (i2 : Int32) (M : mM) : mSnd E mi_C_station 2 [.inr t0, .inl i1, .inl i2] M enI (q_C_station t0 i1 i2 M) := m_entryI (by decide) (Nat.le_of_ble_eq_true rfl) rfl (m_drop (mles_s (mles_s (mles_s (mles_e mles_0)))) (v_C_station t0 i1 i2 M))
def dt_C_take : List (Nat × Instr × Nat) := [(0, .aload_n 0, 1), (1, .iload_n 1, 1), (2, .invokevirtual 106, 3), (5, .astore_n 2, 1), (6, .aload_n 2, 1), (7, .ifnonnull 7, 3), (10, .aconst_null, 1), (11, .goto 11, 3), (14, .aload_n 2, 1), (15, .getfield 214, 3), (18, .iconst 0, 1), (19, .invokevirtual 217, 3), (22, .astore_n 3, 1), (23, .aload_n 3, 1), (24, .ifnonnull 5, 3), (27, .iconst (-1), 1), (28, .ireturn, 1), (29, .aload_n 0, 1), (30, .aload_n 3, 1), (31, .iconst 4, 1), (32, .aload_n 3, 1), (33, .getfield 61, 3), (36, .iconst 4, 1), (37, .isub, 1), (38, .invokevirtual 102, 3), (41, .aload_n 2, 1), (42, .getfield 214, 3), (45, .iconst 1, 1), (46, .invokevirtual 221, 3), (49, .sipush 256, 3), (52, .aload_n 3, 1), (53, .iconst 0, 1), (54, .invokevirtual 68, 3), (57, .imul, 1), (58, .aload_n 3, 1), (59, .iconst 3, 1), (60, .invokevirtual 68, 3), (63, .iadd, 1), (64, .ireturn, 1)]
theorem dx_C_take : ∀ p ∈ dt_C_take, decode prog_1_method_15_code p.1 = .ok p.2 := by decide +kernel
theorem d_C_take {k pc : Nat} {i : Instr} {n : Nat} (h : dt_C_take[k]? = some (pc, i, n)) : decode mi_C_take.2.1 pc = .ok (i, n) := dx_C_take (pc, i, n) (List.mem_of_getElem? h)
def q_C_take_22 (t0 : Option Nat) (t2 : Option Nat) (u0 : Option Nat) (M : mM) : Option (Int32 × mM) :=
    x_nl u0 (
      some ((-1 : Int32), M)
    ) (
      x_gI M 0 u0 1 fun x1 =>
      x_cv M 9 t0 (q_C_putOut t0 u0 (4 : Int32) (x1 - (4 : Int32)) M) fun _ M =>
      x_gR M 8 t2 5 fun a2 =>
      x_cv M 6 a2 (q_W_dropFirst a2 (1 : Int32) M) fun _ M =>
      x_cv M 0 u0 (q_B_at u0 (0 : Int32) M) fun x3 M =>
      x_cv M 0 u0 (q_B_at u0 (3 : Int32) M) fun x4 M =>
      some ((((256 : Int32) * x3) + x4), M)
    )
set_option maxRecDepth 20000 in
theorem v_C_take_22 {E : mE} (t0 : Option Nat) (t2 : Option Nat) (u0 : Option Nat) (M : mM) : mVr E mi_C_take 4 22 [some (.inr t0), none, some (.inr t2), none] [.inr u0] M enI (q_C_take_22 t0 t2 u0 M) := by
  unfold q_C_take_22
  refine m_ast_n (ls' := [some (.inr t0), none, some (.inr t2), some (.inr u0)]) (d_C_take (k := 12) rfl) (by decide) rfl ?_
  refine m_aload_n (d_C_take (k := 13) rfl) rfl ?_
  refine m_ifnonnull (tgt := 29) (d_C_take (k := 14) rfl) rfl ?_ ?_
  · refine m_iconst (v := (-1)) (d_C_take (k := 15) rfl) (by decide) ?_
    exact m_iret (d_C_take (k := 16) rfl) rfl
  · refine m_aload_n (d_C_take (k := 17) rfl) rfl ?_
    refine m_aload_n (d_C_take (k := 18) rfl) rfl ?_
    refine m_iconst (v := 4) (d_C_take (k := 19) rfl) (by decide) ?_
    refine m_aload_n (d_C_take (k := 20) rfl) rfl ?_
    refine m_getI (d_C_take (k := 21) rfl) fl_C_61 rfl (fun x1 => ?_)
    refine m_iconst (v := 4) (d_C_take (k := 22) rfl) (by decide) ?_
    refine m_isub (d_C_take (k := 23) rfl) ?_
    refine m_cvU (c := 9) (vs := [.inr u0, .inl (4 : Int32), .inl (x1 - (4 : Int32))]) (st := []) (d_C_take (k := 24) rfl) (s_C_putOut t0 u0 (4 : Int32) (x1 - (4 : Int32)) M) cd_C_putOut ml_C_102 im_C_putOut se_C_putOut rfl (by decide) rfl (Nat.le_of_ble_eq_true rfl) (fun _ M => ?_)
    refine m_aload_n (d_C_take (k := 25) rfl) rfl ?_
    refine m_getR (d_C_take (k := 26) rfl) fl_C_214 rfl (fun a2 => ?_)
    refine m_iconst (v := 1) (d_C_take (k := 27) rfl) (by decide) ?_
    refine m_cvU (c := 6) (vs := [.inl (1 : Int32)]) (st := []) (d_C_take (k := 28) rfl) (s_W_dropFirst a2 (1 : Int32) M) cd_W_dropFirst ml_C_221 im_W_dropFirst se_W_dropFirst rfl (by decide) rfl (Nat.le_of_ble_eq_true rfl) (fun _ M => ?_)
    refine m_sipush (v := 256) (d_C_take (k := 29) rfl) (by decide) ?_
    refine m_aload_n (d_C_take (k := 30) rfl) rfl ?_
    refine m_iconst (v := 0) (d_C_take (k := 31) rfl) (by decide) ?_
    refine m_cvI (c := 0) (vs := [.inl (0 : Int32)]) (st := [.inl (256 : Int32)]) (d_C_take (k := 32) rfl) (s_B_at u0 (0 : Int32) M) cd_B_at ml_C_68 im_B_at se_B_at rfl (by decide) rfl (Nat.le_of_ble_eq_true rfl) (fun x3 M => ?_)
    refine m_imul (d_C_take (k := 33) rfl) ?_
    refine m_aload_n (d_C_take (k := 34) rfl) rfl ?_
    refine m_iconst (v := 3) (d_C_take (k := 35) rfl) (by decide) ?_
    refine m_cvI (c := 0) (vs := [.inl (3 : Int32)]) (st := [.inl ((256 : Int32) * x3)]) (d_C_take (k := 36) rfl) (s_B_at u0 (3 : Int32) M) cd_B_at ml_C_68 im_B_at se_B_at rfl (by decide) rfl (Nat.le_of_ble_eq_true rfl) (fun x4 M => ?_)
    refine m_iadd (d_C_take (k := 37) rfl) ?_
    exact m_iret (d_C_take (k := 38) rfl) rfl
def q_C_take (t0 : Option Nat) (i1 : Int32) (M : mM) : Option (Int32 × mM) :=
    x_cv M 9 t0 (q_C_stationAt t0 i1 M) fun a1 M =>
    x_nl a1 (
      q_C_take_22 t0 a1 none M
    ) (
      x_gR M 8 a1 5 fun a2 =>
      x_cv M 6 a2 (q_W_rowAt a2 (0 : Int32) M) fun a3 M =>
      q_C_take_22 t0 a1 a3 M
    )
set_option maxRecDepth 20000 in
theorem v_C_take {E : mE} (t0 : Option Nat) (i1 : Int32) (M : mM) : mVr E mi_C_take 4 0 [some (.inr t0), some (.inl i1), none, none] [] M enI (q_C_take t0 i1 M) := by
  unfold q_C_take
  refine m_aload_n (d_C_take (k := 0) rfl) rfl ?_
  refine m_iload_n (d_C_take (k := 1) rfl) rfl ?_
  refine m_cvR (c := 9) (vs := [.inl i1]) (st := []) (d_C_take (k := 2) rfl) (s_C_stationAt t0 i1 M) cd_C_stationAt ml_C_106 im_C_stationAt se_C_stationAt rfl (by decide) rfl (Nat.le_of_ble_eq_true rfl) (fun a1 M => ?_)
  refine m_ast_n (ls' := [some (.inr t0), some (.inl i1), some (.inr a1), none]) (d_C_take (k := 3) rfl) (by decide) rfl ?_
  refine m_aload_n (d_C_take (k := 4) rfl) rfl ?_
  refine m_ifnonnull (tgt := 14) (d_C_take (k := 5) rfl) rfl ?_ ?_
  · refine m_null (d_C_take (k := 6) rfl) ?_
    refine m_goto (tgt := 22) (d_C_take (k := 7) rfl) rfl ?_
    exact m_drop (mles_s (mles_n (mles_s (mles_n mles_0)))) (v_C_take_22 t0 a1 none M)
  · refine m_aload_n (d_C_take (k := 8) rfl) rfl ?_
    refine m_getR (d_C_take (k := 9) rfl) fl_C_214 rfl (fun a2 => ?_)
    refine m_iconst (v := 0) (d_C_take (k := 10) rfl) (by decide) ?_
    refine m_cvR (c := 6) (vs := [.inl (0 : Int32)]) (st := []) (d_C_take (k := 11) rfl) (s_W_rowAt a2 (0 : Int32) M) cd_W_rowAt ml_C_217 im_W_rowAt se_W_rowAt rfl (by decide) rfl (Nat.le_of_ble_eq_true rfl) (fun a3 M => ?_)
    exact m_drop (mles_s (mles_n (mles_s (mles_n mles_0)))) (v_C_take_22 t0 a1 a3 M)
theorem s_C_take {E : mE} (t0 : Option Nat) (i1 : Int32) (M : mM) : mSnd E mi_C_take 4 [.inr t0, .inl i1] M enI (q_C_take t0 i1 M) := m_entryI (by decide) (Nat.le_of_ble_eq_true rfl) rfl (m_drop (mles_s (mles_s (mles_e (mles_e mles_0)))) (v_C_take t0 i1 M))
def dt_C_time : List (Nat × Instr × Nat) := [(0, .aload_n 0, 1), (1, .getfield 226, 3), (4, .ireturn, 1)]
theorem dx_C_time : ∀ p ∈ dt_C_time, decode prog_1_method_18_code p.1 = .ok p.2 := by decide +kernel
theorem d_C_time {k pc : Nat} {i : Instr} {n : Nat} (h : dt_C_time[k]? = some (pc, i, n)) : decode mi_C_time.2.1 pc = .ok (i, n) := dx_C_time (pc, i, n) (List.mem_of_getElem? h)
def q_C_time (t0 : Option Nat) (M : mM) : Option (Int32 × mM) :=
    x_gI M 9 t0 7 fun x1 =>
    some (x1, M)
set_option maxRecDepth 20000 in
theorem v_C_time {E : mE} (t0 : Option Nat) (M : mM) : mVr E mi_C_time 0 0 [some (.inr t0)] [] M enI (q_C_time t0 M) := by
  unfold q_C_time
  refine m_aload_n (d_C_time (k := 0) rfl) rfl ?_
  refine m_getI (d_C_time (k := 1) rfl) fl_C_226 rfl (fun x1 => ?_)
  exact m_iret (d_C_time (k := 2) rfl) rfl
theorem s_C_time {E : mE} (t0 : Option Nat) (M : mM) : mSnd E mi_C_time 0 [.inr t0] M enI (q_C_time t0 M) := m_entryI (by decide) (Nat.le_of_ble_eq_true rfl) rfl (m_drop (mles_s mles_0) (v_C_time t0 M))
def dt_C_isSetting : List (Nat × Instr × Nat) := [(0, .iload_n 0, 1), (1, .ifCond .lt 19, 3), (4, .iload_n 0, 1), (5, .getstatic 333, 3), (8, .arraylength, 1), (9, .if_icmp .ge 11, 3), (12, .iload_n 0, 1), (13, .getstatic 336, 3), (16, .arraylength, 1), (17, .if_icmp .lt 5, 3), (20, .iconst 0, 1), (21, .ireturn, 1), (22, .iload_n 1, 1), (23, .getstatic 333, 3), (26, .iload_n 0, 1), (27, .iaload, 1), (28, .if_icmp .lt 12, 3), (31, .iload_n 1, 1), (32, .getstatic 336, 3), (35, .iload_n 0, 1), (36, .iaload, 1), (37, .if_icmp .le 13, 3), (40, .iload_n 0, 1), (41, .bipush 6, 2), (43, .if_icmp .ne 11, 3), (46, .iload_n 1, 1), (47, .ifCond .ne 7, 3), (50, .iconst 1, 1), (51, .goto 4, 3), (54, .iconst 0, 1), (55, .ireturn, 1)]
theorem dx_C_isSetting : ∀ p ∈ dt_C_isSetting, decode prog_1_method_26_code p.1 = .ok p.2 := by decide +kernel
theorem d_C_isSetting {k pc : Nat} {i : Instr} {n : Nat} (h : dt_C_isSetting[k]? = some (pc, i, n)) : decode mi_C_isSetting.2.1 pc = .ok (i, n) := dx_C_isSetting (pc, i, n) (List.mem_of_getElem? h)
def q_C_isSetting_50 (M : mM) : Option (Int32 × mM) :=
    x_rz (1 : Int32) M
set_option maxRecDepth 20000 in
theorem v_C_isSetting_50 {E : mE} (M : mM) : mVr E mi_C_isSetting 0 50 [none, none] [] M enI (q_C_isSetting_50 M) := by
  unfold q_C_isSetting_50
  refine m_iconst (v := 1) (d_C_isSetting (k := 27) rfl) (by decide) ?_
  refine m_goto (tgt := 55) (d_C_isSetting (k := 28) rfl) rfl ?_
  exact m_zret (d_C_isSetting (k := 30) rfl) rfl
def q_C_isSetting_40 (i0 : Int32) (i1 : Int32) (M : mM) : Option (Int32 × mM) :=
    if i0 = (6 : Int32) then
      if i1 = 0 then
        q_C_isSetting_50 M
      else
        x_rz (0 : Int32) M
    else
      x_rz (0 : Int32) M
set_option maxRecDepth 20000 in
theorem v_C_isSetting_40 {E : mE} (i0 : Int32) (i1 : Int32) (M : mM) : mVr E mi_C_isSetting 0 40 [some (.inl i0), some (.inl i1)] [] M enI (q_C_isSetting_40 i0 i1 M) := by
  unfold q_C_isSetting_40
  refine m_iload_n (d_C_isSetting (k := 22) rfl) rfl ?_
  refine m_bipush (v := 6) (d_C_isSetting (k := 23) rfl) (by decide) ?_
  refine m_icmp_ne (tgt := 54) (d_C_isSetting (k := 24) rfl) rfl ?_ ?_
  · refine m_iload_n (d_C_isSetting (k := 25) rfl) rfl ?_
    refine m_if_ne (tgt := 54) (d_C_isSetting (k := 26) rfl) rfl ?_ ?_
    · exact m_drop (mles_n (mles_n mles_0)) (v_C_isSetting_50 M)
    · refine m_iconst (v := 0) (d_C_isSetting (k := 29) rfl) (by decide) ?_
      exact m_zret (d_C_isSetting (k := 30) rfl) rfl
  · refine m_iconst (v := 0) (d_C_isSetting (k := 29) rfl) (by decide) ?_
    exact m_zret (d_C_isSetting (k := 30) rfl) rfl
def q_C_isSetting (i0 : Int32) (i1 : Int32) (M : mM) : Option (Int32 × mM) :=
    if i0 < 0 then
      x_rz (0 : Int32) M
    else
      x_sl (some 1) fun x1 =>
      if i0 < x1 then
        x_sl (some 2) fun x2 =>
        if i0 < x2 then
          x_sI (some 1) i0 fun x3 =>
          if i1 < x3 then
            q_C_isSetting_40 i0 i1 M
          else
            x_sI (some 2) i0 fun x4 =>
            if x4 < i1 then
              q_C_isSetting_40 i0 i1 M
            else
              q_C_isSetting_50 M
        else
          x_rz (0 : Int32) M
      else
        x_rz (0 : Int32) M
set_option maxRecDepth 20000 in
theorem v_C_isSetting {E : mE} (i0 : Int32) (i1 : Int32) (M : mM) : mVr E mi_C_isSetting 0 0 [some (.inl i0), some (.inl i1)] [] M enI (q_C_isSetting i0 i1 M) := by
  unfold q_C_isSetting
  refine m_iload_n (d_C_isSetting (k := 0) rfl) rfl ?_
  refine m_if_lt (tgt := 20) (d_C_isSetting (k := 1) rfl) rfl ?_ ?_
  · refine m_iconst (v := 0) (d_C_isSetting (k := 10) rfl) (by decide) ?_
    exact m_zret (d_C_isSetting (k := 11) rfl) rfl
  · refine m_iload_n (d_C_isSetting (k := 2) rfl) rfl ?_
    refine m_gets (q := 1) (List.mem_of_getElem? (i := 0) rfl) (by decide) (d_C_isSetting (k := 3) rfl) gs_C_333 ?_
    refine m_slen (d_C_isSetting (k := 4) rfl) (fun x1 => ?_)
    refine m_icmp_ge (tgt := 20) (d_C_isSetting (k := 5) rfl) rfl ?_ ?_
    · refine m_iload_n (d_C_isSetting (k := 6) rfl) rfl ?_
      refine m_gets (q := 2) (List.mem_of_getElem? (i := 1) rfl) (by decide) (d_C_isSetting (k := 7) rfl) gs_C_336 ?_
      refine m_slen (d_C_isSetting (k := 8) rfl) (fun x2 => ?_)
      refine m_icmp_lt (tgt := 22) (d_C_isSetting (k := 9) rfl) rfl ?_ ?_
      · refine m_iload_n (d_C_isSetting (k := 12) rfl) rfl ?_
        refine m_gets (q := 1) (List.mem_of_getElem? (i := 0) rfl) (by decide) (d_C_isSetting (k := 13) rfl) gs_C_333 ?_
        refine m_iload_n (d_C_isSetting (k := 14) rfl) rfl ?_
        refine m_sld (d_C_isSetting (k := 15) rfl) (fun x3 => ?_)
        refine m_icmp_lt (tgt := 40) (d_C_isSetting (k := 16) rfl) rfl ?_ ?_
        · exact m_drop (mles_s (mles_s mles_0)) (v_C_isSetting_40 i0 i1 M)
        · refine m_iload_n (d_C_isSetting (k := 17) rfl) rfl ?_
          refine m_gets (q := 2) (List.mem_of_getElem? (i := 1) rfl) (by decide) (d_C_isSetting (k := 18) rfl) gs_C_336 ?_
          refine m_iload_n (d_C_isSetting (k := 19) rfl) rfl ?_
          refine m_sld (d_C_isSetting (k := 20) rfl) (fun x4 => ?_)
          refine m_icmp_le (tgt := 50) (d_C_isSetting (k := 21) rfl) rfl ?_ ?_
          · exact m_drop (mles_s (mles_s mles_0)) (v_C_isSetting_40 i0 i1 M)
          · exact m_drop (mles_n (mles_n mles_0)) (v_C_isSetting_50 M)
      · refine m_iconst (v := 0) (d_C_isSetting (k := 10) rfl) (by decide) ?_
        exact m_zret (d_C_isSetting (k := 11) rfl) rfl
    · refine m_iconst (v := 0) (d_C_isSetting (k := 10) rfl) (by decide) ?_
      exact m_zret (d_C_isSetting (k := 11) rfl) rfl
theorem s_C_isSetting {E : mE} (i0 : Int32) (i1 : Int32) (M : mM) : mSnd E mi_C_isSetting 0 [.inl i0, .inl i1] M enI (q_C_isSetting i0 i1 M) := m_entryZ (by decide) (Nat.le_of_ble_eq_true rfl) rfl (m_drop (mles_s (mles_s mles_0)) (v_C_isSetting i0 i1 M))
def dt_C_tune : List (Nat × Instr × Nat) := [(0, .aload_n 0, 1), (1, .iload_n 1, 1), (2, .invokevirtual 106, 3), (5, .astore 4, 2), (7, .aload 4, 2), (9, .ifnull 11, 3), (12, .iload_n 2, 1), (13, .iload_n 3, 1), (14, .invokestatic 116, 3), (17, .ifCond .ne 5, 3), (20, .iconst 0, 1), (21, .ireturn, 1), (22, .aload 4, 2), (24, .getfield 120, 3), (27, .iload_n 2, 1), (28, .iload_n 3, 1), (29, .iastore, 1), (30, .iconst 1, 1), (31, .ireturn, 1)]
theorem dx_C_tune : ∀ p ∈ dt_C_tune, decode prog_1_method_8_code p.1 = .ok p.2 := by decide +kernel
theorem d_C_tune {k pc : Nat} {i : Instr} {n : Nat} (h : dt_C_tune[k]? = some (pc, i, n)) : decode mi_C_tune.2.1 pc = .ok (i, n) := dx_C_tune (pc, i, n) (List.mem_of_getElem? h)
def q_C_tune (t0 : Option Nat) (i1 : Int32) (i2 : Int32) (i3 : Int32) (M : mM) : Option (Int32 × mM) :=
    x_cv M 9 t0 (q_C_stationAt t0 i1 M) fun a1 M =>
    x_nl a1 (
      x_rz (0 : Int32) M
    ) (
      x_cl (q_C_isSetting i2 i3 M) fun x2 M =>
      if x2 = 0 then
        x_rz (0 : Int32) M
      else
        x_gR M 8 a1 1 fun a3 =>
        x_wI M a3 i2 i3 fun M =>
        x_rz (1 : Int32) M
    )
set_option maxRecDepth 20000 in
theorem v_C_tune {E : mE} (t0 : Option Nat) (i1 : Int32) (i2 : Int32) (i3 : Int32) (M : mM) : mVr E mi_C_tune 2 0 [some (.inr t0), some (.inl i1), some (.inl i2), some (.inl i3), none] [] M enI (q_C_tune t0 i1 i2 i3 M) := by
  unfold q_C_tune
  refine m_aload_n (d_C_tune (k := 0) rfl) rfl ?_
  refine m_iload_n (d_C_tune (k := 1) rfl) rfl ?_
  refine m_cvR (c := 9) (vs := [.inl i1]) (st := []) (d_C_tune (k := 2) rfl) (s_C_stationAt t0 i1 M) cd_C_stationAt ml_C_106 im_C_stationAt se_C_stationAt rfl (by decide) rfl (Nat.le_of_ble_eq_true rfl) (fun a1 M => ?_)
  refine m_ast (ls' := [some (.inr t0), some (.inl i1), some (.inl i2), some (.inl i3), some (.inr a1)]) (d_C_tune (k := 3) rfl) (by decide) rfl ?_
  refine m_aload (d_C_tune (k := 4) rfl) rfl ?_
  refine m_ifnull (tgt := 20) (d_C_tune (k := 5) rfl) rfl ?_ ?_
  · refine m_iconst (v := 0) (d_C_tune (k := 10) rfl) (by decide) ?_
    exact m_zret (d_C_tune (k := 11) rfl) rfl
  · refine m_iload_n (d_C_tune (k := 6) rfl) rfl ?_
    refine m_iload_n (d_C_tune (k := 7) rfl) rfl ?_
    refine m_csI (vs := [.inl i2, .inl i3]) (st := []) (d_C_tune (k := 8) rfl) (s_C_isSetting i2 i3 M) cd_C_isSetting ml_C_116 sa_C_isSetting (by decide) rfl (Nat.le_of_ble_eq_true rfl) (fun x2 M => ?_)
    refine m_if_ne (tgt := 22) (d_C_tune (k := 9) rfl) rfl ?_ ?_
    · refine m_iconst (v := 0) (d_C_tune (k := 10) rfl) (by decide) ?_
      exact m_zret (d_C_tune (k := 11) rfl) rfl
    · refine m_aload (d_C_tune (k := 12) rfl) rfl ?_
      refine m_getR (d_C_tune (k := 13) rfl) fl_C_120 rfl (fun a3 => ?_)
      refine m_iload_n (d_C_tune (k := 14) rfl) rfl ?_
      refine m_iload_n (d_C_tune (k := 15) rfl) rfl ?_
      refine m_iast (d_C_tune (k := 16) rfl) (fun M => ?_)
      refine m_iconst (v := 1) (d_C_tune (k := 17) rfl) (by decide) ?_
      exact m_zret (d_C_tune (k := 18) rfl) rfl
theorem s_C_tune {E : mE} (t0 : Option Nat) (i1 : Int32) (i2 : Int32) (i3 : Int32) (M : mM) : mSnd E mi_C_tune 2 [.inr t0, .inl i1, .inl i2, .inl i3] M enI (q_C_tune t0 i1 i2 i3 M) := m_entryZ (by decide) (Nat.le_of_ble_eq_true rfl) rfl (m_drop (mles_s (mles_s (mles_s (mles_s (mles_e mles_0))))) (v_C_tune t0 i1 i2 i3 M))
def dt_V_restart : List (Nat × Instr × Nat) := [(0, .aload_n 0, 1), (1, .iconst 0, 1), (2, .putfield 23, 3), (5, .aload_n 0, 1), (6, .invokevirtual 27, 3), (9, .return_, 1)]
theorem dx_V_restart : ∀ p ∈ dt_V_restart, decode prog_6_method_2_code p.1 = .ok p.2 := by decide +kernel
theorem d_V_restart {k pc : Nat} {i : Instr} {n : Nat} (h : dt_V_restart[k]? = some (pc, i, n)) : decode mi_V_restart.2.1 pc = .ok (i, n) := dx_V_restart (pc, i, n) (List.mem_of_getElem? h)
def q_V_restart (t0 : Option Nat) (M : mM) : Option (Unit × mM) :=
    x_pI M 4 t0 3 (0 : Int32) fun M =>
    x_cv M 4 t0 (q_V_hearNothing t0 M) fun _ M =>
    some ((), M)
set_option maxRecDepth 20000 in
theorem v_V_restart {E : mE} (t0 : Option Nat) (M : mM) : mVr E mi_V_restart 1 0 [some (.inr t0)] [] M enU (q_V_restart t0 M) := by
  unfold q_V_restart
  refine m_aload_n (d_V_restart (k := 0) rfl) rfl ?_
  refine m_iconst (v := 0) (d_V_restart (k := 1) rfl) (by decide) ?_
  refine m_pI (d_V_restart (k := 2) rfl) fp_V_23 (fun h => absurd h (by decide)) rfl (fun M => ?_)
  refine m_aload_n (d_V_restart (k := 3) rfl) rfl ?_
  refine m_cvU (c := 4) (vs := []) (st := []) (d_V_restart (k := 4) rfl) (s_V_hearNothing t0 M) cd_V_hearNothing ml_V_27 im_V_hearNothing se_V_hearNothing rfl (by decide) rfl (Nat.le_of_ble_eq_true rfl) (fun _ M => ?_)
  exact m_vret (d_V_restart (k := 5) rfl) rfl
theorem s_V_restart {E : mE} (t0 : Option Nat) (M : mM) : mSnd E mi_V_restart 1 [.inr t0] M enU (q_V_restart t0 M) := m_entryU (by decide) (Nat.le_of_ble_eq_true rfl) rfl (m_drop (mles_s mles_0) (v_V_restart t0 M))
def dt_C_unbits : List (Nat × Instr × Nat) := [(0, .iconst 0, 1), (1, .istore_n 1, 1), (2, .aload_n 0, 1), (3, .getfield 47, 3), (6, .invokevirtual 92, 3), (9, .iconst 0, 1), (10, .istore_n 2, 1), (11, .iload_n 2, 1), (12, .bipush 8, 2), (14, .aload_n 0, 1), (15, .getfield 30, 3), (18, .getfield 61, 3), (21, .imul, 1), (22, .if_icmp .ge 39, 3), (25, .aload_n 0, 1), (26, .getfield 47, 3), (29, .aload_n 0, 1), (30, .getfield 30, 3), (33, .iload_n 2, 1), (34, .iconst 3, 1), (35, .ishr, 1), (36, .invokevirtual 68, 3), (39, .iload_n 2, 1), (40, .bipush 7, 2), (42, .iand, 1), (43, .ishr, 1), (44, .iconst 1, 1), (45, .iand, 1), (46, .invokevirtual 95, 3), (49, .ifCond .eq 6, 3), (52, .iinc 1 1, 3), (55, .iinc 2 1, 3), (58, .goto (-47), 3), (61, .iload_n 1, 1), (62, .ifCond .le 25, 3), (65, .aload_n 0, 1), (66, .aload_n 0, 1), (67, .getfield 47, 3), (70, .getfield 99, 3), (73, .iconst 0, 1), (74, .aload_n 0, 1), (75, .getfield 47, 3), (78, .getfield 99, 3), (81, .getfield 61, 3), (84, .invokevirtual 102, 3), (87, .aload_n 0, 1), (88, .getfield 30, 3), (91, .invokevirtual 76, 3), (94, .iload_n 1, 1), (95, .ireturn, 1)]
theorem dx_C_unbits : ∀ p ∈ dt_C_unbits, decode prog_1_method_6_code p.1 = .ok p.2 := by decide +kernel
theorem d_C_unbits {k pc : Nat} {i : Instr} {n : Nat} (h : dt_C_unbits[k]? = some (pc, i, n)) : decode mi_C_unbits.2.1 pc = .ok (i, n) := dx_C_unbits (pc, i, n) (List.mem_of_getElem? h)
def q_C_unbits_55 (r11 : Option Nat → Int32 → Int32 → mM → Option (Int32 × mM)) (t0 : Option Nat) (i1 : Int32) (i2 : Int32) (M : mM) : Option (Int32 × mM) :=
    r11 t0 i1 (i2 + 1) M
set_option maxRecDepth 20000 in
theorem v_C_unbits_55 {E : mE} (r11 : Option Nat → Int32 → Int32 → mM → Option (Int32 × mM)) (h11 : ∀ (t0 : Option Nat) (i1 : Int32) (i2 : Int32) (M : mM), mVr E mi_C_unbits 5 11 [some (.inr t0), some (.inl i1), some (.inl i2)] [] M enI (r11 t0 i1 i2 M)) (t0 : Option Nat) (i1 : Int32) (i2 : Int32) (M : mM) : mVr E mi_C_unbits 5 55 [some (.inr t0), some (.inl i1), some (.inl i2)] [] M enI (q_C_unbits_55 r11 t0 i1 i2 M) := by
  unfold q_C_unbits_55
  refine m_inc (v := 1) (ls' := [some (.inr t0), some (.inl i1), some (.inl (i2 + 1))]) (d_C_unbits (k := 31) rfl) rfl (by decide) (by decide) rfl ?_
  refine m_goto (tgt := 11) (d_C_unbits (k := 32) rfl) rfl ?_
  exact m_drop (mles_s (mles_s (mles_s mles_0))) (h11 t0 i1 (i2 + 1) M)
def q_C_unbits_87 (t0 : Option Nat) (i1 : Int32) (M : mM) : Option (Int32 × mM) :=
    x_gR M 9 t0 1 fun a1 =>
    x_cv M 0 a1 (q_B_clear a1 M) fun _ M =>
    some (i1, M)
set_option maxRecDepth 20000 in
theorem v_C_unbits_87 {E : mE} (t0 : Option Nat) (i1 : Int32) (M : mM) : mVr E mi_C_unbits 5 87 [some (.inr t0), some (.inl i1), none] [] M enI (q_C_unbits_87 t0 i1 M) := by
  unfold q_C_unbits_87
  refine m_aload_n (d_C_unbits (k := 45) rfl) rfl ?_
  refine m_getR (d_C_unbits (k := 46) rfl) fl_C_30 rfl (fun a1 => ?_)
  refine m_cvU (c := 0) (vs := []) (st := []) (d_C_unbits (k := 47) rfl) (s_B_clear a1 M) cd_B_clear ml_C_76 im_B_clear se_B_clear rfl (by decide) rfl (Nat.le_of_ble_eq_true rfl) (fun _ M => ?_)
  refine m_iload_n (d_C_unbits (k := 48) rfl) rfl ?_
  exact m_iret (d_C_unbits (k := 49) rfl) rfl
def q_C_unbits_11_b (r11 : Option Nat → Int32 → Int32 → mM → Option (Int32 × mM)) (t0 : Option Nat) (i1 : Int32) (i2 : Int32) (M : mM) : Option (Int32 × mM) :=
    x_gR M 9 t0 1 fun a1 =>
    x_gI M 0 a1 1 fun x2 =>
    if i2 < ((8 : Int32) * x2) then
      x_gR M 9 t0 4 fun a3 =>
      x_gR M 9 t0 1 fun a4 =>
      x_cv M 0 a4 (q_B_at a4 (i2 >>> ((3 : Int32) &&& 31)) M) fun x5 M =>
      x_cv M 4 a3 (q_V_hear a3 ((x5 >>> ((i2 &&& (7 : Int32)) &&& 31)) &&& (1 : Int32)) M) fun x6 M =>
      if x6 = 0 then
        q_C_unbits_55 r11 t0 i1 i2 M
      else
        q_C_unbits_55 r11 t0 (i1 + 1) i2 M
    else
      if 0 < i1 then
        x_gR M 9 t0 4 fun a7 =>
        x_gR M 4 a7 5 fun a8 =>
        x_gR M 9 t0 4 fun a9 =>
        x_gR M 4 a9 5 fun a10 =>
        x_gI M 0 a10 1 fun x11 =>
        x_cv M 9 t0 (q_C_putOut t0 a8 (0 : Int32) x11 M) fun _ M =>
        q_C_unbits_87 t0 i1 M
      else
        q_C_unbits_87 t0 i1 M
def q_C_unbits_11 : Nat → Option Nat → Int32 → Int32 → mM → Option (Int32 × mM)
  | 0, _, _, _, _ => none
  | n + 1, t0, i1, i2, M => q_C_unbits_11_b (q_C_unbits_11 n) t0 i1 i2 M
set_option maxRecDepth 20000 in
theorem v_C_unbits_11_b {E : mE} (r11 : Option Nat → Int32 → Int32 → mM → Option (Int32 × mM)) (h11 : ∀ (t0 : Option Nat) (i1 : Int32) (i2 : Int32) (M : mM), mVr E mi_C_unbits 5 11 [some (.inr t0), some (.inl i1), some (.inl i2)] [] M enI (r11 t0 i1 i2 M)) (t0 : Option Nat) (i1 : Int32) (i2 : Int32) (M : mM) : mVr E mi_C_unbits 5 11 [some (.inr t0), some (.inl i1), some (.inl i2)] [] M enI (q_C_unbits_11_b r11 t0 i1 i2 M) := by
  unfold q_C_unbits_11_b
  refine m_iload_n (d_C_unbits (k := 7) rfl) rfl ?_
  refine m_bipush (v := 8) (d_C_unbits (k := 8) rfl) (by decide) ?_
  refine m_aload_n (d_C_unbits (k := 9) rfl) rfl ?_
  refine m_getR (d_C_unbits (k := 10) rfl) fl_C_30 rfl (fun a1 => ?_)
  refine m_getI (d_C_unbits (k := 11) rfl) fl_C_61 rfl (fun x2 => ?_)
  refine m_imul (d_C_unbits (k := 12) rfl) ?_
  refine m_icmp_ge (tgt := 61) (d_C_unbits (k := 13) rfl) rfl ?_ ?_
  · refine m_aload_n (d_C_unbits (k := 14) rfl) rfl ?_
    refine m_getR (d_C_unbits (k := 15) rfl) fl_C_47 rfl (fun a3 => ?_)
    refine m_aload_n (d_C_unbits (k := 16) rfl) rfl ?_
    refine m_getR (d_C_unbits (k := 17) rfl) fl_C_30 rfl (fun a4 => ?_)
    refine m_iload_n (d_C_unbits (k := 18) rfl) rfl ?_
    refine m_iconst (v := 3) (d_C_unbits (k := 19) rfl) (by decide) ?_
    refine m_ishr (d_C_unbits (k := 20) rfl) ?_
    refine m_cvI (c := 0) (vs := [.inl (i2 >>> ((3 : Int32) &&& 31))]) (st := [.inr a3]) (d_C_unbits (k := 21) rfl) (s_B_at a4 (i2 >>> ((3 : Int32) &&& 31)) M) cd_B_at ml_C_68 im_B_at se_B_at rfl (by decide) rfl (Nat.le_of_ble_eq_true rfl) (fun x5 M => ?_)
    refine m_iload_n (d_C_unbits (k := 22) rfl) rfl ?_
    refine m_bipush (v := 7) (d_C_unbits (k := 23) rfl) (by decide) ?_
    refine m_iand (d_C_unbits (k := 24) rfl) ?_
    refine m_ishr (d_C_unbits (k := 25) rfl) ?_
    refine m_iconst (v := 1) (d_C_unbits (k := 26) rfl) (by decide) ?_
    refine m_iand (d_C_unbits (k := 27) rfl) ?_
    refine m_cvI (c := 4) (vs := [.inl ((x5 >>> ((i2 &&& (7 : Int32)) &&& 31)) &&& (1 : Int32))]) (st := []) (d_C_unbits (k := 28) rfl) (s_V_hear a3 ((x5 >>> ((i2 &&& (7 : Int32)) &&& 31)) &&& (1 : Int32)) M) cd_V_hear ml_C_95 im_V_hear se_V_hear rfl (by decide) rfl (Nat.le_of_ble_eq_true rfl) (fun x6 M => ?_)
    refine m_if_eq (tgt := 55) (d_C_unbits (k := 29) rfl) rfl ?_ ?_
    · exact m_drop (mles_s (mles_s (mles_s mles_0))) (v_C_unbits_55 r11 h11 t0 i1 i2 M)
    · refine m_inc (v := 1) (ls' := [some (.inr t0), some (.inl (i1 + 1)), some (.inl i2)]) (d_C_unbits (k := 30) rfl) rfl (by decide) (by decide) rfl ?_
      exact m_drop (mles_s (mles_s (mles_s mles_0))) (v_C_unbits_55 r11 h11 t0 (i1 + 1) i2 M)
  · refine m_iload_n (d_C_unbits (k := 33) rfl) rfl ?_
    refine m_if_le (tgt := 87) (d_C_unbits (k := 34) rfl) rfl ?_ ?_
    · refine m_aload_n (d_C_unbits (k := 35) rfl) rfl ?_
      refine m_aload_n (d_C_unbits (k := 36) rfl) rfl ?_
      refine m_getR (d_C_unbits (k := 37) rfl) fl_C_47 rfl (fun a7 => ?_)
      refine m_getR (d_C_unbits (k := 38) rfl) fl_C_99 rfl (fun a8 => ?_)
      refine m_iconst (v := 0) (d_C_unbits (k := 39) rfl) (by decide) ?_
      refine m_aload_n (d_C_unbits (k := 40) rfl) rfl ?_
      refine m_getR (d_C_unbits (k := 41) rfl) fl_C_47 rfl (fun a9 => ?_)
      refine m_getR (d_C_unbits (k := 42) rfl) fl_C_99 rfl (fun a10 => ?_)
      refine m_getI (d_C_unbits (k := 43) rfl) fl_C_61 rfl (fun x11 => ?_)
      refine m_cvU (c := 9) (vs := [.inr a8, .inl (0 : Int32), .inl x11]) (st := []) (d_C_unbits (k := 44) rfl) (s_C_putOut t0 a8 (0 : Int32) x11 M) cd_C_putOut ml_C_102 im_C_putOut se_C_putOut rfl (by decide) rfl (Nat.le_of_ble_eq_true rfl) (fun _ M => ?_)
      exact m_drop (mles_s (mles_s (mles_n mles_0))) (v_C_unbits_87 t0 i1 M)
    · exact m_drop (mles_s (mles_s (mles_n mles_0))) (v_C_unbits_87 t0 i1 M)
theorem v_C_unbits_11 {E : mE} : ∀ (n : Nat) (t0 : Option Nat) (i1 : Int32) (i2 : Int32) (M : mM), mVr E mi_C_unbits 5 11 [some (.inr t0), some (.inl i1), some (.inl i2)] [] M enI (q_C_unbits_11 n t0 i1 i2 M)
  | 0, _, _, _, _ => m_none
  | n + 1, t0, i1, i2, M => v_C_unbits_11_b _ (v_C_unbits_11 n) t0 i1 i2 M
def q_C_unbits (t0 : Option Nat) (M : mM) : Option (Int32 × mM) :=
    x_gR M 9 t0 4 fun a1 =>
    x_cv M 4 a1 (q_V_restart a1 M) fun _ M =>
    q_C_unbits_11 mFU t0 (0 : Int32) (0 : Int32) M
set_option maxRecDepth 20000 in
theorem v_C_unbits {E : mE} (t0 : Option Nat) (M : mM) : mVr E mi_C_unbits 5 0 [some (.inr t0), none, none] [] M enI (q_C_unbits t0 M) := by
  unfold q_C_unbits
  refine m_iconst (v := 0) (d_C_unbits (k := 0) rfl) (by decide) ?_
  refine m_ist_n (ls' := [some (.inr t0), some (.inl (0 : Int32)), none]) (d_C_unbits (k := 1) rfl) (by decide) rfl ?_
  refine m_aload_n (d_C_unbits (k := 2) rfl) rfl ?_
  refine m_getR (d_C_unbits (k := 3) rfl) fl_C_47 rfl (fun a1 => ?_)
  refine m_cvU (c := 4) (vs := []) (st := []) (d_C_unbits (k := 4) rfl) (s_V_restart a1 M) cd_V_restart ml_C_92 im_V_restart se_V_restart rfl (by decide) rfl (Nat.le_of_ble_eq_true rfl) (fun _ M => ?_)
  refine m_iconst (v := 0) (d_C_unbits (k := 5) rfl) (by decide) ?_
  refine m_ist_n (ls' := [some (.inr t0), some (.inl (0 : Int32)), some (.inl (0 : Int32))]) (d_C_unbits (k := 6) rfl) (by decide) rfl ?_
  exact m_drop (mles_s (mles_s (mles_s mles_0))) (v_C_unbits_11 mFU t0 (0 : Int32) (0 : Int32) M)
theorem s_C_unbits {E : mE} (t0 : Option Nat) (M : mM) : mSnd E mi_C_unbits 5 [.inr t0] M enI (q_C_unbits t0 M) := m_entryI (by decide) (Nat.le_of_ble_eq_true rfl) rfl (m_drop (mles_s (mles_e (mles_e mles_0))) (v_C_unbits t0 M))
def dt_M_in : List (Nat × Instr × Nat) := [(0, .iload_n 0, 1), (1, .iload_n 1, 1), (2, .if_icmp .lt 12, 3), (5, .iload_n 0, 1), (6, .iload_n 2, 1), (7, .if_icmp .gt 7, 3), (10, .iconst 1, 1), (11, .goto 4, 3), (14, .iconst 0, 1), (15, .ireturn, 1)]
theorem dx_M_in : ∀ p ∈ dt_M_in, decode prog_12_method_3_code p.1 = .ok p.2 := by decide +kernel
theorem d_M_in {k pc : Nat} {i : Instr} {n : Nat} (h : dt_M_in[k]? = some (pc, i, n)) : decode mi_M_in.2.1 pc = .ok (i, n) := dx_M_in (pc, i, n) (List.mem_of_getElem? h)
def q_M_in (i0 : Int32) (i1 : Int32) (i2 : Int32) (M : mM) : Option (Int32 × mM) :=
    if i0 < i1 then
      x_rz (0 : Int32) M
    else
      if i2 < i0 then
        x_rz (0 : Int32) M
      else
        x_rz (1 : Int32) M
set_option maxRecDepth 20000 in
theorem v_M_in {E : mE} (i0 : Int32) (i1 : Int32) (i2 : Int32) (M : mM) : mVr E mi_M_in 0 0 [some (.inl i0), some (.inl i1), some (.inl i2)] [] M enI (q_M_in i0 i1 i2 M) := by
  unfold q_M_in
  refine m_iload_n (d_M_in (k := 0) rfl) rfl ?_
  refine m_iload_n (d_M_in (k := 1) rfl) rfl ?_
  refine m_icmp_lt (tgt := 14) (d_M_in (k := 2) rfl) rfl ?_ ?_
  · refine m_iconst (v := 0) (d_M_in (k := 8) rfl) (by decide) ?_
    exact m_zret (d_M_in (k := 9) rfl) rfl
  · refine m_iload_n (d_M_in (k := 3) rfl) rfl ?_
    refine m_iload_n (d_M_in (k := 4) rfl) rfl ?_
    refine m_icmp_gt (tgt := 14) (d_M_in (k := 5) rfl) rfl ?_ ?_
    · refine m_iconst (v := 0) (d_M_in (k := 8) rfl) (by decide) ?_
      exact m_zret (d_M_in (k := 9) rfl) rfl
    · refine m_iconst (v := 1) (d_M_in (k := 6) rfl) (by decide) ?_
      refine m_goto (tgt := 15) (d_M_in (k := 7) rfl) rfl ?_
      exact m_zret (d_M_in (k := 9) rfl) rfl
theorem s_M_in {E : mE} (i0 : Int32) (i1 : Int32) (i2 : Int32) (M : mM) : mSnd E mi_M_in 0 [.inl i0, .inl i1, .inl i2] M enI (q_M_in i0 i1 i2 M) := m_entryZ (by decide) (Nat.le_of_ble_eq_true rfl) rfl (m_drop (mles_s (mles_s (mles_s mles_0))) (v_M_in i0 i1 i2 M))
def dt_M_isStation : List (Nat × Instr × Nat) := [(0, .iload_n 0, 1), (1, .iconst 0, 1), (2, .iconst 5, 1), (3, .invokestatic 203, 3), (6, .ireturn, 1)]
theorem dx_M_isStation : ∀ p ∈ dt_M_isStation, decode prog_12_method_4_code p.1 = .ok p.2 := by decide +kernel
theorem d_M_isStation {k pc : Nat} {i : Instr} {n : Nat} (h : dt_M_isStation[k]? = some (pc, i, n)) : decode mi_M_isStation.2.1 pc = .ok (i, n) := dx_M_isStation (pc, i, n) (List.mem_of_getElem? h)
def q_M_isStation (i0 : Int32) (M : mM) : Option (Int32 × mM) :=
    x_cl (q_M_in i0 (0 : Int32) (5 : Int32) M) fun x1 M =>
    x_rz x1 M
set_option maxRecDepth 20000 in
theorem v_M_isStation {E : mE} (i0 : Int32) (M : mM) : mVr E mi_M_isStation 1 0 [some (.inl i0)] [] M enI (q_M_isStation i0 M) := by
  unfold q_M_isStation
  refine m_iload_n (d_M_isStation (k := 0) rfl) rfl ?_
  refine m_iconst (v := 0) (d_M_isStation (k := 1) rfl) (by decide) ?_
  refine m_iconst (v := 5) (d_M_isStation (k := 2) rfl) (by decide) ?_
  refine m_csI (vs := [.inl i0, .inl (0 : Int32), .inl (5 : Int32)]) (st := []) (d_M_isStation (k := 3) rfl) (s_M_in i0 (0 : Int32) (5 : Int32) M) cd_M_in ml_M_203 sa_M_in (by decide) rfl (Nat.le_of_ble_eq_true rfl) (fun x1 M => ?_)
  exact m_zret (d_M_isStation (k := 4) rfl) rfl
theorem s_M_isStation {E : mE} (i0 : Int32) (M : mM) : mSnd E mi_M_isStation 1 [.inl i0] M enI (q_M_isStation i0 M) := m_entryZ (by decide) (Nat.le_of_ble_eq_true rfl) rfl (m_drop (mles_s mles_0) (v_M_isStation i0 M))
def dt_M_letter : List (Nat × Instr × Nat) := [(0, .iload_n 0, 1), (1, .tableswitch 95 0 4 #[35, 47, 59, 71, 83], 35), (36, .iload_n 1, 1), (37, .ifCond .eq 8, 3), (40, .bipush 78, 2), (42, .goto 5, 3), (45, .bipush 70, 2), (47, .ireturn, 1), (48, .iload_n 1, 1), (49, .ifCond .eq 8, 3), (52, .bipush 79, 2), (54, .goto 5, 3), (57, .bipush 73, 2), (59, .ireturn, 1), (60, .iload_n 1, 1), (61, .ifCond .eq 8, 3), (64, .bipush 68, 2), (66, .goto 5, 3), (69, .bipush 69, 2), (71, .ireturn, 1), (72, .iload_n 1, 1), (73, .ifCond .eq 8, 3), (76, .bipush 69, 2), (78, .goto 5, 3), (81, .bipush 76, 2), (83, .ireturn, 1), (84, .iload_n 1, 1), (85, .ifCond .eq 8, 3), (88, .bipush 83, 2), (90, .goto 5, 3), (93, .bipush 68, 2), (95, .ireturn, 1), (96, .bipush 32, 2), (98, .ireturn, 1)]
theorem dx_M_letter : ∀ p ∈ dt_M_letter, decode prog_12_method_40_code p.1 = .ok p.2 := by decide +kernel
theorem d_M_letter {k pc : Nat} {i : Instr} {n : Nat} (h : dt_M_letter[k]? = some (pc, i, n)) : decode mi_M_letter.2.1 pc = .ok (i, n) := dx_M_letter (pc, i, n) (List.mem_of_getElem? h)
def q_M_letter (i0 : Int32) (i1 : Int32) (M : mM) : Option (Int32 × mM) :=
    x_sw i0 [
      ((0 : Int32), (
        if i1 = 0 then
          some ((70 : Int32), M)
        else
          some ((78 : Int32), M)
      )),
      ((1 : Int32), (
        if i1 = 0 then
          some ((73 : Int32), M)
        else
          some ((79 : Int32), M)
      )),
      ((2 : Int32), (
        if i1 = 0 then
          some ((69 : Int32), M)
        else
          some ((68 : Int32), M)
      )),
      ((3 : Int32), (
        if i1 = 0 then
          some ((76 : Int32), M)
        else
          some ((69 : Int32), M)
      )),
      ((4 : Int32), (
        if i1 = 0 then
          some ((68 : Int32), M)
        else
          some ((83 : Int32), M)
      ))
    ] (
      some ((32 : Int32), M)
    )
set_option maxRecDepth 20000 in
theorem v_M_letter {E : mE} (i0 : Int32) (i1 : Int32) (M : mM) : mVr E mi_M_letter 0 0 [some (.inl i0), some (.inl i1)] [] M enI (q_M_letter i0 i1 M) := by
  unfold q_M_letter
  refine m_iload_n (d_M_letter (k := 0) rfl) rfl ?_
  refine m_sw ?_ (fun hx => ?_)
  ·
    refine List.forall_mem_cons.mpr ⟨?_, ?_⟩
    · dsimp only
      refine m_tin (x := (0 : Int32)) (tgt := 36) (d_M_letter (k := 1) rfl) (by decide) (by decide) rfl rfl ?_
      refine m_iload_n (d_M_letter (k := 2) rfl) rfl ?_
      refine m_if_eq (tgt := 45) (d_M_letter (k := 3) rfl) rfl ?_ ?_
      · refine m_bipush (v := 70) (d_M_letter (k := 6) rfl) (by decide) ?_
        exact m_iret (d_M_letter (k := 7) rfl) rfl
      · refine m_bipush (v := 78) (d_M_letter (k := 4) rfl) (by decide) ?_
        refine m_goto (tgt := 47) (d_M_letter (k := 5) rfl) rfl ?_
        exact m_iret (d_M_letter (k := 7) rfl) rfl
    refine List.forall_mem_cons.mpr ⟨?_, ?_⟩
    · dsimp only
      refine m_tin (x := (1 : Int32)) (tgt := 48) (d_M_letter (k := 1) rfl) (by decide) (by decide) rfl rfl ?_
      refine m_iload_n (d_M_letter (k := 8) rfl) rfl ?_
      refine m_if_eq (tgt := 57) (d_M_letter (k := 9) rfl) rfl ?_ ?_
      · refine m_bipush (v := 73) (d_M_letter (k := 12) rfl) (by decide) ?_
        exact m_iret (d_M_letter (k := 13) rfl) rfl
      · refine m_bipush (v := 79) (d_M_letter (k := 10) rfl) (by decide) ?_
        refine m_goto (tgt := 59) (d_M_letter (k := 11) rfl) rfl ?_
        exact m_iret (d_M_letter (k := 13) rfl) rfl
    refine List.forall_mem_cons.mpr ⟨?_, ?_⟩
    · dsimp only
      refine m_tin (x := (2 : Int32)) (tgt := 60) (d_M_letter (k := 1) rfl) (by decide) (by decide) rfl rfl ?_
      refine m_iload_n (d_M_letter (k := 14) rfl) rfl ?_
      refine m_if_eq (tgt := 69) (d_M_letter (k := 15) rfl) rfl ?_ ?_
      · refine m_bipush (v := 69) (d_M_letter (k := 18) rfl) (by decide) ?_
        exact m_iret (d_M_letter (k := 19) rfl) rfl
      · refine m_bipush (v := 68) (d_M_letter (k := 16) rfl) (by decide) ?_
        refine m_goto (tgt := 71) (d_M_letter (k := 17) rfl) rfl ?_
        exact m_iret (d_M_letter (k := 19) rfl) rfl
    refine List.forall_mem_cons.mpr ⟨?_, ?_⟩
    · dsimp only
      refine m_tin (x := (3 : Int32)) (tgt := 72) (d_M_letter (k := 1) rfl) (by decide) (by decide) rfl rfl ?_
      refine m_iload_n (d_M_letter (k := 20) rfl) rfl ?_
      refine m_if_eq (tgt := 81) (d_M_letter (k := 21) rfl) rfl ?_ ?_
      · refine m_bipush (v := 76) (d_M_letter (k := 24) rfl) (by decide) ?_
        exact m_iret (d_M_letter (k := 25) rfl) rfl
      · refine m_bipush (v := 69) (d_M_letter (k := 22) rfl) (by decide) ?_
        refine m_goto (tgt := 83) (d_M_letter (k := 23) rfl) rfl ?_
        exact m_iret (d_M_letter (k := 25) rfl) rfl
    refine List.forall_mem_cons.mpr ⟨?_, ?_⟩
    · dsimp only
      refine m_tin (x := (4 : Int32)) (tgt := 84) (d_M_letter (k := 1) rfl) (by decide) (by decide) rfl rfl ?_
      refine m_iload_n (d_M_letter (k := 26) rfl) rfl ?_
      refine m_if_eq (tgt := 93) (d_M_letter (k := 27) rfl) rfl ?_ ?_
      · refine m_bipush (v := 68) (d_M_letter (k := 30) rfl) (by decide) ?_
        exact m_iret (d_M_letter (k := 31) rfl) rfl
      · refine m_bipush (v := 83) (d_M_letter (k := 28) rfl) (by decide) ?_
        refine m_goto (tgt := 95) (d_M_letter (k := 29) rfl) rfl ?_
        exact m_iret (d_M_letter (k := 31) rfl) rfl
    exact fun _ h => absurd h List.not_mem_nil
  · refine m_tout (ks := [0, 1, 2, 3, 4]) (tgt := 96) (d_M_letter (k := 1) rfl) (m_ks hx) (by decide) rfl ?_
    refine m_bipush (v := 32) (d_M_letter (k := 32) rfl) (by decide) ?_
    exact m_iret (d_M_letter (k := 33) rfl) rfl
theorem s_M_letter {E : mE} (i0 : Int32) (i1 : Int32) (M : mM) : mSnd E mi_M_letter 0 [.inl i0, .inl i1] M enI (q_M_letter i0 i1 M) := m_entryI (by decide) (Nat.le_of_ble_eq_true rfl) rfl (m_drop (mles_s (mles_s mles_0)) (v_M_letter i0 i1 M))
def dt_M_put : List (Nat × Instr × Nat) := [(0, .aload_n 0, 1), (1, .getfield 95, 3), (4, .aload_n 0, 1), (5, .getfield 264, 3), (8, .iload_n 1, 1), (9, .iastore, 1), (10, .aload_n 0, 1), (11, .dup, 1), (12, .getfield 264, 3), (15, .iconst 1, 1), (16, .iadd, 1), (17, .putfield 264, 3), (20, .return_, 1)]
theorem dx_M_put : ∀ p ∈ dt_M_put, decode prog_12_method_25_code p.1 = .ok p.2 := by decide +kernel
theorem d_M_put {k pc : Nat} {i : Instr} {n : Nat} (h : dt_M_put[k]? = some (pc, i, n)) : decode mi_M_put.2.1 pc = .ok (i, n) := dx_M_put (pc, i, n) (List.mem_of_getElem? h)
def q_M_put (t0 : Option Nat) (i1 : Int32) (M : mM) : Option (Unit × mM) :=
    x_gR M 10 t0 33 fun a1 =>
    x_gI M 10 t0 34 fun x2 =>
    x_wI M a1 x2 i1 fun M =>
    x_gI M 10 t0 34 fun x3 =>
    x_pI M 10 t0 34 (x3 + (1 : Int32)) fun M =>
    some ((), M)
set_option maxRecDepth 20000 in
theorem v_M_put {E : mE} (t0 : Option Nat) (i1 : Int32) (M : mM) : mVr E mi_M_put 0 0 [some (.inr t0), some (.inl i1)] [] M enU (q_M_put t0 i1 M) := by
  unfold q_M_put
  refine m_aload_n (d_M_put (k := 0) rfl) rfl ?_
  refine m_getR (d_M_put (k := 1) rfl) fl_M_95 rfl (fun a1 => ?_)
  refine m_aload_n (d_M_put (k := 2) rfl) rfl ?_
  refine m_getI (d_M_put (k := 3) rfl) fl_M_264 rfl (fun x2 => ?_)
  refine m_iload_n (d_M_put (k := 4) rfl) rfl ?_
  refine m_iast (d_M_put (k := 5) rfl) (fun M => ?_)
  refine m_aload_n (d_M_put (k := 6) rfl) rfl ?_
  refine m_dup (d_M_put (k := 7) rfl) ?_
  refine m_getI (d_M_put (k := 8) rfl) fl_M_264 rfl (fun x3 => ?_)
  refine m_iconst (v := 1) (d_M_put (k := 9) rfl) (by decide) ?_
  refine m_iadd (d_M_put (k := 10) rfl) ?_
  refine m_pI (d_M_put (k := 11) rfl) fp_M_264 (fun h => absurd h (by decide)) rfl (fun M => ?_)
  exact m_vret (d_M_put (k := 12) rfl) rfl
theorem s_M_put {E : mE} (t0 : Option Nat) (i1 : Int32) (M : mM) : mSnd E mi_M_put 0 [.inr t0, .inl i1] M enU (q_M_put t0 i1 M) := m_entryU (by decide) (Nat.le_of_ble_eq_true rfl) rfl (m_drop (mles_s (mles_s mles_0)) (v_M_put t0 i1 M))
def dt_M_address : List (Nat × Instr × Nat) := [(0, .iconst 0, 1), (1, .istore_n 3, 1), (2, .iload_n 3, 1), (3, .bipush 6, 2), (5, .if_icmp .ge 30, 3), (8, .aload_n 0, 1), (9, .iconst 2, 1), (10, .iload_n 3, 1), (11, .iload_n 1, 1), (12, .bipush 6, 2), (14, .if_icmp .ne 7, 3), (17, .iconst 1, 1), (18, .goto 4, 3), (21, .iconst 0, 1), (22, .invokestatic 324, 3), (25, .imul, 1), (26, .invokevirtual 270, 3), (29, .iinc 3 1, 3), (32, .goto (-30), 3), (35, .aload_n 0, 1), (36, .iload_n 1, 1), (37, .bipush 6, 2), (39, .if_icmp .ne 8, 3), (42, .bipush 96, 2), (44, .goto 9, 3), (47, .bipush 96, 2), (49, .iconst 2, 1), (50, .iload_n 1, 1), (51, .imul, 1), (52, .iadd, 1), (53, .iload_n 2, 1), (54, .iadd, 1), (55, .invokevirtual 270, 3), (58, .return_, 1)]
theorem dx_M_address : ∀ p ∈ dt_M_address, decode prog_12_method_49_code p.1 = .ok p.2 := by decide +kernel
theorem d_M_address {k pc : Nat} {i : Instr} {n : Nat} (h : dt_M_address[k]? = some (pc, i, n)) : decode mi_M_address.2.1 pc = .ok (i, n) := dx_M_address (pc, i, n) (List.mem_of_getElem? h)
def q_M_address_22 (r2 : Option Nat → Int32 → Int32 → Int32 → mM → Option (Unit × mM)) (t0 : Option Nat) (i1 : Int32) (i2 : Int32) (i3 : Int32) (j0 : Int32) (j1 : Int32) (j2 : Int32) (u3 : Option Nat) (M : mM) : Option (Unit × mM) :=
    x_cl (q_M_letter j1 j0 M) fun x1 M =>
    x_cv M 10 u3 (q_M_put u3 (j2 * x1) M) fun _ M =>
    r2 t0 i1 i2 (i3 + 1) M
set_option maxRecDepth 20000 in
theorem v_M_address_22 {E : mE} (r2 : Option Nat → Int32 → Int32 → Int32 → mM → Option (Unit × mM)) (h2 : ∀ (t0 : Option Nat) (i1 : Int32) (i2 : Int32) (i3 : Int32) (M : mM), mVr E mi_M_address 1 2 [some (.inr t0), some (.inl i1), some (.inl i2), some (.inl i3)] [] M enU (r2 t0 i1 i2 i3 M)) (t0 : Option Nat) (i1 : Int32) (i2 : Int32) (i3 : Int32) (j0 : Int32) (j1 : Int32) (j2 : Int32) (u3 : Option Nat) (M : mM) : mVr E mi_M_address 1 22 [some (.inr t0), some (.inl i1), some (.inl i2), some (.inl i3)] [.inl j0, .inl j1, .inl j2, .inr u3] M enU (q_M_address_22 r2 t0 i1 i2 i3 j0 j1 j2 u3 M) := by
  unfold q_M_address_22
  refine m_csI (vs := [.inl j1, .inl j0]) (st := [.inl j2, .inr u3]) (d_M_address (k := 14) rfl) (s_M_letter j1 j0 M) cd_M_letter ml_M_324 sa_M_letter (by decide) rfl (Nat.le_of_ble_eq_true rfl) (fun x1 M => ?_)
  refine m_imul (d_M_address (k := 15) rfl) ?_
  refine m_cvU (c := 10) (vs := [.inl (j2 * x1)]) (st := []) (d_M_address (k := 16) rfl) (s_M_put u3 (j2 * x1) M) cd_M_put ml_M_270 im_M_put se_M_put rfl (by decide) rfl (Nat.le_of_ble_eq_true rfl) (fun _ M => ?_)
  refine m_inc (v := 1) (ls' := [some (.inr t0), some (.inl i1), some (.inl i2), some (.inl (i3 + 1))]) (d_M_address (k := 17) rfl) rfl (by decide) (by decide) rfl ?_
  refine m_goto (tgt := 2) (d_M_address (k := 18) rfl) rfl ?_
  exact m_drop (mles_s (mles_s (mles_s (mles_s mles_0)))) (h2 t0 i1 i2 (i3 + 1) M)
def q_M_address_53 (i2 : Int32) (j0 : Int32) (u1 : Option Nat) (M : mM) : Option (Unit × mM) :=
    x_cv M 10 u1 (q_M_put u1 (j0 + i2) M) fun _ M =>
    some ((), M)
set_option maxRecDepth 20000 in
theorem v_M_address_53 {E : mE} (i2 : Int32) (j0 : Int32) (u1 : Option Nat) (M : mM) : mVr E mi_M_address 1 53 [none, none, some (.inl i2), none] [.inl j0, .inr u1] M enU (q_M_address_53 i2 j0 u1 M) := by
  unfold q_M_address_53
  refine m_iload_n (d_M_address (k := 30) rfl) rfl ?_
  refine m_iadd (d_M_address (k := 31) rfl) ?_
  refine m_cvU (c := 10) (vs := [.inl (j0 + i2)]) (st := []) (d_M_address (k := 32) rfl) (s_M_put u1 (j0 + i2) M) cd_M_put ml_M_270 im_M_put se_M_put rfl (by decide) rfl (Nat.le_of_ble_eq_true rfl) (fun _ M => ?_)
  exact m_vret (d_M_address (k := 33) rfl) rfl
def q_M_address_2_b (r2 : Option Nat → Int32 → Int32 → Int32 → mM → Option (Unit × mM)) (t0 : Option Nat) (i1 : Int32) (i2 : Int32) (i3 : Int32) (M : mM) : Option (Unit × mM) :=
    if i3 < (6 : Int32) then
      if i1 = (6 : Int32) then
        q_M_address_22 r2 t0 i1 i2 i3 (1 : Int32) i3 (2 : Int32) t0 M
      else
        q_M_address_22 r2 t0 i1 i2 i3 (0 : Int32) i3 (2 : Int32) t0 M
    else
      if i1 = (6 : Int32) then
        q_M_address_53 i2 (96 : Int32) t0 M
      else
        q_M_address_53 i2 ((96 : Int32) + ((2 : Int32) * i1)) t0 M
def q_M_address_2 : Nat → Option Nat → Int32 → Int32 → Int32 → mM → Option (Unit × mM)
  | 0, _, _, _, _, _ => none
  | n + 1, t0, i1, i2, i3, M => q_M_address_2_b (q_M_address_2 n) t0 i1 i2 i3 M
set_option maxRecDepth 20000 in
theorem v_M_address_2_b {E : mE} (r2 : Option Nat → Int32 → Int32 → Int32 → mM → Option (Unit × mM)) (h2 : ∀ (t0 : Option Nat) (i1 : Int32) (i2 : Int32) (i3 : Int32) (M : mM), mVr E mi_M_address 1 2 [some (.inr t0), some (.inl i1), some (.inl i2), some (.inl i3)] [] M enU (r2 t0 i1 i2 i3 M)) (t0 : Option Nat) (i1 : Int32) (i2 : Int32) (i3 : Int32) (M : mM) : mVr E mi_M_address 1 2 [some (.inr t0), some (.inl i1), some (.inl i2), some (.inl i3)] [] M enU (q_M_address_2_b r2 t0 i1 i2 i3 M) := by
  unfold q_M_address_2_b
  refine m_iload_n (d_M_address (k := 2) rfl) rfl ?_
  refine m_bipush (v := 6) (d_M_address (k := 3) rfl) (by decide) ?_
  refine m_icmp_ge (tgt := 35) (d_M_address (k := 4) rfl) rfl ?_ ?_
  · refine m_aload_n (d_M_address (k := 5) rfl) rfl ?_
    refine m_iconst (v := 2) (d_M_address (k := 6) rfl) (by decide) ?_
    refine m_iload_n (d_M_address (k := 7) rfl) rfl ?_
    refine m_iload_n (d_M_address (k := 8) rfl) rfl ?_
    refine m_bipush (v := 6) (d_M_address (k := 9) rfl) (by decide) ?_
    refine m_icmp_ne (tgt := 21) (d_M_address (k := 10) rfl) rfl ?_ ?_
    · refine m_iconst (v := 1) (d_M_address (k := 11) rfl) (by decide) ?_
      refine m_goto (tgt := 22) (d_M_address (k := 12) rfl) rfl ?_
      exact m_drop (mles_s (mles_s (mles_s (mles_s mles_0)))) (v_M_address_22 r2 h2 t0 i1 i2 i3 (1 : Int32) i3 (2 : Int32) t0 M)
    · refine m_iconst (v := 0) (d_M_address (k := 13) rfl) (by decide) ?_
      exact m_drop (mles_s (mles_s (mles_s (mles_s mles_0)))) (v_M_address_22 r2 h2 t0 i1 i2 i3 (0 : Int32) i3 (2 : Int32) t0 M)
  · refine m_aload_n (d_M_address (k := 19) rfl) rfl ?_
    refine m_iload_n (d_M_address (k := 20) rfl) rfl ?_
    refine m_bipush (v := 6) (d_M_address (k := 21) rfl) (by decide) ?_
    refine m_icmp_ne (tgt := 47) (d_M_address (k := 22) rfl) rfl ?_ ?_
    · refine m_bipush (v := 96) (d_M_address (k := 23) rfl) (by decide) ?_
      refine m_goto (tgt := 53) (d_M_address (k := 24) rfl) rfl ?_
      exact m_drop (mles_n (mles_n (mles_s (mles_n mles_0)))) (v_M_address_53 i2 (96 : Int32) t0 M)
    · refine m_bipush (v := 96) (d_M_address (k := 25) rfl) (by decide) ?_
      refine m_iconst (v := 2) (d_M_address (k := 26) rfl) (by decide) ?_
      refine m_iload_n (d_M_address (k := 27) rfl) rfl ?_
      refine m_imul (d_M_address (k := 28) rfl) ?_
      refine m_iadd (d_M_address (k := 29) rfl) ?_
      exact m_drop (mles_n (mles_n (mles_s (mles_n mles_0)))) (v_M_address_53 i2 ((96 : Int32) + ((2 : Int32) * i1)) t0 M)
theorem v_M_address_2 {E : mE} : ∀ (n : Nat) (t0 : Option Nat) (i1 : Int32) (i2 : Int32) (i3 : Int32) (M : mM), mVr E mi_M_address 1 2 [some (.inr t0), some (.inl i1), some (.inl i2), some (.inl i3)] [] M enU (q_M_address_2 n t0 i1 i2 i3 M)
  | 0, _, _, _, _, _ => m_none
  | n + 1, t0, i1, i2, i3, M => v_M_address_2_b _ (v_M_address_2 n) t0 i1 i2 i3 M
def q_M_address (t0 : Option Nat) (i1 : Int32) (i2 : Int32) (M : mM) : Option (Unit × mM) :=
    q_M_address_2 mFU t0 i1 i2 (0 : Int32) M
set_option maxRecDepth 20000 in
theorem v_M_address {E : mE} (t0 : Option Nat) (i1 : Int32) (i2 : Int32) (M : mM) : mVr E mi_M_address 1 0 [some (.inr t0), some (.inl i1), some (.inl i2), none] [] M enU (q_M_address t0 i1 i2 M) := by
  unfold q_M_address
  refine m_iconst (v := 0) (d_M_address (k := 0) rfl) (by decide) ?_
  refine m_ist_n (ls' := [some (.inr t0), some (.inl i1), some (.inl i2), some (.inl (0 : Int32))]) (d_M_address (k := 1) rfl) (by decide) rfl ?_
  exact m_drop (mles_s (mles_s (mles_s (mles_s mles_0)))) (v_M_address_2 mFU t0 i1 i2 (0 : Int32) M)
theorem s_M_address {E : mE} (t0 : Option Nat) (i1 : Int32) (i2 : Int32) (M : mM) : mSnd E mi_M_address 1 [.inr t0, .inl i1, .inl i2] M enU (q_M_address t0 i1 i2 M) := m_entryU (by decide) (Nat.le_of_ble_eq_true rfl) rfl (m_drop (mles_s (mles_s (mles_s (mles_e mles_0)))) (v_M_address t0 i1 i2 M))
def dt_M_begin : List (Nat × Instr × Nat) := [(0, .aload_n 0, 1), (1, .iconst 0, 1), (2, .putfield 264, 3), (5, .aload_n 0, 1), (6, .iload_n 1, 1), (7, .iload 5, 2), (9, .ifCond .eq 9, 3), (12, .sipush 128, 3), (15, .goto 4, 3), (18, .iconst 0, 1), (19, .invokevirtual 384, 3), (22, .aload_n 0, 1), (23, .iload_n 2, 1), (24, .iload 5, 2), (26, .ifCond .eq 7, 3), (29, .iconst 0, 1), (30, .goto 6, 3), (33, .sipush 128, 3), (36, .iload_n 3, 1), (37, .iconst (-1), 1), (38, .if_icmp .ne 7, 3), (41, .iconst 1, 1), (42, .goto 4, 3), (45, .iconst 0, 1), (46, .iadd, 1), (47, .invokevirtual 384, 3), (50, .iload_n 3, 1), (51, .iconst (-1), 1), (52, .if_icmp .eq 19, 3), (55, .aload_n 0, 1), (56, .iload_n 3, 1), (57, .iload 4, 2), (59, .iconst (-1), 1), (60, .if_icmp .ne 7, 3), (63, .iconst 1, 1), (64, .goto 4, 3), (67, .iconst 0, 1), (68, .invokevirtual 384, 3), (71, .iload 4, 2), (73, .iconst (-1), 1), (74, .if_icmp .eq 10, 3), (77, .aload_n 0, 1), (78, .iload 4, 2), (80, .iconst 1, 1), (81, .invokevirtual 384, 3), (84, .return_, 1)]
theorem dx_M_begin : ∀ p ∈ dt_M_begin, decode prog_12_method_50_code p.1 = .ok p.2 := by decide +kernel
theorem d_M_begin {k pc : Nat} {i : Instr} {n : Nat} (h : dt_M_begin[k]? = some (pc, i, n)) : decode mi_M_begin.2.1 pc = .ok (i, n) := dx_M_begin (pc, i, n) (List.mem_of_getElem? h)
def q_M_begin_71 (t0 : Option Nat) (i4 : Int32) (M : mM) : Option (Unit × mM) :=
    if i4 = (-1 : Int32) then
      some ((), M)
    else
      x_cv M 10 t0 (q_M_address t0 i4 (1 : Int32) M) fun _ M =>
      some ((), M)
set_option maxRecDepth 20000 in
theorem v_M_begin_71 {E : mE} (t0 : Option Nat) (i4 : Int32) (M : mM) : mVr E mi_M_begin 2 71 [some (.inr t0), none, none, none, some (.inl i4), none] [] M enU (q_M_begin_71 t0 i4 M) := by
  unfold q_M_begin_71
  refine m_iload (d_M_begin (k := 38) rfl) rfl ?_
  refine m_iconst (v := (-1)) (d_M_begin (k := 39) rfl) (by decide) ?_
  refine m_icmp_eq (tgt := 84) (d_M_begin (k := 40) rfl) rfl ?_ ?_
  · exact m_vret (d_M_begin (k := 45) rfl) rfl
  · refine m_aload_n (d_M_begin (k := 41) rfl) rfl ?_
    refine m_iload (d_M_begin (k := 42) rfl) rfl ?_
    refine m_iconst (v := 1) (d_M_begin (k := 43) rfl) (by decide) ?_
    refine m_cvU (c := 10) (vs := [.inl i4, .inl (1 : Int32)]) (st := []) (d_M_begin (k := 44) rfl) (s_M_address t0 i4 (1 : Int32) M) cd_M_address ml_M_384 im_M_address se_M_address rfl (by decide) rfl (Nat.le_of_ble_eq_true rfl) (fun _ M => ?_)
    exact m_vret (d_M_begin (k := 45) rfl) rfl
def q_M_begin_68 (t0 : Option Nat) (i4 : Int32) (j0 : Int32) (j1 : Int32) (u2 : Option Nat) (M : mM) : Option (Unit × mM) :=
    x_cv M 10 u2 (q_M_address u2 j1 j0 M) fun _ M =>
    q_M_begin_71 t0 i4 M
set_option maxRecDepth 20000 in
theorem v_M_begin_68 {E : mE} (t0 : Option Nat) (i4 : Int32) (j0 : Int32) (j1 : Int32) (u2 : Option Nat) (M : mM) : mVr E mi_M_begin 2 68 [some (.inr t0), none, none, none, some (.inl i4), none] [.inl j0, .inl j1, .inr u2] M enU (q_M_begin_68 t0 i4 j0 j1 u2 M) := by
  unfold q_M_begin_68
  refine m_cvU (c := 10) (vs := [.inl j1, .inl j0]) (st := []) (d_M_begin (k := 37) rfl) (s_M_address u2 j1 j0 M) cd_M_address ml_M_384 im_M_address se_M_address rfl (by decide) rfl (Nat.le_of_ble_eq_true rfl) (fun _ M => ?_)
  exact m_drop (mles_s (mles_n (mles_n (mles_n (mles_s (mles_n mles_0)))))) (v_M_begin_71 t0 i4 M)
def q_M_begin_46 (t0 : Option Nat) (i3 : Int32) (i4 : Int32) (j0 : Int32) (j1 : Int32) (j2 : Int32) (u3 : Option Nat) (M : mM) : Option (Unit × mM) :=
    x_cv M 10 u3 (q_M_address u3 j2 (j1 + j0) M) fun _ M =>
    if i3 = (-1 : Int32) then
      q_M_begin_71 t0 i4 M
    else
      if i4 = (-1 : Int32) then
        q_M_begin_68 t0 i4 (1 : Int32) i3 t0 M
      else
        q_M_begin_68 t0 i4 (0 : Int32) i3 t0 M
set_option maxRecDepth 20000 in
theorem v_M_begin_46 {E : mE} (t0 : Option Nat) (i3 : Int32) (i4 : Int32) (j0 : Int32) (j1 : Int32) (j2 : Int32) (u3 : Option Nat) (M : mM) : mVr E mi_M_begin 2 46 [some (.inr t0), none, none, some (.inl i3), some (.inl i4), none] [.inl j0, .inl j1, .inl j2, .inr u3] M enU (q_M_begin_46 t0 i3 i4 j0 j1 j2 u3 M) := by
  unfold q_M_begin_46
  refine m_iadd (d_M_begin (k := 24) rfl) ?_
  refine m_cvU (c := 10) (vs := [.inl j2, .inl (j1 + j0)]) (st := []) (d_M_begin (k := 25) rfl) (s_M_address u3 j2 (j1 + j0) M) cd_M_address ml_M_384 im_M_address se_M_address rfl (by decide) rfl (Nat.le_of_ble_eq_true rfl) (fun _ M => ?_)
  refine m_iload_n (d_M_begin (k := 26) rfl) rfl ?_
  refine m_iconst (v := (-1)) (d_M_begin (k := 27) rfl) (by decide) ?_
  refine m_icmp_eq (tgt := 71) (d_M_begin (k := 28) rfl) rfl ?_ ?_
  · exact m_drop (mles_s (mles_n (mles_n (mles_n (mles_s (mles_n mles_0)))))) (v_M_begin_71 t0 i4 M)
  · refine m_aload_n (d_M_begin (k := 29) rfl) rfl ?_
    refine m_iload_n (d_M_begin (k := 30) rfl) rfl ?_
    refine m_iload (d_M_begin (k := 31) rfl) rfl ?_
    refine m_iconst (v := (-1)) (d_M_begin (k := 32) rfl) (by decide) ?_
    refine m_icmp_ne (tgt := 67) (d_M_begin (k := 33) rfl) rfl ?_ ?_
    · refine m_iconst (v := 1) (d_M_begin (k := 34) rfl) (by decide) ?_
      refine m_goto (tgt := 68) (d_M_begin (k := 35) rfl) rfl ?_
      exact m_drop (mles_s (mles_n (mles_n (mles_n (mles_s (mles_n mles_0)))))) (v_M_begin_68 t0 i4 (1 : Int32) i3 t0 M)
    · refine m_iconst (v := 0) (d_M_begin (k := 36) rfl) (by decide) ?_
      exact m_drop (mles_s (mles_n (mles_n (mles_n (mles_s (mles_n mles_0)))))) (v_M_begin_68 t0 i4 (0 : Int32) i3 t0 M)
def q_M_begin_36 (t0 : Option Nat) (i3 : Int32) (i4 : Int32) (j0 : Int32) (j1 : Int32) (u2 : Option Nat) (M : mM) : Option (Unit × mM) :=
    if i3 = (-1 : Int32) then
      q_M_begin_46 t0 i3 i4 (1 : Int32) j0 j1 u2 M
    else
      q_M_begin_46 t0 i3 i4 (0 : Int32) j0 j1 u2 M
set_option maxRecDepth 20000 in
theorem v_M_begin_36 {E : mE} (t0 : Option Nat) (i3 : Int32) (i4 : Int32) (j0 : Int32) (j1 : Int32) (u2 : Option Nat) (M : mM) : mVr E mi_M_begin 2 36 [some (.inr t0), none, none, some (.inl i3), some (.inl i4), none] [.inl j0, .inl j1, .inr u2] M enU (q_M_begin_36 t0 i3 i4 j0 j1 u2 M) := by
  unfold q_M_begin_36
  refine m_iload_n (d_M_begin (k := 18) rfl) rfl ?_
  refine m_iconst (v := (-1)) (d_M_begin (k := 19) rfl) (by decide) ?_
  refine m_icmp_ne (tgt := 45) (d_M_begin (k := 20) rfl) rfl ?_ ?_
  · refine m_iconst (v := 1) (d_M_begin (k := 21) rfl) (by decide) ?_
    refine m_goto (tgt := 46) (d_M_begin (k := 22) rfl) rfl ?_
    exact m_drop (mles_s (mles_n (mles_n (mles_s (mles_s (mles_n mles_0)))))) (v_M_begin_46 t0 i3 i4 (1 : Int32) j0 j1 u2 M)
  · refine m_iconst (v := 0) (d_M_begin (k := 23) rfl) (by decide) ?_
    exact m_drop (mles_s (mles_n (mles_n (mles_s (mles_s (mles_n mles_0)))))) (v_M_begin_46 t0 i3 i4 (0 : Int32) j0 j1 u2 M)
def q_M_begin_19 (t0 : Option Nat) (i2 : Int32) (i3 : Int32) (i4 : Int32) (i5 : Int32) (j0 : Int32) (j1 : Int32) (u2 : Option Nat) (M : mM) : Option (Unit × mM) :=
    x_cv M 10 u2 (q_M_address u2 j1 j0 M) fun _ M =>
    if i5 = 0 then
      q_M_begin_36 t0 i3 i4 (128 : Int32) i2 t0 M
    else
      q_M_begin_36 t0 i3 i4 (0 : Int32) i2 t0 M
set_option maxRecDepth 20000 in
theorem v_M_begin_19 {E : mE} (t0 : Option Nat) (i2 : Int32) (i3 : Int32) (i4 : Int32) (i5 : Int32) (j0 : Int32) (j1 : Int32) (u2 : Option Nat) (M : mM) : mVr E mi_M_begin 2 19 [some (.inr t0), none, some (.inl i2), some (.inl i3), some (.inl i4), some (.inl i5)] [.inl j0, .inl j1, .inr u2] M enU (q_M_begin_19 t0 i2 i3 i4 i5 j0 j1 u2 M) := by
  unfold q_M_begin_19
  refine m_cvU (c := 10) (vs := [.inl j1, .inl j0]) (st := []) (d_M_begin (k := 10) rfl) (s_M_address u2 j1 j0 M) cd_M_address ml_M_384 im_M_address se_M_address rfl (by decide) rfl (Nat.le_of_ble_eq_true rfl) (fun _ M => ?_)
  refine m_aload_n (d_M_begin (k := 11) rfl) rfl ?_
  refine m_iload_n (d_M_begin (k := 12) rfl) rfl ?_
  refine m_iload (d_M_begin (k := 13) rfl) rfl ?_
  refine m_if_eq (tgt := 33) (d_M_begin (k := 14) rfl) rfl ?_ ?_
  · refine m_sipush (v := 128) (d_M_begin (k := 17) rfl) (by decide) ?_
    exact m_drop (mles_s (mles_n (mles_n (mles_s (mles_s (mles_n mles_0)))))) (v_M_begin_36 t0 i3 i4 (128 : Int32) i2 t0 M)
  · refine m_iconst (v := 0) (d_M_begin (k := 15) rfl) (by decide) ?_
    refine m_goto (tgt := 36) (d_M_begin (k := 16) rfl) rfl ?_
    exact m_drop (mles_s (mles_n (mles_n (mles_s (mles_s (mles_n mles_0)))))) (v_M_begin_36 t0 i3 i4 (0 : Int32) i2 t0 M)
def q_M_begin (t0 : Option Nat) (i1 : Int32) (i2 : Int32) (i3 : Int32) (i4 : Int32) (i5 : Int32) (M : mM) : Option (Unit × mM) :=
    x_pI M 10 t0 34 (0 : Int32) fun M =>
    if i5 = 0 then
      q_M_begin_19 t0 i2 i3 i4 i5 (0 : Int32) i1 t0 M
    else
      q_M_begin_19 t0 i2 i3 i4 i5 (128 : Int32) i1 t0 M
set_option maxRecDepth 20000 in
theorem v_M_begin {E : mE} (t0 : Option Nat) (i1 : Int32) (i2 : Int32) (i3 : Int32) (i4 : Int32) (i5 : Int32) (M : mM) : mVr E mi_M_begin 2 0 [some (.inr t0), some (.inl i1), some (.inl i2), some (.inl i3), some (.inl i4), some (.inl i5)] [] M enU (q_M_begin t0 i1 i2 i3 i4 i5 M) := by
  unfold q_M_begin
  refine m_aload_n (d_M_begin (k := 0) rfl) rfl ?_
  refine m_iconst (v := 0) (d_M_begin (k := 1) rfl) (by decide) ?_
  refine m_pI (d_M_begin (k := 2) rfl) fp_M_264 (fun h => absurd h (by decide)) rfl (fun M => ?_)
  refine m_aload_n (d_M_begin (k := 3) rfl) rfl ?_
  refine m_iload_n (d_M_begin (k := 4) rfl) rfl ?_
  refine m_iload (d_M_begin (k := 5) rfl) rfl ?_
  refine m_if_eq (tgt := 18) (d_M_begin (k := 6) rfl) rfl ?_ ?_
  · refine m_iconst (v := 0) (d_M_begin (k := 9) rfl) (by decide) ?_
    exact m_drop (mles_s (mles_n (mles_s (mles_s (mles_s (mles_s mles_0)))))) (v_M_begin_19 t0 i2 i3 i4 i5 (0 : Int32) i1 t0 M)
  · refine m_sipush (v := 128) (d_M_begin (k := 7) rfl) (by decide) ?_
    refine m_goto (tgt := 19) (d_M_begin (k := 8) rfl) rfl ?_
    exact m_drop (mles_s (mles_n (mles_s (mles_s (mles_s (mles_s mles_0)))))) (v_M_begin_19 t0 i2 i3 i4 i5 (128 : Int32) i1 t0 M)
theorem s_M_begin {E : mE} (t0 : Option Nat) (i1 : Int32) (i2 : Int32) (i3 : Int32) (i4 : Int32) (i5 : Int32) (M : mM) : mSnd E mi_M_begin 2 [.inr t0, .inl i1, .inl i2, .inl i3, .inl i4, .inl i5] M enU (q_M_begin t0 i1 i2 i3 i4 i5 M) := m_entryU (by decide) (Nat.le_of_ble_eq_true rfl) rfl (m_drop (mles_s (mles_s (mles_s (mles_s (mles_s (mles_s mles_0)))))) (v_M_begin t0 i1 i2 i3 i4 i5 M))
def dt_M_bestTo : List (Nat × Instr × Nat) := [(0, .iconst (-1), 1), (1, .istore_n 3, 1), (2, .bipush 9, 2), (4, .istore 4, 2), (6, .iconst 0, 1), (7, .istore 5, 2), (9, .iload 5, 2), (11, .bipush 6, 2), (13, .if_icmp .ge 45, 3), (16, .aload_n 0, 1), (17, .getfield 185, 3), (20, .bipush 36, 2), (22, .iload_n 1, 1), (23, .imul, 1), (24, .bipush 6, 2), (26, .iload_n 2, 1), (27, .imul, 1), (28, .iadd, 1), (29, .iload 5, 2), (31, .iadd, 1), (32, .iaload, 1), (33, .istore 6, 2), (35, .iload 6, 2), (37, .iload 4, 2), (39, .if_icmp .gt 6, 3), (42, .goto 10, 3), (45, .iload 6, 2), (47, .istore 4, 2), (49, .iload 5, 2), (51, .istore_n 3, 1), (52, .iinc 5 1, 3), (55, .goto (-46), 3), (58, .iload_n 3, 1), (59, .ireturn, 1)]
theorem dx_M_bestTo : ∀ p ∈ dt_M_bestTo, decode prog_12_method_70_code p.1 = .ok p.2 := by decide +kernel
theorem d_M_bestTo {k pc : Nat} {i : Instr} {n : Nat} (h : dt_M_bestTo[k]? = some (pc, i, n)) : decode mi_M_bestTo.2.1 pc = .ok (i, n) := dx_M_bestTo (pc, i, n) (List.mem_of_getElem? h)
def q_M_bestTo_52 (r9 : Option Nat → Int32 → Int32 → Int32 → Int32 → Int32 → mM → Option (Int32 × mM)) (t0 : Option Nat) (i1 : Int32) (i2 : Int32) (i3 : Int32) (i4 : Int32) (i5 : Int32) (M : mM) : Option (Int32 × mM) :=
    r9 t0 i1 i2 i3 i4 (i5 + 1) M
set_option maxRecDepth 20000 in
theorem v_M_bestTo_52 {E : mE} (r9 : Option Nat → Int32 → Int32 → Int32 → Int32 → Int32 → mM → Option (Int32 × mM)) (h9 : ∀ (t0 : Option Nat) (i1 : Int32) (i2 : Int32) (i3 : Int32) (i4 : Int32) (i5 : Int32) (M : mM), mVr E mi_M_bestTo 0 9 [some (.inr t0), some (.inl i1), some (.inl i2), some (.inl i3), some (.inl i4), some (.inl i5), none] [] M enI (r9 t0 i1 i2 i3 i4 i5 M)) (t0 : Option Nat) (i1 : Int32) (i2 : Int32) (i3 : Int32) (i4 : Int32) (i5 : Int32) (M : mM) : mVr E mi_M_bestTo 0 52 [some (.inr t0), some (.inl i1), some (.inl i2), some (.inl i3), some (.inl i4), some (.inl i5), none] [] M enI (q_M_bestTo_52 r9 t0 i1 i2 i3 i4 i5 M) := by
  unfold q_M_bestTo_52
  refine m_inc (v := 1) (ls' := [some (.inr t0), some (.inl i1), some (.inl i2), some (.inl i3), some (.inl i4), some (.inl (i5 + 1)), none]) (d_M_bestTo (k := 30) rfl) rfl (by decide) (by decide) rfl ?_
  refine m_goto (tgt := 9) (d_M_bestTo (k := 31) rfl) rfl ?_
  exact m_drop (mles_s (mles_s (mles_s (mles_s (mles_s (mles_s (mles_n mles_0))))))) (h9 t0 i1 i2 i3 i4 (i5 + 1) M)
def q_M_bestTo_9_b (r9 : Option Nat → Int32 → Int32 → Int32 → Int32 → Int32 → mM → Option (Int32 × mM)) (t0 : Option Nat) (i1 : Int32) (i2 : Int32) (i3 : Int32) (i4 : Int32) (i5 : Int32) (M : mM) : Option (Int32 × mM) :=
    if i5 < (6 : Int32) then
      x_gR M 10 t0 74 fun a1 =>
      x_aI M 0 a1 ((((36 : Int32) * i1) + ((6 : Int32) * i2)) + i5) fun x2 =>
      if i4 < x2 then
        q_M_bestTo_52 r9 t0 i1 i2 i5 x2 i5 M
      else
        q_M_bestTo_52 r9 t0 i1 i2 i3 i4 i5 M
    else
      some (i3, M)
def q_M_bestTo_9 : Nat → Option Nat → Int32 → Int32 → Int32 → Int32 → Int32 → mM → Option (Int32 × mM)
  | 0, _, _, _, _, _, _, _ => none
  | n + 1, t0, i1, i2, i3, i4, i5, M => q_M_bestTo_9_b (q_M_bestTo_9 n) t0 i1 i2 i3 i4 i5 M
set_option maxRecDepth 20000 in
theorem v_M_bestTo_9_b {E : mE} (r9 : Option Nat → Int32 → Int32 → Int32 → Int32 → Int32 → mM → Option (Int32 × mM)) (h9 : ∀ (t0 : Option Nat) (i1 : Int32) (i2 : Int32) (i3 : Int32) (i4 : Int32) (i5 : Int32) (M : mM), mVr E mi_M_bestTo 0 9 [some (.inr t0), some (.inl i1), some (.inl i2), some (.inl i3), some (.inl i4), some (.inl i5), none] [] M enI (r9 t0 i1 i2 i3 i4 i5 M)) (t0 : Option Nat) (i1 : Int32) (i2 : Int32) (i3 : Int32) (i4 : Int32) (i5 : Int32) (M : mM) : mVr E mi_M_bestTo 0 9 [some (.inr t0), some (.inl i1), some (.inl i2), some (.inl i3), some (.inl i4), some (.inl i5), none] [] M enI (q_M_bestTo_9_b r9 t0 i1 i2 i3 i4 i5 M) := by
  unfold q_M_bestTo_9_b
  refine m_iload (d_M_bestTo (k := 6) rfl) rfl ?_
  refine m_bipush (v := 6) (d_M_bestTo (k := 7) rfl) (by decide) ?_
  refine m_icmp_ge (tgt := 58) (d_M_bestTo (k := 8) rfl) rfl ?_ ?_
  · refine m_aload_n (d_M_bestTo (k := 9) rfl) rfl ?_
    refine m_getR (d_M_bestTo (k := 10) rfl) fl_M_185 rfl (fun a1 => ?_)
    refine m_bipush (v := 36) (d_M_bestTo (k := 11) rfl) (by decide) ?_
    refine m_iload_n (d_M_bestTo (k := 12) rfl) rfl ?_
    refine m_imul (d_M_bestTo (k := 13) rfl) ?_
    refine m_bipush (v := 6) (d_M_bestTo (k := 14) rfl) (by decide) ?_
    refine m_iload_n (d_M_bestTo (k := 15) rfl) rfl ?_
    refine m_imul (d_M_bestTo (k := 16) rfl) ?_
    refine m_iadd (d_M_bestTo (k := 17) rfl) ?_
    refine m_iload (d_M_bestTo (k := 18) rfl) rfl ?_
    refine m_iadd (d_M_bestTo (k := 19) rfl) ?_
    refine m_iald (d_M_bestTo (k := 20) rfl) (fun x2 => ?_)
    refine m_ist (ls' := [some (.inr t0), some (.inl i1), some (.inl i2), some (.inl i3), some (.inl i4), some (.inl i5), some (.inl x2)]) (d_M_bestTo (k := 21) rfl) (by decide) rfl ?_
    refine m_iload (d_M_bestTo (k := 22) rfl) rfl ?_
    refine m_iload (d_M_bestTo (k := 23) rfl) rfl ?_
    refine m_icmp_gt (tgt := 45) (d_M_bestTo (k := 24) rfl) rfl ?_ ?_
    · refine m_iload (d_M_bestTo (k := 26) rfl) rfl ?_
      refine m_ist (ls' := [some (.inr t0), some (.inl i1), some (.inl i2), some (.inl i3), some (.inl x2), some (.inl i5), some (.inl x2)]) (d_M_bestTo (k := 27) rfl) (by decide) rfl ?_
      refine m_iload (d_M_bestTo (k := 28) rfl) rfl ?_
      refine m_ist_n (ls' := [some (.inr t0), some (.inl i1), some (.inl i2), some (.inl i5), some (.inl x2), some (.inl i5), some (.inl x2)]) (d_M_bestTo (k := 29) rfl) (by decide) rfl ?_
      exact m_drop (mles_s (mles_s (mles_s (mles_s (mles_s (mles_s (mles_n mles_0))))))) (v_M_bestTo_52 r9 h9 t0 i1 i2 i5 x2 i5 M)
    · refine m_goto (tgt := 52) (d_M_bestTo (k := 25) rfl) rfl ?_
      exact m_drop (mles_s (mles_s (mles_s (mles_s (mles_s (mles_s (mles_n mles_0))))))) (v_M_bestTo_52 r9 h9 t0 i1 i2 i3 i4 i5 M)
  · refine m_iload_n (d_M_bestTo (k := 32) rfl) rfl ?_
    exact m_iret (d_M_bestTo (k := 33) rfl) rfl
theorem v_M_bestTo_9 {E : mE} : ∀ (n : Nat) (t0 : Option Nat) (i1 : Int32) (i2 : Int32) (i3 : Int32) (i4 : Int32) (i5 : Int32) (M : mM), mVr E mi_M_bestTo 0 9 [some (.inr t0), some (.inl i1), some (.inl i2), some (.inl i3), some (.inl i4), some (.inl i5), none] [] M enI (q_M_bestTo_9 n t0 i1 i2 i3 i4 i5 M)
  | 0, _, _, _, _, _, _, _ => m_none
  | n + 1, t0, i1, i2, i3, i4, i5, M => v_M_bestTo_9_b _ (v_M_bestTo_9 n) t0 i1 i2 i3 i4 i5 M
def q_M_bestTo (t0 : Option Nat) (i1 : Int32) (i2 : Int32) (M : mM) : Option (Int32 × mM) :=
    q_M_bestTo_9 mFU t0 i1 i2 (-1 : Int32) (9 : Int32) (0 : Int32) M
set_option maxRecDepth 20000 in
theorem v_M_bestTo {E : mE} (t0 : Option Nat) (i1 : Int32) (i2 : Int32) (M : mM) : mVr E mi_M_bestTo 0 0 [some (.inr t0), some (.inl i1), some (.inl i2), none, none, none, none] [] M enI (q_M_bestTo t0 i1 i2 M) := by
  unfold q_M_bestTo
  refine m_iconst (v := (-1)) (d_M_bestTo (k := 0) rfl) (by decide) ?_
  refine m_ist_n (ls' := [some (.inr t0), some (.inl i1), some (.inl i2), some (.inl (-1 : Int32)), none, none, none]) (d_M_bestTo (k := 1) rfl) (by decide) rfl ?_
  refine m_bipush (v := 9) (d_M_bestTo (k := 2) rfl) (by decide) ?_
  refine m_ist (ls' := [some (.inr t0), some (.inl i1), some (.inl i2), some (.inl (-1 : Int32)), some (.inl (9 : Int32)), none, none]) (d_M_bestTo (k := 3) rfl) (by decide) rfl ?_
  refine m_iconst (v := 0) (d_M_bestTo (k := 4) rfl) (by decide) ?_
  refine m_ist (ls' := [some (.inr t0), some (.inl i1), some (.inl i2), some (.inl (-1 : Int32)), some (.inl (9 : Int32)), some (.inl (0 : Int32)), none]) (d_M_bestTo (k := 5) rfl) (by decide) rfl ?_
  exact m_drop (mles_s (mles_s (mles_s (mles_s (mles_s (mles_s (mles_n mles_0))))))) (v_M_bestTo_9 mFU t0 i1 i2 (-1 : Int32) (9 : Int32) (0 : Int32) M)
theorem s_M_bestTo {E : mE} (t0 : Option Nat) (i1 : Int32) (i2 : Int32) (M : mM) : mSnd E mi_M_bestTo 0 [.inr t0, .inl i1, .inl i2] M enI (q_M_bestTo t0 i1 i2 M) := m_entryI (by decide) (Nat.le_of_ble_eq_true rfl) rfl (m_drop (mles_s (mles_s (mles_s (mles_e (mles_e (mles_e (mles_e mles_0))))))) (v_M_bestTo t0 i1 i2 M))
def dt_M_count : List (Nat × Instr × Nat) := [(0, .aload_n 0, 1), (1, .getfield 92, 3), (4, .iconst 5, 1), (5, .iload_n 1, 1), (6, .imul, 1), (7, .iload_n 2, 1), (8, .iadd, 1), (9, .dup2, 1), (10, .iaload, 1), (11, .iconst 1, 1), (12, .iadd, 1), (13, .iastore, 1), (14, .return_, 1)]
theorem dx_M_count : ∀ p ∈ dt_M_count, decode prog_12_method_21_code p.1 = .ok p.2 := by decide +kernel
theorem d_M_count {k pc : Nat} {i : Instr} {n : Nat} (h : dt_M_count[k]? = some (pc, i, n)) : decode mi_M_count.2.1 pc = .ok (i, n) := dx_M_count (pc, i, n) (List.mem_of_getElem? h)
def q_M_count (t0 : Option Nat) (i1 : Int32) (i2 : Int32) (M : mM) : Option (Unit × mM) :=
    x_gR M 10 t0 32 fun a1 =>
    x_lt (((5 : Int32) * i1) + i2) fun x2 =>
    x_aI M 0 a1 x2 fun x3 =>
    x_wI M a1 x2 (x3 + (1 : Int32)) fun M =>
    some ((), M)
set_option maxRecDepth 20000 in
theorem v_M_count {E : mE} (t0 : Option Nat) (i1 : Int32) (i2 : Int32) (M : mM) : mVr E mi_M_count 0 0 [some (.inr t0), some (.inl i1), some (.inl i2)] [] M enU (q_M_count t0 i1 i2 M) := by
  unfold q_M_count
  refine m_aload_n (d_M_count (k := 0) rfl) rfl ?_
  refine m_getR (d_M_count (k := 1) rfl) fl_M_92 rfl (fun a1 => ?_)
  refine m_iconst (v := 5) (d_M_count (k := 2) rfl) (by decide) ?_
  refine m_iload_n (d_M_count (k := 3) rfl) rfl ?_
  refine m_imul (d_M_count (k := 4) rfl) ?_
  refine m_iload_n (d_M_count (k := 5) rfl) rfl ?_
  refine m_iadd (d_M_count (k := 6) rfl) ?_
  refine m_lt (fun x2 => ?_)
  refine m_dup2 (d_M_count (k := 7) rfl) ?_
  refine m_iald (d_M_count (k := 8) rfl) (fun x3 => ?_)
  refine m_iconst (v := 1) (d_M_count (k := 9) rfl) (by decide) ?_
  refine m_iadd (d_M_count (k := 10) rfl) ?_
  refine m_iast (d_M_count (k := 11) rfl) (fun M => ?_)
  exact m_vret (d_M_count (k := 12) rfl) rfl
theorem s_M_count {E : mE} (t0 : Option Nat) (i1 : Int32) (i2 : Int32) (M : mM) : mSnd E mi_M_count 0 [.inr t0, .inl i1, .inl i2] M enU (q_M_count t0 i1 i2 M) := m_entryU (by decide) (Nat.le_of_ble_eq_true rfl) rfl (m_drop (mles_s (mles_s (mles_s mles_0))) (v_M_count t0 i1 i2 M))
