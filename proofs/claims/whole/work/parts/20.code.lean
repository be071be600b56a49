def dt_C_isStation : List (Nat × Instr × Nat) := [(0, .iload_n 0, 1), (1, .ifCond .lt 13, 3), (4, .iload_n 0, 1), (5, .bipush 6, 2), (7, .if_icmp .ge 7, 3), (10, .iconst 1, 1), (11, .goto 4, 3), (14, .iconst 0, 1), (15, .ireturn, 1)]
theorem dx_C_isStation : ∀ p ∈ dt_C_isStation, decode prog_1_method_24_code p.1 = .ok p.2 := by decide +kernel
theorem d_C_isStation {k pc : Nat} {i : Instr} {n : Nat} (h : dt_C_isStation[k]? = some (pc, i, n)) : decode mi_C_isStation.2.1 pc = .ok (i, n) := dx_C_isStation (pc, i, n) (List.mem_of_getElem? h)
def q_C_isStation (i0 : Int32) (M : mM) : Option (Int32 × mM) :=
    if i0 < 0 then
      x_rz (0 : Int32) M
    else
      if i0 < (6 : Int32) then
        x_rz (1 : Int32) M
      else
        x_rz (0 : Int32) M
set_option maxRecDepth 20000 in
theorem v_C_isStation {E : mE} (i0 : Int32) (M : mM) : mVr E mi_C_isStation 0 0 [some (.inl i0)] [] M enI (q_C_isStation i0 M) := by
  unfold q_C_isStation
  refine m_iload_n (d_C_isStation (k := 0) rfl) rfl ?_
  refine m_if_lt (tgt := 14) (d_C_isStation (k := 1) rfl) rfl ?_ ?_
  · refine m_iconst (v := 0) (d_C_isStation (k := 7) rfl) (by decide) ?_
    exact m_zret (d_C_isStation (k := 8) rfl) rfl
  · refine m_iload_n (d_C_isStation (k := 2) rfl) rfl ?_
    refine m_bipush (v := 6) (d_C_isStation (k := 3) rfl) (by decide) ?_
    refine m_icmp_ge (tgt := 14) (d_C_isStation (k := 4) rfl) rfl ?_ ?_
    · refine m_iconst (v := 1) (d_C_isStation (k := 5) rfl) (by decide) ?_
      refine m_goto (tgt := 15) (d_C_isStation (k := 6) rfl) rfl ?_
      exact m_zret (d_C_isStation (k := 8) rfl) rfl
    · refine m_iconst (v := 0) (d_C_isStation (k := 7) rfl) (by decide) ?_
      exact m_zret (d_C_isStation (k := 8) rfl) rfl
theorem s_C_isStation {E : mE} (i0 : Int32) (M : mM) : mSnd E mi_C_isStation 0 [.inl i0] M enI (q_C_isStation i0 M) := m_entryZ (by decide) (Nat.le_of_ble_eq_true rfl) rfl (m_drop (mles_s mles_0) (v_C_isStation i0 M))
def dt_C_stationAt : List (Nat × Instr × Nat) := [(0, .iload_n 1, 1), (1, .invokestatic 110, 3), (4, .ifCond .eq 12, 3), (7, .aload_n 0, 1), (8, .getfield 11, 3), (11, .iload_n 1, 1), (12, .aaload, 1), (13, .goto 4, 3), (16, .aconst_null, 1), (17, .areturn, 1)]
theorem dx_C_stationAt : ∀ p ∈ dt_C_stationAt, decode prog_1_method_28_code p.1 = .ok p.2 := by decide +kernel
theorem d_C_stationAt {k pc : Nat} {i : Instr} {n : Nat} (h : dt_C_stationAt[k]? = some (pc, i, n)) : decode mi_C_stationAt.2.1 pc = .ok (i, n) := dx_C_stationAt (pc, i, n) (List.mem_of_getElem? h)
def q_C_stationAt (t0 : Option Nat) (i1 : Int32) (M : mM) : Option (Option Nat × mM) :=
    x_cl (q_C_isStation i1 M) fun x1 M =>
    if x1 = 0 then
      some (none, M)
    else
      x_gR M 9 t0 0 fun a2 =>
      x_aR M 2 a2 i1 fun a3 =>
      some (a3, M)
set_option maxRecDepth 20000 in
theorem v_C_stationAt {E : mE} (t0 : Option Nat) (i1 : Int32) (M : mM) : mVr E mi_C_stationAt 1 0 [some (.inr t0), some (.inl i1)] [] M enR (q_C_stationAt t0 i1 M) := by
  unfold q_C_stationAt
  refine m_iload_n (d_C_stationAt (k := 0) rfl) rfl ?_
  refine m_csI (vs := [.inl i1]) (st := []) (d_C_stationAt (k := 1) rfl) (s_C_isStation i1 M) cd_C_isStation ml_C_110 sa_C_isStation (by decide) rfl (Nat.le_of_ble_eq_true rfl) (fun x1 M => ?_)
  refine m_if_eq (tgt := 16) (d_C_stationAt (k := 2) rfl) rfl ?_ ?_
  · refine m_null (d_C_stationAt (k := 8) rfl) ?_
    exact m_aret (d_C_stationAt (k := 9) rfl) rfl
  · refine m_aload_n (d_C_stationAt (k := 3) rfl) rfl ?_
    refine m_getR (d_C_stationAt (k := 4) rfl) fl_C_11 rfl (fun a2 => ?_)
    refine m_iload_n (d_C_stationAt (k := 5) rfl) rfl ?_
    refine m_aald (t := 2) (d_C_stationAt (k := 6) rfl) rfl (fun a3 => ?_)
    refine m_goto (tgt := 17) (d_C_stationAt (k := 7) rfl) rfl ?_
    exact m_aret (d_C_stationAt (k := 9) rfl) rfl
theorem s_C_stationAt {E : mE} (t0 : Option Nat) (i1 : Int32) (M : mM) : mSnd E mi_C_stationAt 1 [.inr t0, .inl i1] M enR (q_C_stationAt t0 i1 M) := m_entryR (by decide) (Nat.le_of_ble_eq_true rfl) rfl (m_drop (mles_s (mles_s mles_0)) (v_C_stationAt t0 i1 M))
def dt_B_add : List (Nat × Instr × Nat) := [(0, .aload_n 0, 1), (1, .getfield 21, 3), (4, .aload_n 0, 1), (5, .getfield 15, 3), (8, .arraylength, 1), (9, .if_icmp .ge 23, 3), (12, .aload_n 0, 1), (13, .getfield 15, 3), (16, .aload_n 0, 1), (17, .getfield 21, 3), (20, .iload_n 1, 1), (21, .iastore, 1), (22, .aload_n 0, 1), (23, .dup, 1), (24, .getfield 21, 3), (27, .iconst 1, 1), (28, .iadd, 1), (29, .putfield 21, 3), (32, .return_, 1)]
theorem dx_B_add : ∀ p ∈ dt_B_add, decode prog_2_method_4_code p.1 = .ok p.2 := by decide +kernel
theorem d_B_add {k pc : Nat} {i : Instr} {n : Nat} (h : dt_B_add[k]? = some (pc, i, n)) : decode mi_B_add.2.1 pc = .ok (i, n) := dx_B_add (pc, i, n) (List.mem_of_getElem? h)
def q_B_add (t0 : Option Nat) (i1 : Int32) (M : mM) : Option (Unit × mM) :=
    x_gI M 0 t0 1 fun x1 =>
    x_gR M 0 t0 0 fun a2 =>
    x_al M 0 a2 fun x3 =>
    if x1 < x3 then
      x_gR M 0 t0 0 fun a4 =>
      x_gI M 0 t0 1 fun x5 =>
      x_wI M a4 x5 i1 fun M =>
      x_gI M 0 t0 1 fun x6 =>
      x_pI M 0 t0 1 (x6 + (1 : Int32)) fun M =>
      some ((), M)
    else
      some ((), M)
set_option maxRecDepth 20000 in
theorem v_B_add {E : mE} (t0 : Option Nat) (i1 : Int32) (M : mM) : mVr E mi_B_add 0 0 [some (.inr t0), some (.inl i1)] [] M enU (q_B_add t0 i1 M) := by
  unfold q_B_add
  refine m_aload_n (d_B_add (k := 0) rfl) rfl ?_
  refine m_getI (d_B_add (k := 1) rfl) fl_B_21 rfl (fun x1 => ?_)
  refine m_aload_n (d_B_add (k := 2) rfl) rfl ?_
  refine m_getR (d_B_add (k := 3) rfl) fl_B_15 rfl (fun a2 => ?_)
  refine m_alen (t := 0) (d_B_add (k := 4) rfl) rfl (fun x3 => ?_)
  refine m_icmp_ge (tgt := 32) (d_B_add (k := 5) rfl) rfl ?_ ?_
  · refine m_aload_n (d_B_add (k := 6) rfl) rfl ?_
    refine m_getR (d_B_add (k := 7) rfl) fl_B_15 rfl (fun a4 => ?_)
    refine m_aload_n (d_B_add (k := 8) rfl) rfl ?_
    refine m_getI (d_B_add (k := 9) rfl) fl_B_21 rfl (fun x5 => ?_)
    refine m_iload_n (d_B_add (k := 10) rfl) rfl ?_
    refine m_iast (d_B_add (k := 11) rfl) (fun M => ?_)
    refine m_aload_n (d_B_add (k := 12) rfl) rfl ?_
    refine m_dup (d_B_add (k := 13) rfl) ?_
    refine m_getI (d_B_add (k := 14) rfl) fl_B_21 rfl (fun x6 => ?_)
    refine m_iconst (v := 1) (d_B_add (k := 15) rfl) (by decide) ?_
    refine m_iadd (d_B_add (k := 16) rfl) ?_
    refine m_pI (d_B_add (k := 17) rfl) fp_B_21 (fun h => absurd h (by decide)) rfl (fun M => ?_)
    exact m_vret (d_B_add (k := 18) rfl) rfl
  · exact m_vret (d_B_add (k := 18) rfl) rfl
theorem s_B_add {E : mE} (t0 : Option Nat) (i1 : Int32) (M : mM) : mSnd E mi_B_add 0 [.inr t0, .inl i1] M enU (q_B_add t0 i1 M) := m_entryU (by decide) (Nat.le_of_ble_eq_true rfl) rfl (m_drop (mles_s (mles_s mles_0)) (v_B_add t0 i1 M))
def dt_B_addAddress : List (Nat × Instr × Nat) := [(0, .aload_n 0, 1), (1, .getfield 21, 3), (4, .aload_n 1, 1), (5, .arraylength, 1), (6, .iadd, 1), (7, .aload_n 0, 1), (8, .getfield 15, 3), (11, .arraylength, 1), (12, .if_icmp .lt 4, 3), (15, .return_, 1), (16, .iconst 0, 1), (17, .istore_n 3, 1), (18, .iload_n 3, 1), (19, .aload_n 1, 1), (20, .arraylength, 1), (21, .if_icmp .ge 23, 3), (24, .aload_n 0, 1), (25, .getfield 15, 3), (28, .aload_n 0, 1), (29, .getfield 21, 3), (32, .iload_n 3, 1), (33, .iadd, 1), (34, .aload_n 1, 1), (35, .iload_n 3, 1), (36, .iaload, 1), (37, .iastore, 1), (38, .iinc 3 1, 3), (41, .goto (-23), 3), (44, .aload_n 0, 1), (45, .dup, 1), (46, .getfield 21, 3), (49, .aload_n 1, 1), (50, .arraylength, 1), (51, .iadd, 1), (52, .putfield 21, 3), (55, .aload_n 0, 1), (56, .getfield 15, 3), (59, .aload_n 0, 1), (60, .getfield 21, 3), (63, .iload_n 2, 1), (64, .iastore, 1), (65, .aload_n 0, 1), (66, .dup, 1), (67, .getfield 21, 3), (70, .iconst 1, 1), (71, .iadd, 1), (72, .putfield 21, 3), (75, .return_, 1)]
theorem dx_B_addAddress : ∀ p ∈ dt_B_addAddress, decode prog_2_method_7_code p.1 = .ok p.2 := by decide +kernel
theorem d_B_addAddress {k pc : Nat} {i : Instr} {n : Nat} (h : dt_B_addAddress[k]? = some (pc, i, n)) : decode mi_B_addAddress.2.1 pc = .ok (i, n) := dx_B_addAddress (pc, i, n) (List.mem_of_getElem? h)
def q_B_addAddress_18_b (r18 : Option Nat → Option Nat → Int32 → Int32 → mM → Option (Unit × mM)) (t0 : Option Nat) (t1 : Option Nat) (i2 : Int32) (i3 : Int32) (M : mM) : Option (Unit × mM) :=
    x_sl t1 fun x1 =>
    if i3 < x1 then
      x_gR M 0 t0 0 fun a2 =>
      x_gI M 0 t0 1 fun x3 =>
      x_sI t1 i3 fun x4 =>
      x_wI M a2 (x3 + i3) x4 fun M =>
      r18 t0 t1 i2 (i3 + 1) M
    else
      x_gI M 0 t0 1 fun x5 =>
      x_sl t1 fun x6 =>
      x_pI M 0 t0 1 (x5 + x6) fun M =>
      x_gR M 0 t0 0 fun a7 =>
      x_gI M 0 t0 1 fun x8 =>
      x_wI M a7 x8 i2 fun M =>
      x_gI M 0 t0 1 fun x9 =>
      x_pI M 0 t0 1 (x9 + (1 : Int32)) fun M =>
      some ((), M)
def q_B_addAddress_18 : Nat → Option Nat → Option Nat → Int32 → Int32 → mM → Option (Unit × mM)
  | 0, _, _, _, _, _ => none
  | n + 1, t0, t1, i2, i3, M => q_B_addAddress_18_b (q_B_addAddress_18 n) t0 t1 i2 i3 M
set_option maxRecDepth 20000 in
theorem v_B_addAddress_18_b {E : mE} (r18 : Option Nat → Option Nat → Int32 → Int32 → mM → Option (Unit × mM)) (h18 : ∀ (t0 : Option Nat) (t1 : Option Nat) (i2 : Int32) (i3 : Int32) (M : mM), mVr E mi_B_addAddress 0 18 [some (.inr t0), some (.inr t1), some (.inl i2), some (.inl i3)] [] M enU (r18 t0 t1 i2 i3 M)) (t0 : Option Nat) (t1 : Option Nat) (i2 : Int32) (i3 : Int32) (M : mM) : mVr E mi_B_addAddress 0 18 [some (.inr t0), some (.inr t1), some (.inl i2), some (.inl i3)] [] M enU (q_B_addAddress_18_b r18 t0 t1 i2 i3 M) := by
  unfold q_B_addAddress_18_b
  refine m_iload_n (d_B_addAddress (k := 12) rfl) rfl ?_
  refine m_aload_n (d_B_addAddress (k := 13) rfl) rfl ?_
  refine m_slen (d_B_addAddress (k := 14) rfl) (fun x1 => ?_)
  refine m_icmp_ge (tgt := 44) (d_B_addAddress (k := 15) rfl) rfl ?_ ?_
  · refine m_aload_n (d_B_addAddress (k := 16) rfl) rfl ?_
    refine m_getR (d_B_addAddress (k := 17) rfl) fl_B_15 rfl (fun a2 => ?_)
    refine m_aload_n (d_B_addAddress (k := 18) rfl) rfl ?_
    refine m_getI (d_B_addAddress (k := 19) rfl) fl_B_21 rfl (fun x3 => ?_)
    refine m_iload_n (d_B_addAddress (k := 20) rfl) rfl ?_
    refine m_iadd (d_B_addAddress (k := 21) rfl) ?_
    refine m_aload_n (d_B_addAddress (k := 22) rfl) rfl ?_
    refine m_iload_n (d_B_addAddress (k := 23) rfl) rfl ?_
    refine m_sld (d_B_addAddress (k := 24) rfl) (fun x4 => ?_)
    refine m_iast (d_B_addAddress (k := 25) rfl) (fun M => ?_)
    refine m_inc (v := 1) (ls' := [some (.inr t0), some (.inr t1), some (.inl i2), some (.inl (i3 + 1))]) (d_B_addAddress (k := 26) rfl) rfl (by decide) (by decide) rfl ?_
    refine m_goto (tgt := 18) (d_B_addAddress (k := 27) rfl) rfl ?_
    exact m_drop (mles_s (mles_s (mles_s (mles_s mles_0)))) (h18 t0 t1 i2 (i3 + 1) M)
  · refine m_aload_n (d_B_addAddress (k := 28) rfl) rfl ?_
    refine m_dup (d_B_addAddress (k := 29) rfl) ?_
    refine m_getI (d_B_addAddress (k := 30) rfl) fl_B_21 rfl (fun x5 => ?_)
    refine m_aload_n (d_B_addAddress (k := 31) rfl) rfl ?_
    refine m_slen (d_B_addAddress (k := 32) rfl) (fun x6 => ?_)
    refine m_iadd (d_B_addAddress (k := 33) rfl) ?_
    refine m_pI (d_B_addAddress (k := 34) rfl) fp_B_21 (fun h => absurd h (by decide)) rfl (fun M => ?_)
    refine m_aload_n (d_B_addAddress (k := 35) rfl) rfl ?_
    refine m_getR (d_B_addAddress (k := 36) rfl) fl_B_15 rfl (fun a7 => ?_)
    refine m_aload_n (d_B_addAddress (k := 37) rfl) rfl ?_
    refine m_getI (d_B_addAddress (k := 38) rfl) fl_B_21 rfl (fun x8 => ?_)
    refine m_iload_n (d_B_addAddress (k := 39) rfl) rfl ?_
    refine m_iast (d_B_addAddress (k := 40) rfl) (fun M => ?_)
    refine m_aload_n (d_B_addAddress (k := 41) rfl) rfl ?_
    refine m_dup (d_B_addAddress (k := 42) rfl) ?_
    refine m_getI (d_B_addAddress (k := 43) rfl) fl_B_21 rfl (fun x9 => ?_)
    refine m_iconst (v := 1) (d_B_addAddress (k := 44) rfl) (by decide) ?_
    refine m_iadd (d_B_addAddress (k := 45) rfl) ?_
    refine m_pI (d_B_addAddress (k := 46) rfl) fp_B_21 (fun h => absurd h (by decide)) rfl (fun M => ?_)
    exact m_vret (d_B_addAddress (k := 47) rfl) rfl
theorem v_B_addAddress_18 {E : mE} : ∀ (n : Nat) (t0 : Option Nat) (t1 : Option Nat) (i2 : Int32) (i3 : Int32) (M : mM), mVr E mi_B_addAddress 0 18 [some (.inr t0), some (.inr t1), some (.inl i2), some (.inl i3)] [] M enU (q_B_addAddress_18 n t0 t1 i2 i3 M)
  | 0, _, _, _, _, _ => m_none
  | n + 1, t0, t1, i2, i3, M => v_B_addAddress_18_b _ (v_B_addAddress_18 n) t0 t1 i2 i3 M
def q_B_addAddress (t0 : Option Nat) (t1 : Option Nat) (i2 : Int32) (M : mM) : Option (Unit × mM) :=
    x_gI M 0 t0 1 fun x1 =>
    x_sl t1 fun x2 =>
    x_gR M 0 t0 0 fun a3 =>
    x_al M 0 a3 fun x4 =>
    if (x1 + x2) < x4 then
      q_B_addAddress_18 mFU t0 t1 i2 (0 : Int32) M
    else
      some ((), M)
set_option maxRecDepth 20000 in
theorem v_B_addAddress {E : mE} (t0 : Option Nat) (t1 : Option Nat) (i2 : Int32) (M : mM) : mVr E mi_B_addAddress 0 0 [some (.inr t0), some (.inr t1), some (.inl i2), none] [] M enU (q_B_addAddress t0 t1 i2 M) := by
  unfold q_B_addAddress
  refine m_aload_n (d_B_addAddress (k := 0) rfl) rfl ?_
  refine m_getI (d_B_addAddress (k := 1) rfl) fl_B_21 rfl (fun x1 => ?_)
  refine m_aload_n (d_B_addAddress (k := 2) rfl) rfl ?_
  refine m_slen (d_B_addAddress (k := 3) rfl) (fun x2 => ?_)
  refine m_iadd (d_B_addAddress (k := 4) rfl) ?_
  refine m_aload_n (d_B_addAddress (k := 5) rfl) rfl ?_
  refine m_getR (d_B_addAddress (k := 6) rfl) fl_B_15 rfl (fun a3 => ?_)
  refine m_alen (t := 0) (d_B_addAddress (k := 7) rfl) rfl (fun x4 => ?_)
  refine m_icmp_lt (tgt := 16) (d_B_addAddress (k := 8) rfl) rfl ?_ ?_
  · refine m_iconst (v := 0) (d_B_addAddress (k := 10) rfl) (by decide) ?_
    refine m_ist_n (ls' := [some (.inr t0), some (.inr t1), some (.inl i2), some (.inl (0 : Int32))]) (d_B_addAddress (k := 11) rfl) (by decide) rfl ?_
    exact m_drop (mles_s (mles_s (mles_s (mles_s mles_0)))) (v_B_addAddress_18 mFU t0 t1 i2 (0 : Int32) M)
  · exact m_vret (d_B_addAddress (k := 9) rfl) rfl
theorem s_B_addAddress {E : mE} (t0 : Option Nat) (t1 : Option Nat) (i2 : Int32) (M : mM) : mSnd E mi_B_addAddress 0 [.inr t0, .inr t1, .inl i2] M enU (q_B_addAddress t0 t1 i2 M) := m_entryU (by decide) (Nat.le_of_ble_eq_true rfl) rfl (m_drop (mles_s (mles_s (mles_s (mles_e mles_0)))) (v_B_addAddress t0 t1 i2 M))
def dt_T_qualityOf : List (Nat × Instr × Nat) := [(0, .iload_n 1, 1), (1, .invokestatic 22, 3), (4, .ifCond .eq 24, 3), (7, .iload_n 2, 1), (8, .invokestatic 22, 3), (11, .ifCond .eq 17, 3), (14, .aload_n 0, 1), (15, .getfield 15, 3), (18, .bipush 6, 2), (20, .iload_n 1, 1), (21, .imul, 1), (22, .iload_n 2, 1), (23, .iadd, 1), (24, .iaload, 1), (25, .goto 4, 3), (28, .iconst 0, 1), (29, .ireturn, 1)]
theorem dx_T_qualityOf : ∀ p ∈ dt_T_qualityOf, decode prog_7_method_2_code p.1 = .ok p.2 := by decide +kernel
theorem d_T_qualityOf {k pc : Nat} {i : Instr} {n : Nat} (h : dt_T_qualityOf[k]? = some (pc, i, n)) : decode mi_T_qualityOf.2.1 pc = .ok (i, n) := dx_T_qualityOf (pc, i, n) (List.mem_of_getElem? h)
def q_T_qualityOf (t0 : Option Nat) (i1 : Int32) (i2 : Int32) (M : mM) : Option (Int32 × mM) :=
    x_cl (q_C_isStation i1 M) fun x1 M =>
    if x1 = 0 then
      some ((0 : Int32), M)
    else
      x_cl (q_C_isStation i2 M) fun x2 M =>
      if x2 = 0 then
        some ((0 : Int32), M)
      else
        x_gR M 5 t0 1 fun a3 =>
        x_aI M 0 a3 (((6 : Int32) * i1) + i2) fun x4 =>
        some (x4, M)
set_option maxRecDepth 20000 in
theorem v_T_qualityOf {E : mE} (t0 : Option Nat) (i1 : Int32) (i2 : Int32) (M : mM) : mVr E mi_T_qualityOf 1 0 [some (.inr t0), some (.inl i1), some (.inl i2)] [] M enI (q_T_qualityOf t0 i1 i2 M) := by
  unfold q_T_qualityOf
  refine m_iload_n (d_T_qualityOf (k := 0) rfl) rfl ?_
  refine m_nsI (vs := [.inl i1]) (st := []) (d_T_qualityOf (k := 1) rfl) (s_C_isStation i1 M) cd_C_isStation mn_T_22 sa_C_isStation (by decide) rfl (Nat.le_of_ble_eq_true rfl) (fun x1 M => ?_)
  refine m_if_eq (tgt := 28) (d_T_qualityOf (k := 2) rfl) rfl ?_ ?_
  · refine m_iconst (v := 0) (d_T_qualityOf (k := 15) rfl) (by decide) ?_
    exact m_iret (d_T_qualityOf (k := 16) rfl) rfl
  · refine m_iload_n (d_T_qualityOf (k := 3) rfl) rfl ?_
    refine m_nsI (vs := [.inl i2]) (st := []) (d_T_qualityOf (k := 4) rfl) (s_C_isStation i2 M) cd_C_isStation mn_T_22 sa_C_isStation (by decide) rfl (Nat.le_of_ble_eq_true rfl) (fun x2 M => ?_)
    refine m_if_eq (tgt := 28) (d_T_qualityOf (k := 5) rfl) rfl ?_ ?_
    · refine m_iconst (v := 0) (d_T_qualityOf (k := 15) rfl) (by decide) ?_
      exact m_iret (d_T_qualityOf (k := 16) rfl) rfl
    · refine m_aload_n (d_T_qualityOf (k := 6) rfl) rfl ?_
      refine m_getR (d_T_qualityOf (k := 7) rfl) fl_T_15 rfl (fun a3 => ?_)
      refine m_bipush (v := 6) (d_T_qualityOf (k := 8) rfl) (by decide) ?_
      refine m_iload_n (d_T_qualityOf (k := 9) rfl) rfl ?_
      refine m_imul (d_T_qualityOf (k := 10) rfl) ?_
      refine m_iload_n (d_T_qualityOf (k := 11) rfl) rfl ?_
      refine m_iadd (d_T_qualityOf (k := 12) rfl) ?_
      refine m_iald (d_T_qualityOf (k := 13) rfl) (fun x4 => ?_)
      refine m_goto (tgt := 29) (d_T_qualityOf (k := 14) rfl) rfl ?_
      exact m_iret (d_T_qualityOf (k := 16) rfl) rfl
theorem s_T_qualityOf {E : mE} (t0 : Option Nat) (i1 : Int32) (i2 : Int32) (M : mM) : mSnd E mi_T_qualityOf 1 [.inr t0, .inl i1, .inl i2] M enI (q_T_qualityOf t0 i1 i2 M) := m_entryI (by decide) (Nat.le_of_ble_eq_true rfl) rfl (m_drop (mles_s (mles_s (mles_s mles_0))) (v_T_qualityOf t0 i1 i2 M))
def dt_T_bestTo : List (Nat × Instr × Nat) := [(0, .iconst (-1), 1), (1, .istore_n 2, 1), (2, .bipush 9, 2), (4, .istore_n 3, 1), (5, .iconst 0, 1), (6, .istore 4, 2), (8, .iload 4, 2), (10, .bipush 6, 2), (12, .if_icmp .ge 31, 3), (15, .aload_n 0, 1), (16, .iload_n 1, 1), (17, .iload 4, 2), (19, .invokevirtual 26, 3), (22, .iload_n 3, 1), (23, .if_icmp .le 14, 3), (26, .iload 4, 2), (28, .istore_n 2, 1), (29, .aload_n 0, 1), (30, .iload_n 1, 1), (31, .iload 4, 2), (33, .invokevirtual 26, 3), (36, .istore_n 3, 1), (37, .iinc 4 1, 3), (40, .goto (-32), 3), (43, .iload_n 2, 1), (44, .ireturn, 1)]
theorem dx_T_bestTo : ∀ p ∈ dt_T_bestTo, decode prog_7_method_5_code p.1 = .ok p.2 := by decide +kernel
theorem d_T_bestTo {k pc : Nat} {i : Instr} {n : Nat} (h : dt_T_bestTo[k]? = some (pc, i, n)) : decode mi_T_bestTo.2.1 pc = .ok (i, n) := dx_T_bestTo (pc, i, n) (List.mem_of_getElem? h)
def q_T_bestTo_37 (r8 : Option Nat → Int32 → Int32 → Int32 → Int32 → mM → Option (Int32 × mM)) (t0 : Option Nat) (i1 : Int32) (i2 : Int32) (i3 : Int32) (i4 : Int32) (M : mM) : Option (Int32 × mM) :=
    r8 t0 i1 i2 i3 (i4 + 1) M
set_option maxRecDepth 20000 in
theorem v_T_bestTo_37 {E : mE} (r8 : Option Nat → Int32 → Int32 → Int32 → Int32 → mM → Option (Int32 × mM)) (h8 : ∀ (t0 : Option Nat) (i1 : Int32) (i2 : Int32) (i3 : Int32) (i4 : Int32) (M : mM), mVr E mi_T_bestTo 2 8 [some (.inr t0), some (.inl i1), some (.inl i2), some (.inl i3), some (.inl i4)] [] M enI (r8 t0 i1 i2 i3 i4 M)) (t0 : Option Nat) (i1 : Int32) (i2 : Int32) (i3 : Int32) (i4 : Int32) (M : mM) : mVr E mi_T_bestTo 2 37 [some (.inr t0), some (.inl i1), some (.inl i2), some (.inl i3), some (.inl i4)] [] M enI (q_T_bestTo_37 r8 t0 i1 i2 i3 i4 M) := by
  unfold q_T_bestTo_37
  refine m_inc (v := 1) (ls' := [some (.inr t0), some (.inl i1), some (.inl i2), some (.inl i3), some (.inl (i4 + 1))]) (d_T_bestTo (k := 22) rfl) rfl (by decide) (by decide) rfl ?_
  refine m_goto (tgt := 8) (d_T_bestTo (k := 23) rfl) rfl ?_
  exact m_drop (mles_s (mles_s (mles_s (mles_s (mles_s mles_0))))) (h8 t0 i1 i2 i3 (i4 + 1) M)
def q_T_bestTo_8_b (r8 : Option Nat → Int32 → Int32 → Int32 → Int32 → mM → Option (Int32 × mM)) (t0 : Option Nat) (i1 : Int32) (i2 : Int32) (i3 : Int32) (i4 : Int32) (M : mM) : Option (Int32 × mM) :=
    if i4 < (6 : Int32) then
      x_cv M 5 t0 (q_T_qualityOf t0 i1 i4 M) fun x1 M =>
      if i3 < x1 then
        x_cv M 5 t0 (q_T_qualityOf t0 i1 i4 M) fun x2 M =>
        q_T_bestTo_37 r8 t0 i1 i4 x2 i4 M
      else
        q_T_bestTo_37 r8 t0 i1 i2 i3 i4 M
    else
      some (i2, M)
def q_T_bestTo_8 : Nat → Option Nat → Int32 → Int32 → Int32 → Int32 → mM → Option (Int32 × mM)
  | 0, _, _, _, _, _, _ => none
  | n + 1, t0, i1, i2, i3, i4, M => q_T_bestTo_8_b (q_T_bestTo_8 n) t0 i1 i2 i3 i4 M
set_option maxRecDepth 20000 in
theorem v_T_bestTo_8_b {E : mE} (r8 : Option Nat → Int32 → Int32 → Int32 → Int32 → mM → Option (Int32 × mM)) (h8 : ∀ (t0 : Option Nat) (i1 : Int32) (i2 : Int32) (i3 : Int32) (i4 : Int32) (M : mM), mVr E mi_T_bestTo 2 8 [some (.inr t0), some (.inl i1), some (.inl i2), some (.inl i3), some (.inl i4)] [] M enI (r8 t0 i1 i2 i3 i4 M)) (t0 : Option Nat) (i1 : Int32) (i2 : Int32) (i3 : Int32) (i4 : Int32) (M : mM) : mVr E mi_T_bestTo 2 8 [some (.inr t0), some (.inl i1), some (.inl i2), some (.inl i3), some (.inl i4)] [] M enI (q_T_bestTo_8_b r8 t0 i1 i2 i3 i4 M) := by
  unfold q_T_bestTo_8_b
  refine m_iload (d_T_bestTo (k := 6) rfl) rfl ?_
  refine m_bipush (v := 6) (d_T_bestTo (k := 7) rfl) (by decide) ?_
  refine m_icmp_ge (tgt := 43) (d_T_bestTo (k := 8) rfl) rfl ?_ ?_
  · refine m_aload_n (d_T_bestTo (k := 9) rfl) rfl ?_
    refine m_iload_n (d_T_bestTo (k := 10) rfl) rfl ?_
    refine m_iload (d_T_bestTo (k := 11) rfl) rfl ?_
    refine m_cvI (c := 5) (vs := [.inl i1, .inl i4]) (st := []) (d_T_bestTo (k := 12) rfl) (s_T_qualityOf t0 i1 i4 M) cd_T_qualityOf ml_T_26 im_T_qualityOf se_T_qualityOf rfl (by decide) rfl (Nat.le_of_ble_eq_true rfl) (fun x1 M => ?_)
    refine m_iload_n (d_T_bestTo (k := 13) rfl) rfl ?_
    refine m_icmp_le (tgt := 37) (d_T_bestTo (k := 14) rfl) rfl ?_ ?_
    · refine m_iload (d_T_bestTo (k := 15) rfl) rfl ?_
      refine m_ist_n (ls' := [some (.inr t0), some (.inl i1), some (.inl i4), some (.inl i3), some (.inl i4)]) (d_T_bestTo (k := 16) rfl) (by decide) rfl ?_
      refine m_aload_n (d_T_bestTo (k := 17) rfl) rfl ?_
      refine m_iload_n (d_T_bestTo (k := 18) rfl) rfl ?_
      refine m_iload (d_T_bestTo (k := 19) rfl) rfl ?_
      refine m_cvI (c := 5) (vs := [.inl i1, .inl i4]) (st := []) (d_T_bestTo (k := 20) rfl) (s_T_qualityOf t0 i1 i4 M) cd_T_qualityOf ml_T_26 im_T_qualityOf se_T_qualityOf rfl (by decide) rfl (Nat.le_of_ble_eq_true rfl) (fun x2 M => ?_)
      refine m_ist_n (ls' := [some (.inr t0), some (.inl i1), some (.inl i4), some (.inl x2), some (.inl i4)]) (d_T_bestTo (k := 21) rfl) (by decide) rfl ?_
      exact m_drop (mles_s (mles_s (mles_s (mles_s (mles_s mles_0))))) (v_T_bestTo_37 r8 h8 t0 i1 i4 x2 i4 M)
    · exact m_drop (mles_s (mles_s (mles_s (mles_s (mles_s mles_0))))) (v_T_bestTo_37 r8 h8 t0 i1 i2 i3 i4 M)
  · refine m_iload_n (d_T_bestTo (k := 24) rfl) rfl ?_
    exact m_iret (d_T_bestTo (k := 25) rfl) rfl
theorem v_T_bestTo_8 {E : mE} : ∀ (n : Nat) (t0 : Option Nat) (i1 : Int32) (i2 : Int32) (i3 : Int32) (i4 : Int32) (M : mM), mVr E mi_T_bestTo 2 8 [some (.inr t0), some (.inl i1), some (.inl i2), some (.inl i3), some (.inl i4)] [] M enI (q_T_bestTo_8 n t0 i1 i2 i3 i4 M)
  | 0, _, _, _, _, _, _ => m_none
  | n + 1, t0, i1, i2, i3, i4, M => v_T_bestTo_8_b _ (v_T_bestTo_8 n) t0 i1 i2 i3 i4 M
def q_T_bestTo (t0 : Option Nat) (i1 : Int32) (M : mM) : Option (Int32 × mM) :=
    q_T_bestTo_8 mFU t0 i1 (-1 : Int32) (9 : Int32) (0 : Int32) M
set_option maxRecDepth 20000 in
theorem v_T_bestTo {E : mE} (t0 : Option Nat) (i1 : Int32) (M : mM) : mVr E mi_T_bestTo 2 0 [some (.inr t0), some (.inl i1), none, none, none] [] M enI (q_T_bestTo t0 i1 M) := by
  unfold q_T_bestTo
  refine m_iconst (v := (-1)) (d_T_bestTo (k := 0) rfl) (by decide) ?_
  refine m_ist_n (ls' := [some (.inr t0), some (.inl i1), some (.inl (-1 : Int32)), none, none]) (d_T_bestTo (k := 1) rfl) (by decide) rfl ?_
  refine m_bipush (v := 9) (d_T_bestTo (k := 2) rfl) (by decide) ?_
  refine m_ist_n (ls' := [some (.inr t0), some (.inl i1), some (.inl (-1 : Int32)), some (.inl (9 : Int32)), none]) (d_T_bestTo (k := 3) rfl) (by decide) rfl ?_
  refine m_iconst (v := 0) (d_T_bestTo (k := 4) rfl) (by decide) ?_
  refine m_ist (ls' := [some (.inr t0), some (.inl i1), some (.inl (-1 : Int32)), some (.inl (9 : Int32)), some (.inl (0 : Int32))]) (d_T_bestTo (k := 5) rfl) (by decide) rfl ?_
  exact m_drop (mles_s (mles_s (mles_s (mles_s (mles_s mles_0))))) (v_T_bestTo_8 mFU t0 i1 (-1 : Int32) (9 : Int32) (0 : Int32) M)
theorem s_T_bestTo {E : mE} (t0 : Option Nat) (i1 : Int32) (M : mM) : mSnd E mi_T_bestTo 2 [.inr t0, .inl i1] M enI (q_T_bestTo t0 i1 M) := m_entryI (by decide) (Nat.le_of_ble_eq_true rfl) rfl (m_drop (mles_s (mles_s (mles_e (mles_e (mles_e mles_0))))) (v_T_bestTo t0 i1 M))
def dt_T_countBest : List (Nat × Instr × Nat) := [(0, .iconst 0, 1), (1, .istore_n 1, 1), (2, .iconst 0, 1), (3, .istore_n 2, 1), (4, .iload_n 2, 1), (5, .bipush 6, 2), (7, .if_icmp .ge 21, 3), (10, .aload_n 0, 1), (11, .iload_n 2, 1), (12, .invokevirtual 30, 3), (15, .iconst (-1), 1), (16, .if_icmp .eq 6, 3), (19, .iinc 1 1, 3), (22, .iinc 2 1, 3), (25, .goto (-21), 3), (28, .iload_n 1, 1), (29, .ireturn, 1)]
theorem dx_T_countBest : ∀ p ∈ dt_T_countBest, decode prog_7_method_6_code p.1 = .ok p.2 := by decide +kernel
theorem d_T_countBest {k pc : Nat} {i : Instr} {n : Nat} (h : dt_T_countBest[k]? = some (pc, i, n)) : decode mi_T_countBest.2.1 pc = .ok (i, n) := dx_T_countBest (pc, i, n) (List.mem_of_getElem? h)
def q_T_countBest_22 (r4 : Option Nat → Int32 → Int32 → mM → Option (Int32 × mM)) (t0 : Option Nat) (i1 : Int32) (i2 : Int32) (M : mM) : Option (Int32 × mM) :=
    r4 t0 i1 (i2 + 1) M
set_option maxRecDepth 20000 in
theorem v_T_countBest_22 {E : mE} (r4 : Option Nat → Int32 → Int32 → mM → Option (Int32 × mM)) (h4 : ∀ (t0 : Option Nat) (i1 : Int32) (i2 : Int32) (M : mM), mVr E mi_T_countBest 3 4 [some (.inr t0), some (.inl i1), some (.inl i2)] [] M enI (r4 t0 i1 i2 M)) (t0 : Option Nat) (i1 : Int32) (i2 : Int32) (M : mM) : mVr E mi_T_countBest 3 22 [some (.inr t0), some (.inl i1), some (.inl i2)] [] M enI (q_T_countBest_22 r4 t0 i1 i2 M) := by
  unfold q_T_countBest_22
  refine m_inc (v := 1) (ls' := [some (.inr t0), some (.inl i1), some (.inl (i2 + 1))]) (d_T_countBest (k := 13) rfl) rfl (by decide) (by decide) rfl ?_
  refine m_goto (tgt := 4) (d_T_countBest (k := 14) rfl) rfl ?_
  exact m_drop (mles_s (mles_s (mles_s mles_0))) (h4 t0 i1 (i2 + 1) M)
def q_T_countBest_4_b (r4 : Option Nat → Int32 → Int32 → mM → Option (Int32 × mM)) (t0 : Option Nat) (i1 : Int32) (i2 : Int32) (M : mM) : Option (Int32 × mM) :=
    if i2 < (6 : Int32) then
      x_cv M 5 t0 (q_T_bestTo t0 i2 M) fun x1 M =>
      if x1 = (-1 : Int32) then
        q_T_countBest_22 r4 t0 i1 i2 M
      else
        q_T_countBest_22 r4 t0 (i1 + 1) i2 M
    else
      some (i1, M)
def q_T_countBest_4 : Nat → Option Nat → Int32 → Int32 → mM → Option (Int32 × mM)
  | 0, _, _, _, _ => none
  | n + 1, t0, i1, i2, M => q_T_countBest_4_b (q_T_countBest_4 n) t0 i1 i2 M
set_option maxRecDepth 20000 in
theorem v_T_countBest_4_b {E : mE} (r4 : Option Nat → Int32 → Int32 → mM → Option (Int32 × mM)) (h4 : ∀ (t0 : Option Nat) (i1 : Int32) (i2 : Int32) (M : mM), mVr E mi_T_countBest 3 4 [some (.inr t0), some (.inl i1), some (.inl i2)] [] M enI (r4 t0 i1 i2 M)) (t0 : Option Nat) (i1 : Int32) (i2 : Int32) (M : mM) : mVr E mi_T_countBest 3 4 [some (.inr t0), some (.inl i1), some (.inl i2)] [] M enI (q_T_countBest_4_b r4 t0 i1 i2 M) := by
  unfold q_T_countBest_4_b
  refine m_iload_n (d_T_countBest (k := 4) rfl) rfl ?_
  refine m_bipush (v := 6) (d_T_countBest (k := 5) rfl) (by decide) ?_
  refine m_icmp_ge (tgt := 28) (d_T_countBest (k := 6) rfl) rfl ?_ ?_
  · refine m_aload_n (d_T_countBest (k := 7) rfl) rfl ?_
    refine m_iload_n (d_T_countBest (k := 8) rfl) rfl ?_
    refine m_cvI (c := 5) (vs := [.inl i2]) (st := []) (d_T_countBest (k := 9) rfl) (s_T_bestTo t0 i2 M) cd_T_bestTo ml_T_30 im_T_bestTo se_T_bestTo rfl (by decide) rfl (Nat.le_of_ble_eq_true rfl) (fun x1 M => ?_)
    refine m_iconst (v := (-1)) (d_T_countBest (k := 10) rfl) (by decide) ?_
    refine m_icmp_eq (tgt := 22) (d_T_countBest (k := 11) rfl) rfl ?_ ?_
    · exact m_drop (mles_s (mles_s (mles_s mles_0))) (v_T_countBest_22 r4 h4 t0 i1 i2 M)
    · refine m_inc (v := 1) (ls' := [some (.inr t0), some (.inl (i1 + 1)), some (.inl i2)]) (d_T_countBest (k := 12) rfl) rfl (by decide) (by decide) rfl ?_
      exact m_drop (mles_s (mles_s (mles_s mles_0))) (v_T_countBest_22 r4 h4 t0 (i1 + 1) i2 M)
  · refine m_iload_n (d_T_countBest (k := 15) rfl) rfl ?_
    exact m_iret (d_T_countBest (k := 16) rfl) rfl
theorem v_T_countBest_4 {E : mE} : ∀ (n : Nat) (t0 : Option Nat) (i1 : Int32) (i2 : Int32) (M : mM), mVr E mi_T_countBest 3 4 [some (.inr t0), some (.inl i1), some (.inl i2)] [] M enI (q_T_countBest_4 n t0 i1 i2 M)
  | 0, _, _, _, _ => m_none
  | n + 1, t0, i1, i2, M => v_T_countBest_4_b _ (v_T_countBest_4 n) t0 i1 i2 M
def q_T_countBest (t0 : Option Nat) (M : mM) : Option (Int32 × mM) :=
    q_T_countBest_4 mFU t0 (0 : Int32) (0 : Int32) M
set_option maxRecDepth 20000 in
theorem v_T_countBest {E : mE} (t0 : Option Nat) (M : mM) : mVr E mi_T_countBest 3 0 [some (.inr t0), none, none] [] M enI (q_T_countBest t0 M) := by
  unfold q_T_countBest
  refine m_iconst (v := 0) (d_T_countBest (k := 0) rfl) (by decide) ?_
  refine m_ist_n (ls' := [some (.inr t0), some (.inl (0 : Int32)), none]) (d_T_countBest (k := 1) rfl) (by decide) rfl ?_
  refine m_iconst (v := 0) (d_T_countBest (k := 2) rfl) (by decide) ?_
  refine m_ist_n (ls' := [some (.inr t0), some (.inl (0 : Int32)), some (.inl (0 : Int32))]) (d_T_countBest (k := 3) rfl) (by decide) rfl ?_
  exact m_drop (mles_s (mles_s (mles_s mles_0))) (v_T_countBest_4 mFU t0 (0 : Int32) (0 : Int32) M)
theorem s_T_countBest {E : mE} (t0 : Option Nat) (M : mM) : mSnd E mi_T_countBest 3 [.inr t0] M enI (q_T_countBest t0 M) := m_entryI (by decide) (Nat.le_of_ble_eq_true rfl) rfl (m_drop (mles_s (mles_e (mles_e mles_0))) (v_T_countBest t0 M))
def dt_T_growOld : List (Nat × Instr × Nat) := [(0, .iconst 0, 1), (1, .istore_n 1, 1), (2, .iload_n 1, 1), (3, .aload_n 0, 1), (4, .getfield 15, 3), (7, .arraylength, 1), (8, .if_icmp .ge 53, 3), (11, .iload_n 1, 1), (12, .aload_n 0, 1), (13, .getfield 19, 3), (16, .arraylength, 1), (17, .if_icmp .ge 44, 3), (20, .aload_n 0, 1), (21, .getfield 15, 3), (24, .iload_n 1, 1), (25, .iaload, 1), (26, .ifCond .le 29, 3), (29, .aload_n 0, 1), (30, .getfield 19, 3), (33, .iload_n 1, 1), (34, .dup2, 1), (35, .iaload, 1), (36, .iconst 1, 1), (37, .isub, 1), (38, .iastore, 1), (39, .aload_n 0, 1), (40, .getfield 19, 3), (43, .iload_n 1, 1), (44, .iaload, 1), (45, .ifCond .ne 10, 3), (48, .aload_n 0, 1), (49, .getfield 15, 3), (52, .iload_n 1, 1), (53, .iconst 0, 1), (54, .iastore, 1), (55, .iinc 1 1, 3), (58, .goto (-56), 3), (61, .return_, 1)]
theorem dx_T_growOld : ∀ p ∈ dt_T_growOld, decode prog_7_method_7_code p.1 = .ok p.2 := by decide +kernel
theorem d_T_growOld {k pc : Nat} {i : Instr} {n : Nat} (h : dt_T_growOld[k]? = some (pc, i, n)) : decode mi_T_growOld.2.1 pc = .ok (i, n) := dx_T_growOld (pc, i, n) (List.mem_of_getElem? h)
def q_T_growOld_55 (r2 : Option Nat → Int32 → mM → Option (Unit × mM)) (t0 : Option Nat) (i1 : Int32) (M : mM) : Option (Unit × mM) :=
    r2 t0 (i1 + 1) M
set_option maxRecDepth 20000 in
theorem v_T_growOld_55 {E : mE} (r2 : Option Nat → Int32 → mM → Option (Unit × mM)) (h2 : ∀ (t0 : Option Nat) (i1 : Int32) (M : mM), mVr E mi_T_growOld 0 2 [some (.inr t0), some (.inl i1)] [] M enU (r2 t0 i1 M)) (t0 : Option Nat) (i1 : Int32) (M : mM) : mVr E mi_T_growOld 0 55 [some (.inr t0), some (.inl i1)] [] M enU (q_T_growOld_55 r2 t0 i1 M) := by
  unfold q_T_growOld_55
  refine m_inc (v := 1) (ls' := [some (.inr t0), some (.inl (i1 + 1))]) (d_T_growOld (k := 35) rfl) rfl (by decide) (by decide) rfl ?_
  refine m_goto (tgt := 2) (d_T_growOld (k := 36) rfl) rfl ?_
  exact m_drop (mles_s (mles_s mles_0)) (h2 t0 (i1 + 1) M)
def q_T_growOld_2_b (r2 : Option Nat → Int32 → mM → Option (Unit × mM)) (t0 : Option Nat) (i1 : Int32) (M : mM) : Option (Unit × mM) :=
    x_gR M 5 t0 1 fun a1 =>
    x_al M 0 a1 fun x2 =>
    if i1 < x2 then
      x_gR M 5 t0 2 fun a3 =>
      x_al M 0 a3 fun x4 =>
      if i1 < x4 then
        x_gR M 5 t0 1 fun a5 =>
        x_aI M 0 a5 i1 fun x6 =>
        if 0 < x6 then
          x_gR M 5 t0 2 fun a7 =>
          x_aI M 0 a7 i1 fun x8 =>
          x_wI M a7 i1 (x8 - (1 : Int32)) fun M =>
          x_gR M 5 t0 2 fun a9 =>
          x_aI M 0 a9 i1 fun x10 =>
          if x10 = 0 then
            x_gR M 5 t0 1 fun a11 =>
            x_wI M a11 i1 (0 : Int32) fun M =>
            q_T_growOld_55 r2 t0 i1 M
          else
            q_T_growOld_55 r2 t0 i1 M
        else
          q_T_growOld_55 r2 t0 i1 M
      else
        some ((), M)
    else
      some ((), M)
def q_T_growOld_2 : Nat → Option Nat → Int32 → mM → Option (Unit × mM)
  | 0, _, _, _ => none
  | n + 1, t0, i1, M => q_T_growOld_2_b (q_T_growOld_2 n) t0 i1 M
set_option maxRecDepth 20000 in
theorem v_T_growOld_2_b {E : mE} (r2 : Option Nat → Int32 → mM → Option (Unit × mM)) (h2 : ∀ (t0 : Option Nat) (i1 : Int32) (M : mM), mVr E mi_T_growOld 0 2 [some (.inr t0), some (.inl i1)] [] M enU (r2 t0 i1 M)) (t0 : Option Nat) (i1 : Int32) (M : mM) : mVr E mi_T_growOld 0 2 [some (.inr t0), some (.inl i1)] [] M enU (q_T_growOld_2_b r2 t0 i1 M) := by
  unfold q_T_growOld_2_b
  refine m_iload_n (d_T_growOld (k := 2) rfl) rfl ?_
  refine m_aload_n (d_T_growOld (k := 3) rfl) rfl ?_
  refine m_getR (d_T_growOld (k := 4) rfl) fl_T_15 rfl (fun a1 => ?_)
  refine m_alen (t := 0) (d_T_growOld (k := 5) rfl) rfl (fun x2 => ?_)
  refine m_icmp_ge (tgt := 61) (d_T_growOld (k := 6) rfl) rfl ?_ ?_
  · refine m_iload_n (d_T_growOld (k := 7) rfl) rfl ?_
    refine m_aload_n (d_T_growOld (k := 8) rfl) rfl ?_
    refine m_getR (d_T_growOld (k := 9) rfl) fl_T_19 rfl (fun a3 => ?_)
    refine m_alen (t := 0) (d_T_growOld (k := 10) rfl) rfl (fun x4 => ?_)
    refine m_icmp_ge (tgt := 61) (d_T_growOld (k := 11) rfl) rfl ?_ ?_
    · refine m_aload_n (d_T_growOld (k := 12) rfl) rfl ?_
      refine m_getR (d_T_growOld (k := 13) rfl) fl_T_15 rfl (fun a5 => ?_)
      refine m_iload_n (d_T_growOld (k := 14) rfl) rfl ?_
      refine m_iald (d_T_growOld (k := 15) rfl) (fun x6 => ?_)
      refine m_if_le (tgt := 55) (d_T_growOld (k := 16) rfl) rfl ?_ ?_
      · refine m_aload_n (d_T_growOld (k := 17) rfl) rfl ?_
        refine m_getR (d_T_growOld (k := 18) rfl) fl_T_19 rfl (fun a7 => ?_)
        refine m_iload_n (d_T_growOld (k := 19) rfl) rfl ?_
        refine m_dup2 (d_T_growOld (k := 20) rfl) ?_
        refine m_iald (d_T_growOld (k := 21) rfl) (fun x8 => ?_)
        refine m_iconst (v := 1) (d_T_growOld (k := 22) rfl) (by decide) ?_
        refine m_isub (d_T_growOld (k := 23) rfl) ?_
        refine m_iast (d_T_growOld (k := 24) rfl) (fun M => ?_)
        refine m_aload_n (d_T_growOld (k := 25) rfl) rfl ?_
        refine m_getR (d_T_growOld (k := 26) rfl) fl_T_19 rfl (fun a9 => ?_)
        refine m_iload_n (d_T_growOld (k := 27) rfl) rfl ?_
        refine m_iald (d_T_growOld (k := 28) rfl) (fun x10 => ?_)
        refine m_if_ne (tgt := 55) (d_T_growOld (k := 29) rfl) rfl ?_ ?_
        · refine m_aload_n (d_T_growOld (k := 30) rfl) rfl ?_
          refine m_getR (d_T_growOld (k := 31) rfl) fl_T_15 rfl (fun a11 => ?_)
          refine m_iload_n (d_T_growOld (k := 32) rfl) rfl ?_
          refine m_iconst (v := 0) (d_T_growOld (k := 33) rfl) (by decide) ?_
          refine m_iast (d_T_growOld (k := 34) rfl) (fun M => ?_)
          exact m_drop (mles_s (mles_s mles_0)) (v_T_growOld_55 r2 h2 t0 i1 M)
        · exact m_drop (mles_s (mles_s mles_0)) (v_T_growOld_55 r2 h2 t0 i1 M)
      · exact m_drop (mles_s (mles_s mles_0)) (v_T_growOld_55 r2 h2 t0 i1 M)
    · exact m_vret (d_T_growOld (k := 37) rfl) rfl
  · exact m_vret (d_T_growOld (k := 37) rfl) rfl
theorem v_T_growOld_2 {E : mE} : ∀ (n : Nat) (t0 : Option Nat) (i1 : Int32) (M : mM), mVr E mi_T_growOld 0 2 [some (.inr t0), some (.inl i1)] [] M enU (q_T_growOld_2 n t0 i1 M)
  | 0, _, _, _ => m_none
  | n + 1, t0, i1, M => v_T_growOld_2_b _ (v_T_growOld_2 n) t0 i1 M
def q_T_growOld (t0 : Option Nat) (M : mM) : Option (Unit × mM) :=
    q_T_growOld_2 mFU t0 (0 : Int32) M
set_option maxRecDepth 20000 in
theorem v_T_growOld {E : mE} (t0 : Option Nat) (M : mM) : mVr E mi_T_growOld 0 0 [some (.inr t0), none] [] M enU (q_T_growOld t0 M) := by
  unfold q_T_growOld
  refine m_iconst (v := 0) (d_T_growOld (k := 0) rfl) (by decide) ?_
  refine m_ist_n (ls' := [some (.inr t0), some (.inl (0 : Int32))]) (d_T_growOld (k := 1) rfl) (by decide) rfl ?_
  exact m_drop (mles_s (mles_s mles_0)) (v_T_growOld_2 mFU t0 (0 : Int32) M)
theorem s_T_growOld {E : mE} (t0 : Option Nat) (M : mM) : mSnd E mi_T_growOld 0 [.inr t0] M enU (q_T_growOld t0 M) := m_entryU (by decide) (Nat.le_of_ble_eq_true rfl) rfl (m_drop (mles_s (mles_e mles_0)) (v_T_growOld t0 M))
def dt_T_tell : List (Nat × Instr × Nat) := [(0, .iconst 0, 1), (1, .istore_n 2, 1), (2, .iload_n 2, 1), (3, .bipush 6, 2), (5, .if_icmp .ge 40, 3), (8, .aload_n 0, 1), (9, .iload_n 2, 1), (10, .invokevirtual 30, 3), (13, .istore_n 3, 1), (14, .iload_n 3, 1), (15, .iconst (-1), 1), (16, .if_icmp .eq 23, 3), (19, .aload_n 1, 1), (20, .iload_n 2, 1), (21, .invokevirtual 34, 3), (24, .aload_n 1, 1), (25, .iload_n 3, 1), (26, .invokevirtual 34, 3), (29, .aload_n 1, 1), (30, .aload_n 0, 1), (31, .iload_n 2, 1), (32, .iload_n 3, 1), (33, .invokevirtual 26, 3), (36, .invokevirtual 34, 3), (39, .iinc 2 1, 3), (42, .goto (-40), 3), (45, .return_, 1)]
theorem dx_T_tell : ∀ p ∈ dt_T_tell, decode prog_7_method_8_code p.1 = .ok p.2 := by decide +kernel
theorem d_T_tell {k pc : Nat} {i : Instr} {n : Nat} (h : dt_T_tell[k]? = some (pc, i, n)) : decode mi_T_tell.2.1 pc = .ok (i, n) := dx_T_tell (pc, i, n) (List.mem_of_getElem? h)
def q_T_tell_39 (r2 : Option Nat → Option Nat → Int32 → mM → Option (Unit × mM)) (t0 : Option Nat) (t1 : Option Nat) (i2 : Int32) (M : mM) : Option (Unit × mM) :=
    r2 t0 t1 (i2 + 1) M
set_option maxRecDepth 20000 in
theorem v_T_tell_39 {E : mE} (r2 : Option Nat → Option Nat → Int32 → mM → Option (Unit × mM)) (h2 : ∀ (t0 : Option Nat) (t1 : Option Nat) (i2 : Int32) (M : mM), mVr E mi_T_tell 3 2 [some (.inr t0), some (.inr t1), some (.inl i2), none] [] M enU (r2 t0 t1 i2 M)) (t0 : Option Nat) (t1 : Option Nat) (i2 : Int32) (M : mM) : mVr E mi_T_tell 3 39 [some (.inr t0), some (.inr t1), some (.inl i2), none] [] M enU (q_T_tell_39 r2 t0 t1 i2 M) := by
  unfold q_T_tell_39
  refine m_inc (v := 1) (ls' := [some (.inr t0), some (.inr t1), some (.inl (i2 + 1)), none]) (d_T_tell (k := 24) rfl) rfl (by decide) (by decide) rfl ?_
  refine m_goto (tgt := 2) (d_T_tell (k := 25) rfl) rfl ?_
  exact m_drop (mles_s (mles_s (mles_s (mles_n mles_0)))) (h2 t0 t1 (i2 + 1) M)
def q_T_tell_2_b (r2 : Option Nat → Option Nat → Int32 → mM → Option (Unit × mM)) (t0 : Option Nat) (t1 : Option Nat) (i2 : Int32) (M : mM) : Option (Unit × mM) :=
    if i2 < (6 : Int32) then
      x_cv M 5 t0 (q_T_bestTo t0 i2 M) fun x1 M =>
      if x1 = (-1 : Int32) then
        q_T_tell_39 r2 t0 t1 i2 M
      else
        x_cv M 0 t1 (q_B_add t1 i2 M) fun _ M =>
        x_cv M 0 t1 (q_B_add t1 x1 M) fun _ M =>
        x_cv M 5 t0 (q_T_qualityOf t0 i2 x1 M) fun x2 M =>
        x_cv M 0 t1 (q_B_add t1 x2 M) fun _ M =>
        q_T_tell_39 r2 t0 t1 i2 M
    else
      some ((), M)
def q_T_tell_2 : Nat → Option Nat → Option Nat → Int32 → mM → Option (Unit × mM)
  | 0, _, _, _, _ => none
  | n + 1, t0, t1, i2, M => q_T_tell_2_b (q_T_tell_2 n) t0 t1 i2 M
set_option maxRecDepth 20000 in
theorem v_T_tell_2_b {E : mE} (r2 : Option Nat → Option Nat → Int32 → mM → Option (Unit × mM)) (h2 : ∀ (t0 : Option Nat) (t1 : Option Nat) (i2 : Int32) (M : mM), mVr E mi_T_tell 3 2 [some (.inr t0), some (.inr t1), some (.inl i2), none] [] M enU (r2 t0 t1 i2 M)) (t0 : Option Nat) (t1 : Option Nat) (i2 : Int32) (M : mM) : mVr E mi_T_tell 3 2 [some (.inr t0), some (.inr t1), some (.inl i2), none] [] M enU (q_T_tell_2_b r2 t0 t1 i2 M) := by
  unfold q_T_tell_2_b
  refine m_iload_n (d_T_tell (k := 2) rfl) rfl ?_
  refine m_bipush (v := 6) (d_T_tell (k := 3) rfl) (by decide) ?_
  refine m_icmp_ge (tgt := 45) (d_T_tell (k := 4) rfl) rfl ?_ ?_
  · refine m_aload_n (d_T_tell (k := 5) rfl) rfl ?_
    refine m_iload_n (d_T_tell (k := 6) rfl) rfl ?_
    refine m_cvI (c := 5) (vs := [.inl i2]) (st := []) (d_T_tell (k := 7) rfl) (s_T_bestTo t0 i2 M) cd_T_bestTo ml_T_30 im_T_bestTo se_T_bestTo rfl (by decide) rfl (Nat.le_of_ble_eq_true rfl) (fun x1 M => ?_)
    refine m_ist_n (ls' := [some (.inr t0), some (.inr t1), some (.inl i2), some (.inl x1)]) (d_T_tell (k := 8) rfl) (by decide) rfl ?_
    refine m_iload_n (d_T_tell (k := 9) rfl) rfl ?_
    refine m_iconst (v := (-1)) (d_T_tell (k := 10) rfl) (by decide) ?_
    refine m_icmp_eq (tgt := 39) (d_T_tell (k := 11) rfl) rfl ?_ ?_
    · exact m_drop (mles_s (mles_s (mles_s (mles_n mles_0)))) (v_T_tell_39 r2 h2 t0 t1 i2 M)
    · refine m_aload_n (d_T_tell (k := 12) rfl) rfl ?_
      refine m_iload_n (d_T_tell (k := 13) rfl) rfl ?_
      refine m_cvU (c := 0) (vs := [.inl i2]) (st := []) (d_T_tell (k := 14) rfl) (s_B_add t1 i2 M) cd_B_add ml_T_34 im_B_add se_B_add rfl (by decide) rfl (Nat.le_of_ble_eq_true rfl) (fun _ M => ?_)
      refine m_aload_n (d_T_tell (k := 15) rfl) rfl ?_
      refine m_iload_n (d_T_tell (k := 16) rfl) rfl ?_
      refine m_cvU (c := 0) (vs := [.inl x1]) (st := []) (d_T_tell (k := 17) rfl) (s_B_add t1 x1 M) cd_B_add ml_T_34 im_B_add se_B_add rfl (by decide) rfl (Nat.le_of_ble_eq_true rfl) (fun _ M => ?_)
      refine m_aload_n (d_T_tell (k := 18) rfl) rfl ?_
      refine m_aload_n (d_T_tell (k := 19) rfl) rfl ?_
      refine m_iload_n (d_T_tell (k := 20) rfl) rfl ?_
      refine m_iload_n (d_T_tell (k := 21) rfl) rfl ?_
      refine m_cvI (c := 5) (vs := [.inl i2, .inl x1]) (st := [.inr t1]) (d_T_tell (k := 22) rfl) (s_T_qualityOf t0 i2 x1 M) cd_T_qualityOf ml_T_26 im_T_qualityOf se_T_qualityOf rfl (by decide) rfl (Nat.le_of_ble_eq_true rfl) (fun x2 M => ?_)
      refine m_cvU (c := 0) (vs := [.inl x2]) (st := []) (d_T_tell (k := 23) rfl) (s_B_add t1 x2 M) cd_B_add ml_T_34 im_B_add se_B_add rfl (by decide) rfl (Nat.le_of_ble_eq_true rfl) (fun _ M => ?_)
      exact m_drop (mles_s (mles_s (mles_s (mles_n mles_0)))) (v_T_tell_39 r2 h2 t0 t1 i2 M)
  · exact m_vret (d_T_tell (k := 26) rfl) rfl
theorem v_T_tell_2 {E : mE} : ∀ (n : Nat) (t0 : Option Nat) (t1 : Option Nat) (i2 : Int32) (M : mM), mVr E mi_T_tell 3 2 [some (.inr t0), some (.inr t1), some (.inl i2), none] [] M enU (q_T_tell_2 n t0 t1 i2 M)
  | 0, _, _, _, _ => m_none
  | n + 1, t0, t1, i2, M => v_T_tell_2_b _ (v_T_tell_2 n) t0 t1 i2 M
def q_T_tell (t0 : Option Nat) (t1 : Option Nat) (M : mM) : Option (Unit × mM) :=
    q_T_tell_2 mFU t0 t1 (0 : Int32) M
set_option maxRecDepth 20000 in
theorem v_T_tell {E : mE} (t0 : Option Nat) (t1 : Option Nat) (M : mM) : mVr E mi_T_tell 3 0 [some (.inr t0), some (.inr t1), none, none] [] M enU (q_T_tell t0 t1 M) := by
  unfold q_T_tell
  refine m_iconst (v := 0) (d_T_tell (k := 0) rfl) (by decide) ?_
  refine m_ist_n (ls' := [some (.inr t0), some (.inr t1), some (.inl (0 : Int32)), none]) (d_T_tell (k := 1) rfl) (by decide) rfl ?_
  exact m_drop (mles_s (mles_s (mles_s (mles_n mles_0)))) (v_T_tell_2 mFU t0 t1 (0 : Int32) M)
theorem s_T_tell {E : mE} (t0 : Option Nat) (t1 : Option Nat) (M : mM) : mSnd E mi_T_tell 3 [.inr t0, .inr t1] M enU (q_T_tell t0 t1 M) := m_entryU (by decide) (Nat.le_of_ble_eq_true rfl) rfl (m_drop (mles_s (mles_s (mles_e (mles_e mles_0)))) (v_T_tell t0 t1 M))
def dt_W_addRow : List (Nat × Instr × Nat) := [(0, .aload_n 0, 1), (1, .getfield 24, 3), (4, .aload_n 0, 1), (5, .getfield 15, 3), (8, .arraylength, 1), (9, .if_icmp .lt 5, 3), (12, .aconst_null, 1), (13, .areturn, 1), (14, .aload_n 0, 1), (15, .getfield 15, 3), (18, .aload_n 0, 1), (19, .getfield 28, 3), (22, .aload_n 0, 1), (23, .getfield 24, 3), (26, .iadd, 1), (27, .aload_n 0, 1), (28, .getfield 15, 3), (31, .arraylength, 1), (32, .irem, 1), (33, .aaload, 1), (34, .astore_n 1, 1), (35, .aload_n 1, 1), (36, .iconst 0, 1), (37, .putfield 31, 3), (40, .aload_n 0, 1), (41, .dup, 1), (42, .getfield 24, 3), (45, .iconst 1, 1), (46, .iadd, 1), (47, .putfield 24, 3), (50, .aload_n 1, 1), (51, .areturn, 1)]
theorem dx_W_addRow : ∀ p ∈ dt_W_addRow, decode prog_8_method_4_code p.1 = .ok p.2 := by decide +kernel
theorem d_W_addRow {k pc : Nat} {i : Instr} {n : Nat} (h : dt_W_addRow[k]? = some (pc, i, n)) : decode mi_W_addRow.2.1 pc = .ok (i, n) := dx_W_addRow (pc, i, n) (List.mem_of_getElem? h)
def q_W_addRow (t0 : Option Nat) (M : mM) : Option (Option Nat × mM) :=
    x_gI M 6 t0 2 fun x1 =>
    x_gR M 6 t0 0 fun a2 =>
    x_al M 2 a2 fun x3 =>
    if x1 < x3 then
      x_gR M 6 t0 0 fun a4 =>
      x_gI M 6 t0 1 fun x5 =>
      x_gI M 6 t0 2 fun x6 =>
      x_gR M 6 t0 0 fun a7 =>
      x_al M 2 a7 fun x8 =>
      x_rm (x5 + x6) x8 fun x9 =>
      x_aR M 0 a4 x9 fun a10 =>
      x_pI M 0 a10 1 (0 : Int32) fun M =>
      x_gI M 6 t0 2 fun x11 =>
      x_pI M 6 t0 2 (x11 + (1 : Int32)) fun M =>
      some (a10, M)
    else
      some (none, M)
set_option maxRecDepth 20000 in
theorem v_W_addRow {E : mE} (t0 : Option Nat) (M : mM) : mVr E mi_W_addRow 0 0 [some (.inr t0), none] [] M enR (q_W_addRow t0 M) := by
  unfold q_W_addRow
  refine m_aload_n (d_W_addRow (k := 0) rfl) rfl ?_
  refine m_getI (d_W_addRow (k := 1) rfl) fl_W_24 rfl (fun x1 => ?_)
  refine m_aload_n (d_W_addRow (k := 2) rfl) rfl ?_
  refine m_getR (d_W_addRow (k := 3) rfl) fl_W_15 rfl (fun a2 => ?_)
  refine m_alen (t := 2) (d_W_addRow (k := 4) rfl) rfl (fun x3 => ?_)
  refine m_icmp_lt (tgt := 14) (d_W_addRow (k := 5) rfl) rfl ?_ ?_
  · refine m_aload_n (d_W_addRow (k := 8) rfl) rfl ?_
    refine m_getR (d_W_addRow (k := 9) rfl) fl_W_15 rfl (fun a4 => ?_)
    refine m_aload_n (d_W_addRow (k := 10) rfl) rfl ?_
    refine m_getI (d_W_addRow (k := 11) rfl) fl_W_28 rfl (fun x5 => ?_)
    refine m_aload_n (d_W_addRow (k := 12) rfl) rfl ?_
    refine m_getI (d_W_addRow (k := 13) rfl) fl_W_24 rfl (fun x6 => ?_)
    refine m_iadd (d_W_addRow (k := 14) rfl) ?_
    refine m_aload_n (d_W_addRow (k := 15) rfl) rfl ?_
    refine m_getR (d_W_addRow (k := 16) rfl) fl_W_15 rfl (fun a7 => ?_)
    refine m_alen (t := 2) (d_W_addRow (k := 17) rfl) rfl (fun x8 => ?_)
    refine m_irem (d_W_addRow (k := 18) rfl) (fun x9 => ?_)
    refine m_aald (t := 0) (d_W_addRow (k := 19) rfl) rfl (fun a10 => ?_)
    refine m_ast_n (ls' := [some (.inr t0), some (.inr a10)]) (d_W_addRow (k := 20) rfl) (by decide) rfl ?_
    refine m_aload_n (d_W_addRow (k := 21) rfl) rfl ?_
    refine m_iconst (v := 0) (d_W_addRow (k := 22) rfl) (by decide) ?_
    refine m_pI (d_W_addRow (k := 23) rfl) fp_W_31 (fun h => absurd h (by decide)) rfl (fun M => ?_)
    refine m_aload_n (d_W_addRow (k := 24) rfl) rfl ?_
    refine m_dup (d_W_addRow (k := 25) rfl) ?_
    refine m_getI (d_W_addRow (k := 26) rfl) fl_W_24 rfl (fun x11 => ?_)
    refine m_iconst (v := 1) (d_W_addRow (k := 27) rfl) (by decide) ?_
    refine m_iadd (d_W_addRow (k := 28) rfl) ?_
    refine m_pI (d_W_addRow (k := 29) rfl) fp_W_24 (fun h => absurd h (by decide)) rfl (fun M => ?_)
    refine m_aload_n (d_W_addRow (k := 30) rfl) rfl ?_
    exact m_aret (d_W_addRow (k := 31) rfl) rfl
  · refine m_null (d_W_addRow (k := 6) rfl) ?_
    exact m_aret (d_W_addRow (k := 7) rfl) rfl
theorem s_W_addRow {E : mE} (t0 : Option Nat) (M : mM) : mSnd E mi_W_addRow 0 [.inr t0] M enR (q_W_addRow t0 M) := m_entryR (by decide) (Nat.le_of_ble_eq_true rfl) rfl (m_drop (mles_s (mles_e mles_0)) (v_W_addRow t0 M))
def dt_C_tellRoutes : List (Nat × Instr × Nat) := [(0, .aload_n 0, 1), (1, .getfield 318, 3), (4, .invokevirtual 518, 3), (7, .aload_n 0, 1), (8, .getfield 124, 3), (11, .invokevirtual 128, 3), (14, .astore_n 1, 1), (15, .aload_n 1, 1), (16, .ifnonnull 21, 3), (19, .aload_n 0, 1), (20, .dup, 1), (21, .getfield 285, 3), (24, .iconst 1, 1), (25, .iadd, 1), (26, .putfield 285, 3), (29, .aload_n 0, 1), (30, .getfield 318, 3), (33, .invokevirtual 521, 3), (36, .ireturn, 1), (37, .aload_n 1, 1), (38, .getstatic 524, 3), (41, .sipush 224, 3), (44, .invokevirtual 492, 3), (47, .aload_n 1, 1), (48, .getstatic 488, 3), (51, .bipush 96, 2), (53, .iconst 2, 1), (54, .aload_n 0, 1), (55, .getfield 368, 3), (58, .imul, 1), (59, .iadd, 1), (60, .iconst 1, 1), (61, .iadd, 1), (62, .invokevirtual 492, 3), (65, .aload_n 1, 1), (66, .iconst 3, 1), (67, .invokevirtual 207, 3), (70, .aload_n 1, 1), (71, .sipush 207, 3), (74, .invokevirtual 207, 3), (77, .aload_n 1, 1), (78, .sipush 255, 3), (81, .invokevirtual 207, 3), (84, .aload_n 0, 1), (85, .getfield 318, 3), (88, .aload_n 1, 1), (89, .invokevirtual 527, 3), (92, .aload_n 0, 1), (93, .getfield 318, 3), (96, .invokevirtual 521, 3), (99, .ireturn, 1)]
theorem dx_C_tellRoutes : ∀ p ∈ dt_C_tellRoutes, decode prog_1_method_61_code p.1 = .ok p.2 := by decide +kernel
theorem d_C_tellRoutes {k pc : Nat} {i : Instr} {n : Nat} (h : dt_C_tellRoutes[k]? = some (pc, i, n)) : decode mi_C_tellRoutes.2.1 pc = .ok (i, n) := dx_C_tellRoutes (pc, i, n) (List.mem_of_getElem? h)
def q_C_tellRoutes (t0 : Option Nat) (M : mM) : Option (Int32 × mM) :=
    x_gR M 8 t0 7 fun a1 =>
    x_cv M 5 a1 (q_T_growOld a1 M) fun _ M =>
    x_gR M 8 t0 4 fun a2 =>
    x_cv M 6 a2 (q_W_addRow a2 M) fun a3 M =>
    x_nl a3 (
      x_gI M 8 t0 17 fun x4 =>
      x_pI M 8 t0 17 (x4 + (1 : Int32)) fun M =>
      x_gR M 8 t0 7 fun a5 =>
      x_cv M 5 a5 (q_T_countBest a5 M) fun x6 M =>
      some (x6, M)
    ) (
      x_cv M 0 a3 (q_B_addAddress a3 (some 4) (224 : Int32) M) fun _ M =>
      x_gI M 8 t0 0 fun x7 =>
      x_cv M 0 a3 (q_B_addAddress a3 (some 3) (((96 : Int32) + ((2 : Int32) * x7)) + (1 : Int32)) M) fun _ M =>
      x_cv M 0 a3 (q_B_add a3 (3 : Int32) M) fun _ M =>
      x_cv M 0 a3 (q_B_add a3 (207 : Int32) M) fun _ M =>
      x_cv M 0 a3 (q_B_add a3 (255 : Int32) M) fun _ M =>
      x_gR M 8 t0 7 fun a8 =>
      x_cv M 5 a8 (q_T_tell a8 a3 M) fun _ M =>
      x_gR M 8 t0 7 fun a9 =>
      x_cv M 5 a9 (q_T_countBest a9 M) fun x10 M =>
      some (x10, M)
    )
set_option maxRecDepth 20000 in
theorem v_C_tellRoutes {E : mE} (t0 : Option Nat) (M : mM) : mVr E mi_C_tellRoutes 4 0 [some (.inr t0), none] [] M enI (q_C_tellRoutes t0 M) := by
  unfold q_C_tellRoutes
  refine m_aload_n (d_C_tellRoutes (k := 0) rfl) rfl ?_
  refine m_getR (d_C_tellRoutes (k := 1) rfl) fl_C_318 rfl (fun a1 => ?_)
  refine m_cvU (c := 5) (vs := []) (st := []) (d_C_tellRoutes (k := 2) rfl) (s_T_growOld a1 M) cd_T_growOld ml_C_518 im_T_growOld se_T_growOld rfl (by decide) rfl (Nat.le_of_ble_eq_true rfl) (fun _ M => ?_)
  refine m_aload_n (d_C_tellRoutes (k := 3) rfl) rfl ?_
  refine m_getR (d_C_tellRoutes (k := 4) rfl) fl_C_124 rfl (fun a2 => ?_)
  refine m_cvR (c := 6) (vs := []) (st := []) (d_C_tellRoutes (k := 5) rfl) (s_W_addRow a2 M) cd_W_addRow ml_C_128 im_W_addRow se_W_addRow rfl (by decide) rfl (Nat.le_of_ble_eq_true rfl) (fun a3 M => ?_)
  refine m_ast_n (ls' := [some (.inr t0), some (.inr a3)]) (d_C_tellRoutes (k := 6) rfl) (by decide) rfl ?_
  refine m_aload_n (d_C_tellRoutes (k := 7) rfl) rfl ?_
  refine m_ifnonnull (tgt := 37) (d_C_tellRoutes (k := 8) rfl) rfl ?_ ?_
  · refine m_aload_n (d_C_tellRoutes (k := 9) rfl) rfl ?_
    refine m_dup (d_C_tellRoutes (k := 10) rfl) ?_
    refine m_getI (d_C_tellRoutes (k := 11) rfl) fl_C_285 rfl (fun x4 => ?_)
    refine m_iconst (v := 1) (d_C_tellRoutes (k := 12) rfl) (by decide) ?_
    refine m_iadd (d_C_tellRoutes (k := 13) rfl) ?_
    refine m_pI (d_C_tellRoutes (k := 14) rfl) fp_C_285 (fun h => absurd h (by decide)) rfl (fun M => ?_)
    refine m_aload_n (d_C_tellRoutes (k := 15) rfl) rfl ?_
    refine m_getR (d_C_tellRoutes (k := 16) rfl) fl_C_318 rfl (fun a5 => ?_)
    refine m_cvI (c := 5) (vs := []) (st := []) (d_C_tellRoutes (k := 17) rfl) (s_T_countBest a5 M) cd_T_countBest ml_C_521 im_T_countBest se_T_countBest rfl (by decide) rfl (Nat.le_of_ble_eq_true rfl) (fun x6 M => ?_)
    exact m_iret (d_C_tellRoutes (k := 18) rfl) rfl
  · refine m_aload_n (d_C_tellRoutes (k := 19) rfl) rfl ?_
    refine m_gets (q := 4) (List.mem_of_getElem? (i := 3) rfl) (by decide) (d_C_tellRoutes (k := 20) rfl) gs_C_524 ?_
    refine m_sipush (v := 224) (d_C_tellRoutes (k := 21) rfl) (by decide) ?_
    refine m_cvU (c := 0) (vs := [.inr (some 4), .inl (224 : Int32)]) (st := []) (d_C_tellRoutes (k := 22) rfl) (s_B_addAddress a3 (some 4) (224 : Int32) M) cd_B_addAddress ml_C_492 im_B_addAddress se_B_addAddress rfl (by decide) rfl (Nat.le_of_ble_eq_true rfl) (fun _ M => ?_)
    refine m_aload_n (d_C_tellRoutes (k := 23) rfl) rfl ?_
    refine m_gets (q := 3) (List.mem_of_getElem? (i := 2) rfl) (by decide) (d_C_tellRoutes (k := 24) rfl) gs_C_488 ?_
    refine m_bipush (v := 96) (d_C_tellRoutes (k := 25) rfl) (by decide) ?_
    refine m_iconst (v := 2) (d_C_tellRoutes (k := 26) rfl) (by decide) ?_
    refine m_aload_n (d_C_tellRoutes (k := 27) rfl) rfl ?_
    refine m_getI (d_C_tellRoutes (k := 28) rfl) fl_C_368 rfl (fun x7 => ?_)
    refine m_imul (d_C_tellRoutes (k := 29) rfl) ?_
    refine m_iadd (d_C_tellRoutes (k := 30) rfl) ?_
    refine m_iconst (v := 1) (d_C_tellRoutes (k := 31) rfl) (by decide) ?_
    refine m_iadd (d_C_tellRoutes (k := 32) rfl) ?_
    refine m_cvU (c := 0) (vs := [.inr (some 3), .inl (((96 : Int32) + ((2 : Int32) * x7)) + (1 : Int32))]) (st := []) (d_C_tellRoutes (k := 33) rfl) (s_B_addAddress a3 (some 3) (((96 : Int32) + ((2 : Int32) * x7)) + (1 : Int32)) M) cd_B_addAddress ml_C_492 im_B_addAddress se_B_addAddress rfl (by decide) rfl (Nat.le_of_ble_eq_true rfl) (fun _ M => ?_)
    refine m_aload_n (d_C_tellRoutes (k := 34) rfl) rfl ?_
    refine m_iconst (v := 3) (d_C_tellRoutes (k := 35) rfl) (by decide) ?_
    refine m_cvU (c := 0) (vs := [.inl (3 : Int32)]) (st := []) (d_C_tellRoutes (k := 36) rfl) (s_B_add a3 (3 : Int32) M) cd_B_add ml_C_207 im_B_add se_B_add rfl (by decide) rfl (Nat.le_of_ble_eq_true rfl) (fun _ M => ?_)
    refine m_aload_n (d_C_tellRoutes (k := 37) rfl) rfl ?_
    refine m_sipush (v := 207) (d_C_tellRoutes (k := 38) rfl) (by decide) ?_
    refine m_cvU (c := 0) (vs := [.inl (207 : Int32)]) (st := []) (d_C_tellRoutes (k := 39) rfl) (s_B_add a3 (207 : Int32) M) cd_B_add ml_C_207 im_B_add se_B_add rfl (by decide) rfl (Nat.le_of_ble_eq_true rfl) (fun _ M => ?_)
    refine m_aload_n (d_C_tellRoutes (k := 40) rfl) rfl ?_
    refine m_sipush (v := 255) (d_C_tellRoutes (k := 41) rfl) (by decide) ?_
    refine m_cvU (c := 0) (vs := [.inl (255 : Int32)]) (st := []) (d_C_tellRoutes (k := 42) rfl) (s_B_add a3 (255 : Int32) M) cd_B_add ml_C_207 im_B_add se_B_add rfl (by decide) rfl (Nat.le_of_ble_eq_true rfl) (fun _ M => ?_)
    refine m_aload_n (d_C_tellRoutes (k := 43) rfl) rfl ?_
    refine m_getR (d_C_tellRoutes (k := 44) rfl) fl_C_318 rfl (fun a8 => ?_)
    refine m_aload_n (d_C_tellRoutes (k := 45) rfl) rfl ?_
    refine m_cvU (c := 5) (vs := [.inr a3]) (st := []) (d_C_tellRoutes (k := 46) rfl) (s_T_tell a8 a3 M) cd_T_tell ml_C_527 im_T_tell se_T_tell rfl (by decide) rfl (Nat.le_of_ble_eq_true rfl) (fun _ M => ?_)
    refine m_aload_n (d_C_tellRoutes (k := 47) rfl) rfl ?_
    refine m_getR (d_C_tellRoutes (k := 48) rfl) fl_C_318 rfl (fun a9 => ?_)
    refine m_cvI (c := 5) (vs := []) (st := []) (d_C_tellRoutes (k := 49) rfl) (s_T_countBest a9 M) cd_T_countBest ml_C_521 im_T_countBest se_T_countBest rfl (by decide) rfl (Nat.le_of_ble_eq_true rfl) (fun x10 M => ?_)
    exact m_iret (d_C_tellRoutes (k := 50) rfl) rfl
theorem s_C_tellRoutes {E : mE} (t0 : Option Nat) (M : mM) : mSnd E mi_C_tellRoutes 4 [.inr t0] M enI (q_C_tellRoutes t0 M) := m_entryI (by decide) (Nat.le_of_ble_eq_true rfl) rfl (m_drop (mles_s (mles_e mles_0)) (v_C_tellRoutes t0 M))
def dt_C_beacon : List (Nat × Instr × Nat) := [(0, .aload_n 0, 1), (1, .iload_n 1, 1), (2, .invokevirtual 106, 3), (5, .astore_n 2, 1), (6, .aload_n 2, 1), (7, .ifnonnull 7, 3), (10, .iconst (-1), 1), (11, .goto 7, 3), (14, .aload_n 2, 1), (15, .invokestatic 222, 3), (18, .ireturn, 1)]
theorem dx_C_beacon : ∀ p ∈ dt_C_beacon, decode prog_1_method_16_code p.1 = .ok p.2 := by decide +kernel
theorem d_C_beacon {k pc : Nat} {i : Instr} {n : Nat} (h : dt_C_beacon[k]? = some (pc, i, n)) : decode mi_C_beacon.2.1 pc = .ok (i, n) := dx_C_beacon (pc, i, n) (List.mem_of_getElem? h)
def q_C_beacon (t0 : Option Nat) (i1 : Int32) (M : mM) : Option (Int32 × mM) :=
    x_cv M 9 t0 (q_C_stationAt t0 i1 M) fun a1 M =>
    x_nl a1 (
      some ((-1 : Int32), M)
    ) (
      x_cl (q_C_tellRoutes a1 M) fun x2 M =>
      some (x2, M)
    )
set_option maxRecDepth 20000 in
theorem v_C_beacon {E : mE} (t0 : Option Nat) (i1 : Int32) (M : mM) : mVr E mi_C_beacon 5 0 [some (.inr t0), some (.inl i1), none] [] M enI (q_C_beacon t0 i1 M) := by
  unfold q_C_beacon
  refine m_aload_n (d_C_beacon (k := 0) rfl) rfl ?_
  refine m_iload_n (d_C_beacon (k := 1) rfl) rfl ?_
  refine m_cvR (c := 9) (vs := [.inl i1]) (st := []) (d_C_beacon (k := 2) rfl) (s_C_stationAt t0 i1 M) cd_C_stationAt ml_C_106 im_C_stationAt se_C_stationAt rfl (by decide) rfl (Nat.le_of_ble_eq_true rfl) (fun a1 M => ?_)
  refine m_ast_n (ls' := [some (.inr t0), some (.inl i1), some (.inr a1)]) (d_C_beacon (k := 3) rfl) (by decide) rfl ?_
  refine m_aload_n (d_C_beacon (k := 4) rfl) rfl ?_
  refine m_ifnonnull (tgt := 14) (d_C_beacon (k := 5) rfl) rfl ?_ ?_
  · refine m_iconst (v := (-1)) (d_C_beacon (k := 6) rfl) (by decide) ?_
    refine m_goto (tgt := 18) (d_C_beacon (k := 7) rfl) rfl ?_
    exact m_iret (d_C_beacon (k := 10) rfl) rfl
  · refine m_aload_n (d_C_beacon (k := 8) rfl) rfl ?_
    refine m_csI (vs := [.inr a1]) (st := []) (d_C_beacon (k := 9) rfl) (s_C_tellRoutes a1 M) cd_C_tellRoutes ml_C_222 sa_C_tellRoutes (by decide) rfl (Nat.le_of_ble_eq_true rfl) (fun x2 M => ?_)
    exact m_iret (d_C_beacon (k := 10) rfl) rfl
theorem s_C_beacon {E : mE} (t0 : Option Nat) (i1 : Int32) (M : mM) : mSnd E mi_C_beacon 5 [.inr t0, .inl i1] M enI (q_C_beacon t0 i1 M) := m_entryI (by decide) (Nat.le_of_ble_eq_true rfl) rfl (m_drop (mles_s (mles_s (mles_e mles_0))) (v_C_beacon t0 i1 M))
def dt_C_best : List (Nat × Instr × Nat) := [(0, .aload_n 0, 1), (1, .iload_n 1, 1), (2, .invokevirtual 106, 3), (5, .astore_n 3, 1), (6, .aload_n 3, 1), (7, .ifnonnull 7, 3), (10, .iconst (-1), 1), (11, .goto 11, 3), (14, .aload_n 3, 1), (15, .getfield 318, 3), (18, .iload_n 2, 1), (19, .invokevirtual 330, 3), (22, .ireturn, 1)]
theorem dx_C_best : ∀ p ∈ dt_C_best, decode prog_1_method_22_code p.1 = .ok p.2 := by decide +kernel
theorem d_C_best {k pc : Nat} {i : Instr} {n : Nat} (h : dt_C_best[k]? = some (pc, i, n)) : decode mi_C_best.2.1 pc = .ok (i, n) := dx_C_best (pc, i, n) (List.mem_of_getElem? h)
def q_C_best (t0 : Option Nat) (i1 : Int32) (i2 : Int32) (M : mM) : Option (Int32 × mM) :=
    x_cv M 9 t0 (q_C_stationAt t0 i1 M) fun a1 M =>
    x_nl a1 (
      some ((-1 : Int32), M)
    ) (
      x_gR M 8 a1 7 fun a2 =>
      x_cv M 5 a2 (q_T_bestTo a2 i2 M) fun x3 M =>
      some (x3, M)
    )
set_option maxRecDepth 20000 in
theorem v_C_best {E : mE} (t0 : Option Nat) (i1 : Int32) (i2 : Int32) (M : mM) : mVr E mi_C_best 3 0 [some (.inr t0), some (.inl i1), some (.inl i2), none] [] M enI (q_C_best t0 i1 i2 M) := by
  unfold q_C_best
  refine m_aload_n (d_C_best (k := 0) rfl) rfl ?_
  refine m_iload_n (d_C_best (k := 1) rfl) rfl ?_
  refine m_cvR (c := 9) (vs := [.inl i1]) (st := []) (d_C_best (k := 2) rfl) (s_C_stationAt t0 i1 M) cd_C_stationAt ml_C_106 im_C_stationAt se_C_stationAt rfl (by decide) rfl (Nat.le_of_ble_eq_true rfl) (fun a1 M => ?_)
  refine m_ast_n (ls' := [some (.inr t0), some (.inl i1), some (.inl i2), some (.inr a1)]) (d_C_best (k := 3) rfl) (by decide) rfl ?_
  refine m_aload_n (d_C_best (k := 4) rfl) rfl ?_
  refine m_ifnonnull (tgt := 14) (d_C_best (k := 5) rfl) rfl ?_ ?_
  · refine m_iconst (v := (-1)) (d_C_best (k := 6) rfl) (by decide) ?_
    refine m_goto (tgt := 22) (d_C_best (k := 7) rfl) rfl ?_
    exact m_iret (d_C_best (k := 12) rfl) rfl
  · refine m_aload_n (d_C_best (k := 8) rfl) rfl ?_
    refine m_getR (d_C_best (k := 9) rfl) fl_C_318 rfl (fun a2 => ?_)
    refine m_iload_n (d_C_best (k := 10) rfl) rfl ?_
    refine m_cvI (c := 5) (vs := [.inl i2]) (st := []) (d_C_best (k := 11) rfl) (s_T_bestTo a2 i2 M) cd_T_bestTo ml_C_330 im_T_bestTo se_T_bestTo rfl (by decide) rfl (Nat.le_of_ble_eq_true rfl) (fun x3 M => ?_)
    exact m_iret (d_C_best (k := 12) rfl) rfl
theorem s_C_best {E : mE} (t0 : Option Nat) (i1 : Int32) (i2 : Int32) (M : mM) : mSnd E mi_C_best 3 [.inr t0, .inl i1, .inl i2] M enI (q_C_best t0 i1 i2 M) := m_entryI (by decide) (Nat.le_of_ble_eq_true rfl) rfl (m_drop (mles_s (mles_s (mles_s (mles_e mles_0)))) (v_C_best t0 i1 i2 M))
def dt_B_clear : List (Nat × Instr × Nat) := [(0, .aload_n 0, 1), (1, .iconst 0, 1), (2, .putfield 21, 3), (5, .return_, 1)]
theorem dx_B_clear : ∀ p ∈ dt_B_clear, decode prog_2_method_2_code p.1 = .ok p.2 := by decide +kernel
theorem d_B_clear {k pc : Nat} {i : Instr} {n : Nat} (h : dt_B_clear[k]? = some (pc, i, n)) : decode mi_B_clear.2.1 pc = .ok (i, n) := dx_B_clear (pc, i, n) (List.mem_of_getElem? h)
def q_B_clear (t0 : Option Nat) (M : mM) : Option (Unit × mM) :=
    x_pI M 0 t0 1 (0 : Int32) fun M =>
    some ((), M)
set_option maxRecDepth 20000 in
theorem v_B_clear {E : mE} (t0 : Option Nat) (M : mM) : mVr E mi_B_clear 0 0 [some (.inr t0)] [] M enU (q_B_clear t0 M) := by
  unfold q_B_clear
  refine m_aload_n (d_B_clear (k := 0) rfl) rfl ?_
  refine m_iconst (v := 0) (d_B_clear (k := 1) rfl) (by decide) ?_
  refine m_pI (d_B_clear (k := 2) rfl) fp_B_21 (fun h => absurd h (by decide)) rfl (fun M => ?_)
  exact m_vret (d_B_clear (k := 3) rfl) rfl
theorem s_B_clear {E : mE} (t0 : Option Nat) (M : mM) : mSnd E mi_B_clear 0 [.inr t0] M enU (q_B_clear t0 M) := m_entryU (by decide) (Nat.le_of_ble_eq_true rfl) rfl (m_drop (mles_s mles_0) (v_B_clear t0 M))
def dt_C_isFrame : List (Nat × Instr × Nat) := [(0, .aload_n 0, 1), (1, .getfield 61, 3), (4, .bipush 15, 2), (6, .if_icmp .lt 16, 3), (9, .aload_n 0, 1), (10, .getfield 61, 3), (13, .bipush 90, 2), (15, .if_icmp .gt 7, 3), (18, .iconst 1, 1), (19, .goto 4, 3), (22, .iconst 0, 1), (23, .ireturn, 1)]
theorem dx_C_isFrame : ∀ p ∈ dt_C_isFrame, decode prog_1_method_25_code p.1 = .ok p.2 := by decide +kernel
theorem d_C_isFrame {k pc : Nat} {i : Instr} {n : Nat} (h : dt_C_isFrame[k]? = some (pc, i, n)) : decode mi_C_isFrame.2.1 pc = .ok (i, n) := dx_C_isFrame (pc, i, n) (List.mem_of_getElem? h)
def q_C_isFrame (t0 : Option Nat) (M : mM) : Option (Int32 × mM) :=
    x_gI M 0 t0 1 fun x1 =>
    if x1 < (15 : Int32) then
      x_rz (0 : Int32) M
    else
      x_gI M 0 t0 1 fun x2 =>
      if (90 : Int32) < x2 then
        x_rz (0 : Int32) M
      else
        x_rz (1 : Int32) M
set_option maxRecDepth 20000 in
theorem v_C_isFrame {E : mE} (t0 : Option Nat) (M : mM) : mVr E mi_C_isFrame 0 0 [some (.inr t0)] [] M enI (q_C_isFrame t0 M) := by
  unfold q_C_isFrame
  refine m_aload_n (d_C_isFrame (k := 0) rfl) rfl ?_
  refine m_getI (d_C_isFrame (k := 1) rfl) fl_C_61 rfl (fun x1 => ?_)
  refine m_bipush (v := 15) (d_C_isFrame (k := 2) rfl) (by decide) ?_
  refine m_icmp_lt (tgt := 22) (d_C_isFrame (k := 3) rfl) rfl ?_ ?_
  · refine m_iconst (v := 0) (d_C_isFrame (k := 10) rfl) (by decide) ?_
    exact m_zret (d_C_isFrame (k := 11) rfl) rfl
  · refine m_aload_n (d_C_isFrame (k := 4) rfl) rfl ?_
    refine m_getI (d_C_isFrame (k := 5) rfl) fl_C_61 rfl (fun x2 => ?_)
    refine m_bipush (v := 90) (d_C_isFrame (k := 6) rfl) (by decide) ?_
    refine m_icmp_gt (tgt := 22) (d_C_isFrame (k := 7) rfl) rfl ?_ ?_
    · refine m_iconst (v := 0) (d_C_isFrame (k := 10) rfl) (by decide) ?_
      exact m_zret (d_C_isFrame (k := 11) rfl) rfl
    · refine m_iconst (v := 1) (d_C_isFrame (k := 8) rfl) (by decide) ?_
      refine m_goto (tgt := 23) (d_C_isFrame (k := 9) rfl) rfl ?_
      exact m_zret (d_C_isFrame (k := 11) rfl) rfl
theorem s_C_isFrame {E : mE} (t0 : Option Nat) (M : mM) : mSnd E mi_C_isFrame 0 [.inr t0] M enI (q_C_isFrame t0 M) := m_entryZ (by decide) (Nat.le_of_ble_eq_true rfl) rfl (m_drop (mles_s mles_0) (v_C_isFrame t0 M))
def dt_S_isThrough : List (Nat × Instr × Nat) := [(0, .aload_n 0, 1), (1, .getfield 30, 3), (4, .ifCond .gt 7, 3), (7, .iconst 1, 1), (8, .goto 4, 3), (11, .iconst 0, 1), (12, .ireturn, 1)]
theorem dx_S_isThrough : ∀ p ∈ dt_S_isThrough, decode prog_9_method_4_code p.1 = .ok p.2 := by decide +kernel
theorem d_S_isThrough {k pc : Nat} {i : Instr} {n : Nat} (h : dt_S_isThrough[k]? = some (pc, i, n)) : decode mi_S_isThrough.2.1 pc = .ok (i, n) := dx_S_isThrough (pc, i, n) (List.mem_of_getElem? h)
def q_S_isThrough (t0 : Option Nat) (M : mM) : Option (Int32 × mM) :=
    x_gI M 7 t0 3 fun x1 =>
    if 0 < x1 then
      x_rz (0 : Int32) M
    else
      x_rz (1 : Int32) M
set_option maxRecDepth 20000 in
theorem v_S_isThrough {E : mE} (t0 : Option Nat) (M : mM) : mVr E mi_S_isThrough 0 0 [some (.inr t0)] [] M enI (q_S_isThrough t0 M) := by
  unfold q_S_isThrough
  refine m_aload_n (d_S_isThrough (k := 0) rfl) rfl ?_
  refine m_getI (d_S_isThrough (k := 1) rfl) fl_S_30 rfl (fun x1 => ?_)
  refine m_if_gt (tgt := 11) (d_S_isThrough (k := 2) rfl) rfl ?_ ?_
  · refine m_iconst (v := 0) (d_S_isThrough (k := 5) rfl) (by decide) ?_
    exact m_zret (d_S_isThrough (k := 6) rfl) rfl
  · refine m_iconst (v := 1) (d_S_isThrough (k := 3) rfl) (by decide) ?_
    refine m_goto (tgt := 12) (d_S_isThrough (k := 4) rfl) rfl ?_
    exact m_zret (d_S_isThrough (k := 6) rfl) rfl
theorem s_S_isThrough {E : mE} (t0 : Option Nat) (M : mM) : mSnd E mi_S_isThrough 0 [.inr t0] M enI (q_S_isThrough t0 M) := m_entryZ (by decide) (Nat.le_of_ble_eq_true rfl) rfl (m_drop (mles_s mles_0) (v_S_isThrough t0 M))
def dt_B_at : List (Nat × Instr × Nat) := [(0, .iload_n 1, 1), (1, .ifCond .lt 20, 3), (4, .iload_n 1, 1), (5, .aload_n 0, 1), (6, .getfield 21, 3), (9, .if_icmp .ge 12, 3), (12, .aload_n 0, 1), (13, .getfield 15, 3), (16, .iload_n 1, 1), (17, .iaload, 1), (18, .goto 4, 3), (21, .iconst (-1), 1), (22, .ireturn, 1)]
theorem dx_B_at : ∀ p ∈ dt_B_at, decode prog_2_method_3_code p.1 = .ok p.2 := by decide +kernel
theorem d_B_at {k pc : Nat} {i : Instr} {n : Nat} (h : dt_B_at[k]? = some (pc, i, n)) : decode mi_B_at.2.1 pc = .ok (i, n) := dx_B_at (pc, i, n) (List.mem_of_getElem? h)
def q_B_at (t0 : Option Nat) (i1 : Int32) (M : mM) : Option (Int32 × mM) :=
    if i1 < 0 then
      some ((-1 : Int32), M)
    else
      x_gI M 0 t0 1 fun x1 =>
      if i1 < x1 then
        x_gR M 0 t0 0 fun a2 =>
        x_aI M 0 a2 i1 fun x3 =>
        some (x3, M)
      else
        some ((-1 : Int32), M)
set_option maxRecDepth 20000 in
theorem v_B_at {E : mE} (t0 : Option Nat) (i1 : Int32) (M : mM) : mVr E mi_B_at 0 0 [some (.inr t0), some (.inl i1)] [] M enI (q_B_at t0 i1 M) := by
  unfold q_B_at
  refine m_iload_n (d_B_at (k := 0) rfl) rfl ?_
  refine m_if_lt (tgt := 21) (d_B_at (k := 1) rfl) rfl ?_ ?_
  · refine m_iconst (v := (-1)) (d_B_at (k := 11) rfl) (by decide) ?_
    exact m_iret (d_B_at (k := 12) rfl) rfl
  · refine m_iload_n (d_B_at (k := 2) rfl) rfl ?_
    refine m_aload_n (d_B_at (k := 3) rfl) rfl ?_
    refine m_getI (d_B_at (k := 4) rfl) fl_B_21 rfl (fun x1 => ?_)
    refine m_icmp_ge (tgt := 21) (d_B_at (k := 5) rfl) rfl ?_ ?_
    · refine m_aload_n (d_B_at (k := 6) rfl) rfl ?_
      refine m_getR (d_B_at (k := 7) rfl) fl_B_15 rfl (fun a2 => ?_)
      refine m_iload_n (d_B_at (k := 8) rfl) rfl ?_
      refine m_iald (d_B_at (k := 9) rfl) (fun x3 => ?_)
      refine m_goto (tgt := 22) (d_B_at (k := 10) rfl) rfl ?_
      exact m_iret (d_B_at (k := 12) rfl) rfl
    · refine m_iconst (v := (-1)) (d_B_at (k := 11) rfl) (by decide) ?_
      exact m_iret (d_B_at (k := 12) rfl) rfl
theorem s_B_at {E : mE} (t0 : Option Nat) (i1 : Int32) (M : mM) : mSnd E mi_B_at 0 [.inr t0, .inl i1] M enI (q_B_at t0 i1 M) := m_entryI (by decide) (Nat.le_of_ble_eq_true rfl) rfl (m_drop (mles_s (mles_s mles_0)) (v_B_at t0 i1 M))
def dt_S_nextBit : List (Nat × Instr × Nat) := [(0, .aload_n 0, 1), (1, .getfield 27, 3), (4, .iconst 5, 1), (5, .if_icmp .ne 10, 3), (8, .aload_n 0, 1), (9, .iconst 0, 1), (10, .putfield 27, 3), (13, .iconst 0, 1), (14, .ireturn, 1), (15, .aload_n 0, 1), (16, .getfield 23, 3), (19, .bipush 8, 2), (21, .aload_n 0, 1), (22, .getfield 14, 3), (25, .getfield 36, 3), (28, .imul, 1), (29, .if_icmp .ge 58, 3), (32, .aload_n 0, 1), (33, .getfield 14, 3), (36, .aload_n 0, 1), (37, .getfield 23, 3), (40, .iconst 3, 1), (41, .ishr, 1), (42, .invokevirtual 57, 3), (45, .aload_n 0, 1), (46, .getfield 23, 3), (49, .bipush 7, 2), (51, .iand, 1), (52, .ishr, 1), (53, .iconst 1, 1), (54, .iand, 1), (55, .istore_n 1, 1), (56, .aload_n 0, 1), (57, .dup, 1), (58, .getfield 23, 3), (61, .iconst 1, 1), (62, .iadd, 1), (63, .putfield 23, 3), (66, .aload_n 0, 1), (67, .iload_n 1, 1), (68, .iconst 1, 1), (69, .if_icmp .ne 12, 3), (72, .aload_n 0, 1), (73, .getfield 27, 3), (76, .iconst 1, 1), (77, .iadd, 1), (78, .goto 4, 3), (81, .iconst 0, 1), (82, .putfield 27, 3), (85, .iload_n 1, 1), (86, .ireturn, 1), (87, .aload_n 0, 1), (88, .dup, 1), (89, .getfield 30, 3), (92, .iconst 1, 1), (93, .isub, 1), (94, .putfield 30, 3), (97, .aload_n 0, 1), (98, .getfield 30, 3), (101, .bipush 7, 2), (103, .iand, 1), (104, .istore_n 1, 1), (105, .iload_n 1, 1), (106, .bipush 7, 2), (108, .if_icmp .eq 7, 3), (111, .iload_n 1, 1), (112, .ifCond .ne 7, 3), (115, .iconst 0, 1), (116, .goto 4, 3), (119, .iconst 1, 1), (120, .ireturn, 1)]
theorem dx_S_nextBit : ∀ p ∈ dt_S_nextBit, decode prog_9_method_6_code p.1 = .ok p.2 := by decide +kernel
theorem d_S_nextBit {k pc : Nat} {i : Instr} {n : Nat} (h : dt_S_nextBit[k]? = some (pc, i, n)) : decode mi_S_nextBit.2.1 pc = .ok (i, n) := dx_S_nextBit (pc, i, n) (List.mem_of_getElem? h)
def q_S_nextBit_115 (M : mM) : Option (Int32 × mM) :=
    some ((0 : Int32), M)
set_option maxRecDepth 20000 in
theorem v_S_nextBit_115 {E : mE} (M : mM) : mVr E mi_S_nextBit 1 115 [none, none] [] M enI (q_S_nextBit_115 M) := by
  unfold q_S_nextBit_115
  refine m_iconst (v := 0) (d_S_nextBit (k := 67) rfl) (by decide) ?_
  refine m_goto (tgt := 120) (d_S_nextBit (k := 68) rfl) rfl ?_
  exact m_iret (d_S_nextBit (k := 70) rfl) rfl
def q_S_nextBit (t0 : Option Nat) (M : mM) : Option (Int32 × mM) :=
    x_gI M 7 t0 2 fun x1 =>
    if x1 = (5 : Int32) then
      x_pI M 7 t0 2 (0 : Int32) fun M =>
      some ((0 : Int32), M)
    else
      x_gI M 7 t0 1 fun x2 =>
      x_gR M 7 t0 0 fun a3 =>
      x_gI M 0 a3 1 fun x4 =>
      if x2 < ((8 : Int32) * x4) then
        x_gR M 7 t0 0 fun a5 =>
        x_gI M 7 t0 1 fun x6 =>
        x_cv M 0 a5 (q_B_at a5 (x6 >>> ((3 : Int32) &&& 31)) M) fun x7 M =>
        x_gI M 7 t0 1 fun x8 =>
        x_lt ((x7 >>> ((x8 &&& (7 : Int32)) &&& 31)) &&& (1 : Int32)) fun x9 =>
        x_gI M 7 t0 1 fun x10 =>
        x_pI M 7 t0 1 (x10 + (1 : Int32)) fun M =>
        if x9 = (1 : Int32) then
          x_gI M 7 t0 2 fun x11 =>
          x_pI M 7 t0 2 (x11 + (1 : Int32)) fun M =>
          some (x9, M)
        else
          x_pI M 7 t0 2 (0 : Int32) fun M =>
          some (x9, M)
      else
        x_gI M 7 t0 3 fun x12 =>
        x_pI M 7 t0 3 (x12 - (1 : Int32)) fun M =>
        x_gI M 7 t0 3 fun x13 =>
        x_lt (x13 &&& (7 : Int32)) fun x14 =>
        if x14 = (7 : Int32) then
          q_S_nextBit_115 M
        else
          if x14 = 0 then
            q_S_nextBit_115 M
          else
            some ((1 : Int32), M)
set_option maxRecDepth 20000 in
theorem v_S_nextBit {E : mE} (t0 : Option Nat) (M : mM) : mVr E mi_S_nextBit 1 0 [some (.inr t0), none] [] M enI (q_S_nextBit t0 M) := by
  unfold q_S_nextBit
  refine m_aload_n (d_S_nextBit (k := 0) rfl) rfl ?_
  refine m_getI (d_S_nextBit (k := 1) rfl) fl_S_27 rfl (fun x1 => ?_)
  refine m_iconst (v := 5) (d_S_nextBit (k := 2) rfl) (by decide) ?_
  refine m_icmp_ne (tgt := 15) (d_S_nextBit (k := 3) rfl) rfl ?_ ?_
  · refine m_aload_n (d_S_nextBit (k := 4) rfl) rfl ?_
    refine m_iconst (v := 0) (d_S_nextBit (k := 5) rfl) (by decide) ?_
    refine m_pI (d_S_nextBit (k := 6) rfl) fp_S_27 (fun h => absurd h (by decide)) rfl (fun M => ?_)
    refine m_iconst (v := 0) (d_S_nextBit (k := 7) rfl) (by decide) ?_
    exact m_iret (d_S_nextBit (k := 8) rfl) rfl
  · refine m_aload_n (d_S_nextBit (k := 9) rfl) rfl ?_
    refine m_getI (d_S_nextBit (k := 10) rfl) fl_S_23 rfl (fun x2 => ?_)
    refine m_bipush (v := 8) (d_S_nextBit (k := 11) rfl) (by decide) ?_
    refine m_aload_n (d_S_nextBit (k := 12) rfl) rfl ?_
    refine m_getR (d_S_nextBit (k := 13) rfl) fl_S_14 rfl (fun a3 => ?_)
    refine m_getI (d_S_nextBit (k := 14) rfl) fl_S_36 rfl (fun x4 => ?_)
    refine m_imul (d_S_nextBit (k := 15) rfl) ?_
    refine m_icmp_ge (tgt := 87) (d_S_nextBit (k := 16) rfl) rfl ?_ ?_
    · refine m_aload_n (d_S_nextBit (k := 17) rfl) rfl ?_
      refine m_getR (d_S_nextBit (k := 18) rfl) fl_S_14 rfl (fun a5 => ?_)
      refine m_aload_n (d_S_nextBit (k := 19) rfl) rfl ?_
      refine m_getI (d_S_nextBit (k := 20) rfl) fl_S_23 rfl (fun x6 => ?_)
      refine m_iconst (v := 3) (d_S_nextBit (k := 21) rfl) (by decide) ?_
      refine m_ishr (d_S_nextBit (k := 22) rfl) ?_
      refine m_cvI (c := 0) (vs := [.inl (x6 >>> ((3 : Int32) &&& 31))]) (st := []) (d_S_nextBit (k := 23) rfl) (s_B_at a5 (x6 >>> ((3 : Int32) &&& 31)) M) cd_B_at ml_S_57 im_B_at se_B_at rfl (by decide) rfl (Nat.le_of_ble_eq_true rfl) (fun x7 M => ?_)
      refine m_aload_n (d_S_nextBit (k := 24) rfl) rfl ?_
      refine m_getI (d_S_nextBit (k := 25) rfl) fl_S_23 rfl (fun x8 => ?_)
      refine m_bipush (v := 7) (d_S_nextBit (k := 26) rfl) (by decide) ?_
      refine m_iand (d_S_nextBit (k := 27) rfl) ?_
      refine m_ishr (d_S_nextBit (k := 28) rfl) ?_
      refine m_iconst (v := 1) (d_S_nextBit (k := 29) rfl) (by decide) ?_
      refine m_iand (d_S_nextBit (k := 30) rfl) ?_
      refine m_lt (fun x9 => ?_)
      refine m_ist_n (ls' := [some (.inr t0), some (.inl x9)]) (d_S_nextBit (k := 31) rfl) (by decide) rfl ?_
      refine m_aload_n (d_S_nextBit (k := 32) rfl) rfl ?_
      refine m_dup (d_S_nextBit (k := 33) rfl) ?_
      refine m_getI (d_S_nextBit (k := 34) rfl) fl_S_23 rfl (fun x10 => ?_)
      refine m_iconst (v := 1) (d_S_nextBit (k := 35) rfl) (by decide) ?_
      refine m_iadd (d_S_nextBit (k := 36) rfl) ?_
      refine m_pI (d_S_nextBit (k := 37) rfl) fp_S_23 (fun h => absurd h (by decide)) rfl (fun M => ?_)
      refine m_aload_n (d_S_nextBit (k := 38) rfl) rfl ?_
      refine m_iload_n (d_S_nextBit (k := 39) rfl) rfl ?_
      refine m_iconst (v := 1) (d_S_nextBit (k := 40) rfl) (by decide) ?_
      refine m_icmp_ne (tgt := 81) (d_S_nextBit (k := 41) rfl) rfl ?_ ?_
      · refine m_aload_n (d_S_nextBit (k := 42) rfl) rfl ?_
        refine m_getI (d_S_nextBit (k := 43) rfl) fl_S_27 rfl (fun x11 => ?_)
        refine m_iconst (v := 1) (d_S_nextBit (k := 44) rfl) (by decide) ?_
        refine m_iadd (d_S_nextBit (k := 45) rfl) ?_
        refine m_goto (tgt := 82) (d_S_nextBit (k := 46) rfl) rfl ?_
        refine m_pI (d_S_nextBit (k := 48) rfl) fp_S_27 (fun h => absurd h (by decide)) rfl (fun M => ?_)
        refine m_iload_n (d_S_nextBit (k := 49) rfl) rfl ?_
        exact m_iret (d_S_nextBit (k := 50) rfl) rfl
      · refine m_iconst (v := 0) (d_S_nextBit (k := 47) rfl) (by decide) ?_
        refine m_pI (d_S_nextBit (k := 48) rfl) fp_S_27 (fun h => absurd h (by decide)) rfl (fun M => ?_)
        refine m_iload_n (d_S_nextBit (k := 49) rfl) rfl ?_
        exact m_iret (d_S_nextBit (k := 50) rfl) rfl
    · refine m_aload_n (d_S_nextBit (k := 51) rfl) rfl ?_
      refine m_dup (d_S_nextBit (k := 52) rfl) ?_
      refine m_getI (d_S_nextBit (k := 53) rfl) fl_S_30 rfl (fun x12 => ?_)
      refine m_iconst (v := 1) (d_S_nextBit (k := 54) rfl) (by decide) ?_
      refine m_isub (d_S_nextBit (k := 55) rfl) ?_
      refine m_pI (d_S_nextBit (k := 56) rfl) fp_S_30 (fun h => absurd h (by decide)) rfl (fun M => ?_)
      refine m_aload_n (d_S_nextBit (k := 57) rfl) rfl ?_
      refine m_getI (d_S_nextBit (k := 58) rfl) fl_S_30 rfl (fun x13 => ?_)
      refine m_bipush (v := 7) (d_S_nextBit (k := 59) rfl) (by decide) ?_
      refine m_iand (d_S_nextBit (k := 60) rfl) ?_
      refine m_lt (fun x14 => ?_)
      refine m_ist_n (ls' := [some (.inr t0), some (.inl x14)]) (d_S_nextBit (k := 61) rfl) (by decide) rfl ?_
      refine m_iload_n (d_S_nextBit (k := 62) rfl) rfl ?_
      refine m_bipush (v := 7) (d_S_nextBit (k := 63) rfl) (by decide) ?_
      refine m_icmp_eq (tgt := 115) (d_S_nextBit (k := 64) rfl) rfl ?_ ?_
      · exact m_drop (mles_n (mles_n mles_0)) (v_S_nextBit_115 M)
      · refine m_iload_n (d_S_nextBit (k := 65) rfl) rfl ?_
        refine m_if_ne (tgt := 119) (d_S_nextBit (k := 66) rfl) rfl ?_ ?_
        · exact m_drop (mles_n (mles_n mles_0)) (v_S_nextBit_115 M)
        · refine m_iconst (v := 1) (d_S_nextBit (k := 69) rfl) (by decide) ?_
          exact m_iret (d_S_nextBit (k := 70) rfl) rfl
theorem s_S_nextBit {E : mE} (t0 : Option Nat) (M : mM) : mSnd E mi_S_nextBit 1 [.inr t0] M enI (q_S_nextBit t0 M) := m_entryI (by decide) (Nat.le_of_ble_eq_true rfl) rfl (m_drop (mles_s (mles_e mles_0)) (v_S_nextBit t0 M))
def dt_S_sendBit : List (Nat × Instr × Nat) := [(0, .aload_n 0, 1), (1, .invokevirtual 50, 3), (4, .ifCond .ne 13, 3), (7, .aload_n 0, 1), (8, .iconst 1, 1), (9, .aload_n 0, 1), (10, .getfield 54, 3), (13, .isub, 1), (14, .putfield 54, 3), (17, .return_, 1)]
theorem dx_S_sendBit : ∀ p ∈ dt_S_sendBit, decode prog_9_method_5_code p.1 = .ok p.2 := by decide +kernel
theorem d_S_sendBit {k pc : Nat} {i : Instr} {n : Nat} (h : dt_S_sendBit[k]? = some (pc, i, n)) : decode mi_S_sendBit.2.1 pc = .ok (i, n) := dx_S_sendBit (pc, i, n) (List.mem_of_getElem? h)
def q_S_sendBit (t0 : Option Nat) (M : mM) : Option (Unit × mM) :=
    x_cv M 7 t0 (q_S_nextBit t0 M) fun x1 M =>
    if x1 = 0 then
      x_gI M 7 t0 4 fun x2 =>
      x_pI M 7 t0 4 ((1 : Int32) - x2) fun M =>
      some ((), M)
    else
      some ((), M)
set_option maxRecDepth 20000 in
theorem v_S_sendBit {E : mE} (t0 : Option Nat) (M : mM) : mVr E mi_S_sendBit 2 0 [some (.inr t0)] [] M enU (q_S_sendBit t0 M) := by
  unfold q_S_sendBit
  refine m_aload_n (d_S_sendBit (k := 0) rfl) rfl ?_
  refine m_cvI (c := 7) (vs := []) (st := []) (d_S_sendBit (k := 1) rfl) (s_S_nextBit t0 M) cd_S_nextBit ml_S_50 im_S_nextBit se_S_nextBit rfl (by decide) rfl (Nat.le_of_ble_eq_true rfl) (fun x1 M => ?_)
  refine m_if_ne (tgt := 17) (d_S_sendBit (k := 2) rfl) rfl ?_ ?_
  · refine m_aload_n (d_S_sendBit (k := 3) rfl) rfl ?_
    refine m_iconst (v := 1) (d_S_sendBit (k := 4) rfl) (by decide) ?_
    refine m_aload_n (d_S_sendBit (k := 5) rfl) rfl ?_
    refine m_getI (d_S_sendBit (k := 6) rfl) fl_S_54 rfl (fun x2 => ?_)
    refine m_isub (d_S_sendBit (k := 7) rfl) ?_
    refine m_pI (d_S_sendBit (k := 8) rfl) fp_S_54 (fun h => absurd h (by decide)) rfl (fun M => ?_)
    exact m_vret (d_S_sendBit (k := 9) rfl) rfl
  · exact m_vret (d_S_sendBit (k := 9) rfl) rfl
theorem s_S_sendBit {E : mE} (t0 : Option Nat) (M : mM) : mSnd E mi_S_sendBit 2 [.inr t0] M enU (q_S_sendBit t0 M) := m_entryU (by decide) (Nat.le_of_ble_eq_true rfl) rfl (m_drop (mles_s mles_0) (v_S_sendBit t0 M))
def dt_C_putLevels : List (Nat × Instr × Nat) := [(0, .iconst 0, 1), (1, .istore_n 1, 1), (2, .iload_n 1, 1), (3, .sipush 907, 3), (6, .if_icmp .ge 40, 3), (9, .aload_n 0, 1), (10, .getfield 40, 3), (13, .invokevirtual 343, 3), (16, .ifCond .ne 30, 3), (19, .aload_n 0, 1), (20, .getfield 40, 3), (23, .invokevirtual 346, 3), (26, .aload_n 0, 1), (27, .getfield 34, 3), (30, .aload_n 0, 1), (31, .getfield 40, 3), (34, .getfield 79, 3), (37, .invokevirtual 207, 3), (40, .iinc 1 1, 3), (43, .goto (-41), 3), (46, .return_, 1)]
theorem dx_C_putLevels : ∀ p ∈ dt_C_putLevels, decode prog_1_method_31_code p.1 = .ok p.2 := by decide +kernel
theorem d_C_putLevels {k pc : Nat} {i : Instr} {n : Nat} (h : dt_C_putLevels[k]? = some (pc, i, n)) : decode mi_C_putLevels.2.1 pc = .ok (i, n) := dx_C_putLevels (pc, i, n) (List.mem_of_getElem? h)
def q_C_putLevels_2_b (r2 : Option Nat → Int32 → mM → Option (Unit × mM)) (t0 : Option Nat) (i1 : Int32) (M : mM) : Option (Unit × mM) :=
    if i1 < (907 : Int32) then
      x_gR M 9 t0 3 fun a1 =>
      x_cv M 7 a1 (q_S_isThrough a1 M) fun x2 M =>
      if x2 = 0 then
        x_gR M 9 t0 3 fun a3 =>
        x_cv M 7 a3 (q_S_sendBit a3 M) fun _ M =>
        x_gR M 9 t0 2 fun a4 =>
        x_gR M 9 t0 3 fun a5 =>
        x_gI M 7 a5 4 fun x6 =>
        x_cv M 0 a4 (q_B_add a4 x6 M) fun _ M =>
        r2 t0 (i1 + 1) M
      else
        some ((), M)
    else
      some ((), M)
def q_C_putLevels_2 : Nat → Option Nat → Int32 → mM → Option (Unit × mM)
  | 0, _, _, _ => none
  | n + 1, t0, i1, M => q_C_putLevels_2_b (q_C_putLevels_2 n) t0 i1 M
set_option maxRecDepth 20000 in
theorem v_C_putLevels_2_b {E : mE} (r2 : Option Nat → Int32 → mM → Option (Unit × mM)) (h2 : ∀ (t0 : Option Nat) (i1 : Int32) (M : mM), mVr E mi_C_putLevels 3 2 [some (.inr t0), some (.inl i1)] [] M enU (r2 t0 i1 M)) (t0 : Option Nat) (i1 : Int32) (M : mM) : mVr E mi_C_putLevels 3 2 [some (.inr t0), some (.inl i1)] [] M enU (q_C_putLevels_2_b r2 t0 i1 M) := by
  unfold q_C_putLevels_2_b
  refine m_iload_n (d_C_putLevels (k := 2) rfl) rfl ?_
  refine m_sipush (v := 907) (d_C_putLevels (k := 3) rfl) (by decide) ?_
  refine m_icmp_ge (tgt := 46) (d_C_putLevels (k := 4) rfl) rfl ?_ ?_
  · refine m_aload_n (d_C_putLevels (k := 5) rfl) rfl ?_
    refine m_getR (d_C_putLevels (k := 6) rfl) fl_C_40 rfl (fun a1 => ?_)
    refine m_cvI (c := 7) (vs := []) (st := []) (d_C_putLevels (k := 7) rfl) (s_S_isThrough a1 M) cd_S_isThrough ml_C_343 im_S_isThrough se_S_isThrough rfl (by decide) rfl (Nat.le_of_ble_eq_true rfl) (fun x2 M => ?_)
    refine m_if_ne (tgt := 46) (d_C_putLevels (k := 8) rfl) rfl ?_ ?_
    · refine m_aload_n (d_C_putLevels (k := 9) rfl) rfl ?_
      refine m_getR (d_C_putLevels (k := 10) rfl) fl_C_40 rfl (fun a3 => ?_)
      refine m_cvU (c := 7) (vs := []) (st := []) (d_C_putLevels (k := 11) rfl) (s_S_sendBit a3 M) cd_S_sendBit ml_C_346 im_S_sendBit se_S_sendBit rfl (by decide) rfl (Nat.le_of_ble_eq_true rfl) (fun _ M => ?_)
      refine m_aload_n (d_C_putLevels (k := 12) rfl) rfl ?_
      refine m_getR (d_C_putLevels (k := 13) rfl) fl_C_34 rfl (fun a4 => ?_)
      refine m_aload_n (d_C_putLevels (k := 14) rfl) rfl ?_
      refine m_getR (d_C_putLevels (k := 15) rfl) fl_C_40 rfl (fun a5 => ?_)
      refine m_getI (d_C_putLevels (k := 16) rfl) fl_C_79 rfl (fun x6 => ?_)
      refine m_cvU (c := 0) (vs := [.inl x6]) (st := []) (d_C_putLevels (k := 17) rfl) (s_B_add a4 x6 M) cd_B_add ml_C_207 im_B_add se_B_add rfl (by decide) rfl (Nat.le_of_ble_eq_true rfl) (fun _ M => ?_)
      refine m_inc (v := 1) (ls' := [some (.inr t0), some (.inl (i1 + 1))]) (d_C_putLevels (k := 18) rfl) rfl (by decide) (by decide) rfl ?_
      refine m_goto (tgt := 2) (d_C_putLevels (k := 19) rfl) rfl ?_
      exact m_drop (mles_s (mles_s mles_0)) (h2 t0 (i1 + 1) M)
    · exact m_vret (d_C_putLevels (k := 20) rfl) rfl
  · exact m_vret (d_C_putLevels (k := 20) rfl) rfl
theorem v_C_putLevels_2 {E : mE} : ∀ (n : Nat) (t0 : Option Nat) (i1 : Int32) (M : mM), mVr E mi_C_putLevels 3 2 [some (.inr t0), some (.inl i1)] [] M enU (q_C_putLevels_2 n t0 i1 M)
  | 0, _, _, _ => m_none
  | n + 1, t0, i1, M => v_C_putLevels_2_b _ (v_C_putLevels_2 n) t0 i1 M
def q_C_putLevels (t0 : Option Nat) (M : mM) : Option (Unit × mM) :=
    q_C_putLevels_2 mFU t0 (0 : Int32) M
set_option maxRecDepth 20000 in
theorem v_C_putLevels {E : mE} (t0 : Option Nat) (M : mM) : mVr E mi_C_putLevels 3 0 [some (.inr t0), none] [] M enU (q_C_putLevels t0 M) := by
  unfold q_C_putLevels
  refine m_iconst (v := 0) (d_C_putLevels (k := 0) rfl) (by decide) ?_
  refine m_ist_n (ls' := [some (.inr t0), some (.inl (0 : Int32))]) (d_C_putLevels (k := 1) rfl) (by decide) rfl ?_
  exact m_drop (mles_s (mles_s mles_0)) (v_C_putLevels_2 mFU t0 (0 : Int32) M)
theorem s_C_putLevels {E : mE} (t0 : Option Nat) (M : mM) : mSnd E mi_C_putLevels 3 [.inr t0] M enU (q_C_putLevels t0 M) := m_entryU (by decide) (Nat.le_of_ble_eq_true rfl) rfl (m_drop (mles_s (mles_e mles_0)) (v_C_putLevels t0 M))
def dt_S_startFlags : List (Nat × Instr × Nat) := [(0, .aload_n 0, 1), (1, .getfield 14, 3), (4, .invokevirtual 20, 3), (7, .aload_n 0, 1), (8, .iconst 0, 1), (9, .putfield 23, 3), (12, .aload_n 0, 1), (13, .iconst 0, 1), (14, .putfield 27, 3), (17, .aload_n 0, 1), (18, .bipush 8, 2), (20, .iload_n 1, 1), (21, .imul, 1), (22, .putfield 30, 3), (25, .return_, 1)]
theorem dx_S_startFlags : ∀ p ∈ dt_S_startFlags, decode prog_9_method_2_code p.1 = .ok p.2 := by decide +kernel
theorem d_S_startFlags {k pc : Nat} {i : Instr} {n : Nat} (h : dt_S_startFlags[k]? = some (pc, i, n)) : decode mi_S_startFlags.2.1 pc = .ok (i, n) := dx_S_startFlags (pc, i, n) (List.mem_of_getElem? h)
def q_S_startFlags (t0 : Option Nat) (i1 : Int32) (M : mM) : Option (Unit × mM) :=
    x_gR M 7 t0 0 fun a1 =>
    x_cv M 0 a1 (q_B_clear a1 M) fun _ M =>
    x_pI M 7 t0 1 (0 : Int32) fun M =>
    x_pI M 7 t0 2 (0 : Int32) fun M =>
    x_pI M 7 t0 3 ((8 : Int32) * i1) fun M =>
    some ((), M)
set_option maxRecDepth 20000 in
theorem v_S_startFlags {E : mE} (t0 : Option Nat) (i1 : Int32) (M : mM) : mVr E mi_S_startFlags 1 0 [some (.inr t0), some (.inl i1)] [] M enU (q_S_startFlags t0 i1 M) := by
  unfold q_S_startFlags
  refine m_aload_n (d_S_startFlags (k := 0) rfl) rfl ?_
  refine m_getR (d_S_startFlags (k := 1) rfl) fl_S_14 rfl (fun a1 => ?_)
  refine m_cvU (c := 0) (vs := []) (st := []) (d_S_startFlags (k := 2) rfl) (s_B_clear a1 M) cd_B_clear ml_S_20 im_B_clear se_B_clear rfl (by decide) rfl (Nat.le_of_ble_eq_true rfl) (fun _ M => ?_)
  refine m_aload_n (d_S_startFlags (k := 3) rfl) rfl ?_
  refine m_iconst (v := 0) (d_S_startFlags (k := 4) rfl) (by decide) ?_
  refine m_pI (d_S_startFlags (k := 5) rfl) fp_S_23 (fun h => absurd h (by decide)) rfl (fun M => ?_)
  refine m_aload_n (d_S_startFlags (k := 6) rfl) rfl ?_
  refine m_iconst (v := 0) (d_S_startFlags (k := 7) rfl) (by decide) ?_
  refine m_pI (d_S_startFlags (k := 8) rfl) fp_S_27 (fun h => absurd h (by decide)) rfl (fun M => ?_)
  refine m_aload_n (d_S_startFlags (k := 9) rfl) rfl ?_
  refine m_bipush (v := 8) (d_S_startFlags (k := 10) rfl) (by decide) ?_
  refine m_iload_n (d_S_startFlags (k := 11) rfl) rfl ?_
  refine m_imul (d_S_startFlags (k := 12) rfl) ?_
  refine m_pI (d_S_startFlags (k := 13) rfl) fp_S_30 (fun h => absurd h (by decide)) rfl (fun M => ?_)
  exact m_vret (d_S_startFlags (k := 14) rfl) rfl
theorem s_S_startFlags {E : mE} (t0 : Option Nat) (i1 : Int32) (M : mM) : mSnd E mi_S_startFlags 1 [.inr t0, .inl i1] M enU (q_S_startFlags t0 i1 M) := m_entryU (by decide) (Nat.le_of_ble_eq_true rfl) rfl (m_drop (mles_s (mles_s mles_0)) (v_S_startFlags t0 i1 M))
def dt_B_addFrom : List (Nat × Instr × Nat) := [(0, .iload_n 2, 1), (1, .ifCond .lt 21, 3), (4, .iload_n 3, 1), (5, .ifCond .lt 17, 3), (8, .iload_n 2, 1), (9, .iload_n 3, 1), (10, .iadd, 1), (11, .aload_n 1, 1), (12, .getfield 21, 3), (15, .if_icmp .gt 7, 3), (18, .iconst 1, 1), (19, .goto 4, 3), (22, .iconst 0, 1), (23, .istore 4, 2), (25, .iload 4, 2), (27, .ifCond .eq 44, 3), (30, .aload_n 0, 1), (31, .getfield 21, 3), (34, .iload_n 3, 1), (35, .iadd, 1), (36, .aload_n 0, 1), (37, .getfield 15, 3), (40, .arraylength, 1), (41, .if_icmp .gt 30, 3), (44, .aload_n 1, 1), (45, .getfield 15, 3), (48, .iload_n 2, 1), (49, .aload_n 0, 1), (50, .getfield 15, 3), (53, .aload_n 0, 1), (54, .getfield 21, 3), (57, .iload_n 3, 1), (58, .invokestatic 29, 3), (61, .aload_n 0, 1), (62, .dup, 1), (63, .getfield 21, 3), (66, .iload_n 3, 1), (67, .iadd, 1), (68, .putfield 21, 3), (71, .return_, 1)]
theorem dx_B_addFrom : ∀ p ∈ dt_B_addFrom, decode prog_2_method_6_code p.1 = .ok p.2 := by decide +kernel
theorem d_B_addFrom {k pc : Nat} {i : Instr} {n : Nat} (h : dt_B_addFrom[k]? = some (pc, i, n)) : decode mi_B_addFrom.2.1 pc = .ok (i, n) := dx_B_addFrom (pc, i, n) (List.mem_of_getElem? h)
def q_B_addFrom_23 (t0 : Option Nat) (t1 : Option Nat) (i2 : Int32) (i3 : Int32) (j0 : Int32) (M : mM) : Option (Unit × mM) :=
    if j0 = 0 then
      some ((), M)
    else
      x_gI M 0 t0 1 fun x1 =>
      x_gR M 0 t0 0 fun a2 =>
      x_al M 0 a2 fun x3 =>
      if x3 < (x1 + i3) then
        some ((), M)
      else
        x_gR M 0 t1 0 fun a4 =>
        x_gR M 0 t0 0 fun a5 =>
        x_gI M 0 t0 1 fun x6 =>
        x_cp M a4 i2 a5 x6 i3 fun M =>
        x_gI M 0 t0 1 fun x7 =>
        x_pI M 0 t0 1 (x7 + i3) fun M =>
        some ((), M)
set_option maxRecDepth 20000 in
theorem v_B_addFrom_23 {E : mE} (t0 : Option Nat) (t1 : Option Nat) (i2 : Int32) (i3 : Int32) (j0 : Int32) (M : mM) : mVr E mi_B_addFrom 2 23 [some (.inr t0), some (.inr t1), some (.inl i2), some (.inl i3), none] [.inl j0] M enU (q_B_addFrom_23 t0 t1 i2 i3 j0 M) := by
  unfold q_B_addFrom_23
  refine m_ist (ls' := [some (.inr t0), some (.inr t1), some (.inl i2), some (.inl i3), some (.inl j0)]) (d_B_addFrom (k := 13) rfl) (by decide) rfl ?_
  refine m_iload (d_B_addFrom (k := 14) rfl) rfl ?_
  refine m_if_eq (tgt := 71) (d_B_addFrom (k := 15) rfl) rfl ?_ ?_
  · exact m_vret (d_B_addFrom (k := 39) rfl) rfl
  · refine m_aload_n (d_B_addFrom (k := 16) rfl) rfl ?_
    refine m_getI (d_B_addFrom (k := 17) rfl) fl_B_21 rfl (fun x1 => ?_)
    refine m_iload_n (d_B_addFrom (k := 18) rfl) rfl ?_
    refine m_iadd (d_B_addFrom (k := 19) rfl) ?_
    refine m_aload_n (d_B_addFrom (k := 20) rfl) rfl ?_
    refine m_getR (d_B_addFrom (k := 21) rfl) fl_B_15 rfl (fun a2 => ?_)
    refine m_alen (t := 0) (d_B_addFrom (k := 22) rfl) rfl (fun x3 => ?_)
    refine m_icmp_gt (tgt := 71) (d_B_addFrom (k := 23) rfl) rfl ?_ ?_
    · exact m_vret (d_B_addFrom (k := 39) rfl) rfl
    · refine m_aload_n (d_B_addFrom (k := 24) rfl) rfl ?_
      refine m_getR (d_B_addFrom (k := 25) rfl) fl_B_15 rfl (fun a4 => ?_)
      refine m_iload_n (d_B_addFrom (k := 26) rfl) rfl ?_
      refine m_aload_n (d_B_addFrom (k := 27) rfl) rfl ?_
      refine m_getR (d_B_addFrom (k := 28) rfl) fl_B_15 rfl (fun a5 => ?_)
      refine m_aload_n (d_B_addFrom (k := 29) rfl) rfl ?_
      refine m_getI (d_B_addFrom (k := 30) rfl) fl_B_21 rfl (fun x6 => ?_)
      refine m_iload_n (d_B_addFrom (k := 31) rfl) rfl ?_
      refine m_copy (d_B_addFrom (k := 32) rfl) ma_B_29 an_1 an_2 an_3 (Nat.le_of_ble_eq_true rfl) (fun M => ?_)
      refine m_aload_n (d_B_addFrom (k := 33) rfl) rfl ?_
      refine m_dup (d_B_addFrom (k := 34) rfl) ?_
      refine m_getI (d_B_addFrom (k := 35) rfl) fl_B_21 rfl (fun x7 => ?_)
      refine m_iload_n (d_B_addFrom (k := 36) rfl) rfl ?_
      refine m_iadd (d_B_addFrom (k := 37) rfl) ?_
      refine m_pI (d_B_addFrom (k := 38) rfl) fp_B_21 (fun h => absurd h (by decide)) rfl (fun M => ?_)
      exact m_vret (d_B_addFrom (k := 39) rfl) rfl
def q_B_addFrom_22 (t0 : Option Nat) (t1 : Option Nat) (i2 : Int32) (i3 : Int32) (M : mM) : Option (Unit × mM) :=
    q_B_addFrom_23 t0 t1 i2 i3 (0 : Int32) M
set_option maxRecDepth 20000 in
theorem v_B_addFrom_22 {E : mE} (t0 : Option Nat) (t1 : Option Nat) (i2 : Int32) (i3 : Int32) (M : mM) : mVr E mi_B_addFrom 2 22 [some (.inr t0), some (.inr t1), some (.inl i2), some (.inl i3), none] [] M enU (q_B_addFrom_22 t0 t1 i2 i3 M) := by
  unfold q_B_addFrom_22
  refine m_iconst (v := 0) (d_B_addFrom (k := 12) rfl) (by decide) ?_
  exact m_drop (mles_s (mles_s (mles_s (mles_s (mles_n mles_0))))) (v_B_addFrom_23 t0 t1 i2 i3 (0 : Int32) M)
def q_B_addFrom (t0 : Option Nat) (t1 : Option Nat) (i2 : Int32) (i3 : Int32) (M : mM) : Option (Unit × mM) :=
    if i2 < 0 then
      q_B_addFrom_22 t0 t1 i2 i3 M
    else
      if i3 < 0 then
        q_B_addFrom_22 t0 t1 i2 i3 M
      else
        x_gI M 0 t1 1 fun x1 =>
        if x1 < (i2 + i3) then
          q_B_addFrom_22 t0 t1 i2 i3 M
        else
          q_B_addFrom_23 t0 t1 i2 i3 (1 : Int32) M
set_option maxRecDepth 20000 in
theorem v_B_addFrom {E : mE} (t0 : Option Nat) (t1 : Option Nat) (i2 : Int32) (i3 : Int32) (M : mM) : mVr E mi_B_addFrom 2 0 [some (.inr t0), some (.inr t1), some (.inl i2), some (.inl i3), none] [] M enU (q_B_addFrom t0 t1 i2 i3 M) := by
  unfold q_B_addFrom
  refine m_iload_n (d_B_addFrom (k := 0) rfl) rfl ?_
  refine m_if_lt (tgt := 22) (d_B_addFrom (k := 1) rfl) rfl ?_ ?_
  · exact m_drop (mles_s (mles_s (mles_s (mles_s (mles_n mles_0))))) (v_B_addFrom_22 t0 t1 i2 i3 M)
  · refine m_iload_n (d_B_addFrom (k := 2) rfl) rfl ?_
    refine m_if_lt (tgt := 22) (d_B_addFrom (k := 3) rfl) rfl ?_ ?_
    · exact m_drop (mles_s (mles_s (mles_s (mles_s (mles_n mles_0))))) (v_B_addFrom_22 t0 t1 i2 i3 M)
    · refine m_iload_n (d_B_addFrom (k := 4) rfl) rfl ?_
      refine m_iload_n (d_B_addFrom (k := 5) rfl) rfl ?_
      refine m_iadd (d_B_addFrom (k := 6) rfl) ?_
      refine m_aload_n (d_B_addFrom (k := 7) rfl) rfl ?_
      refine m_getI (d_B_addFrom (k := 8) rfl) fl_B_21 rfl (fun x1 => ?_)
      refine m_icmp_gt (tgt := 22) (d_B_addFrom (k := 9) rfl) rfl ?_ ?_
      · exact m_drop (mles_s (mles_s (mles_s (mles_s (mles_n mles_0))))) (v_B_addFrom_22 t0 t1 i2 i3 M)
      · refine m_iconst (v := 1) (d_B_addFrom (k := 10) rfl) (by decide) ?_
        refine m_goto (tgt := 23) (d_B_addFrom (k := 11) rfl) rfl ?_
        exact m_drop (mles_s (mles_s (mles_s (mles_s (mles_n mles_0))))) (v_B_addFrom_23 t0 t1 i2 i3 (1 : Int32) M)
theorem s_B_addFrom {E : mE} (t0 : Option Nat) (t1 : Option Nat) (i2 : Int32) (i3 : Int32) (M : mM) : mSnd E mi_B_addFrom 2 [.inr t0, .inr t1, .inl i2, .inl i3] M enU (q_B_addFrom t0 t1 i2 i3 M) := m_entryU (by decide) (Nat.le_of_ble_eq_true rfl) rfl (m_drop (mles_s (mles_s (mles_s (mles_s (mles_e mles_0))))) (v_B_addFrom t0 t1 i2 i3 M))
def dt_C_checkOf : List (Nat × Instr × Nat) := [(0, .ldc_w 530, 3), (3, .istore_n 2, 1), (4, .iconst 0, 1), (5, .istore_n 3, 1), (6, .iload_n 3, 1), (7, .bipush 8, 2), (9, .iload_n 1, 1), (10, .imul, 1), (11, .if_icmp .ge 47, 3), (14, .aload_n 0, 1), (15, .iload_n 3, 1), (16, .iconst 3, 1), (17, .ishr, 1), (18, .invokevirtual 68, 3), (21, .iload_n 3, 1), (22, .bipush 7, 2), (24, .iand, 1), (25, .ishr, 1), (26, .iconst 1, 1), (27, .iand, 1), (28, .istore 4, 2), (30, .iload_n 2, 1), (31, .iconst 1, 1), (32, .iand, 1), (33, .iload 4, 2), (35, .if_icmp .ne 9, 3), (38, .iload_n 2, 1), (39, .iconst 1, 1), (40, .ishr, 1), (41, .goto 10, 3), (44, .iload_n 2, 1), (45, .iconst 1, 1), (46, .ishr, 1), (47, .ldc_w 531, 3), (50, .ixor, 1), (51, .istore_n 2, 1), (52, .iinc 3 1, 3), (55, .goto (-49), 3), (58, .ldc_w 530, 3), (61, .iload_n 2, 1), (62, .isub, 1), (63, .ireturn, 1)]
theorem dx_C_checkOf : ∀ p ∈ dt_C_checkOf, decode prog_1_method_63_code p.1 = .ok p.2 := by decide +kernel
theorem d_C_checkOf {k pc : Nat} {i : Instr} {n : Nat} (h : dt_C_checkOf[k]? = some (pc, i, n)) : decode mi_C_checkOf.2.1 pc = .ok (i, n) := dx_C_checkOf (pc, i, n) (List.mem_of_getElem? h)
def q_C_checkOf_51 (r6 : Option Nat → Int32 → Int32 → Int32 → mM → Option (Int32 × mM)) (t0 : Option Nat) (i1 : Int32) (i3 : Int32) (j0 : Int32) (M : mM) : Option (Int32 × mM) :=
    r6 t0 i1 j0 (i3 + 1) M
set_option maxRecDepth 20000 in
theorem v_C_checkOf_51 {E : mE} (r6 : Option Nat → Int32 → Int32 → Int32 → mM → Option (Int32 × mM)) (h6 : ∀ (t0 : Option Nat) (i1 : Int32) (i2 : Int32) (i3 : Int32) (M : mM), mVr E mi_C_checkOf 1 6 [some (.inr t0), some (.inl i1), some (.inl i2), some (.inl i3), none] [] M enI (r6 t0 i1 i2 i3 M)) (t0 : Option Nat) (i1 : Int32) (i3 : Int32) (j0 : Int32) (M : mM) : mVr E mi_C_checkOf 1 51 [some (.inr t0), some (.inl i1), none, some (.inl i3), none] [.inl j0] M enI (q_C_checkOf_51 r6 t0 i1 i3 j0 M) := by
  unfold q_C_checkOf_51
  refine m_ist_n (ls' := [some (.inr t0), some (.inl i1), some (.inl j0), some (.inl i3), none]) (d_C_checkOf (k := 35) rfl) (by decide) rfl ?_
  refine m_inc (v := 1) (ls' := [some (.inr t0), some (.inl i1), some (.inl j0), some (.inl (i3 + 1)), none]) (d_C_checkOf (k := 36) rfl) rfl (by decide) (by decide) rfl ?_
  refine m_goto (tgt := 6) (d_C_checkOf (k := 37) rfl) rfl ?_
  exact m_drop (mles_s (mles_s (mles_s (mles_s (mles_n mles_0))))) (h6 t0 i1 j0 (i3 + 1) M)
def q_C_checkOf_6_b (r6 : Option Nat → Int32 → Int32 → Int32 → mM → Option (Int32 × mM)) (t0 : Option Nat) (i1 : Int32) (i2 : Int32) (i3 : Int32) (M : mM) : Option (Int32 × mM) :=
    if i3 < ((8 : Int32) * i1) then
      x_cv M 0 t0 (q_B_at t0 (i3 >>> ((3 : Int32) &&& 31)) M) fun x1 M =>
      x_lt ((x1 >>> ((i3 &&& (7 : Int32)) &&& 31)) &&& (1 : Int32)) fun x2 =>
      if (i2 &&& (1 : Int32)) = x2 then
        q_C_checkOf_51 r6 t0 i1 i3 (i2 >>> ((1 : Int32) &&& 31)) M
      else
        q_C_checkOf_51 r6 t0 i1 i3 ((i2 >>> ((1 : Int32) &&& 31)) ^^^ (33800 : Int32)) M
    else
      some (((65535 : Int32) - i2), M)
def q_C_checkOf_6 : Nat → Option Nat → Int32 → Int32 → Int32 → mM → Option (Int32 × mM)
  | 0, _, _, _, _, _ => none
  | n + 1, t0, i1, i2, i3, M => q_C_checkOf_6_b (q_C_checkOf_6 n) t0 i1 i2 i3 M
set_option maxRecDepth 20000 in
theorem v_C_checkOf_6_b {E : mE} (r6 : Option Nat → Int32 → Int32 → Int32 → mM → Option (Int32 × mM)) (h6 : ∀ (t0 : Option Nat) (i1 : Int32) (i2 : Int32) (i3 : Int32) (M : mM), mVr E mi_C_checkOf 1 6 [some (.inr t0), some (.inl i1), some (.inl i2), some (.inl i3), none] [] M enI (r6 t0 i1 i2 i3 M)) (t0 : Option Nat) (i1 : Int32) (i2 : Int32) (i3 : Int32) (M : mM) : mVr E mi_C_checkOf 1 6 [some (.inr t0), some (.inl i1), some (.inl i2), some (.inl i3), none] [] M enI (q_C_checkOf_6_b r6 t0 i1 i2 i3 M) := by
  unfold q_C_checkOf_6_b
  refine m_iload_n (d_C_checkOf (k := 4) rfl) rfl ?_
  refine m_bipush (v := 8) (d_C_checkOf (k := 5) rfl) (by decide) ?_
  refine m_iload_n (d_C_checkOf (k := 6) rfl) rfl ?_
  refine m_imul (d_C_checkOf (k := 7) rfl) ?_
  refine m_icmp_ge (tgt := 58) (d_C_checkOf (k := 8) rfl) rfl ?_ ?_
  · refine m_aload_n (d_C_checkOf (k := 9) rfl) rfl ?_
    refine m_iload_n (d_C_checkOf (k := 10) rfl) rfl ?_
    refine m_iconst (v := 3) (d_C_checkOf (k := 11) rfl) (by decide) ?_
    refine m_ishr (d_C_checkOf (k := 12) rfl) ?_
    refine m_cvI (c := 0) (vs := [.inl (i3 >>> ((3 : Int32) &&& 31))]) (st := []) (d_C_checkOf (k := 13) rfl) (s_B_at t0 (i3 >>> ((3 : Int32) &&& 31)) M) cd_B_at ml_C_68 im_B_at se_B_at rfl (by decide) rfl (Nat.le_of_ble_eq_true rfl) (fun x1 M => ?_)
    refine m_iload_n (d_C_checkOf (k := 14) rfl) rfl ?_
    refine m_bipush (v := 7) (d_C_checkOf (k := 15) rfl) (by decide) ?_
    refine m_iand (d_C_checkOf (k := 16) rfl) ?_
    refine m_ishr (d_C_checkOf (k := 17) rfl) ?_
    refine m_iconst (v := 1) (d_C_checkOf (k := 18) rfl) (by decide) ?_
    refine m_iand (d_C_checkOf (k := 19) rfl) ?_
    refine m_lt (fun x2 => ?_)
    refine m_ist (ls' := [some (.inr t0), some (.inl i1), some (.inl i2), some (.inl i3), some (.inl x2)]) (d_C_checkOf (k := 20) rfl) (by decide) rfl ?_
    refine m_iload_n (d_C_checkOf (k := 21) rfl) rfl ?_
    refine m_iconst (v := 1) (d_C_checkOf (k := 22) rfl) (by decide) ?_
    refine m_iand (d_C_checkOf (k := 23) rfl) ?_
    refine m_iload (d_C_checkOf (k := 24) rfl) rfl ?_
    refine m_icmp_ne (tgt := 44) (d_C_checkOf (k := 25) rfl) rfl ?_ ?_
    · refine m_iload_n (d_C_checkOf (k := 26) rfl) rfl ?_
      refine m_iconst (v := 1) (d_C_checkOf (k := 27) rfl) (by decide) ?_
      refine m_ishr (d_C_checkOf (k := 28) rfl) ?_
      refine m_goto (tgt := 51) (d_C_checkOf (k := 29) rfl) rfl ?_
      exact m_drop (mles_s (mles_s (mles_n (mles_s (mles_n mles_0))))) (v_C_checkOf_51 r6 h6 t0 i1 i3 (i2 >>> ((1 : Int32) &&& 31)) M)
    · refine m_iload_n (d_C_checkOf (k := 30) rfl) rfl ?_
      refine m_iconst (v := 1) (d_C_checkOf (k := 31) rfl) (by decide) ?_
      refine m_ishr (d_C_checkOf (k := 32) rfl) ?_
      refine m_ldcw (d_C_checkOf (k := 33) rfl) ct_C_531 ?_
      refine m_ixor (d_C_checkOf (k := 34) rfl) ?_
      exact m_drop (mles_s (mles_s (mles_n (mles_s (mles_n mles_0))))) (v_C_checkOf_51 r6 h6 t0 i1 i3 ((i2 >>> ((1 : Int32) &&& 31)) ^^^ (33800 : Int32)) M)
  · refine m_ldcw (d_C_checkOf (k := 38) rfl) ct_C_530 ?_
    refine m_iload_n (d_C_checkOf (k := 39) rfl) rfl ?_
    refine m_isub (d_C_checkOf (k := 40) rfl) ?_
    exact m_iret (d_C_checkOf (k := 41) rfl) rfl
theorem v_C_checkOf_6 {E : mE} : ∀ (n : Nat) (t0 : Option Nat) (i1 : Int32) (i2 : Int32) (i3 : Int32) (M : mM), mVr E mi_C_checkOf 1 6 [some (.inr t0), some (.inl i1), some (.inl i2), some (.inl i3), none] [] M enI (q_C_checkOf_6 n t0 i1 i2 i3 M)
  | 0, _, _, _, _, _ => m_none
  | n + 1, t0, i1, i2, i3, M => v_C_checkOf_6_b _ (v_C_checkOf_6 n) t0 i1 i2 i3 M
def q_C_checkOf (t0 : Option Nat) (i1 : Int32) (M : mM) : Option (Int32 × mM) :=
    q_C_checkOf_6 mFU t0 i1 (65535 : Int32) (0 : Int32) M
set_option maxRecDepth 20000 in
theorem v_C_checkOf {E : mE} (t0 : Option Nat) (i1 : Int32) (M : mM) : mVr E mi_C_checkOf 1 0 [some (.inr t0), some (.inl i1), none, none, none] [] M enI (q_C_checkOf t0 i1 M) := by
  unfold q_C_checkOf
  refine m_ldcw (d_C_checkOf (k := 0) rfl) ct_C_530 ?_
  refine m_ist_n (ls' := [some (.inr t0), some (.inl i1), some (.inl (65535 : Int32)), none, none]) (d_C_checkOf (k := 1) rfl) (by decide) rfl ?_
  refine m_iconst (v := 0) (d_C_checkOf (k := 2) rfl) (by decide) ?_
  refine m_ist_n (ls' := [some (.inr t0), some (.inl i1), some (.inl (65535 : Int32)), some (.inl (0 : Int32)), none]) (d_C_checkOf (k := 3) rfl) (by decide) rfl ?_
  exact m_drop (mles_s (mles_s (mles_s (mles_s (mles_n mles_0))))) (v_C_checkOf_6 mFU t0 i1 (65535 : Int32) (0 : Int32) M)
theorem s_C_checkOf {E : mE} (t0 : Option Nat) (i1 : Int32) (M : mM) : mSnd E mi_C_checkOf 1 [.inr t0, .inl i1] M enI (q_C_checkOf t0 i1 M) := m_entryI (by decide) (Nat.le_of_ble_eq_true rfl) rfl (m_drop (mles_s (mles_s (mles_e (mles_e (mles_e mles_0))))) (v_C_checkOf t0 i1 M))
def dt_S_startFrame : List (Nat × Instr × Nat) := [(0, .aload_n 0, 1), (1, .iconst 1, 1), (2, .invokevirtual 33, 3), (5, .aload_n 0, 1), (6, .getfield 14, 3), (9, .aload_n 1, 1), (10, .iconst 0, 1), (11, .aload_n 1, 1), (12, .getfield 36, 3), (15, .invokevirtual 39, 3), (18, .aload_n 1, 1), (19, .aload_n 1, 1), (20, .getfield 36, 3), (23, .invokestatic 43, 3), (26, .istore_n 2, 1), (27, .aload_n 0, 1), (28, .getfield 14, 3), (31, .iload_n 2, 1), (32, .sipush 255, 3), (35, .iand, 1), (36, .invokevirtual 47, 3), (39, .aload_n 0, 1), (40, .getfield 14, 3), (43, .iload_n 2, 1), (44, .bipush 8, 2), (46, .ishr, 1), (47, .invokevirtual 47, 3), (50, .return_, 1)]
theorem dx_S_startFrame : ∀ p ∈ dt_S_startFrame, decode prog_9_method_3_code p.1 = .ok p.2 := by decide +kernel
theorem d_S_startFrame {k pc : Nat} {i : Instr} {n : Nat} (h : dt_S_startFrame[k]? = some (pc, i, n)) : decode mi_S_startFrame.2.1 pc = .ok (i, n) := dx_S_startFrame (pc, i, n) (List.mem_of_getElem? h)
def q_S_startFrame (t0 : Option Nat) (t1 : Option Nat) (M : mM) : Option (Unit × mM) :=
    x_cv M 7 t0 (q_S_startFlags t0 (1 : Int32) M) fun _ M =>
    x_gR M 7 t0 0 fun a1 =>
    x_gI M 0 t1 1 fun x2 =>
    x_cv M 0 a1 (q_B_addFrom a1 t1 (0 : Int32) x2 M) fun _ M =>
    x_gI M 0 t1 1 fun x3 =>
    x_cl (q_C_checkOf t1 x3 M) fun x4 M =>
    x_gR M 7 t0 0 fun a5 =>
    x_cv M 0 a5 (q_B_add a5 (x4 &&& (255 : Int32)) M) fun _ M =>
    x_gR M 7 t0 0 fun a6 =>
    x_cv M 0 a6 (q_B_add a6 (x4 >>> ((8 : Int32) &&& 31)) M) fun _ M =>
    some ((), M)
set_option maxRecDepth 20000 in
theorem v_S_startFrame {E : mE} (t0 : Option Nat) (t1 : Option Nat) (M : mM) : mVr E mi_S_startFrame 3 0 [some (.inr t0), some (.inr t1), none] [] M enU (q_S_startFrame t0 t1 M) := by
  unfold q_S_startFrame
  refine m_aload_n (d_S_startFrame (k := 0) rfl) rfl ?_
  refine m_iconst (v := 1) (d_S_startFrame (k := 1) rfl) (by decide) ?_
  refine m_cvU (c := 7) (vs := [.inl (1 : Int32)]) (st := []) (d_S_startFrame (k := 2) rfl) (s_S_startFlags t0 (1 : Int32) M) cd_S_startFlags ml_S_33 im_S_startFlags se_S_startFlags rfl (by decide) rfl (Nat.le_of_ble_eq_true rfl) (fun _ M => ?_)
  refine m_aload_n (d_S_startFrame (k := 3) rfl) rfl ?_
  refine m_getR (d_S_startFrame (k := 4) rfl) fl_S_14 rfl (fun a1 => ?_)
  refine m_aload_n (d_S_startFrame (k := 5) rfl) rfl ?_
  refine m_iconst (v := 0) (d_S_startFrame (k := 6) rfl) (by decide) ?_
  refine m_aload_n (d_S_startFrame (k := 7) rfl) rfl ?_
  refine m_getI (d_S_startFrame (k := 8) rfl) fl_S_36 rfl (fun x2 => ?_)
  refine m_cvU (c := 0) (vs := [.inr t1, .inl (0 : Int32), .inl x2]) (st := []) (d_S_startFrame (k := 9) rfl) (s_B_addFrom a1 t1 (0 : Int32) x2 M) cd_B_addFrom ml_S_39 im_B_addFrom se_B_addFrom rfl (by decide) rfl (Nat.le_of_ble_eq_true rfl) (fun _ M => ?_)
  refine m_aload_n (d_S_startFrame (k := 10) rfl) rfl ?_
  refine m_aload_n (d_S_startFrame (k := 11) rfl) rfl ?_
  refine m_getI (d_S_startFrame (k := 12) rfl) fl_S_36 rfl (fun x3 => ?_)
  refine m_nsI (vs := [.inr t1, .inl x3]) (st := []) (d_S_startFrame (k := 13) rfl) (s_C_checkOf t1 x3 M) cd_C_checkOf mn_S_43 sa_C_checkOf (by decide) rfl (Nat.le_of_ble_eq_true rfl) (fun x4 M => ?_)
  refine m_ist_n (ls' := [some (.inr t0), some (.inr t1), some (.inl x4)]) (d_S_startFrame (k := 14) rfl) (by decide) rfl ?_
  refine m_aload_n (d_S_startFrame (k := 15) rfl) rfl ?_
  refine m_getR (d_S_startFrame (k := 16) rfl) fl_S_14 rfl (fun a5 => ?_)
  refine m_iload_n (d_S_startFrame (k := 17) rfl) rfl ?_
  refine m_sipush (v := 255) (d_S_startFrame (k := 18) rfl) (by decide) ?_
  refine m_iand (d_S_startFrame (k := 19) rfl) ?_
  refine m_cvU (c := 0) (vs := [.inl (x4 &&& (255 : Int32))]) (st := []) (d_S_startFrame (k := 20) rfl) (s_B_add a5 (x4 &&& (255 : Int32)) M) cd_B_add ml_S_47 im_B_add se_B_add rfl (by decide) rfl (Nat.le_of_ble_eq_true rfl) (fun _ M => ?_)
  refine m_aload_n (d_S_startFrame (k := 21) rfl) rfl ?_
  refine m_getR (d_S_startFrame (k := 22) rfl) fl_S_14 rfl (fun a6 => ?_)
  refine m_iload_n (d_S_startFrame (k := 23) rfl) rfl ?_
  refine m_bipush (v := 8) (d_S_startFrame (k := 24) rfl) (by decide) ?_
  refine m_ishr (d_S_startFrame (k := 25) rfl) ?_
  refine m_cvU (c := 0) (vs := [.inl (x4 >>> ((8 : Int32) &&& 31))]) (st := []) (d_S_startFrame (k := 26) rfl) (s_B_add a6 (x4 >>> ((8 : Int32) &&& 31)) M) cd_B_add ml_S_47 im_B_add se_B_add rfl (by decide) rfl (Nat.le_of_ble_eq_true rfl) (fun _ M => ?_)
  exact m_vret (d_S_startFrame (k := 27) rfl) rfl
theorem s_S_startFrame {E : mE} (t0 : Option Nat) (t1 : Option Nat) (M : mM) : mSnd E mi_S_startFrame 3 [.inr t0, .inr t1] M enU (q_S_startFrame t0 t1 M) := m_entryU (by decide) (Nat.le_of_ble_eq_true rfl) rfl (m_drop (mles_s (mles_s (mles_e mles_0))) (v_S_startFrame t0 t1 M))
def dt_C_bits : List (Nat × Instr × Nat) := [(0, .aload_n 0, 1), (1, .getfield 30, 3), (4, .invokestatic 72, 3), (7, .ifCond .eq 16, 3), (10, .iload_n 1, 1), (11, .ifCond .eq 8, 3), (14, .iload_n 1, 1), (15, .iconst 1, 1), (16, .if_icmp .ne 7, 3), (19, .iconst 1, 1), (20, .goto 4, 3), (23, .iconst 0, 1), (24, .istore_n 2, 1), (25, .iload_n 2, 1), (26, .ifCond .eq 45, 3), (29, .aload_n 0, 1), (30, .getfield 34, 3), (33, .invokevirtual 76, 3), (36, .aload_n 0, 1), (37, .getfield 40, 3), (40, .iload_n 1, 1), (41, .putfield 79, 3), (44, .aload_n 0, 1), (45, .getfield 40, 3), (48, .iconst 2, 1), (49, .invokevirtual 82, 3), (52, .aload_n 0, 1), (53, .invokevirtual 85, 3), (56, .aload_n 0, 1), (57, .getfield 40, 3), (60, .aload_n 0, 1), (61, .getfield 30, 3), (64, .invokevirtual 88, 3), (67, .aload_n 0, 1), (68, .invokevirtual 85, 3), (71, .aload_n 0, 1), (72, .getfield 30, 3), (75, .invokevirtual 76, 3), (78, .iload_n 2, 1), (79, .ifCond .eq 13, 3), (82, .aload_n 0, 1), (83, .getfield 34, 3), (86, .getfield 61, 3), (89, .goto 4, 3), (92, .iconst (-1), 1), (93, .ireturn, 1)]
theorem dx_C_bits : ∀ p ∈ dt_C_bits, decode prog_1_method_5_code p.1 = .ok p.2 := by decide +kernel
theorem d_C_bits {k pc : Nat} {i : Instr} {n : Nat} (h : dt_C_bits[k]? = some (pc, i, n)) : decode mi_C_bits.2.1 pc = .ok (i, n) := dx_C_bits (pc, i, n) (List.mem_of_getElem? h)
def q_C_bits_71 (t0 : Option Nat) (i2 : Int32) (M : mM) : Option (Int32 × mM) :=
    x_gR M 9 t0 1 fun a1 =>
    x_cv M 0 a1 (q_B_clear a1 M) fun _ M =>
    if i2 = 0 then
      some ((-1 : Int32), M)
    else
      x_gR M 9 t0 2 fun a2 =>
      x_gI M 0 a2 1 fun x3 =>
      some (x3, M)
set_option maxRecDepth 20000 in
theorem v_C_bits_71 {E : mE} (t0 : Option Nat) (i2 : Int32) (M : mM) : mVr E mi_C_bits 4 71 [some (.inr t0), none, some (.inl i2)] [] M enI (q_C_bits_71 t0 i2 M) := by
  unfold q_C_bits_71
  refine m_aload_n (d_C_bits (k := 35) rfl) rfl ?_
  refine m_getR (d_C_bits (k := 36) rfl) fl_C_30 rfl (fun a1 => ?_)
  refine m_cvU (c := 0) (vs := []) (st := []) (d_C_bits (k := 37) rfl) (s_B_clear a1 M) cd_B_clear ml_C_76 im_B_clear se_B_clear rfl (by decide) rfl (Nat.le_of_ble_eq_true rfl) (fun _ M => ?_)
  refine m_iload_n (d_C_bits (k := 38) rfl) rfl ?_
  refine m_if_eq (tgt := 92) (d_C_bits (k := 39) rfl) rfl ?_ ?_
  · refine m_iconst (v := (-1)) (d_C_bits (k := 44) rfl) (by decide) ?_
    exact m_iret (d_C_bits (k := 45) rfl) rfl
  · refine m_aload_n (d_C_bits (k := 40) rfl) rfl ?_
    refine m_getR (d_C_bits (k := 41) rfl) fl_C_34 rfl (fun a2 => ?_)
    refine m_getI (d_C_bits (k := 42) rfl) fl_C_61 rfl (fun x3 => ?_)
    refine m_goto (tgt := 93) (d_C_bits (k := 43) rfl) rfl ?_
    exact m_iret (d_C_bits (k := 45) rfl) rfl
def q_C_bits_24 (t0 : Option Nat) (i1 : Int32) (j0 : Int32) (M : mM) : Option (Int32 × mM) :=
    if j0 = 0 then
      q_C_bits_71 t0 j0 M
    else
      x_gR M 9 t0 2 fun a1 =>
      x_cv M 0 a1 (q_B_clear a1 M) fun _ M =>
      x_gR M 9 t0 3 fun a2 =>
      x_pI M 7 a2 4 i1 fun M =>
      x_gR M 9 t0 3 fun a3 =>
      x_cv M 7 a3 (q_S_startFlags a3 (2 : Int32) M) fun _ M =>
      x_cv M 9 t0 (q_C_putLevels t0 M) fun _ M =>
      x_gR M 9 t0 3 fun a4 =>
      x_gR M 9 t0 1 fun a5 =>
      x_cv M 7 a4 (q_S_startFrame a4 a5 M) fun _ M =>
      x_cv M 9 t0 (q_C_putLevels t0 M) fun _ M =>
      q_C_bits_71 t0 j0 M
set_option maxRecDepth 20000 in
theorem v_C_bits_24 {E : mE} (t0 : Option Nat) (i1 : Int32) (j0 : Int32) (M : mM) : mVr E mi_C_bits 4 24 [some (.inr t0), some (.inl i1), none] [.inl j0] M enI (q_C_bits_24 t0 i1 j0 M) := by
  unfold q_C_bits_24
  refine m_ist_n (ls' := [some (.inr t0), some (.inl i1), some (.inl j0)]) (d_C_bits (k := 12) rfl) (by decide) rfl ?_
  refine m_iload_n (d_C_bits (k := 13) rfl) rfl ?_
  refine m_if_eq (tgt := 71) (d_C_bits (k := 14) rfl) rfl ?_ ?_
  · exact m_drop (mles_s (mles_n (mles_s mles_0))) (v_C_bits_71 t0 j0 M)
  · refine m_aload_n (d_C_bits (k := 15) rfl) rfl ?_
    refine m_getR (d_C_bits (k := 16) rfl) fl_C_34 rfl (fun a1 => ?_)
    refine m_cvU (c := 0) (vs := []) (st := []) (d_C_bits (k := 17) rfl) (s_B_clear a1 M) cd_B_clear ml_C_76 im_B_clear se_B_clear rfl (by decide) rfl (Nat.le_of_ble_eq_true rfl) (fun _ M => ?_)
    refine m_aload_n (d_C_bits (k := 18) rfl) rfl ?_
    refine m_getR (d_C_bits (k := 19) rfl) fl_C_40 rfl (fun a2 => ?_)
    refine m_iload_n (d_C_bits (k := 20) rfl) rfl ?_
    refine m_pI (d_C_bits (k := 21) rfl) fp_C_79 (fun h => absurd h (by decide)) rfl (fun M => ?_)
    refine m_aload_n (d_C_bits (k := 22) rfl) rfl ?_
    refine m_getR (d_C_bits (k := 23) rfl) fl_C_40 rfl (fun a3 => ?_)
    refine m_iconst (v := 2) (d_C_bits (k := 24) rfl) (by decide) ?_
    refine m_cvU (c := 7) (vs := [.inl (2 : Int32)]) (st := []) (d_C_bits (k := 25) rfl) (s_S_startFlags a3 (2 : Int32) M) cd_S_startFlags ml_C_82 im_S_startFlags se_S_startFlags rfl (by decide) rfl (Nat.le_of_ble_eq_true rfl) (fun _ M => ?_)
    refine m_aload_n (d_C_bits (k := 26) rfl) rfl ?_
    refine m_cvU (c := 9) (vs := []) (st := []) (d_C_bits (k := 27) rfl) (s_C_putLevels t0 M) cd_C_putLevels ml_C_85 im_C_putLevels se_C_putLevels rfl (by decide) rfl (Nat.le_of_ble_eq_true rfl) (fun _ M => ?_)
    refine m_aload_n (d_C_bits (k := 28) rfl) rfl ?_
    refine m_getR (d_C_bits (k := 29) rfl) fl_C_40 rfl (fun a4 => ?_)
    refine m_aload_n (d_C_bits (k := 30) rfl) rfl ?_
    refine m_getR (d_C_bits (k := 31) rfl) fl_C_30 rfl (fun a5 => ?_)
    refine m_cvU (c := 7) (vs := [.inr a5]) (st := []) (d_C_bits (k := 32) rfl) (s_S_startFrame a4 a5 M) cd_S_startFrame ml_C_88 im_S_startFrame se_S_startFrame rfl (by decide) rfl (Nat.le_of_ble_eq_true rfl) (fun _ M => ?_)
    refine m_aload_n (d_C_bits (k := 33) rfl) rfl ?_
    refine m_cvU (c := 9) (vs := []) (st := []) (d_C_bits (k := 34) rfl) (s_C_putLevels t0 M) cd_C_putLevels ml_C_85 im_C_putLevels se_C_putLevels rfl (by decide) rfl (Nat.le_of_ble_eq_true rfl) (fun _ M => ?_)
    exact m_drop (mles_s (mles_n (mles_s mles_0))) (v_C_bits_71 t0 j0 M)
def q_C_bits_23 (t0 : Option Nat) (i1 : Int32) (M : mM) : Option (Int32 × mM) :=
    q_C_bits_24 t0 i1 (0 : Int32) M
set_option maxRecDepth 20000 in
theorem v_C_bits_23 {E : mE} (t0 : Option Nat) (i1 : Int32) (M : mM) : mVr E mi_C_bits 4 23 [some (.inr t0), some (.inl i1), none] [] M enI (q_C_bits_23 t0 i1 M) := by
  unfold q_C_bits_23
  refine m_iconst (v := 0) (d_C_bits (k := 11) rfl) (by decide) ?_
  exact m_drop (mles_s (mles_s (mles_n mles_0))) (v_C_bits_24 t0 i1 (0 : Int32) M)
def q_C_bits_19 (t0 : Option Nat) (i1 : Int32) (M : mM) : Option (Int32 × mM) :=
    q_C_bits_24 t0 i1 (1 : Int32) M
set_option maxRecDepth 20000 in
theorem v_C_bits_19 {E : mE} (t0 : Option Nat) (i1 : Int32) (M : mM) : mVr E mi_C_bits 4 19 [some (.inr t0), some (.inl i1), none] [] M enI (q_C_bits_19 t0 i1 M) := by
  unfold q_C_bits_19
  refine m_iconst (v := 1) (d_C_bits (k := 9) rfl) (by decide) ?_
  refine m_goto (tgt := 24) (d_C_bits (k := 10) rfl) rfl ?_
  exact m_drop (mles_s (mles_s (mles_n mles_0))) (v_C_bits_24 t0 i1 (1 : Int32) M)
def q_C_bits (t0 : Option Nat) (i1 : Int32) (M : mM) : Option (Int32 × mM) :=
    x_gR M 9 t0 1 fun a1 =>
    x_cl (q_C_isFrame a1 M) fun x2 M =>
    if x2 = 0 then
      q_C_bits_23 t0 i1 M
    else
      if i1 = 0 then
        q_C_bits_19 t0 i1 M
      else
        if i1 = (1 : Int32) then
          q_C_bits_19 t0 i1 M
        else
          q_C_bits_23 t0 i1 M
set_option maxRecDepth 20000 in
theorem v_C_bits {E : mE} (t0 : Option Nat) (i1 : Int32) (M : mM) : mVr E mi_C_bits 4 0 [some (.inr t0), some (.inl i1), none] [] M enI (q_C_bits t0 i1 M) := by
  unfold q_C_bits
  refine m_aload_n (d_C_bits (k := 0) rfl) rfl ?_
  refine m_getR (d_C_bits (k := 1) rfl) fl_C_30 rfl (fun a1 => ?_)
  refine m_csI (vs := [.inr a1]) (st := []) (d_C_bits (k := 2) rfl) (s_C_isFrame a1 M) cd_C_isFrame ml_C_72 sa_C_isFrame (by decide) rfl (Nat.le_of_ble_eq_true rfl) (fun x2 M => ?_)
  refine m_if_eq (tgt := 23) (d_C_bits (k := 3) rfl) rfl ?_ ?_
  · exact m_drop (mles_s (mles_s (mles_n mles_0))) (v_C_bits_23 t0 i1 M)
  · refine m_iload_n (d_C_bits (k := 4) rfl) rfl ?_
    refine m_if_eq (tgt := 19) (d_C_bits (k := 5) rfl) rfl ?_ ?_
    · exact m_drop (mles_s (mles_s (mles_n mles_0))) (v_C_bits_19 t0 i1 M)
    · refine m_iload_n (d_C_bits (k := 6) rfl) rfl ?_
      refine m_iconst (v := 1) (d_C_bits (k := 7) rfl) (by decide) ?_
      refine m_icmp_ne (tgt := 23) (d_C_bits (k := 8) rfl) rfl ?_ ?_
      · exact m_drop (mles_s (mles_s (mles_n mles_0))) (v_C_bits_19 t0 i1 M)
      · exact m_drop (mles_s (mles_s (mles_n mles_0))) (v_C_bits_23 t0 i1 M)
theorem s_C_bits {E : mE} (t0 : Option Nat) (i1 : Int32) (M : mM) : mSnd E mi_C_bits 4 [.inr t0, .inl i1] M enI (q_C_bits t0 i1 M) := m_entryI (by decide) (Nat.le_of_ble_eq_true rfl) rfl (m_drop (mles_s (mles_s (mles_e mles_0))) (v_C_bits t0 i1 M))
def dt_C_areVias : List (Nat × Instr × Nat) := [(0, .iload_n 2, 1), (1, .iconst (-1), 1), (2, .if_icmp .ne 14, 3), (5, .iload_n 3, 1), (6, .iconst (-1), 1), (7, .if_icmp .ne 7, 3), (10, .iconst 1, 1), (11, .goto 4, 3), (14, .iconst 0, 1), (15, .ireturn, 1), (16, .iload_n 2, 1), (17, .invokestatic 110, 3), (20, .ifCond .eq 13, 3), (23, .iload_n 2, 1), (24, .iload_n 0, 1), (25, .if_icmp .eq 8, 3), (28, .iload_n 2, 1), (29, .iload_n 1, 1), (30, .if_icmp .ne 5, 3), (33, .iconst 0, 1), (34, .ireturn, 1), (35, .iload_n 3, 1), (36, .iconst (-1), 1), (37, .if_icmp .eq 25, 3), (40, .iload_n 3, 1), (41, .invokestatic 110, 3), (44, .ifCond .eq 22, 3), (47, .iload_n 3, 1), (48, .iload_n 0, 1), (49, .if_icmp .eq 17, 3), (52, .iload_n 3, 1), (53, .iload_n 1, 1), (54, .if_icmp .eq 12, 3), (57, .iload_n 3, 1), (58, .iload_n 2, 1), (59, .if_icmp .eq 7, 3), (62, .iconst 1, 1), (63, .goto 4, 3), (66, .iconst 0, 1), (67, .ireturn, 1)]
theorem dx_C_areVias : ∀ p ∈ dt_C_areVias, decode prog_1_method_27_code p.1 = .ok p.2 := by decide +kernel
theorem d_C_areVias {k pc : Nat} {i : Instr} {n : Nat} (h : dt_C_areVias[k]? = some (pc, i, n)) : decode mi_C_areVias.2.1 pc = .ok (i, n) := dx_C_areVias (pc, i, n) (List.mem_of_getElem? h)
def q_C_areVias_62 (M : mM) : Option (Int32 × mM) :=
    x_rz (1 : Int32) M
set_option maxRecDepth 20000 in
theorem v_C_areVias_62 {E : mE} (M : mM) : mVr E mi_C_areVias 1 62 [none, none, none, none] [] M enI (q_C_areVias_62 M) := by
  unfold q_C_areVias_62
  refine m_iconst (v := 1) (d_C_areVias (k := 36) rfl) (by decide) ?_
  refine m_goto (tgt := 67) (d_C_areVias (k := 37) rfl) rfl ?_
  exact m_zret (d_C_areVias (k := 39) rfl) rfl
def q_C_areVias (i0 : Int32) (i1 : Int32) (i2 : Int32) (i3 : Int32) (M : mM) : Option (Int32 × mM) :=
    if i2 = (-1 : Int32) then
      if i3 = (-1 : Int32) then
        x_rz (1 : Int32) M
      else
        x_rz (0 : Int32) M
    else
      x_cl (q_C_isStation i2 M) fun x1 M =>
      if x1 = 0 then
        x_rz (0 : Int32) M
      else
        if i2 = i0 then
          x_rz (0 : Int32) M
        else
          if i2 = i1 then
            x_rz (0 : Int32) M
          else
            if i3 = (-1 : Int32) then
              q_C_areVias_62 M
            else
              x_cl (q_C_isStation i3 M) fun x2 M =>
              if x2 = 0 then
                x_rz (0 : Int32) M
              else
                if i3 = i0 then
                  x_rz (0 : Int32) M
                else
                  if i3 = i1 then
                    x_rz (0 : Int32) M
                  else
                    if i3 = i2 then
                      x_rz (0 : Int32) M
                    else
                      q_C_areVias_62 M
set_option maxRecDepth 20000 in
theorem v_C_areVias {E : mE} (i0 : Int32) (i1 : Int32) (i2 : Int32) (i3 : Int32) (M : mM) : mVr E mi_C_areVias 1 0 [some (.inl i0), some (.inl i1), some (.inl i2), some (.inl i3)] [] M enI (q_C_areVias i0 i1 i2 i3 M) := by
  unfold q_C_areVias
  refine m_iload_n (d_C_areVias (k := 0) rfl) rfl ?_
  refine m_iconst (v := (-1)) (d_C_areVias (k := 1) rfl) (by decide) ?_
  refine m_icmp_ne (tgt := 16) (d_C_areVias (k := 2) rfl) rfl ?_ ?_
  · refine m_iload_n (d_C_areVias (k := 3) rfl) rfl ?_
    refine m_iconst (v := (-1)) (d_C_areVias (k := 4) rfl) (by decide) ?_
    refine m_icmp_ne (tgt := 14) (d_C_areVias (k := 5) rfl) rfl ?_ ?_
    · refine m_iconst (v := 1) (d_C_areVias (k := 6) rfl) (by decide) ?_
      refine m_goto (tgt := 15) (d_C_areVias (k := 7) rfl) rfl ?_
      exact m_zret (d_C_areVias (k := 9) rfl) rfl
    · refine m_iconst (v := 0) (d_C_areVias (k := 8) rfl) (by decide) ?_
      exact m_zret (d_C_areVias (k := 9) rfl) rfl
  · refine m_iload_n (d_C_areVias (k := 10) rfl) rfl ?_
    refine m_csI (vs := [.inl i2]) (st := []) (d_C_areVias (k := 11) rfl) (s_C_isStation i2 M) cd_C_isStation ml_C_110 sa_C_isStation (by decide) rfl (Nat.le_of_ble_eq_true rfl) (fun x1 M => ?_)
    refine m_if_eq (tgt := 33) (d_C_areVias (k := 12) rfl) rfl ?_ ?_
    · refine m_iconst (v := 0) (d_C_areVias (k := 19) rfl) (by decide) ?_
      exact m_zret (d_C_areVias (k := 20) rfl) rfl
    · refine m_iload_n (d_C_areVias (k := 13) rfl) rfl ?_
      refine m_iload_n (d_C_areVias (k := 14) rfl) rfl ?_
      refine m_icmp_eq (tgt := 33) (d_C_areVias (k := 15) rfl) rfl ?_ ?_
      · refine m_iconst (v := 0) (d_C_areVias (k := 19) rfl) (by decide) ?_
        exact m_zret (d_C_areVias (k := 20) rfl) rfl
      · refine m_iload_n (d_C_areVias (k := 16) rfl) rfl ?_
        refine m_iload_n (d_C_areVias (k := 17) rfl) rfl ?_
        refine m_icmp_ne (tgt := 35) (d_C_areVias (k := 18) rfl) rfl ?_ ?_
        · refine m_iconst (v := 0) (d_C_areVias (k := 19) rfl) (by decide) ?_
          exact m_zret (d_C_areVias (k := 20) rfl) rfl
        · refine m_iload_n (d_C_areVias (k := 21) rfl) rfl ?_
          refine m_iconst (v := (-1)) (d_C_areVias (k := 22) rfl) (by decide) ?_
          refine m_icmp_eq (tgt := 62) (d_C_areVias (k := 23) rfl) rfl ?_ ?_
          · exact m_drop (mles_n (mles_n (mles_n (mles_n mles_0)))) (v_C_areVias_62 M)
          · refine m_iload_n (d_C_areVias (k := 24) rfl) rfl ?_
            refine m_csI (vs := [.inl i3]) (st := []) (d_C_areVias (k := 25) rfl) (s_C_isStation i3 M) cd_C_isStation ml_C_110 sa_C_isStation (by decide) rfl (Nat.le_of_ble_eq_true rfl) (fun x2 M => ?_)
            refine m_if_eq (tgt := 66) (d_C_areVias (k := 26) rfl) rfl ?_ ?_
            · refine m_iconst (v := 0) (d_C_areVias (k := 38) rfl) (by decide) ?_
              exact m_zret (d_C_areVias (k := 39) rfl) rfl
            · refine m_iload_n (d_C_areVias (k := 27) rfl) rfl ?_
              refine m_iload_n (d_C_areVias (k := 28) rfl) rfl ?_
              refine m_icmp_eq (tgt := 66) (d_C_areVias (k := 29) rfl) rfl ?_ ?_
              · refine m_iconst (v := 0) (d_C_areVias (k := 38) rfl) (by decide) ?_
                exact m_zret (d_C_areVias (k := 39) rfl) rfl
              · refine m_iload_n (d_C_areVias (k := 30) rfl) rfl ?_
                refine m_iload_n (d_C_areVias (k := 31) rfl) rfl ?_
                refine m_icmp_eq (tgt := 66) (d_C_areVias (k := 32) rfl) rfl ?_ ?_
                · refine m_iconst (v := 0) (d_C_areVias (k := 38) rfl) (by decide) ?_
                  exact m_zret (d_C_areVias (k := 39) rfl) rfl
                · refine m_iload_n (d_C_areVias (k := 33) rfl) rfl ?_
                  refine m_iload_n (d_C_areVias (k := 34) rfl) rfl ?_
                  refine m_icmp_eq (tgt := 66) (d_C_areVias (k := 35) rfl) rfl ?_ ?_
                  · refine m_iconst (v := 0) (d_C_areVias (k := 38) rfl) (by decide) ?_
                    exact m_zret (d_C_areVias (k := 39) rfl) rfl
                  · exact m_drop (mles_n (mles_n (mles_n (mles_n mles_0)))) (v_C_areVias_62 M)
theorem s_C_areVias {E : mE} (i0 : Int32) (i1 : Int32) (i2 : Int32) (i3 : Int32) (M : mM) : mSnd E mi_C_areVias 1 [.inl i0, .inl i1, .inl i2, .inl i3] M enI (q_C_areVias i0 i1 i2 i3 M) := m_entryZ (by decide) (Nat.le_of_ble_eq_true rfl) rfl (m_drop (mles_s (mles_s (mles_s (mles_s mles_0)))) (v_C_areVias i0 i1 i2 i3 M))
def dt_C_say : List (Nat × Instr × Nat) := [(0, .aload_n 0, 1), (1, .getfield 124, 3), (4, .invokevirtual 128, 3), (7, .astore 4, 2), (9, .aload 4, 2), (11, .ifnonnull 15, 3), (14, .aload_n 0, 1), (15, .dup, 1), (16, .getfield 285, 3), (19, .iconst 1, 1), (20, .iadd, 1), (21, .putfield 285, 3), (24, .aconst_null, 1), (25, .areturn, 1), (26, .aload_n 1, 1), (27, .getfield 152, 3), (30, .iconst (-1), 1), (31, .if_icmp .ne 7, 3), (34, .iconst 1, 1), (35, .goto 4, 3), (38, .iconst 0, 1), (39, .istore 5, 2), (41, .aload 4, 2), (43, .getstatic 488, 3), (46, .bipush 96, 2), (48, .iconst 2, 1), (49, .aload_n 1, 1), (50, .getfield 491, 3), (53, .imul, 1), (54, .iadd, 1), (55, .iload_n 3, 1), (56, .ifCond .eq 9, 3), (59, .sipush 128, 3), (62, .goto 4, 3), (65, .iconst 0, 1), (66, .iadd, 1), (67, .invokevirtual 492, 3), (70, .aload 4, 2), (72, .getstatic 488, 3), (75, .bipush 96, 2), (77, .iconst 2, 1), (78, .aload_n 0, 1), (79, .getfield 368, 3), (82, .imul, 1), (83, .iadd, 1), (84, .iload_n 3, 1), (85, .ifCond .eq 7, 3), (88, .iconst 0, 1), (89, .goto 6, 3), (92, .sipush 128, 3), (95, .iadd, 1), (96, .iload 5, 2), (98, .iadd, 1), (99, .invokevirtual 492, 3), (102, .aload_n 1, 1), (103, .getfield 152, 3), (106, .iconst (-1), 1), (107, .if_icmp .eq 34, 3), (110, .aload 4, 2), (112, .getstatic 488, 3), (115, .bipush 96, 2), (117, .iconst 2, 1), (118, .aload_n 1, 1), (119, .getfield 152, 3), (122, .imul, 1), (123, .iadd, 1), (124, .aload_n 1, 1), (125, .getfield 157, 3), (128, .iconst (-1), 1), (129, .if_icmp .ne 7, 3), (132, .iconst 1, 1), (133, .goto 4, 3), (136, .iconst 0, 1), (137, .iadd, 1), (138, .invokevirtual 492, 3), (141, .aload_n 1, 1), (142, .getfield 157, 3), (145, .iconst (-1), 1), (146, .if_icmp .eq 22, 3), (149, .aload 4, 2), (151, .getstatic 488, 3), (154, .bipush 96, 2), (156, .iconst 2, 1), (157, .aload_n 1, 1), (158, .getfield 157, 3), (161, .imul, 1), (162, .iadd, 1), (163, .iconst 1, 1), (164, .iadd, 1), (165, .invokevirtual 492, 3), (168, .aload 4, 2), (170, .iload_n 2, 1), (171, .invokevirtual 207, 3), (174, .aload 4, 2), (176, .aload_n 1, 1), (177, .getfield 315, 3), (180, .invokevirtual 207, 3), (183, .aload 4, 2), (185, .areturn, 1)]
theorem dx_C_say : ∀ p ∈ dt_C_say, decode prog_1_method_49_code p.1 = .ok p.2 := by decide +kernel
theorem d_C_say {k pc : Nat} {i : Instr} {n : Nat} (h : dt_C_say[k]? = some (pc, i, n)) : decode mi_C_say.2.1 pc = .ok (i, n) := dx_C_say (pc, i, n) (List.mem_of_getElem? h)
def q_C_say_168 (t1 : Option Nat) (i2 : Int32) (t4 : Option Nat) (M : mM) : Option (Option Nat × mM) :=
    x_cv M 0 t4 (q_B_add t4 i2 M) fun _ M =>
    x_gI M 3 t1 3 fun x1 =>
    x_cv M 0 t4 (q_B_add t4 x1 M) fun _ M =>
    some (t4, M)
set_option maxRecDepth 20000 in
theorem v_C_say_168 {E : mE} (t1 : Option Nat) (i2 : Int32) (t4 : Option Nat) (M : mM) : mVr E mi_C_say 1 168 [none, some (.inr t1), some (.inl i2), none, some (.inr t4), none] [] M enR (q_C_say_168 t1 i2 t4 M) := by
  unfold q_C_say_168
  refine m_aload (d_C_say (k := 90) rfl) rfl ?_
  refine m_iload_n (d_C_say (k := 91) rfl) rfl ?_
  refine m_cvU (c := 0) (vs := [.inl i2]) (st := []) (d_C_say (k := 92) rfl) (s_B_add t4 i2 M) cd_B_add ml_C_207 im_B_add se_B_add rfl (by decide) rfl (Nat.le_of_ble_eq_true rfl) (fun _ M => ?_)
  refine m_aload (d_C_say (k := 93) rfl) rfl ?_
  refine m_aload_n (d_C_say (k := 94) rfl) rfl ?_
  refine m_getI (d_C_say (k := 95) rfl) fl_C_315 rfl (fun x1 => ?_)
  refine m_cvU (c := 0) (vs := [.inl x1]) (st := []) (d_C_say (k := 96) rfl) (s_B_add t4 x1 M) cd_B_add ml_C_207 im_B_add se_B_add rfl (by decide) rfl (Nat.le_of_ble_eq_true rfl) (fun _ M => ?_)
  refine m_aload (d_C_say (k := 97) rfl) rfl ?_
  exact m_aret (d_C_say (k := 98) rfl) rfl
def q_C_say_141 (t1 : Option Nat) (i2 : Int32) (t4 : Option Nat) (M : mM) : Option (Option Nat × mM) :=
    x_gI M 3 t1 2 fun x1 =>
    if x1 = (-1 : Int32) then
      q_C_say_168 t1 i2 t4 M
    else
      x_gI M 3 t1 2 fun x2 =>
      x_cv M 0 t4 (q_B_addAddress t4 (some 3) (((96 : Int32) + ((2 : Int32) * x2)) + (1 : Int32)) M) fun _ M =>
      q_C_say_168 t1 i2 t4 M
set_option maxRecDepth 20000 in
theorem v_C_say_141 {E : mE} (t1 : Option Nat) (i2 : Int32) (t4 : Option Nat) (M : mM) : mVr E mi_C_say 1 141 [none, some (.inr t1), some (.inl i2), none, some (.inr t4), none] [] M enR (q_C_say_141 t1 i2 t4 M) := by
  unfold q_C_say_141
  refine m_aload_n (d_C_say (k := 75) rfl) rfl ?_
  refine m_getI (d_C_say (k := 76) rfl) fl_C_157 rfl (fun x1 => ?_)
  refine m_iconst (v := (-1)) (d_C_say (k := 77) rfl) (by decide) ?_
  refine m_icmp_eq (tgt := 168) (d_C_say (k := 78) rfl) rfl ?_ ?_
  · exact m_drop (mles_n (mles_s (mles_s (mles_n (mles_s (mles_n mles_0)))))) (v_C_say_168 t1 i2 t4 M)
  · refine m_aload (d_C_say (k := 79) rfl) rfl ?_
    refine m_gets (q := 3) (List.mem_of_getElem? (i := 2) rfl) (by decide) (d_C_say (k := 80) rfl) gs_C_488 ?_
    refine m_bipush (v := 96) (d_C_say (k := 81) rfl) (by decide) ?_
    refine m_iconst (v := 2) (d_C_say (k := 82) rfl) (by decide) ?_
    refine m_aload_n (d_C_say (k := 83) rfl) rfl ?_
    refine m_getI (d_C_say (k := 84) rfl) fl_C_157 rfl (fun x2 => ?_)
    refine m_imul (d_C_say (k := 85) rfl) ?_
    refine m_iadd (d_C_say (k := 86) rfl) ?_
    refine m_iconst (v := 1) (d_C_say (k := 87) rfl) (by decide) ?_
    refine m_iadd (d_C_say (k := 88) rfl) ?_
    refine m_cvU (c := 0) (vs := [.inr (some 3), .inl (((96 : Int32) + ((2 : Int32) * x2)) + (1 : Int32))]) (st := []) (d_C_say (k := 89) rfl) (s_B_addAddress t4 (some 3) (((96 : Int32) + ((2 : Int32) * x2)) + (1 : Int32)) M) cd_B_addAddress ml_C_492 im_B_addAddress se_B_addAddress rfl (by decide) rfl (Nat.le_of_ble_eq_true rfl) (fun _ M => ?_)
    exact m_drop (mles_n (mles_s (mles_s (mles_n (mles_s (mles_n mles_0)))))) (v_C_say_168 t1 i2 t4 M)
def q_C_say_137 (t1 : Option Nat) (i2 : Int32) (t4 : Option Nat) (j0 : Int32) (j1 : Int32) (u2 : Option Nat) (u3 : Option Nat) (M : mM) : Option (Option Nat × mM) :=
    x_cv M 0 u3 (q_B_addAddress u3 u2 (j1 + j0) M) fun _ M =>
    q_C_say_141 t1 i2 t4 M
set_option maxRecDepth 20000 in
theorem v_C_say_137 {E : mE} (t1 : Option Nat) (i2 : Int32) (t4 : Option Nat) (j0 : Int32) (j1 : Int32) (u2 : Option Nat) (u3 : Option Nat) (M : mM) : mVr E mi_C_say 1 137 [none, some (.inr t1), some (.inl i2), none, some (.inr t4), none] [.inl j0, .inl j1, .inr u2, .inr u3] M enR (q_C_say_137 t1 i2 t4 j0 j1 u2 u3 M) := by
  unfold q_C_say_137
  refine m_iadd (d_C_say (k := 73) rfl) ?_
  refine m_cvU (c := 0) (vs := [.inr u2, .inl (j1 + j0)]) (st := []) (d_C_say (k := 74) rfl) (s_B_addAddress u3 u2 (j1 + j0) M) cd_B_addAddress ml_C_492 im_B_addAddress se_B_addAddress rfl (by decide) rfl (Nat.le_of_ble_eq_true rfl) (fun _ M => ?_)
  exact m_drop (mles_n (mles_s (mles_s (mles_n (mles_s (mles_n mles_0)))))) (v_C_say_141 t1 i2 t4 M)
def q_C_say_95 (t1 : Option Nat) (i2 : Int32) (t4 : Option Nat) (i5 : Int32) (j0 : Int32) (j1 : Int32) (u2 : Option Nat) (u3 : Option Nat) (M : mM) : Option (Option Nat × mM) :=
    x_cv M 0 u3 (q_B_addAddress u3 u2 ((j1 + j0) + i5) M) fun _ M =>
    x_gI M 3 t1 1 fun x1 =>
    if x1 = (-1 : Int32) then
      q_C_say_141 t1 i2 t4 M
    else
      x_gI M 3 t1 1 fun x2 =>
      x_gI M 3 t1 2 fun x3 =>
      if x3 = (-1 : Int32) then
        q_C_say_137 t1 i2 t4 (1 : Int32) ((96 : Int32) + ((2 : Int32) * x2)) (some 3) t4 M
      else
        q_C_say_137 t1 i2 t4 (0 : Int32) ((96 : Int32) + ((2 : Int32) * x2)) (some 3) t4 M
set_option maxRecDepth 20000 in
theorem v_C_say_95 {E : mE} (t1 : Option Nat) (i2 : Int32) (t4 : Option Nat) (i5 : Int32) (j0 : Int32) (j1 : Int32) (u2 : Option Nat) (u3 : Option Nat) (M : mM) : mVr E mi_C_say 1 95 [none, some (.inr t1), some (.inl i2), none, some (.inr t4), some (.inl i5)] [.inl j0, .inl j1, .inr u2, .inr u3] M enR (q_C_say_95 t1 i2 t4 i5 j0 j1 u2 u3 M) := by
  unfold q_C_say_95
  refine m_iadd (d_C_say (k := 50) rfl) ?_
  refine m_iload (d_C_say (k := 51) rfl) rfl ?_
  refine m_iadd (d_C_say (k := 52) rfl) ?_
  refine m_cvU (c := 0) (vs := [.inr u2, .inl ((j1 + j0) + i5)]) (st := []) (d_C_say (k := 53) rfl) (s_B_addAddress u3 u2 ((j1 + j0) + i5) M) cd_B_addAddress ml_C_492 im_B_addAddress se_B_addAddress rfl (by decide) rfl (Nat.le_of_ble_eq_true rfl) (fun _ M => ?_)
  refine m_aload_n (d_C_say (k := 54) rfl) rfl ?_
  refine m_getI (d_C_say (k := 55) rfl) fl_C_152 rfl (fun x1 => ?_)
  refine m_iconst (v := (-1)) (d_C_say (k := 56) rfl) (by decide) ?_
  refine m_icmp_eq (tgt := 141) (d_C_say (k := 57) rfl) rfl ?_ ?_
  · exact m_drop (mles_n (mles_s (mles_s (mles_n (mles_s (mles_n mles_0)))))) (v_C_say_141 t1 i2 t4 M)
  · refine m_aload (d_C_say (k := 58) rfl) rfl ?_
    refine m_gets (q := 3) (List.mem_of_getElem? (i := 2) rfl) (by decide) (d_C_say (k := 59) rfl) gs_C_488 ?_
    refine m_bipush (v := 96) (d_C_say (k := 60) rfl) (by decide) ?_
    refine m_iconst (v := 2) (d_C_say (k := 61) rfl) (by decide) ?_
    refine m_aload_n (d_C_say (k := 62) rfl) rfl ?_
    refine m_getI (d_C_say (k := 63) rfl) fl_C_152 rfl (fun x2 => ?_)
    refine m_imul (d_C_say (k := 64) rfl) ?_
    refine m_iadd (d_C_say (k := 65) rfl) ?_
    refine m_aload_n (d_C_say (k := 66) rfl) rfl ?_
    refine m_getI (d_C_say (k := 67) rfl) fl_C_157 rfl (fun x3 => ?_)
    refine m_iconst (v := (-1)) (d_C_say (k := 68) rfl) (by decide) ?_
    refine m_icmp_ne (tgt := 136) (d_C_say (k := 69) rfl) rfl ?_ ?_
    · refine m_iconst (v := 1) (d_C_say (k := 70) rfl) (by decide) ?_
      refine m_goto (tgt := 137) (d_C_say (k := 71) rfl) rfl ?_
      exact m_drop (mles_n (mles_s (mles_s (mles_n (mles_s (mles_n mles_0)))))) (v_C_say_137 t1 i2 t4 (1 : Int32) ((96 : Int32) + ((2 : Int32) * x2)) (some 3) t4 M)
    · refine m_iconst (v := 0) (d_C_say (k := 72) rfl) (by decide) ?_
      exact m_drop (mles_n (mles_s (mles_s (mles_n (mles_s (mles_n mles_0)))))) (v_C_say_137 t1 i2 t4 (0 : Int32) ((96 : Int32) + ((2 : Int32) * x2)) (some 3) t4 M)
def q_C_say_66 (t0 : Option Nat) (t1 : Option Nat) (i2 : Int32) (i3 : Int32) (t4 : Option Nat) (i5 : Int32) (j0 : Int32) (j1 : Int32) (u2 : Option Nat) (u3 : Option Nat) (M : mM) : Option (Option Nat × mM) :=
    x_cv M 0 u3 (q_B_addAddress u3 u2 (j1 + j0) M) fun _ M =>
    x_gI M 8 t0 0 fun x1 =>
    if i3 = 0 then
      q_C_say_95 t1 i2 t4 i5 (128 : Int32) ((96 : Int32) + ((2 : Int32) * x1)) (some 3) t4 M
    else
      q_C_say_95 t1 i2 t4 i5 (0 : Int32) ((96 : Int32) + ((2 : Int32) * x1)) (some 3) t4 M
set_option maxRecDepth 20000 in
theorem v_C_say_66 {E : mE} (t0 : Option Nat) (t1 : Option Nat) (i2 : Int32) (i3 : Int32) (t4 : Option Nat) (i5 : Int32) (j0 : Int32) (j1 : Int32) (u2 : Option Nat) (u3 : Option Nat) (M : mM) : mVr E mi_C_say 1 66 [some (.inr t0), some (.inr t1), some (.inl i2), some (.inl i3), some (.inr t4), some (.inl i5)] [.inl j0, .inl j1, .inr u2, .inr u3] M enR (q_C_say_66 t0 t1 i2 i3 t4 i5 j0 j1 u2 u3 M) := by
  unfold q_C_say_66
  refine m_iadd (d_C_say (k := 35) rfl) ?_
  refine m_cvU (c := 0) (vs := [.inr u2, .inl (j1 + j0)]) (st := []) (d_C_say (k := 36) rfl) (s_B_addAddress u3 u2 (j1 + j0) M) cd_B_addAddress ml_C_492 im_B_addAddress se_B_addAddress rfl (by decide) rfl (Nat.le_of_ble_eq_true rfl) (fun _ M => ?_)
  refine m_aload (d_C_say (k := 37) rfl) rfl ?_
  refine m_gets (q := 3) (List.mem_of_getElem? (i := 2) rfl) (by decide) (d_C_say (k := 38) rfl) gs_C_488 ?_
  refine m_bipush (v := 96) (d_C_say (k := 39) rfl) (by decide) ?_
  refine m_iconst (v := 2) (d_C_say (k := 40) rfl) (by decide) ?_
  refine m_aload_n (d_C_say (k := 41) rfl) rfl ?_
  refine m_getI (d_C_say (k := 42) rfl) fl_C_368 rfl (fun x1 => ?_)
  refine m_imul (d_C_say (k := 43) rfl) ?_
  refine m_iadd (d_C_say (k := 44) rfl) ?_
  refine m_iload_n (d_C_say (k := 45) rfl) rfl ?_
  refine m_if_eq (tgt := 92) (d_C_say (k := 46) rfl) rfl ?_ ?_
  · refine m_sipush (v := 128) (d_C_say (k := 49) rfl) (by decide) ?_
    exact m_drop (mles_n (mles_s (mles_s (mles_n (mles_s (mles_s mles_0)))))) (v_C_say_95 t1 i2 t4 i5 (128 : Int32) ((96 : Int32) + ((2 : Int32) * x1)) (some 3) t4 M)
  · refine m_iconst (v := 0) (d_C_say (k := 47) rfl) (by decide) ?_
    refine m_goto (tgt := 95) (d_C_say (k := 48) rfl) rfl ?_
    exact m_drop (mles_n (mles_s (mles_s (mles_n (mles_s (mles_s mles_0)))))) (v_C_say_95 t1 i2 t4 i5 (0 : Int32) ((96 : Int32) + ((2 : Int32) * x1)) (some 3) t4 M)
def q_C_say_39 (t0 : Option Nat) (t1 : Option Nat) (i2 : Int32) (i3 : Int32) (t4 : Option Nat) (j0 : Int32) (M : mM) : Option (Option Nat × mM) :=
    x_gI M 3 t1 0 fun x1 =>
    if i3 = 0 then
      q_C_say_66 t0 t1 i2 i3 t4 j0 (0 : Int32) ((96 : Int32) + ((2 : Int32) * x1)) (some 3) t4 M
    else
      q_C_say_66 t0 t1 i2 i3 t4 j0 (128 : Int32) ((96 : Int32) + ((2 : Int32) * x1)) (some 3) t4 M
set_option maxRecDepth 20000 in
theorem v_C_say_39 {E : mE} (t0 : Option Nat) (t1 : Option Nat) (i2 : Int32) (i3 : Int32) (t4 : Option Nat) (j0 : Int32) (M : mM) : mVr E mi_C_say 1 39 [some (.inr t0), some (.inr t1), some (.inl i2), some (.inl i3), some (.inr t4), none] [.inl j0] M enR (q_C_say_39 t0 t1 i2 i3 t4 j0 M) := by
  unfold q_C_say_39
  refine m_ist (ls' := [some (.inr t0), some (.inr t1), some (.inl i2), some (.inl i3), some (.inr t4), some (.inl j0)]) (d_C_say (k := 21) rfl) (by decide) rfl ?_
  refine m_aload (d_C_say (k := 22) rfl) rfl ?_
  refine m_gets (q := 3) (List.mem_of_getElem? (i := 2) rfl) (by decide) (d_C_say (k := 23) rfl) gs_C_488 ?_
  refine m_bipush (v := 96) (d_C_say (k := 24) rfl) (by decide) ?_
  refine m_iconst (v := 2) (d_C_say (k := 25) rfl) (by decide) ?_
  refine m_aload_n (d_C_say (k := 26) rfl) rfl ?_
  refine m_getI (d_C_say (k := 27) rfl) fl_C_491 rfl (fun x1 => ?_)
  refine m_imul (d_C_say (k := 28) rfl) ?_
  refine m_iadd (d_C_say (k := 29) rfl) ?_
  refine m_iload_n (d_C_say (k := 30) rfl) rfl ?_
  refine m_if_eq (tgt := 65) (d_C_say (k := 31) rfl) rfl ?_ ?_
  · refine m_iconst (v := 0) (d_C_say (k := 34) rfl) (by decide) ?_
    exact m_drop (mles_s (mles_s (mles_s (mles_s (mles_s (mles_s mles_0)))))) (v_C_say_66 t0 t1 i2 i3 t4 j0 (0 : Int32) ((96 : Int32) + ((2 : Int32) * x1)) (some 3) t4 M)
  · refine m_sipush (v := 128) (d_C_say (k := 32) rfl) (by decide) ?_
    refine m_goto (tgt := 66) (d_C_say (k := 33) rfl) rfl ?_
    exact m_drop (mles_s (mles_s (mles_s (mles_s (mles_s (mles_s mles_0)))))) (v_C_say_66 t0 t1 i2 i3 t4 j0 (128 : Int32) ((96 : Int32) + ((2 : Int32) * x1)) (some 3) t4 M)
def q_C_say (t0 : Option Nat) (t1 : Option Nat) (i2 : Int32) (i3 : Int32) (M : mM) : Option (Option Nat × mM) :=
    x_gR M 8 t0 4 fun a1 =>
    x_cv M 6 a1 (q_W_addRow a1 M) fun a2 M =>
    x_nl a2 (
      x_gI M 8 t0 17 fun x3 =>
      x_pI M 8 t0 17 (x3 + (1 : Int32)) fun M =>
      some (none, M)
    ) (
      x_gI M 3 t1 1 fun x4 =>
      if x4 = (-1 : Int32) then
        q_C_say_39 t0 t1 i2 i3 a2 (1 : Int32) M
      else
        q_C_say_39 t0 t1 i2 i3 a2 (0 : Int32) M
    )
set_option maxRecDepth 20000 in
theorem v_C_say {E : mE} (t0 : Option Nat) (t1 : Option Nat) (i2 : Int32) (i3 : Int32) (M : mM) : mVr E mi_C_say 1 0 [some (.inr t0), some (.inr t1), some (.inl i2), some (.inl i3), none, none] [] M enR (q_C_say t0 t1 i2 i3 M) := by
  unfold q_C_say
  refine m_aload_n (d_C_say (k := 0) rfl) rfl ?_
  refine m_getR (d_C_say (k := 1) rfl) fl_C_124 rfl (fun a1 => ?_)
  refine m_cvR (c := 6) (vs := []) (st := []) (d_C_say (k := 2) rfl) (s_W_addRow a1 M) cd_W_addRow ml_C_128 im_W_addRow se_W_addRow rfl (by decide) rfl (Nat.le_of_ble_eq_true rfl) (fun a2 M => ?_)
  refine m_ast (ls' := [some (.inr t0), some (.inr t1), some (.inl i2), some (.inl i3), some (.inr a2), none]) (d_C_say (k := 3) rfl) (by decide) rfl ?_
  refine m_aload (d_C_say (k := 4) rfl) rfl ?_
  refine m_ifnonnull (tgt := 26) (d_C_say (k := 5) rfl) rfl ?_ ?_
  · refine m_aload_n (d_C_say (k := 6) rfl) rfl ?_
    refine m_dup (d_C_say (k := 7) rfl) ?_
    refine m_getI (d_C_say (k := 8) rfl) fl_C_285 rfl (fun x3 => ?_)
    refine m_iconst (v := 1) (d_C_say (k := 9) rfl) (by decide) ?_
    refine m_iadd (d_C_say (k := 10) rfl) ?_
    refine m_pI (d_C_say (k := 11) rfl) fp_C_285 (fun h => absurd h (by decide)) rfl (fun M => ?_)
    refine m_null (d_C_say (k := 12) rfl) ?_
    exact m_aret (d_C_say (k := 13) rfl) rfl
  · refine m_aload_n (d_C_say (k := 14) rfl) rfl ?_
    refine m_getI (d_C_say (k := 15) rfl) fl_C_152 rfl (fun x4 => ?_)
    refine m_iconst (v := (-1)) (d_C_say (k := 16) rfl) (by decide) ?_
    refine m_icmp_ne (tgt := 38) (d_C_say (k := 17) rfl) rfl ?_ ?_
    · refine m_iconst (v := 1) (d_C_say (k := 18) rfl) (by decide) ?_
      refine m_goto (tgt := 39) (d_C_say (k := 19) rfl) rfl ?_
      exact m_drop (mles_s (mles_s (mles_s (mles_s (mles_s (mles_n mles_0)))))) (v_C_say_39 t0 t1 i2 i3 a2 (1 : Int32) M)
    · refine m_iconst (v := 0) (d_C_say (k := 20) rfl) (by decide) ?_
      exact m_drop (mles_s (mles_s (mles_s (mles_s (mles_s (mles_n mles_0)))))) (v_C_say_39 t0 t1 i2 i3 a2 (0 : Int32) M)
theorem s_C_say {E : mE} (t0 : Option Nat) (t1 : Option Nat) (i2 : Int32) (i3 : Int32) (M : mM) : mSnd E mi_C_say 1 [.inr t0, .inr t1, .inl i2, .inl i3] M enR (q_C_say t0 t1 i2 i3 M) := m_entryR (by decide) (Nat.le_of_ble_eq_true rfl) rfl (m_drop (mles_s (mles_s (mles_s (mles_s (mles_e (mles_e mles_0)))))) (v_C_say t0 t1 i2 i3 M))
def dt_K_enter : List (Nat × Instr × Nat) := [(0, .aload_n 0, 1), (1, .getfield 59, 3), (4, .ifCond .eq 16, 3), (7, .aload_n 0, 1), (8, .getfield 9, 3), (11, .dup, 1), (12, .getfield 62, 3), (15, .iconst 1, 1), (16, .isub, 1), (17, .putfield 62, 3), (20, .iload_n 1, 1), (21, .ifCond .eq 16, 3), (24, .aload_n 0, 1), (25, .getfield 9, 3), (28, .dup, 1), (29, .getfield 62, 3), (32, .iconst 1, 1), (33, .iadd, 1), (34, .putfield 62, 3), (37, .aload_n 0, 1), (38, .iload_n 1, 1), (39, .putfield 59, 3), (42, .return_, 1)]
theorem dx_K_enter : ∀ p ∈ dt_K_enter, decode prog_4_method_4_code p.1 = .ok p.2 := by decide +kernel
theorem d_K_enter {k pc : Nat} {i : Instr} {n : Nat} (h : dt_K_enter[k]? = some (pc, i, n)) : decode mi_K_enter.2.1 pc = .ok (i, n) := dx_K_enter (pc, i, n) (List.mem_of_getElem? h)
def q_K_enter_37 (t0 : Option Nat) (i1 : Int32) (M : mM) : Option (Unit × mM) :=
    x_pI M 2 t0 7 i1 fun M =>
    some ((), M)
set_option maxRecDepth 20000 in
theorem v_K_enter_37 {E : mE} (t0 : Option Nat) (i1 : Int32) (M : mM) : mVr E mi_K_enter 0 37 [some (.inr t0), some (.inl i1)] [] M enU (q_K_enter_37 t0 i1 M) := by
  unfold q_K_enter_37
  refine m_aload_n (d_K_enter (k := 19) rfl) rfl ?_
  refine m_iload_n (d_K_enter (k := 20) rfl) rfl ?_
  refine m_pI (d_K_enter (k := 21) rfl) fp_K_59 (fun h => absurd h (by decide)) rfl (fun M => ?_)
  exact m_vret (d_K_enter (k := 22) rfl) rfl
def q_K_enter_20 (t0 : Option Nat) (i1 : Int32) (M : mM) : Option (Unit × mM) :=
    if i1 = 0 then
      q_K_enter_37 t0 i1 M
    else
      x_gR M 2 t0 0 fun a1 =>
      x_gI M 8 a1 11 fun x2 =>
      x_pI M 8 a1 11 (x2 + (1 : Int32)) fun M =>
      q_K_enter_37 t0 i1 M
set_option maxRecDepth 20000 in
theorem v_K_enter_20 {E : mE} (t0 : Option Nat) (i1 : Int32) (M : mM) : mVr E mi_K_enter 0 20 [some (.inr t0), some (.inl i1)] [] M enU (q_K_enter_20 t0 i1 M) := by
  unfold q_K_enter_20
  refine m_iload_n (d_K_enter (k := 10) rfl) rfl ?_
  refine m_if_eq (tgt := 37) (d_K_enter (k := 11) rfl) rfl ?_ ?_
  · exact m_drop (mles_s (mles_s mles_0)) (v_K_enter_37 t0 i1 M)
  · refine m_aload_n (d_K_enter (k := 12) rfl) rfl ?_
    refine m_getR (d_K_enter (k := 13) rfl) fl_K_9 rfl (fun a1 => ?_)
    refine m_dup (d_K_enter (k := 14) rfl) ?_
    refine m_getI (d_K_enter (k := 15) rfl) fl_K_62 rfl (fun x2 => ?_)
    refine m_iconst (v := 1) (d_K_enter (k := 16) rfl) (by decide) ?_
    refine m_iadd (d_K_enter (k := 17) rfl) ?_
    refine m_pI (d_K_enter (k := 18) rfl) fp_K_62 (fun h => absurd h (by decide)) rfl (fun M => ?_)
    exact m_drop (mles_s (mles_s mles_0)) (v_K_enter_37 t0 i1 M)
def q_K_enter (t0 : Option Nat) (i1 : Int32) (M : mM) : Option (Unit × mM) :=
    x_gI M 2 t0 7 fun x1 =>
    if x1 = 0 then
      q_K_enter_20 t0 i1 M
    else
      x_gR M 2 t0 0 fun a2 =>
      x_gI M 8 a2 11 fun x3 =>
      x_pI M 8 a2 11 (x3 - (1 : Int32)) fun M =>
      q_K_enter_20 t0 i1 M
set_option maxRecDepth 20000 in
theorem v_K_enter {E : mE} (t0 : Option Nat) (i1 : Int32) (M : mM) : mVr E mi_K_enter 0 0 [some (.inr t0), some (.inl i1)] [] M enU (q_K_enter t0 i1 M) := by
  unfold q_K_enter
  refine m_aload_n (d_K_enter (k := 0) rfl) rfl ?_
  refine m_getI (d_K_enter (k := 1) rfl) fl_K_59 rfl (fun x1 => ?_)
  refine m_if_eq (tgt := 20) (d_K_enter (k := 2) rfl) rfl ?_ ?_
  · exact m_drop (mles_s (mles_s mles_0)) (v_K_enter_20 t0 i1 M)
  · refine m_aload_n (d_K_enter (k := 3) rfl) rfl ?_
    refine m_getR (d_K_enter (k := 4) rfl) fl_K_9 rfl (fun a2 => ?_)
    refine m_dup (d_K_enter (k := 5) rfl) ?_
    refine m_getI (d_K_enter (k := 6) rfl) fl_K_62 rfl (fun x3 => ?_)
    refine m_iconst (v := 1) (d_K_enter (k := 7) rfl) (by decide) ?_
    refine m_isub (d_K_enter (k := 8) rfl) ?_
    refine m_pI (d_K_enter (k := 9) rfl) fp_K_62 (fun h => absurd h (by decide)) rfl (fun M => ?_)
    exact m_drop (mles_s (mles_s mles_0)) (v_K_enter_20 t0 i1 M)
theorem s_K_enter {E : mE} (t0 : Option Nat) (i1 : Int32) (M : mM) : mSnd E mi_K_enter 0 [.inr t0, .inl i1] M enU (q_K_enter t0 i1 M) := m_entryU (by decide) (Nat.le_of_ble_eq_true rfl) rfl (m_drop (mles_s (mles_s mles_0)) (v_K_enter t0 i1 M))
def dt_W_clear : List (Nat × Instr × Nat) := [(0, .aload_n 0, 1), (1, .iconst 0, 1), (2, .putfield 24, 3), (5, .return_, 1)]
theorem dx_W_clear : ∀ p ∈ dt_W_clear, decode prog_8_method_2_code p.1 = .ok p.2 := by decide +kernel
theorem d_W_clear {k pc : Nat} {i : Instr} {n : Nat} (h : dt_W_clear[k]? = some (pc, i, n)) : decode mi_W_clear.2.1 pc = .ok (i, n) := dx_W_clear (pc, i, n) (List.mem_of_getElem? h)
def q_W_clear (t0 : Option Nat) (M : mM) : Option (Unit × mM) :=
    x_pI M 6 t0 2 (0 : Int32) fun M =>
    some ((), M)
set_option maxRecDepth 20000 in
theorem v_W_clear {E : mE} (t0 : Option Nat) (M : mM) : mVr E mi_W_clear 0 0 [some (.inr t0)] [] M enU (q_W_clear t0 M) := by
  unfold q_W_clear
  refine m_aload_n (d_W_clear (k := 0) rfl) rfl ?_
  refine m_iconst (v := 0) (d_W_clear (k := 1) rfl) (by decide) ?_
  refine m_pI (d_W_clear (k := 2) rfl) fp_W_24 (fun h => absurd h (by decide)) rfl (fun M => ?_)
  exact m_vret (d_W_clear (k := 3) rfl) rfl
theorem s_W_clear {E : mE} (t0 : Option Nat) (M : mM) : mSnd E mi_W_clear 0 [.inr t0] M enU (q_W_clear t0 M) := m_entryU (by decide) (Nat.le_of_ble_eq_true rfl) rfl (m_drop (mles_s mles_0) (v_W_clear t0 M))
def dt_K_restart : List (Nat × Instr × Nat) := [(0, .aload_n 0, 1), (1, .iload_n 1, 1), (2, .invokevirtual 67, 3), (5, .aload_n 0, 1), (6, .iconst 0, 1), (7, .putfield 70, 3), (10, .aload_n 0, 1), (11, .iconst 0, 1), (12, .putfield 73, 3), (15, .aload_n 0, 1), (16, .iconst 0, 1), (17, .putfield 76, 3), (20, .aload_n 0, 1), (21, .iconst 0, 1), (22, .putfield 79, 3), (25, .aload_n 0, 1), (26, .iconst 0, 1), (27, .putfield 82, 3), (30, .aload_n 0, 1), (31, .iconst 0, 1), (32, .putfield 85, 3), (35, .aload_n 0, 1), (36, .iconst 0, 1), (37, .putfield 89, 3), (40, .aload_n 0, 1), (41, .iconst 0, 1), (42, .putfield 92, 3), (45, .aload_n 0, 1), (46, .getfield 34, 3), (49, .invokevirtual 95, 3), (52, .aload_n 0, 1), (53, .getfield 50, 3), (56, .invokevirtual 98, 3), (59, .return_, 1)]
theorem dx_K_restart : ∀ p ∈ dt_K_restart, decode prog_4_method_5_code p.1 = .ok p.2 := by decide +kernel
theorem d_K_restart {k pc : Nat} {i : Instr} {n : Nat} (h : dt_K_restart[k]? = some (pc, i, n)) : decode mi_K_restart.2.1 pc = .ok (i, n) := dx_K_restart (pc, i, n) (List.mem_of_getElem? h)
def q_K_restart (t0 : Option Nat) (i1 : Int32) (M : mM) : Option (Unit × mM) :=
    x_cv M 2 t0 (q_K_enter t0 i1 M) fun _ M =>
    x_pI M 2 t0 8 (0 : Int32) fun M =>
    x_pI M 2 t0 9 (0 : Int32) fun M =>
    x_pI M 2 t0 10 (0 : Int32) fun M =>
    x_pI M 2 t0 11 (0 : Int32) fun M =>
    x_pI M 2 t0 12 (0 : Int32) fun M =>
    x_pZ M 2 t0 13 (0 : Int32) fun M =>
    x_pZ M 2 t0 14 (0 : Int32) fun M =>
    x_pZ M 2 t0 15 (0 : Int32) fun M =>
    x_gR M 2 t0 3 fun a1 =>
    x_cv M 0 a1 (q_B_clear a1 M) fun _ M =>
    x_gR M 2 t0 6 fun a2 =>
    x_cv M 6 a2 (q_W_clear a2 M) fun _ M =>
    some ((), M)
set_option maxRecDepth 20000 in
theorem v_K_restart {E : mE} (t0 : Option Nat) (i1 : Int32) (M : mM) : mVr E mi_K_restart 1 0 [some (.inr t0), some (.inl i1)] [] M enU (q_K_restart t0 i1 M) := by
  unfold q_K_restart
  refine m_aload_n (d_K_restart (k := 0) rfl) rfl ?_
  refine m_iload_n (d_K_restart (k := 1) rfl) rfl ?_
  refine m_cvU (c := 2) (vs := [.inl i1]) (st := []) (d_K_restart (k := 2) rfl) (s_K_enter t0 i1 M) cd_K_enter ml_K_67 im_K_enter se_K_enter rfl (by decide) rfl (Nat.le_of_ble_eq_true rfl) (fun _ M => ?_)
  refine m_aload_n (d_K_restart (k := 3) rfl) rfl ?_
  refine m_iconst (v := 0) (d_K_restart (k := 4) rfl) (by decide) ?_
  refine m_pI (d_K_restart (k := 5) rfl) fp_K_70 (fun h => absurd h (by decide)) rfl (fun M => ?_)
  refine m_aload_n (d_K_restart (k := 6) rfl) rfl ?_
  refine m_iconst (v := 0) (d_K_restart (k := 7) rfl) (by decide) ?_
  refine m_pI (d_K_restart (k := 8) rfl) fp_K_73 (fun h => absurd h (by decide)) rfl (fun M => ?_)
  refine m_aload_n (d_K_restart (k := 9) rfl) rfl ?_
  refine m_iconst (v := 0) (d_K_restart (k := 10) rfl) (by decide) ?_
  refine m_pI (d_K_restart (k := 11) rfl) fp_K_76 (fun h => absurd h (by decide)) rfl (fun M => ?_)
  refine m_aload_n (d_K_restart (k := 12) rfl) rfl ?_
  refine m_iconst (v := 0) (d_K_restart (k := 13) rfl) (by decide) ?_
  refine m_pI (d_K_restart (k := 14) rfl) fp_K_79 (fun h => absurd h (by decide)) rfl (fun M => ?_)
  refine m_aload_n (d_K_restart (k := 15) rfl) rfl ?_
  refine m_iconst (v := 0) (d_K_restart (k := 16) rfl) (by decide) ?_
  refine m_pI (d_K_restart (k := 17) rfl) fp_K_82 (fun h => absurd h (by decide)) rfl (fun M => ?_)
  refine m_aload_n (d_K_restart (k := 18) rfl) rfl ?_
  refine m_iconst (v := 0) (d_K_restart (k := 19) rfl) (by decide) ?_
  refine m_pZ (d_K_restart (k := 20) rfl) fp_K_85 (fun h => absurd h (by decide)) rfl (fun M => ?_)
  refine m_aload_n (d_K_restart (k := 21) rfl) rfl ?_
  refine m_iconst (v := 0) (d_K_restart (k := 22) rfl) (by decide) ?_
  refine m_pZ (d_K_restart (k := 23) rfl) fp_K_89 (fun h => absurd h (by decide)) rfl (fun M => ?_)
  refine m_aload_n (d_K_restart (k := 24) rfl) rfl ?_
  refine m_iconst (v := 0) (d_K_restart (k := 25) rfl) (by decide) ?_
  refine m_pZ (d_K_restart (k := 26) rfl) fp_K_92 (fun h => absurd h (by decide)) rfl (fun M => ?_)
  refine m_aload_n (d_K_restart (k := 27) rfl) rfl ?_
  refine m_getR (d_K_restart (k := 28) rfl) fl_K_34 rfl (fun a1 => ?_)
  refine m_cvU (c := 0) (vs := []) (st := []) (d_K_restart (k := 29) rfl) (s_B_clear a1 M) cd_B_clear ml_K_95 im_B_clear se_B_clear rfl (by decide) rfl (Nat.le_of_ble_eq_true rfl) (fun _ M => ?_)
  refine m_aload_n (d_K_restart (k := 30) rfl) rfl ?_
  refine m_getR (d_K_restart (k := 31) rfl) fl_K_50 rfl (fun a2 => ?_)
  refine m_cvU (c := 6) (vs := []) (st := []) (d_K_restart (k := 32) rfl) (s_W_clear a2 M) cd_W_clear ml_K_98 im_W_clear se_W_clear rfl (by decide) rfl (Nat.le_of_ble_eq_true rfl) (fun _ M => ?_)
  exact m_vret (d_K_restart (k := 33) rfl) rfl
theorem s_K_restart {E : mE} (t0 : Option Nat) (i1 : Int32) (M : mM) : mSnd E mi_K_restart 1 [.inr t0, .inl i1] M enU (q_K_restart t0 i1 M) := m_entryU (by decide) (Nat.le_of_ble_eq_true rfl) rfl (m_drop (mles_s (mles_s mles_0)) (v_K_restart t0 i1 M))
def dt_C_callOther : List (Nat × Instr × Nat) := [(0, .aload_n 0, 1), (1, .aload_n 0, 1), (2, .getfield 500, 3), (5, .iconst 1, 1), (6, .iadd, 1), (7, .bipush 127, 2), (9, .iand, 1), (10, .putfield 500, 3), (13, .aload_n 0, 1), (14, .iconst 1, 1), (15, .invokevirtual 164, 3), (18, .aload_n 0, 1), (19, .getfield 188, 3), (22, .invokevirtual 76, 3), (25, .aload_n 0, 1), (26, .getfield 148, 3), (29, .aload_n 0, 1), (30, .getfield 500, 3), (33, .aload_n 0, 1), (34, .getfield 169, 3), (37, .getfield 368, 3), (40, .aload_n 0, 1), (41, .getfield 447, 3), (44, .if_icmp .le 9, 3), (47, .sipush 128, 3), (50, .goto 4, 3), (53, .iconst 0, 1), (54, .iadd, 1), (55, .putfield 315, 3), (58, .aload_n 0, 1), (59, .iconst 1, 1), (60, .putfield 166, 3), (63, .aload_n 0, 1), (64, .aload_n 0, 1), (65, .getfield 169, 3), (68, .getfield 120, 3), (71, .iconst 4, 1), (72, .iaload, 1), (73, .putfield 173, 3), (76, .aload_n 0, 1), (77, .getfield 169, 3), (80, .aload_n 0, 1), (81, .getfield 148, 3), (84, .bipush 63, 2), (86, .iconst 1, 1), (87, .invokestatic 176, 3), (90, .pop, 1), (91, .return_, 1)]
theorem dx_C_callOther : ∀ p ∈ dt_C_callOther, decode prog_1_method_54_code p.1 = .ok p.2 := by decide +kernel
theorem d_C_callOther {k pc : Nat} {i : Instr} {n : Nat} (h : dt_C_callOther[k]? = some (pc, i, n)) : decode mi_C_callOther.2.1 pc = .ok (i, n) := dx_C_callOther (pc, i, n) (List.mem_of_getElem? h)
def q_C_callOther_54 (t0 : Option Nat) (j0 : Int32) (j1 : Int32) (u2 : Option Nat) (M : mM) : Option (Unit × mM) :=
    x_pI M 3 u2 3 (j1 + j0) fun M =>
    x_pI M 2 t0 12 (1 : Int32) fun M =>
    x_gR M 2 t0 0 fun a1 =>
    x_gR M 8 a1 1 fun a2 =>
    x_aI M 0 a2 (4 : Int32) fun x3 =>
    x_pI M 2 t0 11 x3 fun M =>
    x_gR M 2 t0 0 fun a4 =>
    x_gR M 2 t0 2 fun a5 =>
    x_cl (q_C_say a4 a5 (63 : Int32) (1 : Int32) M) fun a6 M =>
    some ((), M)
set_option maxRecDepth 20000 in
theorem v_C_callOther_54 {E : mE} (t0 : Option Nat) (j0 : Int32) (j1 : Int32) (u2 : Option Nat) (M : mM) : mVr E mi_C_callOther 2 54 [some (.inr t0)] [.inl j0, .inl j1, .inr u2] M enU (q_C_callOther_54 t0 j0 j1 u2 M) := by
  unfold q_C_callOther_54
  refine m_iadd (d_C_callOther (k := 27) rfl) ?_
  refine m_pI (d_C_callOther (k := 28) rfl) fp_C_315 (fun h => absurd h (by decide)) rfl (fun M => ?_)
  refine m_aload_n (d_C_callOther (k := 29) rfl) rfl ?_
  refine m_iconst (v := 1) (d_C_callOther (k := 30) rfl) (by decide) ?_
  refine m_pI (d_C_callOther (k := 31) rfl) fp_C_166 (fun h => absurd h (by decide)) rfl (fun M => ?_)
  refine m_aload_n (d_C_callOther (k := 32) rfl) rfl ?_
  refine m_aload_n (d_C_callOther (k := 33) rfl) rfl ?_
  refine m_getR (d_C_callOther (k := 34) rfl) fl_C_169 rfl (fun a1 => ?_)
  refine m_getR (d_C_callOther (k := 35) rfl) fl_C_120 rfl (fun a2 => ?_)
  refine m_iconst (v := 4) (d_C_callOther (k := 36) rfl) (by decide) ?_
  refine m_iald (d_C_callOther (k := 37) rfl) (fun x3 => ?_)
  refine m_pI (d_C_callOther (k := 38) rfl) fp_C_173 (fun h => absurd h (by decide)) rfl (fun M => ?_)
  refine m_aload_n (d_C_callOther (k := 39) rfl) rfl ?_
  refine m_getR (d_C_callOther (k := 40) rfl) fl_C_169 rfl (fun a4 => ?_)
  refine m_aload_n (d_C_callOther (k := 41) rfl) rfl ?_
  refine m_getR (d_C_callOther (k := 42) rfl) fl_C_148 rfl (fun a5 => ?_)
  refine m_bipush (v := 63) (d_C_callOther (k := 43) rfl) (by decide) ?_
  refine m_iconst (v := 1) (d_C_callOther (k := 44) rfl) (by decide) ?_
  refine m_csR (vs := [.inr a4, .inr a5, .inl (63 : Int32), .inl (1 : Int32)]) (st := []) (d_C_callOther (k := 45) rfl) (s_C_say a4 a5 (63 : Int32) (1 : Int32) M) cd_C_say ml_C_176 sa_C_say (by decide) rfl (Nat.le_of_ble_eq_true rfl) (fun a6 M => ?_)
  refine m_pop (d_C_callOther (k := 46) rfl) ?_
  exact m_vret (d_C_callOther (k := 47) rfl) rfl
def q_C_callOther (t0 : Option Nat) (M : mM) : Option (Unit × mM) :=
    x_gI M 2 t0 16 fun x1 =>
    x_pI M 2 t0 16 ((x1 + (1 : Int32)) &&& (127 : Int32)) fun M =>
    x_cv M 2 t0 (q_K_restart t0 (1 : Int32) M) fun _ M =>
    x_gR M 2 t0 4 fun a2 =>
    x_cv M 0 a2 (q_B_clear a2 M) fun _ M =>
    x_gR M 2 t0 2 fun a3 =>
    x_gI M 2 t0 16 fun x4 =>
    x_gR M 2 t0 0 fun a5 =>
    x_gI M 8 a5 0 fun x6 =>
    x_gI M 2 t0 1 fun x7 =>
    if x7 < x6 then
      q_C_callOther_54 t0 (128 : Int32) x4 a3 M
    else
      q_C_callOther_54 t0 (0 : Int32) x4 a3 M
set_option maxRecDepth 20000 in
theorem v_C_callOther {E : mE} (t0 : Option Nat) (M : mM) : mVr E mi_C_callOther 2 0 [some (.inr t0)] [] M enU (q_C_callOther t0 M) := by
  unfold q_C_callOther
  refine m_aload_n (d_C_callOther (k := 0) rfl) rfl ?_
  refine m_aload_n (d_C_callOther (k := 1) rfl) rfl ?_
  refine m_getI (d_C_callOther (k := 2) rfl) fl_C_500 rfl (fun x1 => ?_)
  refine m_iconst (v := 1) (d_C_callOther (k := 3) rfl) (by decide) ?_
  refine m_iadd (d_C_callOther (k := 4) rfl) ?_
  refine m_bipush (v := 127) (d_C_callOther (k := 5) rfl) (by decide) ?_
  refine m_iand (d_C_callOther (k := 6) rfl) ?_
  refine m_pI (d_C_callOther (k := 7) rfl) fp_C_500 (fun h => absurd h (by decide)) rfl (fun M => ?_)
  refine m_aload_n (d_C_callOther (k := 8) rfl) rfl ?_
  refine m_iconst (v := 1) (d_C_callOther (k := 9) rfl) (by decide) ?_
  refine m_cvU (c := 2) (vs := [.inl (1 : Int32)]) (st := []) (d_C_callOther (k := 10) rfl) (s_K_restart t0 (1 : Int32) M) cd_K_restart ml_C_164 im_K_restart se_K_restart rfl (by decide) rfl (Nat.le_of_ble_eq_true rfl) (fun _ M => ?_)
  refine m_aload_n (d_C_callOther (k := 11) rfl) rfl ?_
  refine m_getR (d_C_callOther (k := 12) rfl) fl_C_188 rfl (fun a2 => ?_)
  refine m_cvU (c := 0) (vs := []) (st := []) (d_C_callOther (k := 13) rfl) (s_B_clear a2 M) cd_B_clear ml_C_76 im_B_clear se_B_clear rfl (by decide) rfl (Nat.le_of_ble_eq_true rfl) (fun _ M => ?_)
  refine m_aload_n (d_C_callOther (k := 14) rfl) rfl ?_
  refine m_getR (d_C_callOther (k := 15) rfl) fl_C_148 rfl (fun a3 => ?_)
  refine m_aload_n (d_C_callOther (k := 16) rfl) rfl ?_
  refine m_getI (d_C_callOther (k := 17) rfl) fl_C_500 rfl (fun x4 => ?_)
  refine m_aload_n (d_C_callOther (k := 18) rfl) rfl ?_
  refine m_getR (d_C_callOther (k := 19) rfl) fl_C_169 rfl (fun a5 => ?_)
  refine m_getI (d_C_callOther (k := 20) rfl) fl_C_368 rfl (fun x6 => ?_)
  refine m_aload_n (d_C_callOther (k := 21) rfl) rfl ?_
  refine m_getI (d_C_callOther (k := 22) rfl) fl_C_447 rfl (fun x7 => ?_)
  refine m_icmp_le (tgt := 53) (d_C_callOther (k := 23) rfl) rfl ?_ ?_
  · refine m_sipush (v := 128) (d_C_callOther (k := 24) rfl) (by decide) ?_
    refine m_goto (tgt := 54) (d_C_callOther (k := 25) rfl) rfl ?_
    exact m_drop (mles_s mles_0) (v_C_callOther_54 t0 (128 : Int32) x4 a3 M)
  · refine m_iconst (v := 0) (d_C_callOther (k := 26) rfl) (by decide) ?_
    exact m_drop (mles_s mles_0) (v_C_callOther_54 t0 (0 : Int32) x4 a3 M)
theorem s_C_callOther {E : mE} (t0 : Option Nat) (M : mM) : mSnd E mi_C_callOther 2 [.inr t0] M enU (q_C_callOther t0 M) := m_entryU (by decide) (Nat.le_of_ble_eq_true rfl) rfl (m_drop (mles_s mles_0) (v_C_callOther t0 M))
def dt_N_linkTo : List (Nat × Instr × Nat) := [(0, .iload_n 1, 1), (1, .ifCond .lt 21, 3), (4, .iload_n 1, 1), (5, .aload_n 0, 1), (6, .getfield 50, 3), (9, .arraylength, 1), (10, .if_icmp .ge 12, 3), (13, .aload_n 0, 1), (14, .getfield 50, 3), (17, .iload_n 1, 1), (18, .aaload, 1), (19, .goto 4, 3), (22, .aconst_null, 1), (23, .areturn, 1)]
theorem dx_N_linkTo : ∀ p ∈ dt_N_linkTo, decode prog_10_method_2_code p.1 = .ok p.2 := by decide +kernel
theorem d_N_linkTo {k pc : Nat} {i : Instr} {n : Nat} (h : dt_N_linkTo[k]? = some (pc, i, n)) : decode mi_N_linkTo.2.1 pc = .ok (i, n) := dx_N_linkTo (pc, i, n) (List.mem_of_getElem? h)
def q_N_linkTo (t0 : Option Nat) (i1 : Int32) (M : mM) : Option (Option Nat × mM) :=
    if i1 < 0 then
      some (none, M)
    else
      x_gR M 8 t0 6 fun a1 =>
      x_al M 3 a1 fun x2 =>
      if i1 < x2 then
        x_gR M 8 t0 6 fun a3 =>
        x_aR M 1 a3 i1 fun a4 =>
        some (a4, M)
      else
        some (none, M)
set_option maxRecDepth 20000 in
theorem v_N_linkTo {E : mE} (t0 : Option Nat) (i1 : Int32) (M : mM) : mVr E mi_N_linkTo 0 0 [some (.inr t0), some (.inl i1)] [] M enR (q_N_linkTo t0 i1 M) := by
  unfold q_N_linkTo
  refine m_iload_n (d_N_linkTo (k := 0) rfl) rfl ?_
  refine m_if_lt (tgt := 22) (d_N_linkTo (k := 1) rfl) rfl ?_ ?_
  · refine m_null (d_N_linkTo (k := 12) rfl) ?_
    exact m_aret (d_N_linkTo (k := 13) rfl) rfl
  · refine m_iload_n (d_N_linkTo (k := 2) rfl) rfl ?_
    refine m_aload_n (d_N_linkTo (k := 3) rfl) rfl ?_
    refine m_getR (d_N_linkTo (k := 4) rfl) fl_N_50 rfl (fun a1 => ?_)
    refine m_alen (t := 3) (d_N_linkTo (k := 5) rfl) rfl (fun x2 => ?_)
    refine m_icmp_ge (tgt := 22) (d_N_linkTo (k := 6) rfl) rfl ?_ ?_
    · refine m_aload_n (d_N_linkTo (k := 7) rfl) rfl ?_
      refine m_getR (d_N_linkTo (k := 8) rfl) fl_N_50 rfl (fun a3 => ?_)
      refine m_iload_n (d_N_linkTo (k := 9) rfl) rfl ?_
      refine m_aald (t := 1) (d_N_linkTo (k := 10) rfl) rfl (fun a4 => ?_)
      refine m_goto (tgt := 23) (d_N_linkTo (k := 11) rfl) rfl ?_
      exact m_aret (d_N_linkTo (k := 13) rfl) rfl
    · refine m_null (d_N_linkTo (k := 12) rfl) ?_
      exact m_aret (d_N_linkTo (k := 13) rfl) rfl
theorem s_N_linkTo {E : mE} (t0 : Option Nat) (i1 : Int32) (M : mM) : mSnd E mi_N_linkTo 0 [.inr t0, .inl i1] M enR (q_N_linkTo t0 i1 M) := m_entryR (by decide) (Nat.le_of_ble_eq_true rfl) rfl (m_drop (mles_s (mles_s mles_0)) (v_N_linkTo t0 i1 M))
def dt_C_linkAt : List (Nat × Instr × Nat) := [(0, .aload_n 0, 1), (1, .iload_n 1, 1), (2, .invokevirtual 106, 3), (5, .astore_n 3, 1), (6, .aload_n 3, 1), (7, .ifnonnull 7, 3), (10, .aconst_null, 1), (11, .goto 8, 3), (14, .aload_n 3, 1), (15, .iload_n 2, 1), (16, .invokevirtual 339, 3), (19, .areturn, 1)]
theorem dx_C_linkAt : ∀ p ∈ dt_C_linkAt, decode prog_1_method_29_code p.1 = .ok p.2 := by decide +kernel
theorem d_C_linkAt {k pc : Nat} {i : Instr} {n : Nat} (h : dt_C_linkAt[k]? = some (pc, i, n)) : decode mi_C_linkAt.2.1 pc = .ok (i, n) := dx_C_linkAt (pc, i, n) (List.mem_of_getElem? h)
def q_C_linkAt (t0 : Option Nat) (i1 : Int32) (i2 : Int32) (M : mM) : Option (Option Nat × mM) :=
    x_cv M 9 t0 (q_C_stationAt t0 i1 M) fun a1 M =>
    x_nl a1 (
      some (none, M)
    ) (
      x_cv M 8 a1 (q_N_linkTo a1 i2 M) fun a2 M =>
      some (a2, M)
    )
set_option maxRecDepth 20000 in
theorem v_C_linkAt {E : mE} (t0 : Option Nat) (i1 : Int32) (i2 : Int32) (M : mM) : mVr E mi_C_linkAt 2 0 [some (.inr t0), some (.inl i1), some (.inl i2), none] [] M enR (q_C_linkAt t0 i1 i2 M) := by
  unfold q_C_linkAt
  refine m_aload_n (d_C_linkAt (k := 0) rfl) rfl ?_
  refine m_iload_n (d_C_linkAt (k := 1) rfl) rfl ?_
  refine m_cvR (c := 9) (vs := [.inl i1]) (st := []) (d_C_linkAt (k := 2) rfl) (s_C_stationAt t0 i1 M) cd_C_stationAt ml_C_106 im_C_stationAt se_C_stationAt rfl (by decide) rfl (Nat.le_of_ble_eq_true rfl) (fun a1 M => ?_)
  refine m_ast_n (ls' := [some (.inr t0), some (.inl i1), some (.inl i2), some (.inr a1)]) (d_C_linkAt (k := 3) rfl) (by decide) rfl ?_
  refine m_aload_n (d_C_linkAt (k := 4) rfl) rfl ?_
  refine m_ifnonnull (tgt := 14) (d_C_linkAt (k := 5) rfl) rfl ?_ ?_
  · refine m_null (d_C_linkAt (k := 6) rfl) ?_
    refine m_goto (tgt := 19) (d_C_linkAt (k := 7) rfl) rfl ?_
    exact m_aret (d_C_linkAt (k := 11) rfl) rfl
  · refine m_aload_n (d_C_linkAt (k := 8) rfl) rfl ?_
    refine m_iload_n (d_C_linkAt (k := 9) rfl) rfl ?_
    refine m_cvR (c := 8) (vs := [.inl i2]) (st := []) (d_C_linkAt (k := 10) rfl) (s_N_linkTo a1 i2 M) cd_N_linkTo ml_C_339 im_N_linkTo se_N_linkTo rfl (by decide) rfl (Nat.le_of_ble_eq_true rfl) (fun a2 M => ?_)
    exact m_aret (d_C_linkAt (k := 11) rfl) rfl
theorem s_C_linkAt {E : mE} (t0 : Option Nat) (i1 : Int32) (i2 : Int32) (M : mM) : mSnd E mi_C_linkAt 2 [.inr t0, .inl i1, .inl i2] M enR (q_C_linkAt t0 i1 i2 M) := m_entryR (by decide) (Nat.le_of_ble_eq_true rfl) rfl (m_drop (mles_s (mles_s (mles_s (mles_e mles_0)))) (v_C_linkAt t0 i1 i2 M))
