def dt_C_call : List (Nat × Instr × Nat) := [(0, .aload_n 0, 1), (1, .iload_n 1, 1), (2, .iload_n 2, 1), (3, .invokevirtual 137, 3), (6, .astore 5, 2), (8, .aload 5, 2), (10, .ifnull 22, 3), (13, .aload 5, 2), (15, .getfield 141, 3), (18, .ifCond .ne 14, 3), (21, .iload_n 1, 1), (22, .iload_n 2, 1), (23, .iload_n 3, 1), (24, .iload 4, 2), (26, .invokestatic 144, 3), (29, .ifCond .ne 5, 3), (32, .iconst 0, 1), (33, .ireturn, 1), (34, .aload 5, 2), (36, .getfield 148, 3), (39, .iload_n 3, 1), (40, .putfield 152, 3), (43, .aload 5, 2), (45, .getfield 148, 3), (48, .iload 4, 2), (50, .putfield 157, 3), (53, .aload 5, 2), (55, .invokestatic 160, 3), (58, .iconst 1, 1), (59, .ireturn, 1)]
theorem dx_C_call : ∀ p ∈ dt_C_call, decode prog_1_method_10_code p.1 = .ok p.2 := by decide +kernel
theorem d_C_call {k pc : Nat} {i : Instr} {n : Nat} (h : dt_C_call[k]? = some (pc, i, n)) : decode mi_C_call.2.1 pc = .ok (i, n) := dx_C_call (pc, i, n) (List.mem_of_getElem? h)
def q_C_call (t0 : Option Nat) (i1 : Int32) (i2 : Int32) (i3 : Int32) (i4 : Int32) (M : mM) : Option (Int32 × mM) :=
    x_cv M 9 t0 (q_C_linkAt t0 i1 i2 M) fun a1 M =>
    x_nl a1 (
      x_rz (0 : Int32) M
    ) (
      x_gI M 2 a1 7 fun x2 =>
      if x2 = 0 then
        x_cl (q_C_areVias i1 i2 i3 i4 M) fun x3 M =>
        if x3 = 0 then
          x_rz (0 : Int32) M
        else
          x_gR M 2 a1 2 fun a4 =>
          x_pI M 3 a4 1 i3 fun M =>
          x_gR M 2 a1 2 fun a5 =>
          x_pI M 3 a5 2 i4 fun M =>
          x_cl (q_C_callOther a1 M) fun _ M =>
          x_rz (1 : Int32) M
      else
        x_rz (0 : Int32) M
    )
set_option maxRecDepth 20000 in
theorem v_C_call {E : mE} (t0 : Option Nat) (i1 : Int32) (i2 : Int32) (i3 : Int32) (i4 : Int32) (M : mM) : mVr E mi_C_call 3 0 [some (.inr t0), some (.inl i1), some (.inl i2), some (.inl i3), some (.inl i4), none] [] M enI (q_C_call t0 i1 i2 i3 i4 M) := by
  unfold q_C_call
  refine m_aload_n (d_C_call (k := 0) rfl) rfl ?_
  refine m_iload_n (d_C_call (k := 1) rfl) rfl ?_
  refine m_iload_n (d_C_call (k := 2) rfl) rfl ?_
  refine m_cvR (c := 9) (vs := [.inl i1, .inl i2]) (st := []) (d_C_call (k := 3) rfl) (s_C_linkAt t0 i1 i2 M) cd_C_linkAt ml_C_137 im_C_linkAt se_C_linkAt rfl (by decide) rfl (Nat.le_of_ble_eq_true rfl) (fun a1 M => ?_)
  refine m_ast (ls' := [some (.inr t0), some (.inl i1), some (.inl i2), some (.inl i3), some (.inl i4), some (.inr a1)]) (d_C_call (k := 4) rfl) (by decide) rfl ?_
  refine m_aload (d_C_call (k := 5) rfl) rfl ?_
  refine m_ifnull (tgt := 32) (d_C_call (k := 6) rfl) rfl ?_ ?_
  · refine m_iconst (v := 0) (d_C_call (k := 16) rfl) (by decide) ?_
    exact m_zret (d_C_call (k := 17) rfl) rfl
  · refine m_aload (d_C_call (k := 7) rfl) rfl ?_
    refine m_getI (d_C_call (k := 8) rfl) fl_C_141 rfl (fun x2 => ?_)
    refine m_if_ne (tgt := 32) (d_C_call (k := 9) rfl) rfl ?_ ?_
    · refine m_iload_n (d_C_call (k := 10) rfl) rfl ?_
      refine m_iload_n (d_C_call (k := 11) rfl) rfl ?_
      refine m_iload_n (d_C_call (k := 12) rfl) rfl ?_
      refine m_iload (d_C_call (k := 13) rfl) rfl ?_
      refine m_csI (vs := [.inl i1, .inl i2, .inl i3, .inl i4]) (st := []) (d_C_call (k := 14) rfl) (s_C_areVias i1 i2 i3 i4 M) cd_C_areVias ml_C_144 sa_C_areVias (by decide) rfl (Nat.le_of_ble_eq_true rfl) (fun x3 M => ?_)
      refine m_if_ne (tgt := 34) (d_C_call (k := 15) rfl) rfl ?_ ?_
      · refine m_iconst (v := 0) (d_C_call (k := 16) rfl) (by decide) ?_
        exact m_zret (d_C_call (k := 17) rfl) rfl
      · refine m_aload (d_C_call (k := 18) rfl) rfl ?_
        refine m_getR (d_C_call (k := 19) rfl) fl_C_148 rfl (fun a4 => ?_)
        refine m_iload_n (d_C_call (k := 20) rfl) rfl ?_
        refine m_pI (d_C_call (k := 21) rfl) fp_C_152 (fun h => absurd h (by decide)) rfl (fun M => ?_)
        refine m_aload (d_C_call (k := 22) rfl) rfl ?_
        refine m_getR (d_C_call (k := 23) rfl) fl_C_148 rfl (fun a5 => ?_)
        refine m_iload (d_C_call (k := 24) rfl) rfl ?_
        refine m_pI (d_C_call (k := 25) rfl) fp_C_157 (fun h => absurd h (by decide)) rfl (fun M => ?_)
        refine m_aload (d_C_call (k := 26) rfl) rfl ?_
        refine m_csU (vs := [.inr a1]) (st := []) (d_C_call (k := 27) rfl) (s_C_callOther a1 M) cd_C_callOther ml_C_160 sa_C_callOther (by decide) rfl (Nat.le_of_ble_eq_true rfl) (fun _ M => ?_)
        refine m_iconst (v := 1) (d_C_call (k := 28) rfl) (by decide) ?_
        exact m_zret (d_C_call (k := 29) rfl) rfl
    · refine m_iconst (v := 0) (d_C_call (k := 16) rfl) (by decide) ?_
      exact m_zret (d_C_call (k := 17) rfl) rfl
theorem s_C_call {E : mE} (t0 : Option Nat) (i1 : Int32) (i2 : Int32) (i3 : Int32) (i4 : Int32) (M : mM) : mSnd E mi_C_call 3 [.inr t0, .inl i1, .inl i2, .inl i3, .inl i4] M enI (q_C_call t0 i1 i2 i3 i4 M) := m_entryZ (by decide) (Nat.le_of_ble_eq_true rfl) rfl (m_drop (mles_s (mles_s (mles_s (mles_s (mles_s (mles_e mles_0)))))) (v_C_call t0 i1 i2 i3 i4 M))
def dt_C_end : List (Nat × Instr × Nat) := [(0, .iload_n 1, 1), (1, .ifCond .lt 14, 3), (4, .iload_n 1, 1), (5, .aload_n 0, 1), (6, .getfield 30, 3), (9, .getfield 61, 3), (12, .if_icmp .le 5, 3), (15, .iconst 0, 1), (16, .ireturn, 1), (17, .aload_n 0, 1), (18, .getfield 30, 3), (21, .iload_n 1, 1), (22, .putfield 61, 3), (25, .iconst 1, 1), (26, .ireturn, 1)]
theorem dx_C_end : ∀ p ∈ dt_C_end, decode prog_1_method_3_code p.1 = .ok p.2 := by decide +kernel
theorem d_C_end {k pc : Nat} {i : Instr} {n : Nat} (h : dt_C_end[k]? = some (pc, i, n)) : decode mi_C_end.2.1 pc = .ok (i, n) := dx_C_end (pc, i, n) (List.mem_of_getElem? h)
def q_C_end (t0 : Option Nat) (i1 : Int32) (M : mM) : Option (Int32 × mM) :=
    if i1 < 0 then
      x_rz (0 : Int32) M
    else
      x_gR M 9 t0 1 fun a1 =>
      x_gI M 0 a1 1 fun x2 =>
      if x2 < i1 then
        x_rz (0 : Int32) M
      else
        x_gR M 9 t0 1 fun a3 =>
        x_pI M 0 a3 1 i1 fun M =>
        x_rz (1 : Int32) M
set_option maxRecDepth 20000 in
theorem v_C_end {E : mE} (t0 : Option Nat) (i1 : Int32) (M : mM) : mVr E mi_C_end 0 0 [some (.inr t0), some (.inl i1)] [] M enI (q_C_end t0 i1 M) := by
  unfold q_C_end
  refine m_iload_n (d_C_end (k := 0) rfl) rfl ?_
  refine m_if_lt (tgt := 15) (d_C_end (k := 1) rfl) rfl ?_ ?_
  · refine m_iconst (v := 0) (d_C_end (k := 7) rfl) (by decide) ?_
    exact m_zret (d_C_end (k := 8) rfl) rfl
  · refine m_iload_n (d_C_end (k := 2) rfl) rfl ?_
    refine m_aload_n (d_C_end (k := 3) rfl) rfl ?_
    refine m_getR (d_C_end (k := 4) rfl) fl_C_30 rfl (fun a1 => ?_)
    refine m_getI (d_C_end (k := 5) rfl) fl_C_61 rfl (fun x2 => ?_)
    refine m_icmp_le (tgt := 17) (d_C_end (k := 6) rfl) rfl ?_ ?_
    · refine m_iconst (v := 0) (d_C_end (k := 7) rfl) (by decide) ?_
      exact m_zret (d_C_end (k := 8) rfl) rfl
    · refine m_aload_n (d_C_end (k := 9) rfl) rfl ?_
      refine m_getR (d_C_end (k := 10) rfl) fl_C_30 rfl (fun a3 => ?_)
      refine m_iload_n (d_C_end (k := 11) rfl) rfl ?_
      refine m_pI (d_C_end (k := 12) rfl) fp_C_61 (fun h => absurd h (by decide)) rfl (fun M => ?_)
      refine m_iconst (v := 1) (d_C_end (k := 13) rfl) (by decide) ?_
      exact m_zret (d_C_end (k := 14) rfl) rfl
theorem s_C_end {E : mE} (t0 : Option Nat) (i1 : Int32) (M : mM) : mSnd E mi_C_end 0 [.inr t0, .inl i1] M enI (q_C_end t0 i1 M) := m_entryZ (by decide) (Nat.le_of_ble_eq_true rfl) rfl (m_drop (mles_s (mles_s mles_0)) (v_C_end t0 i1 M))
def dt_B_addNumber : List (Nat × Instr × Nat) := [(0, .bipush 24, 2), (2, .istore_n 2, 1), (3, .iload_n 2, 1), (4, .ifCond .lt 20, 3), (7, .aload_n 0, 1), (8, .iload_n 1, 1), (9, .iload_n 2, 1), (10, .iushr, 1), (11, .sipush 255, 3), (14, .iand, 1), (15, .invokevirtual 25, 3), (18, .iinc 2 (-8), 3), (21, .goto (-18), 3), (24, .return_, 1)]
theorem dx_B_addNumber : ∀ p ∈ dt_B_addNumber, decode prog_2_method_5_code p.1 = .ok p.2 := by decide +kernel
theorem d_B_addNumber {k pc : Nat} {i : Instr} {n : Nat} (h : dt_B_addNumber[k]? = some (pc, i, n)) : decode mi_B_addNumber.2.1 pc = .ok (i, n) := dx_B_addNumber (pc, i, n) (List.mem_of_getElem? h)
def q_B_addNumber_3_b (r3 : Option Nat → Int32 → Int32 → mM → Option (Unit × mM)) (t0 : Option Nat) (i1 : Int32) (i2 : Int32) (M : mM) : Option (Unit × mM) :=
    if i2 < 0 then
      some ((), M)
    else
      x_cv M 0 t0 (q_B_add t0 ((mush i1 i2) &&& (255 : Int32)) M) fun _ M =>
      r3 t0 i1 (i2 + (-8)) M
def q_B_addNumber_3 : Nat → Option Nat → Int32 → Int32 → mM → Option (Unit × mM)
  | 0, _, _, _, _ => none
  | n + 1, t0, i1, i2, M => q_B_addNumber_3_b (q_B_addNumber_3 n) t0 i1 i2 M
set_option maxRecDepth 20000 in
theorem v_B_addNumber_3_b {E : mE} (r3 : Option Nat → Int32 → Int32 → mM → Option (Unit × mM)) (h3 : ∀ (t0 : Option Nat) (i1 : Int32) (i2 : Int32) (M : mM), mVr E mi_B_addNumber 1 3 [some (.inr t0), some (.inl i1), some (.inl i2)] [] M enU (r3 t0 i1 i2 M)) (t0 : Option Nat) (i1 : Int32) (i2 : Int32) (M : mM) : mVr E mi_B_addNumber 1 3 [some (.inr t0), some (.inl i1), some (.inl i2)] [] M enU (q_B_addNumber_3_b r3 t0 i1 i2 M) := by
  unfold q_B_addNumber_3_b
  refine m_iload_n (d_B_addNumber (k := 2) rfl) rfl ?_
  refine m_if_lt (tgt := 24) (d_B_addNumber (k := 3) rfl) rfl ?_ ?_
  · exact m_vret (d_B_addNumber (k := 13) rfl) rfl
  · refine m_aload_n (d_B_addNumber (k := 4) rfl) rfl ?_
    refine m_iload_n (d_B_addNumber (k := 5) rfl) rfl ?_
    refine m_iload_n (d_B_addNumber (k := 6) rfl) rfl ?_
    refine m_iushr (d_B_addNumber (k := 7) rfl) ?_
    refine m_sipush (v := 255) (d_B_addNumber (k := 8) rfl) (by decide) ?_
    refine m_iand (d_B_addNumber (k := 9) rfl) ?_
    refine m_cvU (c := 0) (vs := [.inl ((mush i1 i2) &&& (255 : Int32))]) (st := []) (d_B_addNumber (k := 10) rfl) (s_B_add t0 ((mush i1 i2) &&& (255 : Int32)) M) cd_B_add ml_B_25 im_B_add se_B_add rfl (by decide) rfl (Nat.le_of_ble_eq_true rfl) (fun _ M => ?_)
    refine m_inc (v := (-8)) (ls' := [some (.inr t0), some (.inl i1), some (.inl (i2 + (-8)))]) (d_B_addNumber (k := 11) rfl) rfl (by decide) (by decide) rfl ?_
    refine m_goto (tgt := 3) (d_B_addNumber (k := 12) rfl) rfl ?_
    exact m_drop (mles_s (mles_s (mles_s mles_0))) (h3 t0 i1 (i2 + (-8)) M)
theorem v_B_addNumber_3 {E : mE} : ∀ (n : Nat) (t0 : Option Nat) (i1 : Int32) (i2 : Int32) (M : mM), mVr E mi_B_addNumber 1 3 [some (.inr t0), some (.inl i1), some (.inl i2)] [] M enU (q_B_addNumber_3 n t0 i1 i2 M)
  | 0, _, _, _, _ => m_none
  | n + 1, t0, i1, i2, M => v_B_addNumber_3_b _ (v_B_addNumber_3 n) t0 i1 i2 M
def q_B_addNumber (t0 : Option Nat) (i1 : Int32) (M : mM) : Option (Unit × mM) :=
    q_B_addNumber_3 mFU t0 i1 (24 : Int32) M
set_option maxRecDepth 20000 in
theorem v_B_addNumber {E : mE} (t0 : Option Nat) (i1 : Int32) (M : mM) : mVr E mi_B_addNumber 1 0 [some (.inr t0), some (.inl i1), none] [] M enU (q_B_addNumber t0 i1 M) := by
  unfold q_B_addNumber
  refine m_bipush (v := 24) (d_B_addNumber (k := 0) rfl) (by decide) ?_
  refine m_ist_n (ls' := [some (.inr t0), some (.inl i1), some (.inl (24 : Int32))]) (d_B_addNumber (k := 1) rfl) (by decide) rfl ?_
  exact m_drop (mles_s (mles_s (mles_s mles_0))) (v_B_addNumber_3 mFU t0 i1 (24 : Int32) M)
theorem s_B_addNumber {E : mE} (t0 : Option Nat) (i1 : Int32) (M : mM) : mSnd E mi_B_addNumber 1 [.inr t0, .inl i1] M enU (q_B_addNumber t0 i1 M) := m_entryU (by decide) (Nat.le_of_ble_eq_true rfl) rfl (m_drop (mles_s (mles_s (mles_e mles_0))) (v_B_addNumber t0 i1 M))
def dt_C_feed : List (Nat × Instr × Nat) := [(0, .aload_n 0, 1), (1, .getfield 30, 3), (4, .getfield 61, 3), (7, .bipush 20, 2), (9, .iadd, 1), (10, .sipush 260, 3), (13, .if_icmp .le 5, 3), (16, .iconst 0, 1), (17, .ireturn, 1), (18, .aload_n 0, 1), (19, .getfield 30, 3), (22, .iload_n 1, 1), (23, .invokevirtual 65, 3), (26, .aload_n 0, 1), (27, .getfield 30, 3), (30, .iload_n 2, 1), (31, .invokevirtual 65, 3), (34, .aload_n 0, 1), (35, .getfield 30, 3), (38, .iload_n 3, 1), (39, .invokevirtual 65, 3), (42, .aload_n 0, 1), (43, .getfield 30, 3), (46, .iload 4, 2), (48, .invokevirtual 65, 3), (51, .aload_n 0, 1), (52, .getfield 30, 3), (55, .iload 5, 2), (57, .invokevirtual 65, 3), (60, .iconst 1, 1), (61, .ireturn, 1)]
theorem dx_C_feed : ∀ p ∈ dt_C_feed, decode prog_1_method_2_code p.1 = .ok p.2 := by decide +kernel
theorem d_C_feed {k pc : Nat} {i : Instr} {n : Nat} (h : dt_C_feed[k]? = some (pc, i, n)) : decode mi_C_feed.2.1 pc = .ok (i, n) := dx_C_feed (pc, i, n) (List.mem_of_getElem? h)
def q_C_feed (t0 : Option Nat) (i1 : Int32) (i2 : Int32) (i3 : Int32) (i4 : Int32) (i5 : Int32) (M : mM) : Option (Int32 × mM) :=
    x_gR M 9 t0 1 fun a1 =>
    x_gI M 0 a1 1 fun x2 =>
    if (260 : Int32) < (x2 + (20 : Int32)) then
      x_rz (0 : Int32) M
    else
      x_gR M 9 t0 1 fun a3 =>
      x_cv M 0 a3 (q_B_addNumber a3 i1 M) fun _ M =>
      x_gR M 9 t0 1 fun a4 =>
      x_cv M 0 a4 (q_B_addNumber a4 i2 M) fun _ M =>
      x_gR M 9 t0 1 fun a5 =>
      x_cv M 0 a5 (q_B_addNumber a5 i3 M) fun _ M =>
      x_gR M 9 t0 1 fun a6 =>
      x_cv M 0 a6 (q_B_addNumber a6 i4 M) fun _ M =>
      x_gR M 9 t0 1 fun a7 =>
      x_cv M 0 a7 (q_B_addNumber a7 i5 M) fun _ M =>
      x_rz (1 : Int32) M
set_option maxRecDepth 20000 in
theorem v_C_feed {E : mE} (t0 : Option Nat) (i1 : Int32) (i2 : Int32) (i3 : Int32) (i4 : Int32) (i5 : Int32) (M : mM) : mVr E mi_C_feed 2 0 [some (.inr t0), some (.inl i1), some (.inl i2), some (.inl i3), some (.inl i4), some (.inl i5)] [] M enI (q_C_feed t0 i1 i2 i3 i4 i5 M) := by
  unfold q_C_feed
  refine m_aload_n (d_C_feed (k := 0) rfl) rfl ?_
  refine m_getR (d_C_feed (k := 1) rfl) fl_C_30 rfl (fun a1 => ?_)
  refine m_getI (d_C_feed (k := 2) rfl) fl_C_61 rfl (fun x2 => ?_)
  refine m_bipush (v := 20) (d_C_feed (k := 3) rfl) (by decide) ?_
  refine m_iadd (d_C_feed (k := 4) rfl) ?_
  refine m_sipush (v := 260) (d_C_feed (k := 5) rfl) (by decide) ?_
  refine m_icmp_le (tgt := 18) (d_C_feed (k := 6) rfl) rfl ?_ ?_
  · refine m_iconst (v := 0) (d_C_feed (k := 7) rfl) (by decide) ?_
    exact m_zret (d_C_feed (k := 8) rfl) rfl
  · refine m_aload_n (d_C_feed (k := 9) rfl) rfl ?_
    refine m_getR (d_C_feed (k := 10) rfl) fl_C_30 rfl (fun a3 => ?_)
    refine m_iload_n (d_C_feed (k := 11) rfl) rfl ?_
    refine m_cvU (c := 0) (vs := [.inl i1]) (st := []) (d_C_feed (k := 12) rfl) (s_B_addNumber a3 i1 M) cd_B_addNumber ml_C_65 im_B_addNumber se_B_addNumber rfl (by decide) rfl (Nat.le_of_ble_eq_true rfl) (fun _ M => ?_)
    refine m_aload_n (d_C_feed (k := 13) rfl) rfl ?_
    refine m_getR (d_C_feed (k := 14) rfl) fl_C_30 rfl (fun a4 => ?_)
    refine m_iload_n (d_C_feed (k := 15) rfl) rfl ?_
    refine m_cvU (c := 0) (vs := [.inl i2]) (st := []) (d_C_feed (k := 16) rfl) (s_B_addNumber a4 i2 M) cd_B_addNumber ml_C_65 im_B_addNumber se_B_addNumber rfl (by decide) rfl (Nat.le_of_ble_eq_true rfl) (fun _ M => ?_)
    refine m_aload_n (d_C_feed (k := 17) rfl) rfl ?_
    refine m_getR (d_C_feed (k := 18) rfl) fl_C_30 rfl (fun a5 => ?_)
    refine m_iload_n (d_C_feed (k := 19) rfl) rfl ?_
    refine m_cvU (c := 0) (vs := [.inl i3]) (st := []) (d_C_feed (k := 20) rfl) (s_B_addNumber a5 i3 M) cd_B_addNumber ml_C_65 im_B_addNumber se_B_addNumber rfl (by decide) rfl (Nat.le_of_ble_eq_true rfl) (fun _ M => ?_)
    refine m_aload_n (d_C_feed (k := 21) rfl) rfl ?_
    refine m_getR (d_C_feed (k := 22) rfl) fl_C_30 rfl (fun a6 => ?_)
    refine m_iload (d_C_feed (k := 23) rfl) rfl ?_
    refine m_cvU (c := 0) (vs := [.inl i4]) (st := []) (d_C_feed (k := 24) rfl) (s_B_addNumber a6 i4 M) cd_B_addNumber ml_C_65 im_B_addNumber se_B_addNumber rfl (by decide) rfl (Nat.le_of_ble_eq_true rfl) (fun _ M => ?_)
    refine m_aload_n (d_C_feed (k := 25) rfl) rfl ?_
    refine m_getR (d_C_feed (k := 26) rfl) fl_C_30 rfl (fun a7 => ?_)
    refine m_iload (d_C_feed (k := 27) rfl) rfl ?_
    refine m_cvU (c := 0) (vs := [.inl i5]) (st := []) (d_C_feed (k := 28) rfl) (s_B_addNumber a7 i5 M) cd_B_addNumber ml_C_65 im_B_addNumber se_B_addNumber rfl (by decide) rfl (Nat.le_of_ble_eq_true rfl) (fun _ M => ?_)
    refine m_iconst (v := 1) (d_C_feed (k := 29) rfl) (by decide) ?_
    exact m_zret (d_C_feed (k := 30) rfl) rfl
theorem s_C_feed {E : mE} (t0 : Option Nat) (i1 : Int32) (i2 : Int32) (i3 : Int32) (i4 : Int32) (i5 : Int32) (M : mM) : mSnd E mi_C_feed 2 [.inr t0, .inl i1, .inl i2, .inl i3, .inl i4, .inl i5] M enI (q_C_feed t0 i1 i2 i3 i4 i5 M) := m_entryZ (by decide) (Nat.le_of_ble_eq_true rfl) rfl (m_drop (mles_s (mles_s (mles_s (mles_s (mles_s (mles_s mles_0)))))) (v_C_feed t0 i1 i2 i3 i4 i5 M))
def dt_C_giveTape : List (Nat × Instr × Nat) := [(0, .aload_n 1, 1), (1, .ifnonnull 5, 3), (4, .iconst (-1), 1), (5, .ireturn, 1), (6, .aload_n 1, 1), (7, .getfield 141, 3), (10, .iconst 2, 1), (11, .if_icmp .eq 6, 3), (14, .bipush (-3), 2), (16, .ireturn, 1), (17, .aload_n 1, 1), (18, .getfield 306, 3), (21, .getfield 61, 3), (24, .aload_n 0, 1), (25, .getfield 30, 3), (28, .getfield 61, 3), (31, .iadd, 1), (32, .sipush 200, 3), (35, .if_icmp .le 6, 3), (38, .bipush (-2), 2), (40, .ireturn, 1), (41, .aload_n 1, 1), (42, .getfield 306, 3), (45, .aload_n 0, 1), (46, .getfield 30, 3), (49, .iconst 0, 1), (50, .aload_n 0, 1), (51, .getfield 30, 3), (54, .getfield 61, 3), (57, .invokevirtual 134, 3), (60, .aload_n 1, 1), (61, .getfield 306, 3), (64, .getfield 61, 3), (67, .ireturn, 1)]
theorem dx_C_giveTape : ∀ p ∈ dt_C_giveTape, decode prog_1_method_32_code p.1 = .ok p.2 := by decide +kernel
theorem d_C_giveTape {k pc : Nat} {i : Instr} {n : Nat} (h : dt_C_giveTape[k]? = some (pc, i, n)) : decode mi_C_giveTape.2.1 pc = .ok (i, n) := dx_C_giveTape (pc, i, n) (List.mem_of_getElem? h)
def q_C_giveTape (t0 : Option Nat) (t1 : Option Nat) (M : mM) : Option (Int32 × mM) :=
    x_nl t1 (
      some ((-1 : Int32), M)
    ) (
      x_gI M 2 t1 7 fun x1 =>
      if x1 = (2 : Int32) then
        x_gR M 2 t1 3 fun a2 =>
        x_gI M 0 a2 1 fun x3 =>
        x_gR M 9 t0 1 fun a4 =>
        x_gI M 0 a4 1 fun x5 =>
        if (200 : Int32) < (x3 + x5) then
          some ((-2 : Int32), M)
        else
          x_gR M 2 t1 3 fun a6 =>
          x_gR M 9 t0 1 fun a7 =>
          x_gR M 9 t0 1 fun a8 =>
          x_gI M 0 a8 1 fun x9 =>
          x_cv M 0 a6 (q_B_addFrom a6 a7 (0 : Int32) x9 M) fun _ M =>
          x_gR M 2 t1 3 fun a10 =>
          x_gI M 0 a10 1 fun x11 =>
          some (x11, M)
      else
        some ((-3 : Int32), M)
    )
set_option maxRecDepth 20000 in
theorem v_C_giveTape {E : mE} (t0 : Option Nat) (t1 : Option Nat) (M : mM) : mVr E mi_C_giveTape 3 0 [some (.inr t0), some (.inr t1)] [] M enI (q_C_giveTape t0 t1 M) := by
  unfold q_C_giveTape
  refine m_aload_n (d_C_giveTape (k := 0) rfl) rfl ?_
  refine m_ifnonnull (tgt := 6) (d_C_giveTape (k := 1) rfl) rfl ?_ ?_
  · refine m_iconst (v := (-1)) (d_C_giveTape (k := 2) rfl) (by decide) ?_
    exact m_iret (d_C_giveTape (k := 3) rfl) rfl
  · refine m_aload_n (d_C_giveTape (k := 4) rfl) rfl ?_
    refine m_getI (d_C_giveTape (k := 5) rfl) fl_C_141 rfl (fun x1 => ?_)
    refine m_iconst (v := 2) (d_C_giveTape (k := 6) rfl) (by decide) ?_
    refine m_icmp_eq (tgt := 17) (d_C_giveTape (k := 7) rfl) rfl ?_ ?_
    · refine m_aload_n (d_C_giveTape (k := 10) rfl) rfl ?_
      refine m_getR (d_C_giveTape (k := 11) rfl) fl_C_306 rfl (fun a2 => ?_)
      refine m_getI (d_C_giveTape (k := 12) rfl) fl_C_61 rfl (fun x3 => ?_)
      refine m_aload_n (d_C_giveTape (k := 13) rfl) rfl ?_
      refine m_getR (d_C_giveTape (k := 14) rfl) fl_C_30 rfl (fun a4 => ?_)
      refine m_getI (d_C_giveTape (k := 15) rfl) fl_C_61 rfl (fun x5 => ?_)
      refine m_iadd (d_C_giveTape (k := 16) rfl) ?_
      refine m_sipush (v := 200) (d_C_giveTape (k := 17) rfl) (by decide) ?_
      refine m_icmp_le (tgt := 41) (d_C_giveTape (k := 18) rfl) rfl ?_ ?_
      · refine m_bipush (v := (-2)) (d_C_giveTape (k := 19) rfl) (by decide) ?_
        exact m_iret (d_C_giveTape (k := 20) rfl) rfl
      · refine m_aload_n (d_C_giveTape (k := 21) rfl) rfl ?_
        refine m_getR (d_C_giveTape (k := 22) rfl) fl_C_306 rfl (fun a6 => ?_)
        refine m_aload_n (d_C_giveTape (k := 23) rfl) rfl ?_
        refine m_getR (d_C_giveTape (k := 24) rfl) fl_C_30 rfl (fun a7 => ?_)
        refine m_iconst (v := 0) (d_C_giveTape (k := 25) rfl) (by decide) ?_
        refine m_aload_n (d_C_giveTape (k := 26) rfl) rfl ?_
        refine m_getR (d_C_giveTape (k := 27) rfl) fl_C_30 rfl (fun a8 => ?_)
        refine m_getI (d_C_giveTape (k := 28) rfl) fl_C_61 rfl (fun x9 => ?_)
        refine m_cvU (c := 0) (vs := [.inr a7, .inl (0 : Int32), .inl x9]) (st := []) (d_C_giveTape (k := 29) rfl) (s_B_addFrom a6 a7 (0 : Int32) x9 M) cd_B_addFrom ml_C_134 im_B_addFrom se_B_addFrom rfl (by decide) rfl (Nat.le_of_ble_eq_true rfl) (fun _ M => ?_)
        refine m_aload_n (d_C_giveTape (k := 30) rfl) rfl ?_
        refine m_getR (d_C_giveTape (k := 31) rfl) fl_C_306 rfl (fun a10 => ?_)
        refine m_getI (d_C_giveTape (k := 32) rfl) fl_C_61 rfl (fun x11 => ?_)
        exact m_iret (d_C_giveTape (k := 33) rfl) rfl
    · refine m_bipush (v := (-3)) (d_C_giveTape (k := 8) rfl) (by decide) ?_
      exact m_iret (d_C_giveTape (k := 9) rfl) rfl
theorem s_C_giveTape {E : mE} (t0 : Option Nat) (t1 : Option Nat) (M : mM) : mSnd E mi_C_giveTape 3 [.inr t0, .inr t1] M enI (q_C_giveTape t0 t1 M) := m_entryI (by decide) (Nat.le_of_ble_eq_true rfl) rfl (m_drop (mles_s (mles_s mles_0)) (v_C_giveTape t0 t1 M))
def dt_C_give : List (Nat × Instr × Nat) := [(0, .aload_n 0, 1), (1, .aload_n 0, 1), (2, .iload_n 1, 1), (3, .iload_n 2, 1), (4, .invokevirtual 137, 3), (7, .invokevirtual 180, 3), (10, .istore_n 3, 1), (11, .aload_n 0, 1), (12, .getfield 30, 3), (15, .invokevirtual 76, 3), (18, .iload_n 3, 1), (19, .ireturn, 1)]
theorem dx_C_give : ∀ p ∈ dt_C_give, decode prog_1_method_12_code p.1 = .ok p.2 := by decide +kernel
theorem d_C_give {k pc : Nat} {i : Instr} {n : Nat} (h : dt_C_give[k]? = some (pc, i, n)) : decode mi_C_give.2.1 pc = .ok (i, n) := dx_C_give (pc, i, n) (List.mem_of_getElem? h)
def q_C_give (t0 : Option Nat) (i1 : Int32) (i2 : Int32) (M : mM) : Option (Int32 × mM) :=
    x_cv M 9 t0 (q_C_linkAt t0 i1 i2 M) fun a1 M =>
    x_cv M 9 t0 (q_C_giveTape t0 a1 M) fun x2 M =>
    x_gR M 9 t0 1 fun a3 =>
    x_cv M 0 a3 (q_B_clear a3 M) fun _ M =>
    some (x2, M)
set_option maxRecDepth 20000 in
theorem v_C_give {E : mE} (t0 : Option Nat) (i1 : Int32) (i2 : Int32) (M : mM) : mVr E mi_C_give 4 0 [some (.inr t0), some (.inl i1), some (.inl i2), none] [] M enI (q_C_give t0 i1 i2 M) := by
  unfold q_C_give
  refine m_aload_n (d_C_give (k := 0) rfl) rfl ?_
  refine m_aload_n (d_C_give (k := 1) rfl) rfl ?_
  refine m_iload_n (d_C_give (k := 2) rfl) rfl ?_
  refine m_iload_n (d_C_give (k := 3) rfl) rfl ?_
  refine m_cvR (c := 9) (vs := [.inl i1, .inl i2]) (st := [.inr t0]) (d_C_give (k := 4) rfl) (s_C_linkAt t0 i1 i2 M) cd_C_linkAt ml_C_137 im_C_linkAt se_C_linkAt rfl (by decide) rfl (Nat.le_of_ble_eq_true rfl) (fun a1 M => ?_)
  refine m_cvI (c := 9) (vs := [.inr a1]) (st := []) (d_C_give (k := 5) rfl) (s_C_giveTape t0 a1 M) cd_C_giveTape ml_C_180 im_C_giveTape se_C_giveTape rfl (by decide) rfl (Nat.le_of_ble_eq_true rfl) (fun x2 M => ?_)
  refine m_ist_n (ls' := [some (.inr t0), some (.inl i1), some (.inl i2), some (.inl x2)]) (d_C_give (k := 6) rfl) (by decide) rfl ?_
  refine m_aload_n (d_C_give (k := 7) rfl) rfl ?_
  refine m_getR (d_C_give (k := 8) rfl) fl_C_30 rfl (fun a3 => ?_)
  refine m_cvU (c := 0) (vs := []) (st := []) (d_C_give (k := 9) rfl) (s_B_clear a3 M) cd_B_clear ml_C_76 im_B_clear se_B_clear rfl (by decide) rfl (Nat.le_of_ble_eq_true rfl) (fun _ M => ?_)
  refine m_iload_n (d_C_give (k := 10) rfl) rfl ?_
  exact m_iret (d_C_give (k := 11) rfl) rfl
theorem s_C_give {E : mE} (t0 : Option Nat) (i1 : Int32) (i2 : Int32) (M : mM) : mSnd E mi_C_give 4 [.inr t0, .inl i1, .inl i2] M enI (q_C_give t0 i1 i2 M) := m_entryI (by decide) (Nat.le_of_ble_eq_true rfl) rfl (m_drop (mles_s (mles_s (mles_s (mles_e mles_0)))) (v_C_give t0 i1 i2 M))
def dt_C_hears : List (Nat × Instr × Nat) := [(0, .aload_n 0, 1), (1, .iload_n 1, 1), (2, .invokevirtual 106, 3), (5, .astore 4, 2), (7, .aload 4, 2), (9, .ifnull 15, 3), (12, .iload_n 2, 1), (13, .invokestatic 110, 3), (16, .ifCond .eq 8, 3), (19, .iload_n 1, 1), (20, .iload_n 2, 1), (21, .if_icmp .ne 5, 3), (24, .iconst 0, 1), (25, .ireturn, 1), (26, .aload 4, 2), (28, .iload_n 3, 1), (29, .ifCond .eq 15, 3), (32, .aload 4, 2), (34, .getfield 113, 3), (37, .iconst 1, 1), (38, .iload_n 2, 1), (39, .ishl, 1), (40, .ior, 1), (41, .goto 14, 3), (44, .aload 4, 2), (46, .getfield 113, 3), (49, .iconst 1, 1), (50, .iload_n 2, 1), (51, .ishl, 1), (52, .iconst (-1), 1), (53, .ixor, 1), (54, .iand, 1), (55, .putfield 113, 3), (58, .iconst 1, 1), (59, .ireturn, 1)]
theorem dx_C_hears : ∀ p ∈ dt_C_hears, decode prog_1_method_7_code p.1 = .ok p.2 := by decide +kernel
theorem d_C_hears {k pc : Nat} {i : Instr} {n : Nat} (h : dt_C_hears[k]? = some (pc, i, n)) : decode mi_C_hears.2.1 pc = .ok (i, n) := dx_C_hears (pc, i, n) (List.mem_of_getElem? h)
def q_C_hears (t0 : Option Nat) (i1 : Int32) (i2 : Int32) (i3 : Int32) (M : mM) : Option (Int32 × mM) :=
    x_cv M 9 t0 (q_C_stationAt t0 i1 M) fun a1 M =>
    x_nl a1 (
      x_rz (0 : Int32) M
    ) (
      x_cl (q_C_isStation i2 M) fun x2 M =>
      if x2 = 0 then
        x_rz (0 : Int32) M
      else
        if i1 = i2 then
          x_rz (0 : Int32) M
        else
          if i3 = 0 then
            x_gI M 8 a1 8 fun x3 =>
            x_pI M 8 a1 8 (x3 &&& (((1 : Int32) <<< (i2 &&& 31)) ^^^ (-1 : Int32))) fun M =>
            x_rz (1 : Int32) M
          else
            x_gI M 8 a1 8 fun x4 =>
            x_pI M 8 a1 8 (x4 ||| ((1 : Int32) <<< (i2 &&& 31))) fun M =>
            x_rz (1 : Int32) M
    )
set_option maxRecDepth 20000 in
theorem v_C_hears {E : mE} (t0 : Option Nat) (i1 : Int32) (i2 : Int32) (i3 : Int32) (M : mM) : mVr E mi_C_hears 2 0 [some (.inr t0), some (.inl i1), some (.inl i2), some (.inl i3), none] [] M enI (q_C_hears t0 i1 i2 i3 M) := by
  unfold q_C_hears
  refine m_aload_n (d_C_hears (k := 0) rfl) rfl ?_
  refine m_iload_n (d_C_hears (k := 1) rfl) rfl ?_
  refine m_cvR (c := 9) (vs := [.inl i1]) (st := []) (d_C_hears (k := 2) rfl) (s_C_stationAt t0 i1 M) cd_C_stationAt ml_C_106 im_C_stationAt se_C_stationAt rfl (by decide) rfl (Nat.le_of_ble_eq_true rfl) (fun a1 M => ?_)
  refine m_ast (ls' := [some (.inr t0), some (.inl i1), some (.inl i2), some (.inl i3), some (.inr a1)]) (d_C_hears (k := 3) rfl) (by decide) rfl ?_
  refine m_aload (d_C_hears (k := 4) rfl) rfl ?_
  refine m_ifnull (tgt := 24) (d_C_hears (k := 5) rfl) rfl ?_ ?_
  · refine m_iconst (v := 0) (d_C_hears (k := 12) rfl) (by decide) ?_
    exact m_zret (d_C_hears (k := 13) rfl) rfl
  · refine m_iload_n (d_C_hears (k := 6) rfl) rfl ?_
    refine m_csI (vs := [.inl i2]) (st := []) (d_C_hears (k := 7) rfl) (s_C_isStation i2 M) cd_C_isStation ml_C_110 sa_C_isStation (by decide) rfl (Nat.le_of_ble_eq_true rfl) (fun x2 M => ?_)
    refine m_if_eq (tgt := 24) (d_C_hears (k := 8) rfl) rfl ?_ ?_
    · refine m_iconst (v := 0) (d_C_hears (k := 12) rfl) (by decide) ?_
      exact m_zret (d_C_hears (k := 13) rfl) rfl
    · refine m_iload_n (d_C_hears (k := 9) rfl) rfl ?_
      refine m_iload_n (d_C_hears (k := 10) rfl) rfl ?_
      refine m_icmp_ne (tgt := 26) (d_C_hears (k := 11) rfl) rfl ?_ ?_
      · refine m_iconst (v := 0) (d_C_hears (k := 12) rfl) (by decide) ?_
        exact m_zret (d_C_hears (k := 13) rfl) rfl
      · refine m_aload (d_C_hears (k := 14) rfl) rfl ?_
        refine m_iload_n (d_C_hears (k := 15) rfl) rfl ?_
        refine m_if_eq (tgt := 44) (d_C_hears (k := 16) rfl) rfl ?_ ?_
        · refine m_aload (d_C_hears (k := 24) rfl) rfl ?_
          refine m_getI (d_C_hears (k := 25) rfl) fl_C_113 rfl (fun x3 => ?_)
          refine m_iconst (v := 1) (d_C_hears (k := 26) rfl) (by decide) ?_
          refine m_iload_n (d_C_hears (k := 27) rfl) rfl ?_
          refine m_ishl (d_C_hears (k := 28) rfl) ?_
          refine m_iconst (v := (-1)) (d_C_hears (k := 29) rfl) (by decide) ?_
          refine m_ixor (d_C_hears (k := 30) rfl) ?_
          refine m_iand (d_C_hears (k := 31) rfl) ?_
          refine m_pI (d_C_hears (k := 32) rfl) fp_C_113 (fun h => absurd h (by decide)) rfl (fun M => ?_)
          refine m_iconst (v := 1) (d_C_hears (k := 33) rfl) (by decide) ?_
          exact m_zret (d_C_hears (k := 34) rfl) rfl
        · refine m_aload (d_C_hears (k := 17) rfl) rfl ?_
          refine m_getI (d_C_hears (k := 18) rfl) fl_C_113 rfl (fun x4 => ?_)
          refine m_iconst (v := 1) (d_C_hears (k := 19) rfl) (by decide) ?_
          refine m_iload_n (d_C_hears (k := 20) rfl) rfl ?_
          refine m_ishl (d_C_hears (k := 21) rfl) ?_
          refine m_ior (d_C_hears (k := 22) rfl) ?_
          refine m_goto (tgt := 55) (d_C_hears (k := 23) rfl) rfl ?_
          refine m_pI (d_C_hears (k := 32) rfl) fp_C_113 (fun h => absurd h (by decide)) rfl (fun M => ?_)
          refine m_iconst (v := 1) (d_C_hears (k := 33) rfl) (by decide) ?_
          exact m_zret (d_C_hears (k := 34) rfl) rfl
theorem s_C_hears {E : mE} (t0 : Option Nat) (i1 : Int32) (i2 : Int32) (i3 : Int32) (M : mM) : mSnd E mi_C_hears 2 [.inr t0, .inl i1, .inl i2, .inl i3] M enI (q_C_hears t0 i1 i2 i3 M) := m_entryZ (by decide) (Nat.le_of_ble_eq_true rfl) rfl (m_drop (mles_s (mles_s (mles_s (mles_s (mles_e mles_0))))) (v_C_hears t0 i1 i2 i3 M))
def dt_B_init : List (Nat × Instr × Nat) := [(0, .aload_n 0, 1), (1, .invokespecial 3, 3), (4, .aload_n 0, 1), (5, .iconst 0, 1), (6, .iload_n 1, 1), (7, .invokestatic 9, 3), (10, .newarray .int, 2), (12, .putfield 15, 3), (15, .return_, 1)]
theorem dx_B_init : ∀ p ∈ dt_B_init, decode prog_2_method_1_code p.1 = .ok p.2 := by decide +kernel
theorem d_B_init {k pc : Nat} {i : Instr} {n : Nat} (h : dt_B_init[k]? = some (pc, i, n)) : decode mi_B_init.2.1 pc = .ok (i, n) := dx_B_init (pc, i, n) (List.mem_of_getElem? h)
def q_B_init (t0 : Option Nat) (i1 : Int32) (M : mM) : Option (Unit × mM) :=
    x_oi t0 <|
    x_na M 0 (if (0 : Int32) < i1 then i1 else (0 : Int32)) fun a1 M =>
    x_pR M 0 t0 0 a1 fun M =>
    some ((), M)
set_option maxRecDepth 20000 in
theorem v_B_init {E : mE} (t0 : Option Nat) (i1 : Int32) (M : mM) : mVr E mi_B_init 1 0 [some (.inr t0), some (.inl i1)] [] M enU (q_B_init t0 i1 M) := by
  unfold q_B_init
  refine m_aload_n (d_B_init (k := 0) rfl) rfl ?_
  refine m_oi (d_B_init (k := 1) rfl) mo_B_3 im_obj cd_obj (Nat.le_of_ble_eq_true rfl) ?_
  refine m_aload_n (d_B_init (k := 2) rfl) rfl ?_
  refine m_iconst (v := 0) (d_B_init (k := 3) rfl) (by decide) ?_
  refine m_iload_n (d_B_init (k := 4) rfl) rfl ?_
  refine m_max (d_B_init (k := 5) rfl) mm_B_9 ms_max mi_math mc_max (Nat.le_of_ble_eq_true rfl) ?_
  refine m_newarr (t := 0) (ty := .int) (d_B_init (k := 6) rfl) rfl rfl (by decide) (by decide) rfl ac_0 (fun _ _ h => h) (fun a1 M => ?_)
  refine m_pR (d_B_init (k := 7) rfl) fp_B_15 (fun _ => rfl) rfl (fun M => ?_)
  exact m_vret (d_B_init (k := 8) rfl) rfl
theorem s_B_init {E : mE} (t0 : Option Nat) (i1 : Int32) (M : mM) : mSnd E mi_B_init 1 [.inr t0, .inl i1] M enU (q_B_init t0 i1 M) := m_entryU (by decide) (Nat.le_of_ble_eq_true rfl) rfl (m_drop (mles_s (mles_s mles_0)) (v_B_init t0 i1 M))
def dt_P_init : List (Nat × Instr × Nat) := [(0, .aload_n 0, 1), (1, .invokespecial 3, 3), (4, .aload_n 0, 1), (5, .iconst (-1), 1), (6, .putfield 9, 3), (9, .aload_n 0, 1), (10, .iconst (-1), 1), (11, .putfield 15, 3), (14, .return_, 1)]
theorem dx_P_init : ∀ p ∈ dt_P_init, decode prog_5_method_1_code p.1 = .ok p.2 := by decide +kernel
theorem d_P_init {k pc : Nat} {i : Instr} {n : Nat} (h : dt_P_init[k]? = some (pc, i, n)) : decode mi_P_init.2.1 pc = .ok (i, n) := dx_P_init (pc, i, n) (List.mem_of_getElem? h)
def q_P_init (t0 : Option Nat) (M : mM) : Option (Unit × mM) :=
    x_oi t0 <|
    x_pI M 3 t0 1 (-1 : Int32) fun M =>
    x_pI M 3 t0 2 (-1 : Int32) fun M =>
    some ((), M)
set_option maxRecDepth 20000 in
theorem v_P_init {E : mE} (t0 : Option Nat) (M : mM) : mVr E mi_P_init 1 0 [some (.inr t0)] [] M enU (q_P_init t0 M) := by
  unfold q_P_init
  refine m_aload_n (d_P_init (k := 0) rfl) rfl ?_
  refine m_oi (d_P_init (k := 1) rfl) mo_P_3 im_obj cd_obj (Nat.le_of_ble_eq_true rfl) ?_
  refine m_aload_n (d_P_init (k := 2) rfl) rfl ?_
  refine m_iconst (v := (-1)) (d_P_init (k := 3) rfl) (by decide) ?_
  refine m_pI (d_P_init (k := 4) rfl) fp_P_9 (fun _ => rfl) rfl (fun M => ?_)
  refine m_aload_n (d_P_init (k := 5) rfl) rfl ?_
  refine m_iconst (v := (-1)) (d_P_init (k := 6) rfl) (by decide) ?_
  refine m_pI (d_P_init (k := 7) rfl) fp_P_15 (fun _ => rfl) rfl (fun M => ?_)
  exact m_vret (d_P_init (k := 8) rfl) rfl
theorem s_P_init {E : mE} (t0 : Option Nat) (M : mM) : mSnd E mi_P_init 1 [.inr t0] M enU (q_P_init t0 M) := m_entryU (by decide) (Nat.le_of_ble_eq_true rfl) rfl (m_drop (mles_s mles_0) (v_P_init t0 M))
def dt_F_init : List (Nat × Instr × Nat) := [(0, .aload_n 0, 1), (1, .invokespecial 3, 3), (4, .aload_n 0, 1), (5, .new 9, 3), (8, .dup, 1), (9, .invokespecial 11, 3), (12, .putfield 12, 3), (15, .return_, 1)]
theorem dx_F_init : ∀ p ∈ dt_F_init, decode prog_3_method_1_code p.1 = .ok p.2 := by decide +kernel
theorem d_F_init {k pc : Nat} {i : Instr} {n : Nat} (h : dt_F_init[k]? = some (pc, i, n)) : decode mi_F_init.2.1 pc = .ok (i, n) := dx_F_init (pc, i, n) (List.mem_of_getElem? h)
def q_F_init (t0 : Option Nat) (M : mM) : Option (Unit × mM) :=
    x_oi t0 <|
    x_nw M 3 fun a1 M =>
    x_ci a1 (q_P_init a1 M) fun _ M =>
    x_pR M 1 t0 11 a1 fun M =>
    some ((), M)
set_option maxRecDepth 20000 in
theorem v_F_init {E : mE} (t0 : Option Nat) (M : mM) : mVr E mi_F_init 2 0 [some (.inr t0)] [] M enU (q_F_init t0 M) := by
  unfold q_F_init
  refine m_aload_n (d_F_init (k := 0) rfl) rfl ?_
  refine m_oi (d_F_init (k := 1) rfl) mo_F_3 im_obj cd_obj (Nat.le_of_ble_eq_true rfl) ?_
  refine m_aload_n (d_F_init (k := 2) rfl) rfl ?_
  refine m_new (d_F_init (k := 3) rfl) mcl_3 cl_F_9 ik_3 ii_3 dz_3 (fun a1 M => ?_)
  refine m_dup (d_F_init (k := 4) rfl) ?_
  refine m_niU (vs := []) (st := [.inr a1, .inr t0]) (d_F_init (k := 5) rfl) (s_P_init a1 M) cd_P_init rfl rfl mn_F_11 im_P_init (by decide) rfl (Nat.le_of_ble_eq_true rfl) (fun _ M => ?_)
  refine m_pR (d_F_init (k := 6) rfl) fp_F_12 (fun _ => rfl) rfl (fun M => ?_)
  exact m_vret (d_F_init (k := 7) rfl) rfl
theorem s_F_init {E : mE} (t0 : Option Nat) (M : mM) : mSnd E mi_F_init 2 [.inr t0] M enU (q_F_init t0 M) := m_entryU (by decide) (Nat.le_of_ble_eq_true rfl) rfl (m_drop (mles_s mles_0) (v_F_init t0 M))
def dt_W_init : List (Nat × Instr × Nat) := [(0, .aload_n 0, 1), (1, .invokespecial 1, 3), (4, .aload_n 0, 1), (5, .iconst 1, 1), (6, .iload_n 1, 1), (7, .invokestatic 7, 3), (10, .anewarray 13, 3), (13, .putfield 15, 3), (16, .iconst 0, 1), (17, .istore_n 3, 1), (18, .iload_n 3, 1), (19, .aload_n 0, 1), (20, .getfield 15, 3), (23, .arraylength, 1), (24, .if_icmp .ge 23, 3), (27, .aload_n 0, 1), (28, .getfield 15, 3), (31, .iload_n 3, 1), (32, .new 13, 3), (35, .dup, 1), (36, .iload_n 2, 1), (37, .invokespecial 21, 3), (40, .aastore, 1), (41, .iinc 3 1, 3), (44, .goto (-26), 3), (47, .return_, 1)]
theorem dx_W_init : ∀ p ∈ dt_W_init, decode prog_8_method_1_code p.1 = .ok p.2 := by decide +kernel
theorem d_W_init {k pc : Nat} {i : Instr} {n : Nat} (h : dt_W_init[k]? = some (pc, i, n)) : decode mi_W_init.2.1 pc = .ok (i, n) := dx_W_init (pc, i, n) (List.mem_of_getElem? h)
def q_W_init_18_b (r18 : Option Nat → Int32 → Int32 → mM → Option (Unit × mM)) (t0 : Option Nat) (i2 : Int32) (i3 : Int32) (M : mM) : Option (Unit × mM) :=
    x_gR M 6 t0 0 fun a1 =>
    x_al M 2 a1 fun x2 =>
    if i3 < x2 then
      x_gR M 6 t0 0 fun a3 =>
      x_nw M 0 fun a4 M =>
      x_ci a4 (q_B_init a4 i2 M) fun _ M =>
      x_wR M 0 0 a3 i3 a4 fun M =>
      r18 t0 i2 (i3 + 1) M
    else
      some ((), M)
def q_W_init_18 : Nat → Option Nat → Int32 → Int32 → mM → Option (Unit × mM)
  | 0, _, _, _, _ => none
  | n + 1, t0, i2, i3, M => q_W_init_18_b (q_W_init_18 n) t0 i2 i3 M
set_option maxRecDepth 20000 in
theorem v_W_init_18_b {E : mE} (r18 : Option Nat → Int32 → Int32 → mM → Option (Unit × mM)) (h18 : ∀ (t0 : Option Nat) (i2 : Int32) (i3 : Int32) (M : mM), mVr E mi_W_init 2 18 [some (.inr t0), none, some (.inl i2), some (.inl i3)] [] M enU (r18 t0 i2 i3 M)) (t0 : Option Nat) (i2 : Int32) (i3 : Int32) (M : mM) : mVr E mi_W_init 2 18 [some (.inr t0), none, some (.inl i2), some (.inl i3)] [] M enU (q_W_init_18_b r18 t0 i2 i3 M) := by
  unfold q_W_init_18_b
  refine m_iload_n (d_W_init (k := 10) rfl) rfl ?_
  refine m_aload_n (d_W_init (k := 11) rfl) rfl ?_
  refine m_getR (d_W_init (k := 12) rfl) fl_W_15 rfl (fun a1 => ?_)
  refine m_alen (t := 2) (d_W_init (k := 13) rfl) rfl (fun x2 => ?_)
  refine m_icmp_ge (tgt := 47) (d_W_init (k := 14) rfl) rfl ?_ ?_
  · refine m_aload_n (d_W_init (k := 15) rfl) rfl ?_
    refine m_getR (d_W_init (k := 16) rfl) fl_W_15 rfl (fun a3 => ?_)
    refine m_iload_n (d_W_init (k := 17) rfl) rfl ?_
    refine m_new (d_W_init (k := 18) rfl) mcl_0 cl_W_13 ik_0 ii_0 dz_0 (fun a4 M => ?_)
    refine m_dup (d_W_init (k := 19) rfl) ?_
    refine m_iload_n (d_W_init (k := 20) rfl) rfl ?_
    refine m_ciU (vs := [.inl i2]) (st := [.inr a4, .inl i3, .inr a3]) (d_W_init (k := 21) rfl) (s_B_init a4 i2 M) cd_B_init rfl rfl ml_W_21 im_B_init (by decide) rfl (Nat.le_of_ble_eq_true rfl) (fun _ M => ?_)
    refine m_aast (t := 0) (c := 0) (d_W_init (k := 22) rfl) rfl rfl (fun M => ?_)
    refine m_inc (v := 1) (ls' := [some (.inr t0), none, some (.inl i2), some (.inl (i3 + 1))]) (d_W_init (k := 23) rfl) rfl (by decide) (by decide) rfl ?_
    refine m_goto (tgt := 18) (d_W_init (k := 24) rfl) rfl ?_
    exact m_drop (mles_s (mles_n (mles_s (mles_s mles_0)))) (h18 t0 i2 (i3 + 1) M)
  · exact m_vret (d_W_init (k := 25) rfl) rfl
theorem v_W_init_18 {E : mE} : ∀ (n : Nat) (t0 : Option Nat) (i2 : Int32) (i3 : Int32) (M : mM), mVr E mi_W_init 2 18 [some (.inr t0), none, some (.inl i2), some (.inl i3)] [] M enU (q_W_init_18 n t0 i2 i3 M)
  | 0, _, _, _, _ => m_none
  | n + 1, t0, i2, i3, M => v_W_init_18_b _ (v_W_init_18 n) t0 i2 i3 M
def q_W_init (t0 : Option Nat) (i1 : Int32) (i2 : Int32) (M : mM) : Option (Unit × mM) :=
    x_oi t0 <|
    x_na M 2 (if (1 : Int32) < i1 then i1 else (1 : Int32)) fun a1 M =>
    x_pR M 6 t0 0 a1 fun M =>
    q_W_init_18 mFU t0 i2 (0 : Int32) M
set_option maxRecDepth 20000 in
theorem v_W_init {E : mE} (t0 : Option Nat) (i1 : Int32) (i2 : Int32) (M : mM) : mVr E mi_W_init 2 0 [some (.inr t0), some (.inl i1), some (.inl i2), none] [] M enU (q_W_init t0 i1 i2 M) := by
  unfold q_W_init
  refine m_aload_n (d_W_init (k := 0) rfl) rfl ?_
  refine m_oi (d_W_init (k := 1) rfl) mo_W_1 im_obj cd_obj (Nat.le_of_ble_eq_true rfl) ?_
  refine m_aload_n (d_W_init (k := 2) rfl) rfl ?_
  refine m_iconst (v := 1) (d_W_init (k := 3) rfl) (by decide) ?_
  refine m_iload_n (d_W_init (k := 4) rfl) rfl ?_
  refine m_max (d_W_init (k := 5) rfl) mm_W_7 ms_max mi_math mc_max (Nat.le_of_ble_eq_true rfl) ?_
  refine m_anew (t := 0) (d_W_init (k := 6) rfl) rfl cl_W_13 ao_0 (fun a1 M => ?_)
  refine m_pR (d_W_init (k := 7) rfl) fp_W_15 (fun _ => rfl) rfl (fun M => ?_)
  refine m_iconst (v := 0) (d_W_init (k := 8) rfl) (by decide) ?_
  refine m_ist_n (ls' := [some (.inr t0), some (.inl i1), some (.inl i2), some (.inl (0 : Int32))]) (d_W_init (k := 9) rfl) (by decide) rfl ?_
  exact m_drop (mles_s (mles_n (mles_s (mles_s mles_0)))) (v_W_init_18 mFU t0 i2 (0 : Int32) M)
theorem s_W_init {E : mE} (t0 : Option Nat) (i1 : Int32) (i2 : Int32) (M : mM) : mSnd E mi_W_init 2 [.inr t0, .inl i1, .inl i2] M enU (q_W_init t0 i1 i2 M) := m_entryU (by decide) (Nat.le_of_ble_eq_true rfl) rfl (m_drop (mles_s (mles_s (mles_s (mles_e mles_0)))) (v_W_init t0 i1 i2 M))
def dt_K_init : List (Nat × Instr × Nat) := [(0, .aload_n 0, 1), (1, .invokespecial 3, 3), (4, .aload_n 0, 1), (5, .aload_n 1, 1), (6, .putfield 9, 3), (9, .aload_n 0, 1), (10, .iload_n 2, 1), (11, .putfield 15, 3), (14, .aload_n 0, 1), (15, .new 19, 3), (18, .dup, 1), (19, .invokespecial 21, 3), (22, .putfield 22, 3), (25, .aload_n 0, 1), (26, .getfield 22, 3), (29, .iload_n 2, 1), (30, .putfield 26, 3), (33, .aload_n 0, 1), (34, .new 29, 3), (37, .dup, 1), (38, .sipush 200, 3), (41, .invokespecial 31, 3), (44, .putfield 34, 3), (47, .aload_n 0, 1), (48, .new 29, 3), (51, .dup, 1), (52, .bipush 64, 2), (54, .invokespecial 31, 3), (57, .putfield 38, 3), (60, .aload_n 0, 1), (61, .new 41, 3), (64, .dup, 1), (65, .bipush 6, 2), (67, .bipush 16, 2), (69, .invokespecial 43, 3), (72, .putfield 46, 3), (75, .aload_n 0, 1), (76, .new 41, 3), (79, .dup, 1), (80, .iconst 4, 1), (81, .bipush 17, 2), (83, .invokespecial 43, 3), (86, .putfield 50, 3), (89, .return_, 1)]
theorem dx_K_init : ∀ p ∈ dt_K_init, decode prog_4_method_1_code p.1 = .ok p.2 := by decide +kernel
theorem d_K_init {k pc : Nat} {i : Instr} {n : Nat} (h : dt_K_init[k]? = some (pc, i, n)) : decode mi_K_init.2.1 pc = .ok (i, n) := dx_K_init (pc, i, n) (List.mem_of_getElem? h)
def q_K_init (t0 : Option Nat) (t1 : Option Nat) (i2 : Int32) (M : mM) : Option (Unit × mM) :=
    x_oi t0 <|
    x_pR M 2 t0 0 t1 fun M =>
    x_pI M 2 t0 1 i2 fun M =>
    x_nw M 3 fun a1 M =>
    x_ci a1 (q_P_init a1 M) fun _ M =>
    x_pR M 2 t0 2 a1 fun M =>
    x_gR M 2 t0 2 fun a2 =>
    x_pI M 3 a2 0 i2 fun M =>
    x_nw M 0 fun a3 M =>
    x_ci a3 (q_B_init a3 (200 : Int32) M) fun _ M =>
    x_pR M 2 t0 3 a3 fun M =>
    x_nw M 0 fun a4 M =>
    x_ci a4 (q_B_init a4 (64 : Int32) M) fun _ M =>
    x_pR M 2 t0 4 a4 fun M =>
    x_nw M 6 fun a5 M =>
    x_ci a5 (q_W_init a5 (6 : Int32) (16 : Int32) M) fun _ M =>
    x_pR M 2 t0 5 a5 fun M =>
    x_nw M 6 fun a6 M =>
    x_ci a6 (q_W_init a6 (4 : Int32) (17 : Int32) M) fun _ M =>
    x_pR M 2 t0 6 a6 fun M =>
    some ((), M)
set_option maxRecDepth 20000 in
theorem v_K_init {E : mE} (t0 : Option Nat) (t1 : Option Nat) (i2 : Int32) (M : mM) : mVr E mi_K_init 3 0 [some (.inr t0), some (.inr t1), some (.inl i2)] [] M enU (q_K_init t0 t1 i2 M) := by
  unfold q_K_init
  refine m_aload_n (d_K_init (k := 0) rfl) rfl ?_
  refine m_oi (d_K_init (k := 1) rfl) mo_K_3 im_obj cd_obj (Nat.le_of_ble_eq_true rfl) ?_
  refine m_aload_n (d_K_init (k := 2) rfl) rfl ?_
  refine m_aload_n (d_K_init (k := 3) rfl) rfl ?_
  refine m_pR (d_K_init (k := 4) rfl) fp_K_9 (fun _ => rfl) rfl (fun M => ?_)
  refine m_aload_n (d_K_init (k := 5) rfl) rfl ?_
  refine m_iload_n (d_K_init (k := 6) rfl) rfl ?_
  refine m_pI (d_K_init (k := 7) rfl) fp_K_15 (fun _ => rfl) rfl (fun M => ?_)
  refine m_aload_n (d_K_init (k := 8) rfl) rfl ?_
  refine m_new (d_K_init (k := 9) rfl) mcl_3 cl_K_19 ik_3 ii_3 dz_3 (fun a1 M => ?_)
  refine m_dup (d_K_init (k := 10) rfl) ?_
  refine m_niU (vs := []) (st := [.inr a1, .inr t0]) (d_K_init (k := 11) rfl) (s_P_init a1 M) cd_P_init rfl rfl mn_K_21 im_P_init (by decide) rfl (Nat.le_of_ble_eq_true rfl) (fun _ M => ?_)
  refine m_pR (d_K_init (k := 12) rfl) fp_K_22 (fun _ => rfl) rfl (fun M => ?_)
  refine m_aload_n (d_K_init (k := 13) rfl) rfl ?_
  refine m_getR (d_K_init (k := 14) rfl) fl_K_22 rfl (fun a2 => ?_)
  refine m_iload_n (d_K_init (k := 15) rfl) rfl ?_
  refine m_pI (d_K_init (k := 16) rfl) fp_K_26 (fun _ => rfl) rfl (fun M => ?_)
  refine m_aload_n (d_K_init (k := 17) rfl) rfl ?_
  refine m_new (d_K_init (k := 18) rfl) mcl_0 cl_K_29 ik_0 ii_0 dz_0 (fun a3 M => ?_)
  refine m_dup (d_K_init (k := 19) rfl) ?_
  refine m_sipush (v := 200) (d_K_init (k := 20) rfl) (by decide) ?_
  refine m_ciU (vs := [.inl (200 : Int32)]) (st := [.inr a3, .inr t0]) (d_K_init (k := 21) rfl) (s_B_init a3 (200 : Int32) M) cd_B_init rfl rfl ml_K_31 im_B_init (by decide) rfl (Nat.le_of_ble_eq_true rfl) (fun _ M => ?_)
  refine m_pR (d_K_init (k := 22) rfl) fp_K_34 (fun _ => rfl) rfl (fun M => ?_)
  refine m_aload_n (d_K_init (k := 23) rfl) rfl ?_
  refine m_new (d_K_init (k := 24) rfl) mcl_0 cl_K_29 ik_0 ii_0 dz_0 (fun a4 M => ?_)
  refine m_dup (d_K_init (k := 25) rfl) ?_
  refine m_bipush (v := 64) (d_K_init (k := 26) rfl) (by decide) ?_
  refine m_ciU (vs := [.inl (64 : Int32)]) (st := [.inr a4, .inr t0]) (d_K_init (k := 27) rfl) (s_B_init a4 (64 : Int32) M) cd_B_init rfl rfl ml_K_31 im_B_init (by decide) rfl (Nat.le_of_ble_eq_true rfl) (fun _ M => ?_)
  refine m_pR (d_K_init (k := 28) rfl) fp_K_38 (fun _ => rfl) rfl (fun M => ?_)
  refine m_aload_n (d_K_init (k := 29) rfl) rfl ?_
  refine m_new (d_K_init (k := 30) rfl) mcl_6 cl_K_41 ik_6 ii_6 dz_6 (fun a5 M => ?_)
  refine m_dup (d_K_init (k := 31) rfl) ?_
  refine m_bipush (v := 6) (d_K_init (k := 32) rfl) (by decide) ?_
  refine m_bipush (v := 16) (d_K_init (k := 33) rfl) (by decide) ?_
  refine m_ciU (vs := [.inl (6 : Int32), .inl (16 : Int32)]) (st := [.inr a5, .inr t0]) (d_K_init (k := 34) rfl) (s_W_init a5 (6 : Int32) (16 : Int32) M) cd_W_init rfl rfl ml_K_43 im_W_init (by decide) rfl (Nat.le_of_ble_eq_true rfl) (fun _ M => ?_)
  refine m_pR (d_K_init (k := 35) rfl) fp_K_46 (fun _ => rfl) rfl (fun M => ?_)
  refine m_aload_n (d_K_init (k := 36) rfl) rfl ?_
  refine m_new (d_K_init (k := 37) rfl) mcl_6 cl_K_41 ik_6 ii_6 dz_6 (fun a6 M => ?_)
  refine m_dup (d_K_init (k := 38) rfl) ?_
  refine m_iconst (v := 4) (d_K_init (k := 39) rfl) (by decide) ?_
  refine m_bipush (v := 17) (d_K_init (k := 40) rfl) (by decide) ?_
  refine m_ciU (vs := [.inl (4 : Int32), .inl (17 : Int32)]) (st := [.inr a6, .inr t0]) (d_K_init (k := 41) rfl) (s_W_init a6 (4 : Int32) (17 : Int32) M) cd_W_init rfl rfl ml_K_43 im_W_init (by decide) rfl (Nat.le_of_ble_eq_true rfl) (fun _ M => ?_)
  refine m_pR (d_K_init (k := 42) rfl) fp_K_50 (fun _ => rfl) rfl (fun M => ?_)
  exact m_vret (d_K_init (k := 43) rfl) rfl
theorem s_K_init {E : mE} (t0 : Option Nat) (t1 : Option Nat) (i2 : Int32) (M : mM) : mSnd E mi_K_init 3 [.inr t0, .inr t1, .inl i2] M enU (q_K_init t0 t1 i2 M) := m_entryU (by decide) (Nat.le_of_ble_eq_true rfl) rfl (m_drop (mles_s (mles_s (mles_s mles_0))) (v_K_init t0 t1 i2 M))
def dt_S_init : List (Nat × Instr × Nat) := [(0, .aload_n 0, 1), (1, .invokespecial 3, 3), (4, .aload_n 0, 1), (5, .new 9, 3), (8, .dup, 1), (9, .bipush 92, 2), (11, .invokespecial 11, 3), (14, .putfield 14, 3), (17, .return_, 1)]
theorem dx_S_init : ∀ p ∈ dt_S_init, decode prog_9_method_1_code p.1 = .ok p.2 := by decide +kernel
theorem d_S_init {k pc : Nat} {i : Instr} {n : Nat} (h : dt_S_init[k]? = some (pc, i, n)) : decode mi_S_init.2.1 pc = .ok (i, n) := dx_S_init (pc, i, n) (List.mem_of_getElem? h)
def q_S_init (t0 : Option Nat) (M : mM) : Option (Unit × mM) :=
    x_oi t0 <|
    x_nw M 0 fun a1 M =>
    x_ci a1 (q_B_init a1 (92 : Int32) M) fun _ M =>
    x_pR M 7 t0 0 a1 fun M =>
    some ((), M)
set_option maxRecDepth 20000 in
theorem v_S_init {E : mE} (t0 : Option Nat) (M : mM) : mVr E mi_S_init 2 0 [some (.inr t0)] [] M enU (q_S_init t0 M) := by
  unfold q_S_init
  refine m_aload_n (d_S_init (k := 0) rfl) rfl ?_
  refine m_oi (d_S_init (k := 1) rfl) mo_S_3 im_obj cd_obj (Nat.le_of_ble_eq_true rfl) ?_
  refine m_aload_n (d_S_init (k := 2) rfl) rfl ?_
  refine m_new (d_S_init (k := 3) rfl) mcl_0 cl_S_9 ik_0 ii_0 dz_0 (fun a1 M => ?_)
  refine m_dup (d_S_init (k := 4) rfl) ?_
  refine m_bipush (v := 92) (d_S_init (k := 5) rfl) (by decide) ?_
  refine m_ciU (vs := [.inl (92 : Int32)]) (st := [.inr a1, .inr t0]) (d_S_init (k := 6) rfl) (s_B_init a1 (92 : Int32) M) cd_B_init rfl rfl ml_S_11 im_B_init (by decide) rfl (Nat.le_of_ble_eq_true rfl) (fun _ M => ?_)
  refine m_pR (d_S_init (k := 7) rfl) fp_S_14 (fun _ => rfl) rfl (fun M => ?_)
  exact m_vret (d_S_init (k := 8) rfl) rfl
theorem s_S_init {E : mE} (t0 : Option Nat) (M : mM) : mSnd E mi_S_init 2 [.inr t0] M enU (q_S_init t0 M) := m_entryU (by decide) (Nat.le_of_ble_eq_true rfl) rfl (m_drop (mles_s mles_0) (v_S_init t0 M))
def dt_T_init : List (Nat × Instr × Nat) := [(0, .aload_n 0, 1), (1, .invokespecial 3, 3), (4, .aload_n 0, 1), (5, .iload_n 1, 1), (6, .putfield 9, 3), (9, .aload_n 0, 1), (10, .bipush 36, 2), (12, .newarray .int, 2), (14, .putfield 15, 3), (17, .aload_n 0, 1), (18, .bipush 36, 2), (20, .newarray .int, 2), (22, .putfield 19, 3), (25, .return_, 1)]
theorem dx_T_init : ∀ p ∈ dt_T_init, decode prog_7_method_1_code p.1 = .ok p.2 := by decide +kernel
theorem d_T_init {k pc : Nat} {i : Instr} {n : Nat} (h : dt_T_init[k]? = some (pc, i, n)) : decode mi_T_init.2.1 pc = .ok (i, n) := dx_T_init (pc, i, n) (List.mem_of_getElem? h)
def q_T_init (t0 : Option Nat) (i1 : Int32) (M : mM) : Option (Unit × mM) :=
    x_oi t0 <|
    x_pI M 5 t0 0 i1 fun M =>
    x_na M 0 (36 : Int32) fun a1 M =>
    x_pR M 5 t0 1 a1 fun M =>
    x_na M 0 (36 : Int32) fun a2 M =>
    x_pR M 5 t0 2 a2 fun M =>
    some ((), M)
set_option maxRecDepth 20000 in
theorem v_T_init {E : mE} (t0 : Option Nat) (i1 : Int32) (M : mM) : mVr E mi_T_init 1 0 [some (.inr t0), some (.inl i1)] [] M enU (q_T_init t0 i1 M) := by
  unfold q_T_init
  refine m_aload_n (d_T_init (k := 0) rfl) rfl ?_
  refine m_oi (d_T_init (k := 1) rfl) mo_T_3 im_obj cd_obj (Nat.le_of_ble_eq_true rfl) ?_
  refine m_aload_n (d_T_init (k := 2) rfl) rfl ?_
  refine m_iload_n (d_T_init (k := 3) rfl) rfl ?_
  refine m_pI (d_T_init (k := 4) rfl) fp_T_9 (fun _ => rfl) rfl (fun M => ?_)
  refine m_aload_n (d_T_init (k := 5) rfl) rfl ?_
  refine m_bipush (v := 36) (d_T_init (k := 6) rfl) (by decide) ?_
  refine m_newarr (t := 0) (ty := .int) (d_T_init (k := 7) rfl) rfl rfl (by decide) (by decide) rfl ac_0 (fun _ _ h => h) (fun a1 M => ?_)
  refine m_pR (d_T_init (k := 8) rfl) fp_T_15 (fun _ => rfl) rfl (fun M => ?_)
  refine m_aload_n (d_T_init (k := 9) rfl) rfl ?_
  refine m_bipush (v := 36) (d_T_init (k := 10) rfl) (by decide) ?_
  refine m_newarr (t := 0) (ty := .int) (d_T_init (k := 11) rfl) rfl rfl (by decide) (by decide) rfl ac_0 (fun _ _ h => h) (fun a2 M => ?_)
  refine m_pR (d_T_init (k := 12) rfl) fp_T_19 (fun _ => rfl) rfl (fun M => ?_)
  exact m_vret (d_T_init (k := 13) rfl) rfl
theorem s_T_init {E : mE} (t0 : Option Nat) (i1 : Int32) (M : mM) : mSnd E mi_T_init 1 [.inr t0, .inl i1] M enU (q_T_init t0 i1 M) := m_entryU (by decide) (Nat.le_of_ble_eq_true rfl) rfl (m_drop (mles_s (mles_s mles_0)) (v_T_init t0 i1 M))
def dt_V_init : List (Nat × Instr × Nat) := [(0, .aload_n 0, 1), (1, .invokespecial 3, 3), (4, .aload_n 0, 1), (5, .new 9, 3), (8, .dup, 1), (9, .bipush 93, 2), (11, .invokespecial 13, 3), (14, .putfield 16, 3), (17, .aload_n 0, 1), (18, .new 9, 3), (21, .dup, 1), (22, .bipush 90, 2), (24, .invokespecial 13, 3), (27, .putfield 20, 3), (30, .return_, 1)]
theorem dx_V_init : ∀ p ∈ dt_V_init, decode prog_6_method_1_code p.1 = .ok p.2 := by decide +kernel
theorem d_V_init {k pc : Nat} {i : Instr} {n : Nat} (h : dt_V_init[k]? = some (pc, i, n)) : decode mi_V_init.2.1 pc = .ok (i, n) := dx_V_init (pc, i, n) (List.mem_of_getElem? h)
def q_V_init (t0 : Option Nat) (M : mM) : Option (Unit × mM) :=
    x_oi t0 <|
    x_nw M 0 fun a1 M =>
    x_ci a1 (q_B_init a1 (93 : Int32) M) fun _ M =>
    x_pR M 4 t0 0 a1 fun M =>
    x_nw M 0 fun a2 M =>
    x_ci a2 (q_B_init a2 (90 : Int32) M) fun _ M =>
    x_pR M 4 t0 5 a2 fun M =>
    some ((), M)
set_option maxRecDepth 20000 in
theorem v_V_init {E : mE} (t0 : Option Nat) (M : mM) : mVr E mi_V_init 2 0 [some (.inr t0)] [] M enU (q_V_init t0 M) := by
  unfold q_V_init
  refine m_aload_n (d_V_init (k := 0) rfl) rfl ?_
  refine m_oi (d_V_init (k := 1) rfl) mo_V_3 im_obj cd_obj (Nat.le_of_ble_eq_true rfl) ?_
  refine m_aload_n (d_V_init (k := 2) rfl) rfl ?_
  refine m_new (d_V_init (k := 3) rfl) mcl_0 cl_V_9 ik_0 ii_0 dz_0 (fun a1 M => ?_)
  refine m_dup (d_V_init (k := 4) rfl) ?_
  refine m_bipush (v := 93) (d_V_init (k := 5) rfl) (by decide) ?_
  refine m_ciU (vs := [.inl (93 : Int32)]) (st := [.inr a1, .inr t0]) (d_V_init (k := 6) rfl) (s_B_init a1 (93 : Int32) M) cd_B_init rfl rfl ml_V_13 im_B_init (by decide) rfl (Nat.le_of_ble_eq_true rfl) (fun _ M => ?_)
  refine m_pR (d_V_init (k := 7) rfl) fp_V_16 (fun _ => rfl) rfl (fun M => ?_)
  refine m_aload_n (d_V_init (k := 8) rfl) rfl ?_
  refine m_new (d_V_init (k := 9) rfl) mcl_0 cl_V_9 ik_0 ii_0 dz_0 (fun a2 M => ?_)
  refine m_dup (d_V_init (k := 10) rfl) ?_
  refine m_bipush (v := 90) (d_V_init (k := 11) rfl) (by decide) ?_
  refine m_ciU (vs := [.inl (90 : Int32)]) (st := [.inr a2, .inr t0]) (d_V_init (k := 12) rfl) (s_B_init a2 (90 : Int32) M) cd_B_init rfl rfl ml_V_13 im_B_init (by decide) rfl (Nat.le_of_ble_eq_true rfl) (fun _ M => ?_)
  refine m_pR (d_V_init (k := 13) rfl) fp_V_20 (fun _ => rfl) rfl (fun M => ?_)
  exact m_vret (d_V_init (k := 14) rfl) rfl
theorem s_V_init {E : mE} (t0 : Option Nat) (M : mM) : mSnd E mi_V_init 2 [.inr t0] M enU (q_V_init t0 M) := m_entryU (by decide) (Nat.le_of_ble_eq_true rfl) rfl (m_drop (mles_s mles_0) (v_V_init t0 M))
def dt_N_init : List (Nat × Instr × Nat) := [(0, .aload_n 0, 1), (1, .invokespecial 3, 3), (4, .aload_n 0, 1), (5, .iload_n 1, 1), (6, .putfield 9, 3), (9, .aload_n 0, 1), (10, .getstatic 15, 3), (13, .arraylength, 1), (14, .newarray .int, 2), (16, .putfield 19, 3), (19, .aload_n 0, 1), (20, .getfield 19, 3), (23, .iconst 0, 1), (24, .bipush 80, 2), (26, .iastore, 1), (27, .aload_n 0, 1), (28, .getfield 19, 3), (31, .iconst 1, 1), (32, .bipush 20, 2), (34, .iastore, 1), (35, .aload_n 0, 1), (36, .getfield 19, 3), (39, .iconst 2, 1), (40, .iconst 2, 1), (41, .iastore, 1), (42, .aload_n 0, 1), (43, .getfield 19, 3), (46, .iconst 3, 1), (47, .iload_n 1, 1), (48, .iconst 1, 1), (49, .iadd, 1), (50, .iastore, 1), (51, .aload_n 0, 1), (52, .getfield 19, 3), (55, .iconst 4, 1), (56, .sipush 1500, 3), (59, .iastore, 1), (60, .aload_n 0, 1), (61, .getfield 19, 3), (64, .iconst 5, 1), (65, .sipush 192, 3), (68, .iastore, 1), (69, .aload_n 0, 1), (70, .new 22, 3), (73, .dup, 1), (74, .invokespecial 24, 3), (77, .putfield 25, 3), (80, .aload_n 0, 1), (81, .new 29, 3), (84, .dup, 1), (85, .invokespecial 31, 3), (88, .putfield 32, 3), (91, .aload_n 0, 1), (92, .new 36, 3), (95, .dup, 1), (96, .bipush 12, 2), (98, .bipush 90, 2), (100, .invokespecial 38, 3), (103, .putfield 41, 3), (106, .aload_n 0, 1), (107, .new 36, 3), (110, .dup, 1), (111, .bipush 8, 2), (113, .bipush 16, 2), (115, .invokespecial 38, 3), (118, .putfield 45, 3), (121, .aload_n 0, 1), (122, .bipush 6, 2), (124, .anewarray 48, 3), (127, .putfield 50, 3), (130, .aload_n 0, 1), (131, .new 54, 3), (134, .dup, 1), (135, .iload_n 1, 1), (136, .invokespecial 56, 3), (139, .putfield 59, 3), (142, .aload_n 0, 1), (143, .bipush 63, 2), (145, .iconst 1, 1), (146, .iload_n 1, 1), (147, .ishl, 1), (148, .iconst (-1), 1), (149, .ixor, 1), (150, .iand, 1), (151, .putfield 63, 3), (154, .return_, 1)]
theorem dx_N_init : ∀ p ∈ dt_N_init, decode prog_10_method_1_code p.1 = .ok p.2 := by decide +kernel
theorem d_N_init {k pc : Nat} {i : Instr} {n : Nat} (h : dt_N_init[k]? = some (pc, i, n)) : decode mi_N_init.2.1 pc = .ok (i, n) := dx_N_init (pc, i, n) (List.mem_of_getElem? h)
def q_N_init (t0 : Option Nat) (i1 : Int32) (M : mM) : Option (Unit × mM) :=
    x_oi t0 <|
    x_pI M 8 t0 0 i1 fun M =>
    x_sl (some 1) fun x1 =>
    x_na M 0 x1 fun a2 M =>
    x_pR M 8 t0 1 a2 fun M =>
    x_gR M 8 t0 1 fun a3 =>
    x_wI M a3 (0 : Int32) (80 : Int32) fun M =>
    x_gR M 8 t0 1 fun a4 =>
    x_wI M a4 (1 : Int32) (20 : Int32) fun M =>
    x_gR M 8 t0 1 fun a5 =>
    x_wI M a5 (2 : Int32) (2 : Int32) fun M =>
    x_gR M 8 t0 1 fun a6 =>
    x_wI M a6 (3 : Int32) (i1 + (1 : Int32)) fun M =>
    x_gR M 8 t0 1 fun a7 =>
    x_wI M a7 (4 : Int32) (1500 : Int32) fun M =>
    x_gR M 8 t0 1 fun a8 =>
    x_wI M a8 (5 : Int32) (192 : Int32) fun M =>
    x_nw M 7 fun a9 M =>
    x_ci a9 (q_S_init a9 M) fun _ M =>
    x_pR M 8 t0 2 a9 fun M =>
    x_nw M 4 fun a10 M =>
    x_ci a10 (q_V_init a10 M) fun _ M =>
    x_pR M 8 t0 3 a10 fun M =>
    x_nw M 6 fun a11 M =>
    x_ci a11 (q_W_init a11 (12 : Int32) (90 : Int32) M) fun _ M =>
    x_pR M 8 t0 4 a11 fun M =>
    x_nw M 6 fun a12 M =>
    x_ci a12 (q_W_init a12 (8 : Int32) (16 : Int32) M) fun _ M =>
    x_pR M 8 t0 5 a12 fun M =>
    x_na M 3 (6 : Int32) fun a13 M =>
    x_pR M 8 t0 6 a13 fun M =>
    x_nw M 5 fun a14 M =>
    x_ci a14 (q_T_init a14 i1 M) fun _ M =>
    x_pR M 8 t0 7 a14 fun M =>
    x_pI M 8 t0 8 ((63 : Int32) &&& (((1 : Int32) <<< (i1 &&& 31)) ^^^ (-1 : Int32))) fun M =>
    some ((), M)
set_option maxRecDepth 20000 in
theorem v_N_init {E : mE} (t0 : Option Nat) (i1 : Int32) (M : mM) : mVr E mi_N_init 3 0 [some (.inr t0), some (.inl i1)] [] M enU (q_N_init t0 i1 M) := by
  unfold q_N_init
  refine m_aload_n (d_N_init (k := 0) rfl) rfl ?_
  refine m_oi (d_N_init (k := 1) rfl) mo_N_3 im_obj cd_obj (Nat.le_of_ble_eq_true rfl) ?_
  refine m_aload_n (d_N_init (k := 2) rfl) rfl ?_
  refine m_iload_n (d_N_init (k := 3) rfl) rfl ?_
  refine m_pI (d_N_init (k := 4) rfl) fp_N_9 (fun _ => rfl) rfl (fun M => ?_)
  refine m_aload_n (d_N_init (k := 5) rfl) rfl ?_
  refine m_getsN (q := 1) (List.mem_of_getElem? (i := 0) rfl) (by decide) (d_N_init (k := 6) rfl) gn_N_15 ?_
  refine m_slen (d_N_init (k := 7) rfl) (fun x1 => ?_)
  refine m_newarr (t := 0) (ty := .int) (d_N_init (k := 8) rfl) rfl rfl (by decide) (by decide) rfl ac_0 (fun _ _ h => h) (fun a2 M => ?_)
  refine m_pR (d_N_init (k := 9) rfl) fp_N_19 (fun _ => rfl) rfl (fun M => ?_)
  refine m_aload_n (d_N_init (k := 10) rfl) rfl ?_
  refine m_getR (d_N_init (k := 11) rfl) fl_N_19 rfl (fun a3 => ?_)
  refine m_iconst (v := 0) (d_N_init (k := 12) rfl) (by decide) ?_
  refine m_bipush (v := 80) (d_N_init (k := 13) rfl) (by decide) ?_
  refine m_iast (d_N_init (k := 14) rfl) (fun M => ?_)
  refine m_aload_n (d_N_init (k := 15) rfl) rfl ?_
  refine m_getR (d_N_init (k := 16) rfl) fl_N_19 rfl (fun a4 => ?_)
  refine m_iconst (v := 1) (d_N_init (k := 17) rfl) (by decide) ?_
  refine m_bipush (v := 20) (d_N_init (k := 18) rfl) (by decide) ?_
  refine m_iast (d_N_init (k := 19) rfl) (fun M => ?_)
  refine m_aload_n (d_N_init (k := 20) rfl) rfl ?_
  refine m_getR (d_N_init (k := 21) rfl) fl_N_19 rfl (fun a5 => ?_)
  refine m_iconst (v := 2) (d_N_init (k := 22) rfl) (by decide) ?_
  refine m_iconst (v := 2) (d_N_init (k := 23) rfl) (by decide) ?_
  refine m_iast (d_N_init (k := 24) rfl) (fun M => ?_)
  refine m_aload_n (d_N_init (k := 25) rfl) rfl ?_
  refine m_getR (d_N_init (k := 26) rfl) fl_N_19 rfl (fun a6 => ?_)
  refine m_iconst (v := 3) (d_N_init (k := 27) rfl) (by decide) ?_
  refine m_iload_n (d_N_init (k := 28) rfl) rfl ?_
  refine m_iconst (v := 1) (d_N_init (k := 29) rfl) (by decide) ?_
  refine m_iadd (d_N_init (k := 30) rfl) ?_
  refine m_iast (d_N_init (k := 31) rfl) (fun M => ?_)
  refine m_aload_n (d_N_init (k := 32) rfl) rfl ?_
  refine m_getR (d_N_init (k := 33) rfl) fl_N_19 rfl (fun a7 => ?_)
  refine m_iconst (v := 4) (d_N_init (k := 34) rfl) (by decide) ?_
  refine m_sipush (v := 1500) (d_N_init (k := 35) rfl) (by decide) ?_
  refine m_iast (d_N_init (k := 36) rfl) (fun M => ?_)
  refine m_aload_n (d_N_init (k := 37) rfl) rfl ?_
  refine m_getR (d_N_init (k := 38) rfl) fl_N_19 rfl (fun a8 => ?_)
  refine m_iconst (v := 5) (d_N_init (k := 39) rfl) (by decide) ?_
  refine m_sipush (v := 192) (d_N_init (k := 40) rfl) (by decide) ?_
  refine m_iast (d_N_init (k := 41) rfl) (fun M => ?_)
  refine m_aload_n (d_N_init (k := 42) rfl) rfl ?_
  refine m_new (d_N_init (k := 43) rfl) mcl_7 cl_N_22 ik_7 ii_7 dz_7 (fun a9 M => ?_)
  refine m_dup (d_N_init (k := 44) rfl) ?_
  refine m_ciU (vs := []) (st := [.inr a9, .inr t0]) (d_N_init (k := 45) rfl) (s_S_init a9 M) cd_S_init rfl rfl ml_N_24 im_S_init (by decide) rfl (Nat.le_of_ble_eq_true rfl) (fun _ M => ?_)
  refine m_pR (d_N_init (k := 46) rfl) fp_N_25 (fun _ => rfl) rfl (fun M => ?_)
  refine m_aload_n (d_N_init (k := 47) rfl) rfl ?_
  refine m_new (d_N_init (k := 48) rfl) mcl_4 cl_N_29 ik_4 ii_4 dz_4 (fun a10 M => ?_)
  refine m_dup (d_N_init (k := 49) rfl) ?_
  refine m_ciU (vs := []) (st := [.inr a10, .inr t0]) (d_N_init (k := 50) rfl) (s_V_init a10 M) cd_V_init rfl rfl ml_N_31 im_V_init (by decide) rfl (Nat.le_of_ble_eq_true rfl) (fun _ M => ?_)
  refine m_pR (d_N_init (k := 51) rfl) fp_N_32 (fun _ => rfl) rfl (fun M => ?_)
  refine m_aload_n (d_N_init (k := 52) rfl) rfl ?_
  refine m_new (d_N_init (k := 53) rfl) mcl_6 cl_N_36 ik_6 ii_6 dz_6 (fun a11 M => ?_)
  refine m_dup (d_N_init (k := 54) rfl) ?_
  refine m_bipush (v := 12) (d_N_init (k := 55) rfl) (by decide) ?_
  refine m_bipush (v := 90) (d_N_init (k := 56) rfl) (by decide) ?_
  refine m_ciU (vs := [.inl (12 : Int32), .inl (90 : Int32)]) (st := [.inr a11, .inr t0]) (d_N_init (k := 57) rfl) (s_W_init a11 (12 : Int32) (90 : Int32) M) cd_W_init rfl rfl ml_N_38 im_W_init (by decide) rfl (Nat.le_of_ble_eq_true rfl) (fun _ M => ?_)
  refine m_pR (d_N_init (k := 58) rfl) fp_N_41 (fun _ => rfl) rfl (fun M => ?_)
  refine m_aload_n (d_N_init (k := 59) rfl) rfl ?_
  refine m_new (d_N_init (k := 60) rfl) mcl_6 cl_N_36 ik_6 ii_6 dz_6 (fun a12 M => ?_)
  refine m_dup (d_N_init (k := 61) rfl) ?_
  refine m_bipush (v := 8) (d_N_init (k := 62) rfl) (by decide) ?_
  refine m_bipush (v := 16) (d_N_init (k := 63) rfl) (by decide) ?_
  refine m_ciU (vs := [.inl (8 : Int32), .inl (16 : Int32)]) (st := [.inr a12, .inr t0]) (d_N_init (k := 64) rfl) (s_W_init a12 (8 : Int32) (16 : Int32) M) cd_W_init rfl rfl ml_N_38 im_W_init (by decide) rfl (Nat.le_of_ble_eq_true rfl) (fun _ M => ?_)
  refine m_pR (d_N_init (k := 65) rfl) fp_N_45 (fun _ => rfl) rfl (fun M => ?_)
  refine m_aload_n (d_N_init (k := 66) rfl) rfl ?_
  refine m_bipush (v := 6) (d_N_init (k := 67) rfl) (by decide) ?_
  refine m_anew (t := 1) (d_N_init (k := 68) rfl) rfl cl_N_48 ao_1 (fun a13 M => ?_)
  refine m_pR (d_N_init (k := 69) rfl) fp_N_50 (fun _ => rfl) rfl (fun M => ?_)
  refine m_aload_n (d_N_init (k := 70) rfl) rfl ?_
  refine m_new (d_N_init (k := 71) rfl) mcl_5 cl_N_54 ik_5 ii_5 dz_5 (fun a14 M => ?_)
  refine m_dup (d_N_init (k := 72) rfl) ?_
  refine m_iload_n (d_N_init (k := 73) rfl) rfl ?_
  refine m_ciU (vs := [.inl i1]) (st := [.inr a14, .inr t0]) (d_N_init (k := 74) rfl) (s_T_init a14 i1 M) cd_T_init rfl rfl ml_N_56 im_T_init (by decide) rfl (Nat.le_of_ble_eq_true rfl) (fun _ M => ?_)
  refine m_pR (d_N_init (k := 75) rfl) fp_N_59 (fun _ => rfl) rfl (fun M => ?_)
  refine m_aload_n (d_N_init (k := 76) rfl) rfl ?_
  refine m_bipush (v := 63) (d_N_init (k := 77) rfl) (by decide) ?_
  refine m_iconst (v := 1) (d_N_init (k := 78) rfl) (by decide) ?_
  refine m_iload_n (d_N_init (k := 79) rfl) rfl ?_
  refine m_ishl (d_N_init (k := 80) rfl) ?_
  refine m_iconst (v := (-1)) (d_N_init (k := 81) rfl) (by decide) ?_
  refine m_ixor (d_N_init (k := 82) rfl) ?_
  refine m_iand (d_N_init (k := 83) rfl) ?_
  refine m_pI (d_N_init (k := 84) rfl) fp_N_63 (fun _ => rfl) rfl (fun M => ?_)
  exact m_vret (d_N_init (k := 85) rfl) rfl
theorem s_N_init {E : mE} (t0 : Option Nat) (i1 : Int32) (M : mM) : mSnd E mi_N_init 3 [.inr t0, .inl i1] M enU (q_N_init t0 i1 M) := m_entryU (by decide) (Nat.le_of_ble_eq_true rfl) rfl (m_drop (mles_s (mles_s mles_0)) (v_N_init t0 i1 M))
def dt_C_init : List (Nat × Instr × Nat) := [(0, .aload_n 0, 1), (1, .invokespecial 1, 3), (4, .aload_n 0, 1), (5, .bipush 6, 2), (7, .anewarray 9, 3), (10, .putfield 11, 3), (13, .iconst 0, 1), (14, .istore_n 1, 1), (15, .iload_n 1, 1), (16, .bipush 6, 2), (18, .if_icmp .ge 59, 3), (21, .new 9, 3), (24, .dup, 1), (25, .iload_n 1, 1), (26, .invokespecial 15, 3), (29, .astore_n 2, 1), (30, .iconst 0, 1), (31, .istore_n 3, 1), (32, .iload_n 3, 1), (33, .bipush 6, 2), (35, .if_icmp .ge 29, 3), (38, .iload_n 3, 1), (39, .iload_n 1, 1), (40, .if_icmp .eq 18, 3), (43, .aload_n 2, 1), (44, .getfield 18, 3), (47, .iload_n 3, 1), (48, .new 22, 3), (51, .dup, 1), (52, .aload_n 2, 1), (53, .iload_n 3, 1), (54, .invokespecial 24, 3), (57, .aastore, 1), (58, .iinc 3 1, 3), (61, .goto (-29), 3), (64, .aload_n 0, 1), (65, .getfield 11, 3), (68, .iload_n 1, 1), (69, .aload_n 2, 1), (70, .aastore, 1), (71, .iinc 1 1, 3), (74, .goto (-59), 3), (77, .aload_n 0, 1), (78, .new 27, 3), (81, .dup, 1), (82, .sipush 260, 3), (85, .invokespecial 29, 3), (88, .putfield 30, 3), (91, .aload_n 0, 1), (92, .new 27, 3), (95, .dup, 1), (96, .sipush 907, 3), (99, .invokespecial 29, 3), (102, .putfield 34, 3), (105, .aload_n 0, 1), (106, .new 37, 3), (109, .dup, 1), (110, .invokespecial 39, 3), (113, .putfield 40, 3), (116, .aload_n 0, 1), (117, .new 44, 3), (120, .dup, 1), (121, .invokespecial 46, 3), (124, .putfield 47, 3), (127, .aload_n 0, 1), (128, .new 27, 3), (131, .dup, 1), (132, .bipush 16, 2), (134, .invokespecial 29, 3), (137, .putfield 51, 3), (140, .aload_n 0, 1), (141, .new 54, 3), (144, .dup, 1), (145, .invokespecial 56, 3), (148, .putfield 57, 3), (151, .return_, 1)]
theorem dx_C_init : ∀ p ∈ dt_C_init, decode prog_1_method_1_code p.1 = .ok p.2 := by decide +kernel
theorem d_C_init {k pc : Nat} {i : Instr} {n : Nat} (h : dt_C_init[k]? = some (pc, i, n)) : decode mi_C_init.2.1 pc = .ok (i, n) := dx_C_init (pc, i, n) (List.mem_of_getElem? h)
def q_C_init_58 (r15 : Option Nat → Int32 → mM → Option (Unit × mM)) (r32 : Option Nat → Int32 → Option Nat → Int32 → mM → Option (Unit × mM)) (t0 : Option Nat) (i1 : Int32) (t2 : Option Nat) (i3 : Int32) (M : mM) : Option (Unit × mM) :=
    r32 t0 i1 t2 (i3 + 1) M
set_option maxRecDepth 20000 in
theorem v_C_init_58 {E : mE} (r15 : Option Nat → Int32 → mM → Option (Unit × mM)) (h15 : ∀ (t0 : Option Nat) (i1 : Int32) (M : mM), mVr E mi_C_init 4 15 [some (.inr t0), some (.inl i1), none, none] [] M enU (r15 t0 i1 M)) (r32 : Option Nat → Int32 → Option Nat → Int32 → mM → Option (Unit × mM)) (h32 : ∀ (t0 : Option Nat) (i1 : Int32) (t2 : Option Nat) (i3 : Int32) (M : mM), mVr E mi_C_init 4 32 [some (.inr t0), some (.inl i1), some (.inr t2), some (.inl i3)] [] M enU (r32 t0 i1 t2 i3 M)) (t0 : Option Nat) (i1 : Int32) (t2 : Option Nat) (i3 : Int32) (M : mM) : mVr E mi_C_init 4 58 [some (.inr t0), some (.inl i1), some (.inr t2), some (.inl i3)] [] M enU (q_C_init_58 r15 r32 t0 i1 t2 i3 M) := by
  unfold q_C_init_58
  refine m_inc (v := 1) (ls' := [some (.inr t0), some (.inl i1), some (.inr t2), some (.inl (i3 + 1))]) (d_C_init (k := 33) rfl) rfl (by decide) (by decide) rfl ?_
  refine m_goto (tgt := 32) (d_C_init (k := 34) rfl) rfl ?_
  exact m_drop (mles_s (mles_s (mles_s (mles_s mles_0)))) (h32 t0 i1 t2 (i3 + 1) M)
def q_C_init_32_b (r15 : Option Nat → Int32 → mM → Option (Unit × mM)) (r32 : Option Nat → Int32 → Option Nat → Int32 → mM → Option (Unit × mM)) (t0 : Option Nat) (i1 : Int32) (t2 : Option Nat) (i3 : Int32) (M : mM) : Option (Unit × mM) :=
    if i3 < (6 : Int32) then
      if i3 = i1 then
        q_C_init_58 r15 r32 t0 i1 t2 i3 M
      else
        x_gR M 8 t2 6 fun a1 =>
        x_nw M 2 fun a2 M =>
        x_ci a2 (q_K_init a2 t2 i3 M) fun _ M =>
        x_wR M 1 2 a1 i3 a2 fun M =>
        q_C_init_58 r15 r32 t0 i1 t2 i3 M
    else
      x_gR M 9 t0 0 fun a3 =>
      x_wR M 2 8 a3 i1 t2 fun M =>
      r15 t0 (i1 + 1) M
def q_C_init_32 (r15 : Option Nat → Int32 → mM → Option (Unit × mM)) : Nat → Option Nat → Int32 → Option Nat → Int32 → mM → Option (Unit × mM)
  | 0, _, _, _, _, _ => none
  | n + 1, t0, i1, t2, i3, M => q_C_init_32_b r15 (q_C_init_32 r15 n) t0 i1 t2 i3 M
set_option maxRecDepth 20000 in
theorem v_C_init_32_b {E : mE} (r15 : Option Nat → Int32 → mM → Option (Unit × mM)) (h15 : ∀ (t0 : Option Nat) (i1 : Int32) (M : mM), mVr E mi_C_init 4 15 [some (.inr t0), some (.inl i1), none, none] [] M enU (r15 t0 i1 M)) (r32 : Option Nat → Int32 → Option Nat → Int32 → mM → Option (Unit × mM)) (h32 : ∀ (t0 : Option Nat) (i1 : Int32) (t2 : Option Nat) (i3 : Int32) (M : mM), mVr E mi_C_init 4 32 [some (.inr t0), some (.inl i1), some (.inr t2), some (.inl i3)] [] M enU (r32 t0 i1 t2 i3 M)) (t0 : Option Nat) (i1 : Int32) (t2 : Option Nat) (i3 : Int32) (M : mM) : mVr E mi_C_init 4 32 [some (.inr t0), some (.inl i1), some (.inr t2), some (.inl i3)] [] M enU (q_C_init_32_b r15 r32 t0 i1 t2 i3 M) := by
  unfold q_C_init_32_b
  refine m_iload_n (d_C_init (k := 18) rfl) rfl ?_
  refine m_bipush (v := 6) (d_C_init (k := 19) rfl) (by decide) ?_
  refine m_icmp_ge (tgt := 64) (d_C_init (k := 20) rfl) rfl ?_ ?_
  · refine m_iload_n (d_C_init (k := 21) rfl) rfl ?_
    refine m_iload_n (d_C_init (k := 22) rfl) rfl ?_
    refine m_icmp_eq (tgt := 58) (d_C_init (k := 23) rfl) rfl ?_ ?_
    · exact m_drop (mles_s (mles_s (mles_s (mles_s mles_0)))) (v_C_init_58 r15 h15 r32 h32 t0 i1 t2 i3 M)
    · refine m_aload_n (d_C_init (k := 24) rfl) rfl ?_
      refine m_getR (d_C_init (k := 25) rfl) fl_C_18 rfl (fun a1 => ?_)
      refine m_iload_n (d_C_init (k := 26) rfl) rfl ?_
      refine m_new (d_C_init (k := 27) rfl) mcl_2 cl_C_22 ik_2 ii_2 dz_2 (fun a2 M => ?_)
      refine m_dup (d_C_init (k := 28) rfl) ?_
      refine m_aload_n (d_C_init (k := 29) rfl) rfl ?_
      refine m_iload_n (d_C_init (k := 30) rfl) rfl ?_
      refine m_ciU (vs := [.inr t2, .inl i3]) (st := [.inr a2, .inl i3, .inr a1]) (d_C_init (k := 31) rfl) (s_K_init a2 t2 i3 M) cd_K_init rfl rfl ml_C_24 im_K_init (by decide) rfl (Nat.le_of_ble_eq_true rfl) (fun _ M => ?_)
      refine m_aast (t := 1) (c := 2) (d_C_init (k := 32) rfl) rfl rfl (fun M => ?_)
      exact m_drop (mles_s (mles_s (mles_s (mles_s mles_0)))) (v_C_init_58 r15 h15 r32 h32 t0 i1 t2 i3 M)
  · refine m_aload_n (d_C_init (k := 35) rfl) rfl ?_
    refine m_getR (d_C_init (k := 36) rfl) fl_C_11 rfl (fun a3 => ?_)
    refine m_iload_n (d_C_init (k := 37) rfl) rfl ?_
    refine m_aload_n (d_C_init (k := 38) rfl) rfl ?_
    refine m_aast (t := 2) (c := 8) (d_C_init (k := 39) rfl) rfl rfl (fun M => ?_)
    refine m_inc (v := 1) (ls' := [some (.inr t0), some (.inl (i1 + 1)), some (.inr t2), some (.inl i3)]) (d_C_init (k := 40) rfl) rfl (by decide) (by decide) rfl ?_
    refine m_goto (tgt := 15) (d_C_init (k := 41) rfl) rfl ?_
    exact m_drop (mles_s (mles_s (mles_n (mles_n mles_0)))) (h15 t0 (i1 + 1) M)
theorem v_C_init_32 {E : mE} (r15 : Option Nat → Int32 → mM → Option (Unit × mM)) (h15 : ∀ (t0 : Option Nat) (i1 : Int32) (M : mM), mVr E mi_C_init 4 15 [some (.inr t0), some (.inl i1), none, none] [] M enU (r15 t0 i1 M)) : ∀ (n : Nat) (t0 : Option Nat) (i1 : Int32) (t2 : Option Nat) (i3 : Int32) (M : mM), mVr E mi_C_init 4 32 [some (.inr t0), some (.inl i1), some (.inr t2), some (.inl i3)] [] M enU (q_C_init_32 r15 n t0 i1 t2 i3 M)
  | 0, _, _, _, _, _ => m_none
  | n + 1, t0, i1, t2, i3, M => v_C_init_32_b r15 h15 _ (v_C_init_32 r15 h15 n) t0 i1 t2 i3 M
def q_C_init_15_b (r15 : Option Nat → Int32 → mM → Option (Unit × mM)) (t0 : Option Nat) (i1 : Int32) (M : mM) : Option (Unit × mM) :=
    if i1 < (6 : Int32) then
      x_nw M 8 fun a1 M =>
      x_ci a1 (q_N_init a1 i1 M) fun _ M =>
      q_C_init_32 r15 mFU t0 i1 a1 (0 : Int32) M
    else
      x_nw M 0 fun a2 M =>
      x_ci a2 (q_B_init a2 (260 : Int32) M) fun _ M =>
      x_pR M 9 t0 1 a2 fun M =>
      x_nw M 0 fun a3 M =>
      x_ci a3 (q_B_init a3 (907 : Int32) M) fun _ M =>
      x_pR M 9 t0 2 a3 fun M =>
      x_nw M 7 fun a4 M =>
      x_ci a4 (q_S_init a4 M) fun _ M =>
      x_pR M 9 t0 3 a4 fun M =>
      x_nw M 4 fun a5 M =>
      x_ci a5 (q_V_init a5 M) fun _ M =>
      x_pR M 9 t0 4 a5 fun M =>
      x_nw M 0 fun a6 M =>
      x_ci a6 (q_B_init a6 (16 : Int32) M) fun _ M =>
      x_pR M 9 t0 5 a6 fun M =>
      x_nw M 1 fun a7 M =>
      x_ci a7 (q_F_init a7 M) fun _ M =>
      x_pR M 9 t0 6 a7 fun M =>
      some ((), M)
def q_C_init_15 : Nat → Option Nat → Int32 → mM → Option (Unit × mM)
  | 0, _, _, _ => none
  | n + 1, t0, i1, M => q_C_init_15_b (q_C_init_15 n) t0 i1 M
set_option maxRecDepth 20000 in
theorem v_C_init_15_b {E : mE} (r15 : Option Nat → Int32 → mM → Option (Unit × mM)) (h15 : ∀ (t0 : Option Nat) (i1 : Int32) (M : mM), mVr E mi_C_init 4 15 [some (.inr t0), some (.inl i1), none, none] [] M enU (r15 t0 i1 M)) (t0 : Option Nat) (i1 : Int32) (M : mM) : mVr E mi_C_init 4 15 [some (.inr t0), some (.inl i1), none, none] [] M enU (q_C_init_15_b r15 t0 i1 M) := by
  unfold q_C_init_15_b
  refine m_iload_n (d_C_init (k := 8) rfl) rfl ?_
  refine m_bipush (v := 6) (d_C_init (k := 9) rfl) (by decide) ?_
  refine m_icmp_ge (tgt := 77) (d_C_init (k := 10) rfl) rfl ?_ ?_
  · refine m_new (d_C_init (k := 11) rfl) mcl_8 cl_C_9 ik_8 ii_8 dz_8 (fun a1 M => ?_)
    refine m_dup (d_C_init (k := 12) rfl) ?_
    refine m_iload_n (d_C_init (k := 13) rfl) rfl ?_
    refine m_ciU (vs := [.inl i1]) (st := [.inr a1]) (d_C_init (k := 14) rfl) (s_N_init a1 i1 M) cd_N_init rfl rfl ml_C_15 im_N_init (by decide) rfl (Nat.le_of_ble_eq_true rfl) (fun _ M => ?_)
    refine m_ast_n (ls' := [some (.inr t0), some (.inl i1), some (.inr a1), none]) (d_C_init (k := 15) rfl) (by decide) rfl ?_
    refine m_iconst (v := 0) (d_C_init (k := 16) rfl) (by decide) ?_
    refine m_ist_n (ls' := [some (.inr t0), some (.inl i1), some (.inr a1), some (.inl (0 : Int32))]) (d_C_init (k := 17) rfl) (by decide) rfl ?_
    exact m_drop (mles_s (mles_s (mles_s (mles_s mles_0)))) (v_C_init_32 r15 h15 mFU t0 i1 a1 (0 : Int32) M)
  · refine m_aload_n (d_C_init (k := 42) rfl) rfl ?_
    refine m_new (d_C_init (k := 43) rfl) mcl_0 cl_C_27 ik_0 ii_0 dz_0 (fun a2 M => ?_)
    refine m_dup (d_C_init (k := 44) rfl) ?_
    refine m_sipush (v := 260) (d_C_init (k := 45) rfl) (by decide) ?_
    refine m_ciU (vs := [.inl (260 : Int32)]) (st := [.inr a2, .inr t0]) (d_C_init (k := 46) rfl) (s_B_init a2 (260 : Int32) M) cd_B_init rfl rfl ml_C_29 im_B_init (by decide) rfl (Nat.le_of_ble_eq_true rfl) (fun _ M => ?_)
    refine m_pR (d_C_init (k := 47) rfl) fp_C_30 (fun _ => rfl) rfl (fun M => ?_)
    refine m_aload_n (d_C_init (k := 48) rfl) rfl ?_
    refine m_new (d_C_init (k := 49) rfl) mcl_0 cl_C_27 ik_0 ii_0 dz_0 (fun a3 M => ?_)
    refine m_dup (d_C_init (k := 50) rfl) ?_
    refine m_sipush (v := 907) (d_C_init (k := 51) rfl) (by decide) ?_
    refine m_ciU (vs := [.inl (907 : Int32)]) (st := [.inr a3, .inr t0]) (d_C_init (k := 52) rfl) (s_B_init a3 (907 : Int32) M) cd_B_init rfl rfl ml_C_29 im_B_init (by decide) rfl (Nat.le_of_ble_eq_true rfl) (fun _ M => ?_)
    refine m_pR (d_C_init (k := 53) rfl) fp_C_34 (fun _ => rfl) rfl (fun M => ?_)
    refine m_aload_n (d_C_init (k := 54) rfl) rfl ?_
    refine m_new (d_C_init (k := 55) rfl) mcl_7 cl_C_37 ik_7 ii_7 dz_7 (fun a4 M => ?_)
    refine m_dup (d_C_init (k := 56) rfl) ?_
    refine m_ciU (vs := []) (st := [.inr a4, .inr t0]) (d_C_init (k := 57) rfl) (s_S_init a4 M) cd_S_init rfl rfl ml_C_39 im_S_init (by decide) rfl (Nat.le_of_ble_eq_true rfl) (fun _ M => ?_)
    refine m_pR (d_C_init (k := 58) rfl) fp_C_40 (fun _ => rfl) rfl (fun M => ?_)
    refine m_aload_n (d_C_init (k := 59) rfl) rfl ?_
    refine m_new (d_C_init (k := 60) rfl) mcl_4 cl_C_44 ik_4 ii_4 dz_4 (fun a5 M => ?_)
    refine m_dup (d_C_init (k := 61) rfl) ?_
    refine m_ciU (vs := []) (st := [.inr a5, .inr t0]) (d_C_init (k := 62) rfl) (s_V_init a5 M) cd_V_init rfl rfl ml_C_46 im_V_init (by decide) rfl (Nat.le_of_ble_eq_true rfl) (fun _ M => ?_)
    refine m_pR (d_C_init (k := 63) rfl) fp_C_47 (fun _ => rfl) rfl (fun M => ?_)
    refine m_aload_n (d_C_init (k := 64) rfl) rfl ?_
    refine m_new (d_C_init (k := 65) rfl) mcl_0 cl_C_27 ik_0 ii_0 dz_0 (fun a6 M => ?_)
    refine m_dup (d_C_init (k := 66) rfl) ?_
    refine m_bipush (v := 16) (d_C_init (k := 67) rfl) (by decide) ?_
    refine m_ciU (vs := [.inl (16 : Int32)]) (st := [.inr a6, .inr t0]) (d_C_init (k := 68) rfl) (s_B_init a6 (16 : Int32) M) cd_B_init rfl rfl ml_C_29 im_B_init (by decide) rfl (Nat.le_of_ble_eq_true rfl) (fun _ M => ?_)
    refine m_pR (d_C_init (k := 69) rfl) fp_C_51 (fun _ => rfl) rfl (fun M => ?_)
    refine m_aload_n (d_C_init (k := 70) rfl) rfl ?_
    refine m_new (d_C_init (k := 71) rfl) mcl_1 cl_C_54 ik_1 ii_1 dz_1 (fun a7 M => ?_)
    refine m_dup (d_C_init (k := 72) rfl) ?_
    refine m_niU (vs := []) (st := [.inr a7, .inr t0]) (d_C_init (k := 73) rfl) (s_F_init a7 M) cd_F_init rfl rfl mn_C_56 im_F_init (by decide) rfl (Nat.le_of_ble_eq_true rfl) (fun _ M => ?_)
    refine m_pR (d_C_init (k := 74) rfl) fp_C_57 (fun _ => rfl) rfl (fun M => ?_)
    exact m_vret (d_C_init (k := 75) rfl) rfl
theorem v_C_init_15 {E : mE} : ∀ (n : Nat) (t0 : Option Nat) (i1 : Int32) (M : mM), mVr E mi_C_init 4 15 [some (.inr t0), some (.inl i1), none, none] [] M enU (q_C_init_15 n t0 i1 M)
  | 0, _, _, _ => m_none
  | n + 1, t0, i1, M => v_C_init_15_b _ (v_C_init_15 n) t0 i1 M
def q_C_init (t0 : Option Nat) (M : mM) : Option (Unit × mM) :=
    x_oi t0 <|
    x_na M 4 (6 : Int32) fun a1 M =>
    x_pR M 9 t0 0 a1 fun M =>
    q_C_init_15 mFU t0 (0 : Int32) M
set_option maxRecDepth 20000 in
theorem v_C_init {E : mE} (t0 : Option Nat) (M : mM) : mVr E mi_C_init 4 0 [some (.inr t0), none, none, none] [] M enU (q_C_init t0 M) := by
  unfold q_C_init
  refine m_aload_n (d_C_init (k := 0) rfl) rfl ?_
  refine m_oi (d_C_init (k := 1) rfl) mo_C_1 im_obj cd_obj (Nat.le_of_ble_eq_true rfl) ?_
  refine m_aload_n (d_C_init (k := 2) rfl) rfl ?_
  refine m_bipush (v := 6) (d_C_init (k := 3) rfl) (by decide) ?_
  refine m_anew (t := 2) (d_C_init (k := 4) rfl) rfl cl_C_9 ao_2 (fun a1 M => ?_)
  refine m_pR (d_C_init (k := 5) rfl) fp_C_11 (fun _ => rfl) rfl (fun M => ?_)
  refine m_iconst (v := 0) (d_C_init (k := 6) rfl) (by decide) ?_
  refine m_ist_n (ls' := [some (.inr t0), some (.inl (0 : Int32)), none, none]) (d_C_init (k := 7) rfl) (by decide) rfl ?_
  exact m_drop (mles_s (mles_s (mles_n (mles_n mles_0)))) (v_C_init_15 mFU t0 (0 : Int32) M)
theorem s_C_init {E : mE} (t0 : Option Nat) (M : mM) : mSnd E mi_C_init 4 [.inr t0] M enU (q_C_init t0 M) := m_entryU (by decide) (Nat.le_of_ble_eq_true rfl) rfl (m_drop (mles_s (mles_e (mles_e (mles_e mles_0)))) (v_C_init t0 M))
def dt_C_leave : List (Nat × Instr × Nat) := [(0, .aload_n 0, 1), (1, .iload_n 1, 1), (2, .iload_n 2, 1), (3, .invokevirtual 137, 3), (6, .astore_n 3, 1), (7, .aload_n 3, 1), (8, .ifnull 19, 3), (11, .aload_n 3, 1), (12, .getfield 141, 3), (15, .iconst 1, 1), (16, .if_icmp .eq 13, 3), (19, .aload_n 3, 1), (20, .getfield 141, 3), (23, .iconst 2, 1), (24, .if_icmp .eq 5, 3), (27, .iconst 0, 1), (28, .ireturn, 1), (29, .aload_n 3, 1), (30, .iconst 3, 1), (31, .invokevirtual 164, 3), (34, .aload_n 3, 1), (35, .iconst 1, 1), (36, .putfield 166, 3), (39, .aload_n 3, 1), (40, .aload_n 3, 1), (41, .getfield 169, 3), (44, .getfield 120, 3), (47, .iconst 4, 1), (48, .iaload, 1), (49, .putfield 173, 3), (52, .aload_n 3, 1), (53, .getfield 169, 3), (56, .aload_n 3, 1), (57, .getfield 148, 3), (60, .bipush 83, 2), (62, .iconst 1, 1), (63, .invokestatic 176, 3), (66, .pop, 1), (67, .iconst 1, 1), (68, .ireturn, 1)]
theorem dx_C_leave : ∀ p ∈ dt_C_leave, decode prog_1_method_11_code p.1 = .ok p.2 := by decide +kernel
theorem d_C_leave {k pc : Nat} {i : Instr} {n : Nat} (h : dt_C_leave[k]? = some (pc, i, n)) : decode mi_C_leave.2.1 pc = .ok (i, n) := dx_C_leave (pc, i, n) (List.mem_of_getElem? h)
def q_C_leave_29 (t3 : Option Nat) (M : mM) : Option (Int32 × mM) :=
    x_cv M 2 t3 (q_K_restart t3 (3 : Int32) M) fun _ M =>
    x_pI M 2 t3 12 (1 : Int32) fun M =>
    x_gR M 2 t3 0 fun a1 =>
    x_gR M 8 a1 1 fun a2 =>
    x_aI M 0 a2 (4 : Int32) fun x3 =>
    x_pI M 2 t3 11 x3 fun M =>
    x_gR M 2 t3 0 fun a4 =>
    x_gR M 2 t3 2 fun a5 =>
    x_cl (q_C_say a4 a5 (83 : Int32) (1 : Int32) M) fun a6 M =>
    x_rz (1 : Int32) M
set_option maxRecDepth 20000 in
theorem v_C_leave_29 {E : mE} (t3 : Option Nat) (M : mM) : mVr E mi_C_leave 3 29 [none, none, none, some (.inr t3)] [] M enI (q_C_leave_29 t3 M) := by
  unfold q_C_leave_29
  refine m_aload_n (d_C_leave (k := 17) rfl) rfl ?_
  refine m_iconst (v := 3) (d_C_leave (k := 18) rfl) (by decide) ?_
  refine m_cvU (c := 2) (vs := [.inl (3 : Int32)]) (st := []) (d_C_leave (k := 19) rfl) (s_K_restart t3 (3 : Int32) M) cd_K_restart ml_C_164 im_K_restart se_K_restart rfl (by decide) rfl (Nat.le_of_ble_eq_true rfl) (fun _ M => ?_)
  refine m_aload_n (d_C_leave (k := 20) rfl) rfl ?_
  refine m_iconst (v := 1) (d_C_leave (k := 21) rfl) (by decide) ?_
  refine m_pI (d_C_leave (k := 22) rfl) fp_C_166 (fun h => absurd h (by decide)) rfl (fun M => ?_)
  refine m_aload_n (d_C_leave (k := 23) rfl) rfl ?_
  refine m_aload_n (d_C_leave (k := 24) rfl) rfl ?_
  refine m_getR (d_C_leave (k := 25) rfl) fl_C_169 rfl (fun a1 => ?_)
  refine m_getR (d_C_leave (k := 26) rfl) fl_C_120 rfl (fun a2 => ?_)
  refine m_iconst (v := 4) (d_C_leave (k := 27) rfl) (by decide) ?_
  refine m_iald (d_C_leave (k := 28) rfl) (fun x3 => ?_)
  refine m_pI (d_C_leave (k := 29) rfl) fp_C_173 (fun h => absurd h (by decide)) rfl (fun M => ?_)
  refine m_aload_n (d_C_leave (k := 30) rfl) rfl ?_
  refine m_getR (d_C_leave (k := 31) rfl) fl_C_169 rfl (fun a4 => ?_)
  refine m_aload_n (d_C_leave (k := 32) rfl) rfl ?_
  refine m_getR (d_C_leave (k := 33) rfl) fl_C_148 rfl (fun a5 => ?_)
  refine m_bipush (v := 83) (d_C_leave (k := 34) rfl) (by decide) ?_
  refine m_iconst (v := 1) (d_C_leave (k := 35) rfl) (by decide) ?_
  refine m_csR (vs := [.inr a4, .inr a5, .inl (83 : Int32), .inl (1 : Int32)]) (st := []) (d_C_leave (k := 36) rfl) (s_C_say a4 a5 (83 : Int32) (1 : Int32) M) cd_C_say ml_C_176 sa_C_say (by decide) rfl (Nat.le_of_ble_eq_true rfl) (fun a6 M => ?_)
  refine m_pop (d_C_leave (k := 37) rfl) ?_
  refine m_iconst (v := 1) (d_C_leave (k := 38) rfl) (by decide) ?_
  exact m_zret (d_C_leave (k := 39) rfl) rfl
def q_C_leave (t0 : Option Nat) (i1 : Int32) (i2 : Int32) (M : mM) : Option (Int32 × mM) :=
    x_cv M 9 t0 (q_C_linkAt t0 i1 i2 M) fun a1 M =>
    x_nl a1 (
      x_rz (0 : Int32) M
    ) (
      x_gI M 2 a1 7 fun x2 =>
      if x2 = (1 : Int32) then
        q_C_leave_29 a1 M
      else
        x_gI M 2 a1 7 fun x3 =>
        if x3 = (2 : Int32) then
          q_C_leave_29 a1 M
        else
          x_rz (0 : Int32) M
    )
set_option maxRecDepth 20000 in
theorem v_C_leave {E : mE} (t0 : Option Nat) (i1 : Int32) (i2 : Int32) (M : mM) : mVr E mi_C_leave 3 0 [some (.inr t0), some (.inl i1), some (.inl i2), none] [] M enI (q_C_leave t0 i1 i2 M) := by
  unfold q_C_leave
  refine m_aload_n (d_C_leave (k := 0) rfl) rfl ?_
  refine m_iload_n (d_C_leave (k := 1) rfl) rfl ?_
  refine m_iload_n (d_C_leave (k := 2) rfl) rfl ?_
  refine m_cvR (c := 9) (vs := [.inl i1, .inl i2]) (st := []) (d_C_leave (k := 3) rfl) (s_C_linkAt t0 i1 i2 M) cd_C_linkAt ml_C_137 im_C_linkAt se_C_linkAt rfl (by decide) rfl (Nat.le_of_ble_eq_true rfl) (fun a1 M => ?_)
  refine m_ast_n (ls' := [some (.inr t0), some (.inl i1), some (.inl i2), some (.inr a1)]) (d_C_leave (k := 4) rfl) (by decide) rfl ?_
  refine m_aload_n (d_C_leave (k := 5) rfl) rfl ?_
  refine m_ifnull (tgt := 27) (d_C_leave (k := 6) rfl) rfl ?_ ?_
  · refine m_iconst (v := 0) (d_C_leave (k := 15) rfl) (by decide) ?_
    exact m_zret (d_C_leave (k := 16) rfl) rfl
  · refine m_aload_n (d_C_leave (k := 7) rfl) rfl ?_
    refine m_getI (d_C_leave (k := 8) rfl) fl_C_141 rfl (fun x2 => ?_)
    refine m_iconst (v := 1) (d_C_leave (k := 9) rfl) (by decide) ?_
    refine m_icmp_eq (tgt := 29) (d_C_leave (k := 10) rfl) rfl ?_ ?_
    · exact m_drop (mles_n (mles_n (mles_n (mles_s mles_0)))) (v_C_leave_29 a1 M)
    · refine m_aload_n (d_C_leave (k := 11) rfl) rfl ?_
      refine m_getI (d_C_leave (k := 12) rfl) fl_C_141 rfl (fun x3 => ?_)
      refine m_iconst (v := 2) (d_C_leave (k := 13) rfl) (by decide) ?_
      refine m_icmp_eq (tgt := 29) (d_C_leave (k := 14) rfl) rfl ?_ ?_
      · exact m_drop (mles_n (mles_n (mles_n (mles_s mles_0)))) (v_C_leave_29 a1 M)
      · refine m_iconst (v := 0) (d_C_leave (k := 15) rfl) (by decide) ?_
        exact m_zret (d_C_leave (k := 16) rfl) rfl
theorem s_C_leave {E : mE} (t0 : Option Nat) (i1 : Int32) (i2 : Int32) (M : mM) : mSnd E mi_C_leave 3 [.inr t0, .inl i1, .inl i2] M enI (q_C_leave t0 i1 i2 M) := m_entryZ (by decide) (Nat.le_of_ble_eq_true rfl) rfl (m_drop (mles_s (mles_s (mles_s (mles_e mles_0)))) (v_C_leave t0 i1 i2 M))
def dt_B_raise : List (Nat × Instr × Nat) := [(0, .iload_n 1, 1), (1, .ifCond .lt 21, 3), (4, .iload_n 1, 1), (5, .aload_n 0, 1), (6, .getfield 21, 3), (9, .if_icmp .ge 13, 3), (12, .aload_n 0, 1), (13, .getfield 15, 3), (16, .iload_n 1, 1), (17, .dup2, 1), (18, .iaload, 1), (19, .iload_n 2, 1), (20, .iadd, 1), (21, .iastore, 1), (22, .return_, 1)]
theorem dx_B_raise : ∀ p ∈ dt_B_raise, decode prog_2_method_8_code p.1 = .ok p.2 := by decide +kernel
theorem d_B_raise {k pc : Nat} {i : Instr} {n : Nat} (h : dt_B_raise[k]? = some (pc, i, n)) : decode mi_B_raise.2.1 pc = .ok (i, n) := dx_B_raise (pc, i, n) (List.mem_of_getElem? h)
def q_B_raise (t0 : Option Nat) (i1 : Int32) (i2 : Int32) (M : mM) : Option (Unit × mM) :=
    if i1 < 0 then
      some ((), M)
    else
      x_gI M 0 t0 1 fun x1 =>
      if i1 < x1 then
        x_gR M 0 t0 0 fun a2 =>
        x_aI M 0 a2 i1 fun x3 =>
        x_wI M a2 i1 (x3 + i2) fun M =>
        some ((), M)
      else
        some ((), M)
set_option maxRecDepth 20000 in
theorem v_B_raise {E : mE} (t0 : Option Nat) (i1 : Int32) (i2 : Int32) (M : mM) : mVr E mi_B_raise 0 0 [some (.inr t0), some (.inl i1), some (.inl i2)] [] M enU (q_B_raise t0 i1 i2 M) := by
  unfold q_B_raise
  refine m_iload_n (d_B_raise (k := 0) rfl) rfl ?_
  refine m_if_lt (tgt := 22) (d_B_raise (k := 1) rfl) rfl ?_ ?_
  · exact m_vret (d_B_raise (k := 14) rfl) rfl
  · refine m_iload_n (d_B_raise (k := 2) rfl) rfl ?_
    refine m_aload_n (d_B_raise (k := 3) rfl) rfl ?_
    refine m_getI (d_B_raise (k := 4) rfl) fl_B_21 rfl (fun x1 => ?_)
    refine m_icmp_ge (tgt := 22) (d_B_raise (k := 5) rfl) rfl ?_ ?_
    · refine m_aload_n (d_B_raise (k := 6) rfl) rfl ?_
      refine m_getR (d_B_raise (k := 7) rfl) fl_B_15 rfl (fun a2 => ?_)
      refine m_iload_n (d_B_raise (k := 8) rfl) rfl ?_
      refine m_dup2 (d_B_raise (k := 9) rfl) ?_
      refine m_iald (d_B_raise (k := 10) rfl) (fun x3 => ?_)
      refine m_iload_n (d_B_raise (k := 11) rfl) rfl ?_
      refine m_iadd (d_B_raise (k := 12) rfl) ?_
      refine m_iast (d_B_raise (k := 13) rfl) (fun M => ?_)
      exact m_vret (d_B_raise (k := 14) rfl) rfl
    · exact m_vret (d_B_raise (k := 14) rfl) rfl
theorem s_B_raise {E : mE} (t0 : Option Nat) (i1 : Int32) (i2 : Int32) (M : mM) : mSnd E mi_B_raise 0 [.inr t0, .inl i1, .inl i2] M enU (q_B_raise t0 i1 i2 M) := m_entryU (by decide) (Nat.le_of_ble_eq_true rfl) rfl (m_drop (mles_s (mles_s (mles_s mles_0))) (v_B_raise t0 i1 i2 M))
def dt_C_receivePacket_0 : List (Nat × Instr × Nat) := [(0, .aload_n 1, 1), (1, .getfield 61, 3), (4, .iload_n 2, 1), (5, .isub, 1), (6, .istore_n 3, 1), (7, .aload_n 1, 1), (8, .iload_n 2, 1), (9, .iconst 1, 1), (10, .iadd, 1), (11, .invokevirtual 68, 3), (14, .istore 4, 2), (16, .iload_n 3, 1), (17, .iconst 4, 1), (18, .if_icmp .le 28, 3), (21, .iload_n 3, 1), (22, .bipush 16, 2), (24, .if_icmp .gt 22, 3), (27, .aload_n 1, 1), (28, .iload_n 2, 1), (29, .invokevirtual 68, 3), (32, .invokestatic 110, 3), (35, .ifCond .eq 11, 3), (38, .iload 4, 2), (40, .invokestatic 110, 3), (43, .ifCond .ne 14, 3), (46, .aload_n 0, 1), (47, .dup, 1), (48, .getfield 282, 3), (51, .iconst 1, 1), (52, .iadd, 1), (53, .putfield 282, 3), (56, .return_, 1), (57, .iload 4, 2), (59, .aload_n 0, 1), (60, .getfield 368, 3), (63, .if_icmp .ne 7, 3), (66, .iconst 1, 1), (67, .goto 4, 3), (70, .iconst 0, 1), (71, .istore 5, 2)]
theorem dx_C_receivePacket_0 : ∀ p ∈ dt_C_receivePacket_0, decode prog_1_method_62_code p.1 = .ok p.2 := by decide +kernel
theorem d_C_receivePacket_0 {k pc : Nat} {i : Instr} {n : Nat} (h : dt_C_receivePacket_0[k]? = some (pc, i, n)) : decode mi_C_receivePacket.2.1 pc = .ok (i, n) := dx_C_receivePacket_0 (pc, i, n) (List.mem_of_getElem? h)
def dt_C_receivePacket_1 : List (Nat × Instr × Nat) := [(73, .aload_n 1, 1), (74, .iload_n 2, 1), (75, .iconst 2, 1), (76, .iadd, 1), (77, .invokevirtual 68, 3), (80, .istore 6, 2), (82, .iload 5, 2), (84, .ifCond .ne 8, 3), (87, .iload 6, 2), (89, .ifCond .ne 7, 3), (92, .aconst_null, 1), (93, .goto 16, 3), (96, .aload_n 0, 1), (97, .aload_n 0, 1), (98, .getfield 318, 3), (101, .iload 4, 2), (103, .invokevirtual 330, 3), (106, .invokevirtual 339, 3), (109, .astore 7, 2), (111, .aload 7, 2), (113, .ifnull 34, 3), (116, .aload 7, 2), (118, .getfield 141, 3), (121, .ifCond .ne 26, 3), (124, .aload 7, 2), (126, .getfield 148, 3), (129, .iconst (-1), 1), (130, .putfield 152, 3), (133, .aload 7, 2), (135, .getfield 148, 3), (138, .iconst (-1), 1), (139, .putfield 157, 3), (142, .aload 7, 2), (144, .invokestatic 160, 3), (147, .iload 5, 2), (149, .ifCond .eq 13, 3), (152, .aload_n 0, 1), (153, .getfield 214, 3), (156, .invokevirtual 128, 3), (159, .goto 20, 3)]
theorem dx_C_receivePacket_1 : ∀ p ∈ dt_C_receivePacket_1, decode prog_1_method_62_code p.1 = .ok p.2 := by decide +kernel
theorem d_C_receivePacket_1 {k pc : Nat} {i : Instr} {n : Nat} (h : dt_C_receivePacket_1[k]? = some (pc, i, n)) : decode mi_C_receivePacket.2.1 pc = .ok (i, n) := dx_C_receivePacket_1 (pc, i, n) (List.mem_of_getElem? h)
def dt_C_receivePacket_2 : List (Nat × Instr × Nat) := [(162, .aload 7, 2), (164, .ifnonnull 7, 3), (167, .aconst_null, 1), (168, .goto 11, 3), (171, .aload 7, 2), (173, .getfield 309, 3), (176, .invokevirtual 128, 3), (179, .astore 8, 2), (181, .aload 8, 2), (183, .ifnonnull 14, 3), (186, .aload_n 0, 1), (187, .dup, 1), (188, .getfield 285, 3), (191, .iconst 1, 1), (192, .iadd, 1), (193, .putfield 285, 3), (196, .return_, 1), (197, .aload 8, 2), (199, .aload_n 1, 1), (200, .iload_n 2, 1), (201, .iload_n 3, 1), (202, .invokevirtual 134, 3), (205, .iload 5, 2), (207, .ifCond .ne 10, 3), (210, .aload 8, 2), (212, .iconst 2, 1), (213, .iconst (-1), 1), (214, .invokevirtual 443, 3), (217, .return_, 1)]
theorem dx_C_receivePacket_2 : ∀ p ∈ dt_C_receivePacket_2, decode prog_1_method_62_code p.1 = .ok p.2 := by decide +kernel
theorem d_C_receivePacket_2 {k pc : Nat} {i : Instr} {n : Nat} (h : dt_C_receivePacket_2[k]? = some (pc, i, n)) : decode mi_C_receivePacket.2.1 pc = .ok (i, n) := dx_C_receivePacket_2 (pc, i, n) (List.mem_of_getElem? h)
def q_C_receivePacket_46 (t0 : Option Nat) (M : mM) : Option (Unit × mM) :=
    x_gI M 8 t0 16 fun x1 =>
    x_pI M 8 t0 16 (x1 + (1 : Int32)) fun M =>
    some ((), M)
set_option maxRecDepth 20000 in
theorem v_C_receivePacket_46 {E : mE} (t0 : Option Nat) (M : mM) : mVr E mi_C_receivePacket 3 46 [some (.inr t0), none, none, none, none, none, none, none, none] [] M enU (q_C_receivePacket_46 t0 M) := by
  unfold q_C_receivePacket_46
  refine m_aload_n (d_C_receivePacket_0 (k := 25) rfl) rfl ?_
  refine m_dup (d_C_receivePacket_0 (k := 26) rfl) ?_
  refine m_getI (d_C_receivePacket_0 (k := 27) rfl) fl_C_282 rfl (fun x1 => ?_)
  refine m_iconst (v := 1) (d_C_receivePacket_0 (k := 28) rfl) (by decide) ?_
  refine m_iadd (d_C_receivePacket_0 (k := 29) rfl) ?_
  refine m_pI (d_C_receivePacket_0 (k := 30) rfl) fp_C_282 (fun h => absurd h (by decide)) rfl (fun M => ?_)
  exact m_vret (d_C_receivePacket_0 (k := 31) rfl) rfl
def q_C_receivePacket_179 (t0 : Option Nat) (t1 : Option Nat) (i2 : Int32) (i3 : Int32) (i5 : Int32) (u0 : Option Nat) (M : mM) : Option (Unit × mM) :=
    x_nl u0 (
      x_gI M 8 t0 17 fun x1 =>
      x_pI M 8 t0 17 (x1 + (1 : Int32)) fun M =>
      some ((), M)
    ) (
      x_cv M 0 u0 (q_B_addFrom u0 t1 i2 i3 M) fun _ M =>
      if i5 = 0 then
        x_cv M 0 u0 (q_B_raise u0 (2 : Int32) (-1 : Int32) M) fun _ M =>
        some ((), M)
      else
        some ((), M)
    )
set_option maxRecDepth 20000 in
theorem v_C_receivePacket_179 {E : mE} (t0 : Option Nat) (t1 : Option Nat) (i2 : Int32) (i3 : Int32) (i5 : Int32) (u0 : Option Nat) (M : mM) : mVr E mi_C_receivePacket 3 179 [some (.inr t0), some (.inr t1), some (.inl i2), some (.inl i3), none, some (.inl i5), none, none, none] [.inr u0] M enU (q_C_receivePacket_179 t0 t1 i2 i3 i5 u0 M) := by
  unfold q_C_receivePacket_179
  refine m_ast (ls' := [some (.inr t0), some (.inr t1), some (.inl i2), some (.inl i3), none, some (.inl i5), none, none, some (.inr u0)]) (d_C_receivePacket_2 (k := 7) rfl) (by decide) rfl ?_
  refine m_aload (d_C_receivePacket_2 (k := 8) rfl) rfl ?_
  refine m_ifnonnull (tgt := 197) (d_C_receivePacket_2 (k := 9) rfl) rfl ?_ ?_
  · refine m_aload_n (d_C_receivePacket_2 (k := 10) rfl) rfl ?_
    refine m_dup (d_C_receivePacket_2 (k := 11) rfl) ?_
    refine m_getI (d_C_receivePacket_2 (k := 12) rfl) fl_C_285 rfl (fun x1 => ?_)
    refine m_iconst (v := 1) (d_C_receivePacket_2 (k := 13) rfl) (by decide) ?_
    refine m_iadd (d_C_receivePacket_2 (k := 14) rfl) ?_
    refine m_pI (d_C_receivePacket_2 (k := 15) rfl) fp_C_285 (fun h => absurd h (by decide)) rfl (fun M => ?_)
    exact m_vret (d_C_receivePacket_2 (k := 16) rfl) rfl
  · refine m_aload (d_C_receivePacket_2 (k := 17) rfl) rfl ?_
    refine m_aload_n (d_C_receivePacket_2 (k := 18) rfl) rfl ?_
    refine m_iload_n (d_C_receivePacket_2 (k := 19) rfl) rfl ?_
    refine m_iload_n (d_C_receivePacket_2 (k := 20) rfl) rfl ?_
    refine m_cvU (c := 0) (vs := [.inr t1, .inl i2, .inl i3]) (st := []) (d_C_receivePacket_2 (k := 21) rfl) (s_B_addFrom u0 t1 i2 i3 M) cd_B_addFrom ml_C_134 im_B_addFrom se_B_addFrom rfl (by decide) rfl (Nat.le_of_ble_eq_true rfl) (fun _ M => ?_)
    refine m_iload (d_C_receivePacket_2 (k := 22) rfl) rfl ?_
    refine m_if_ne (tgt := 217) (d_C_receivePacket_2 (k := 23) rfl) rfl ?_ ?_
    · refine m_aload (d_C_receivePacket_2 (k := 24) rfl) rfl ?_
      refine m_iconst (v := 2) (d_C_receivePacket_2 (k := 25) rfl) (by decide) ?_
      refine m_iconst (v := (-1)) (d_C_receivePacket_2 (k := 26) rfl) (by decide) ?_
      refine m_cvU (c := 0) (vs := [.inl (2 : Int32), .inl (-1 : Int32)]) (st := []) (d_C_receivePacket_2 (k := 27) rfl) (s_B_raise u0 (2 : Int32) (-1 : Int32) M) cd_B_raise ml_C_443 im_B_raise se_B_raise rfl (by decide) rfl (Nat.le_of_ble_eq_true rfl) (fun _ M => ?_)
      exact m_vret (d_C_receivePacket_2 (k := 28) rfl) rfl
    · exact m_vret (d_C_receivePacket_2 (k := 28) rfl) rfl
def q_C_receivePacket_147 (t0 : Option Nat) (t1 : Option Nat) (i2 : Int32) (i3 : Int32) (i5 : Int32) (t7 : Option Nat) (M : mM) : Option (Unit × mM) :=
    if i5 = 0 then
      x_nl t7 (
        q_C_receivePacket_179 t0 t1 i2 i3 i5 none M
      ) (
        x_gR M 2 t7 5 fun a1 =>
        x_cv M 6 a1 (q_W_addRow a1 M) fun a2 M =>
        q_C_receivePacket_179 t0 t1 i2 i3 i5 a2 M
      )
    else
      x_gR M 8 t0 5 fun a3 =>
      x_cv M 6 a3 (q_W_addRow a3 M) fun a4 M =>
      q_C_receivePacket_179 t0 t1 i2 i3 i5 a4 M
set_option maxRecDepth 20000 in
theorem v_C_receivePacket_147 {E : mE} (t0 : Option Nat) (t1 : Option Nat) (i2 : Int32) (i3 : Int32) (i5 : Int32) (t7 : Option Nat) (M : mM) : mVr E mi_C_receivePacket 3 147 [some (.inr t0), some (.inr t1), some (.inl i2), some (.inl i3), none, some (.inl i5), none, some (.inr t7), none] [] M enU (q_C_receivePacket_147 t0 t1 i2 i3 i5 t7 M) := by
  unfold q_C_receivePacket_147
  refine m_iload (d_C_receivePacket_1 (k := 34) rfl) rfl ?_
  refine m_if_eq (tgt := 162) (d_C_receivePacket_1 (k := 35) rfl) rfl ?_ ?_
  · refine m_aload (d_C_receivePacket_2 (k := 0) rfl) rfl ?_
    refine m_ifnonnull (tgt := 171) (d_C_receivePacket_2 (k := 1) rfl) rfl ?_ ?_
    · refine m_null (d_C_receivePacket_2 (k := 2) rfl) ?_
      refine m_goto (tgt := 179) (d_C_receivePacket_2 (k := 3) rfl) rfl ?_
      exact m_drop (mles_s (mles_s (mles_s (mles_s (mles_n (mles_s (mles_n (mles_n (mles_n mles_0))))))))) (v_C_receivePacket_179 t0 t1 i2 i3 i5 none M)
    · refine m_aload (d_C_receivePacket_2 (k := 4) rfl) rfl ?_
      refine m_getR (d_C_receivePacket_2 (k := 5) rfl) fl_C_309 rfl (fun a1 => ?_)
      refine m_cvR (c := 6) (vs := []) (st := []) (d_C_receivePacket_2 (k := 6) rfl) (s_W_addRow a1 M) cd_W_addRow ml_C_128 im_W_addRow se_W_addRow rfl (by decide) rfl (Nat.le_of_ble_eq_true rfl) (fun a2 M => ?_)
      exact m_drop (mles_s (mles_s (mles_s (mles_s (mles_n (mles_s (mles_n (mles_n (mles_n mles_0))))))))) (v_C_receivePacket_179 t0 t1 i2 i3 i5 a2 M)
  · refine m_aload_n (d_C_receivePacket_1 (k := 36) rfl) rfl ?_
    refine m_getR (d_C_receivePacket_1 (k := 37) rfl) fl_C_214 rfl (fun a3 => ?_)
    refine m_cvR (c := 6) (vs := []) (st := []) (d_C_receivePacket_1 (k := 38) rfl) (s_W_addRow a3 M) cd_W_addRow ml_C_128 im_W_addRow se_W_addRow rfl (by decide) rfl (Nat.le_of_ble_eq_true rfl) (fun a4 M => ?_)
    refine m_goto (tgt := 179) (d_C_receivePacket_1 (k := 39) rfl) rfl ?_
    exact m_drop (mles_s (mles_s (mles_s (mles_s (mles_n (mles_s (mles_n (mles_n (mles_n mles_0))))))))) (v_C_receivePacket_179 t0 t1 i2 i3 i5 a4 M)
def q_C_receivePacket_109 (t0 : Option Nat) (t1 : Option Nat) (i2 : Int32) (i3 : Int32) (i5 : Int32) (u0 : Option Nat) (M : mM) : Option (Unit × mM) :=
    x_nl u0 (
      q_C_receivePacket_147 t0 t1 i2 i3 i5 u0 M
    ) (
      x_gI M 2 u0 7 fun x1 =>
      if x1 = 0 then
        x_gR M 2 u0 2 fun a2 =>
        x_pI M 3 a2 1 (-1 : Int32) fun M =>
        x_gR M 2 u0 2 fun a3 =>
        x_pI M 3 a3 2 (-1 : Int32) fun M =>
        x_cl (q_C_callOther u0 M) fun _ M =>
        q_C_receivePacket_147 t0 t1 i2 i3 i5 u0 M
      else
        q_C_receivePacket_147 t0 t1 i2 i3 i5 u0 M
    )
set_option maxRecDepth 20000 in
theorem v_C_receivePacket_109 {E : mE} (t0 : Option Nat) (t1 : Option Nat) (i2 : Int32) (i3 : Int32) (i5 : Int32) (u0 : Option Nat) (M : mM) : mVr E mi_C_receivePacket 3 109 [some (.inr t0), some (.inr t1), some (.inl i2), some (.inl i3), none, some (.inl i5), none, none, none] [.inr u0] M enU (q_C_receivePacket_109 t0 t1 i2 i3 i5 u0 M) := by
  unfold q_C_receivePacket_109
  refine m_ast (ls' := [some (.inr t0), some (.inr t1), some (.inl i2), some (.inl i3), none, some (.inl i5), none, some (.inr u0), none]) (d_C_receivePacket_1 (k := 18) rfl) (by decide) rfl ?_
  refine m_aload (d_C_receivePacket_1 (k := 19) rfl) rfl ?_
  refine m_ifnull (tgt := 147) (d_C_receivePacket_1 (k := 20) rfl) rfl ?_ ?_
  · exact m_drop (mles_s (mles_s (mles_s (mles_s (mles_n (mles_s (mles_n (mles_s (mles_n mles_0))))))))) (v_C_receivePacket_147 t0 t1 i2 i3 i5 u0 M)
  · refine m_aload (d_C_receivePacket_1 (k := 21) rfl) rfl ?_
    refine m_getI (d_C_receivePacket_1 (k := 22) rfl) fl_C_141 rfl (fun x1 => ?_)
    refine m_if_ne (tgt := 147) (d_C_receivePacket_1 (k := 23) rfl) rfl ?_ ?_
    · refine m_aload (d_C_receivePacket_1 (k := 24) rfl) rfl ?_
      refine m_getR (d_C_receivePacket_1 (k := 25) rfl) fl_C_148 rfl (fun a2 => ?_)
      refine m_iconst (v := (-1)) (d_C_receivePacket_1 (k := 26) rfl) (by decide) ?_
      refine m_pI (d_C_receivePacket_1 (k := 27) rfl) fp_C_152 (fun h => absurd h (by decide)) rfl (fun M => ?_)
      refine m_aload (d_C_receivePacket_1 (k := 28) rfl) rfl ?_
      refine m_getR (d_C_receivePacket_1 (k := 29) rfl) fl_C_148 rfl (fun a3 => ?_)
      refine m_iconst (v := (-1)) (d_C_receivePacket_1 (k := 30) rfl) (by decide) ?_
      refine m_pI (d_C_receivePacket_1 (k := 31) rfl) fp_C_157 (fun h => absurd h (by decide)) rfl (fun M => ?_)
      refine m_aload (d_C_receivePacket_1 (k := 32) rfl) rfl ?_
      refine m_csU (vs := [.inr u0]) (st := []) (d_C_receivePacket_1 (k := 33) rfl) (s_C_callOther u0 M) cd_C_callOther ml_C_160 sa_C_callOther (by decide) rfl (Nat.le_of_ble_eq_true rfl) (fun _ M => ?_)
      exact m_drop (mles_s (mles_s (mles_s (mles_s (mles_n (mles_s (mles_n (mles_s (mles_n mles_0))))))))) (v_C_receivePacket_147 t0 t1 i2 i3 i5 u0 M)
    · exact m_drop (mles_s (mles_s (mles_s (mles_s (mles_n (mles_s (mles_n (mles_s (mles_n mles_0))))))))) (v_C_receivePacket_147 t0 t1 i2 i3 i5 u0 M)
def q_C_receivePacket_92 (t0 : Option Nat) (t1 : Option Nat) (i2 : Int32) (i3 : Int32) (i5 : Int32) (M : mM) : Option (Unit × mM) :=
    q_C_receivePacket_109 t0 t1 i2 i3 i5 none M
set_option maxRecDepth 20000 in
theorem v_C_receivePacket_92 {E : mE} (t0 : Option Nat) (t1 : Option Nat) (i2 : Int32) (i3 : Int32) (i5 : Int32) (M : mM) : mVr E mi_C_receivePacket 3 92 [some (.inr t0), some (.inr t1), some (.inl i2), some (.inl i3), none, some (.inl i5), none, none, none] [] M enU (q_C_receivePacket_92 t0 t1 i2 i3 i5 M) := by
  unfold q_C_receivePacket_92
  refine m_null (d_C_receivePacket_1 (k := 10) rfl) ?_
  refine m_goto (tgt := 109) (d_C_receivePacket_1 (k := 11) rfl) rfl ?_
  exact m_drop (mles_s (mles_s (mles_s (mles_s (mles_n (mles_s (mles_n (mles_n (mles_n mles_0))))))))) (v_C_receivePacket_109 t0 t1 i2 i3 i5 none M)
def q_C_receivePacket_71 (t0 : Option Nat) (t1 : Option Nat) (i2 : Int32) (i3 : Int32) (i4 : Int32) (j0 : Int32) (M : mM) : Option (Unit × mM) :=
    x_cv M 0 t1 (q_B_at t1 (i2 + (2 : Int32)) M) fun x1 M =>
    if j0 = 0 then
      if x1 = 0 then
        q_C_receivePacket_92 t0 t1 i2 i3 j0 M
      else
        x_gR M 8 t0 7 fun a2 =>
        x_cv M 5 a2 (q_T_bestTo a2 i4 M) fun x3 M =>
        x_cv M 8 t0 (q_N_linkTo t0 x3 M) fun a4 M =>
        q_C_receivePacket_109 t0 t1 i2 i3 j0 a4 M
    else
      q_C_receivePacket_92 t0 t1 i2 i3 j0 M
set_option maxRecDepth 20000 in
theorem v_C_receivePacket_71 {E : mE} (t0 : Option Nat) (t1 : Option Nat) (i2 : Int32) (i3 : Int32) (i4 : Int32) (j0 : Int32) (M : mM) : mVr E mi_C_receivePacket 3 71 [some (.inr t0), some (.inr t1), some (.inl i2), some (.inl i3), some (.inl i4), none, none, none, none] [.inl j0] M enU (q_C_receivePacket_71 t0 t1 i2 i3 i4 j0 M) := by
  unfold q_C_receivePacket_71
  refine m_ist (ls' := [some (.inr t0), some (.inr t1), some (.inl i2), some (.inl i3), some (.inl i4), some (.inl j0), none, none, none]) (d_C_receivePacket_0 (k := 39) rfl) (by decide) rfl ?_
  refine m_aload_n (d_C_receivePacket_1 (k := 0) rfl) rfl ?_
  refine m_iload_n (d_C_receivePacket_1 (k := 1) rfl) rfl ?_
  refine m_iconst (v := 2) (d_C_receivePacket_1 (k := 2) rfl) (by decide) ?_
  refine m_iadd (d_C_receivePacket_1 (k := 3) rfl) ?_
  refine m_cvI (c := 0) (vs := [.inl (i2 + (2 : Int32))]) (st := []) (d_C_receivePacket_1 (k := 4) rfl) (s_B_at t1 (i2 + (2 : Int32)) M) cd_B_at ml_C_68 im_B_at se_B_at rfl (by decide) rfl (Nat.le_of_ble_eq_true rfl) (fun x1 M => ?_)
  refine m_ist (ls' := [some (.inr t0), some (.inr t1), some (.inl i2), some (.inl i3), some (.inl i4), some (.inl j0), some (.inl x1), none, none]) (d_C_receivePacket_1 (k := 5) rfl) (by decide) rfl ?_
  refine m_iload (d_C_receivePacket_1 (k := 6) rfl) rfl ?_
  refine m_if_ne (tgt := 92) (d_C_receivePacket_1 (k := 7) rfl) rfl ?_ ?_
  · refine m_iload (d_C_receivePacket_1 (k := 8) rfl) rfl ?_
    refine m_if_ne (tgt := 96) (d_C_receivePacket_1 (k := 9) rfl) rfl ?_ ?_
    · exact m_drop (mles_s (mles_s (mles_s (mles_s (mles_n (mles_s (mles_n (mles_n (mles_n mles_0))))))))) (v_C_receivePacket_92 t0 t1 i2 i3 j0 M)
    · refine m_aload_n (d_C_receivePacket_1 (k := 12) rfl) rfl ?_
      refine m_aload_n (d_C_receivePacket_1 (k := 13) rfl) rfl ?_
      refine m_getR (d_C_receivePacket_1 (k := 14) rfl) fl_C_318 rfl (fun a2 => ?_)
      refine m_iload (d_C_receivePacket_1 (k := 15) rfl) rfl ?_
      refine m_cvI (c := 5) (vs := [.inl i4]) (st := [.inr t0]) (d_C_receivePacket_1 (k := 16) rfl) (s_T_bestTo a2 i4 M) cd_T_bestTo ml_C_330 im_T_bestTo se_T_bestTo rfl (by decide) rfl (Nat.le_of_ble_eq_true rfl) (fun x3 M => ?_)
      refine m_cvR (c := 8) (vs := [.inl x3]) (st := []) (d_C_receivePacket_1 (k := 17) rfl) (s_N_linkTo t0 x3 M) cd_N_linkTo ml_C_339 im_N_linkTo se_N_linkTo rfl (by decide) rfl (Nat.le_of_ble_eq_true rfl) (fun a4 M => ?_)
      exact m_drop (mles_s (mles_s (mles_s (mles_s (mles_n (mles_s (mles_n (mles_n (mles_n mles_0))))))))) (v_C_receivePacket_109 t0 t1 i2 i3 j0 a4 M)
  · exact m_drop (mles_s (mles_s (mles_s (mles_s (mles_n (mles_s (mles_n (mles_n (mles_n mles_0))))))))) (v_C_receivePacket_92 t0 t1 i2 i3 j0 M)
def q_C_receivePacket (t0 : Option Nat) (t1 : Option Nat) (i2 : Int32) (M : mM) : Option (Unit × mM) :=
    x_gI M 0 t1 1 fun x1 =>
    x_lt (x1 - i2) fun x2 =>
    x_cv M 0 t1 (q_B_at t1 (i2 + (1 : Int32)) M) fun x3 M =>
    if (4 : Int32) < x2 then
      if (16 : Int32) < x2 then
        q_C_receivePacket_46 t0 M
      else
        x_cv M 0 t1 (q_B_at t1 i2 M) fun x4 M =>
        x_cl (q_C_isStation x4 M) fun x5 M =>
        if x5 = 0 then
          q_C_receivePacket_46 t0 M
        else
          x_cl (q_C_isStation x3 M) fun x6 M =>
          if x6 = 0 then
            q_C_receivePacket_46 t0 M
          else
            x_gI M 8 t0 0 fun x7 =>
            if x3 = x7 then
              q_C_receivePacket_71 t0 t1 i2 x2 x3 (1 : Int32) M
            else
              q_C_receivePacket_71 t0 t1 i2 x2 x3 (0 : Int32) M
    else
      q_C_receivePacket_46 t0 M
set_option maxRecDepth 20000 in
theorem v_C_receivePacket {E : mE} (t0 : Option Nat) (t1 : Option Nat) (i2 : Int32) (M : mM) : mVr E mi_C_receivePacket 3 0 [some (.inr t0), some (.inr t1), some (.inl i2), none, none, none, none, none, none] [] M enU (q_C_receivePacket t0 t1 i2 M) := by
  unfold q_C_receivePacket
  refine m_aload_n (d_C_receivePacket_0 (k := 0) rfl) rfl ?_
  refine m_getI (d_C_receivePacket_0 (k := 1) rfl) fl_C_61 rfl (fun x1 => ?_)
  refine m_iload_n (d_C_receivePacket_0 (k := 2) rfl) rfl ?_
  refine m_isub (d_C_receivePacket_0 (k := 3) rfl) ?_
  refine m_lt (fun x2 => ?_)
  refine m_ist_n (ls' := [some (.inr t0), some (.inr t1), some (.inl i2), some (.inl x2), none, none, none, none, none]) (d_C_receivePacket_0 (k := 4) rfl) (by decide) rfl ?_
  refine m_aload_n (d_C_receivePacket_0 (k := 5) rfl) rfl ?_
  refine m_iload_n (d_C_receivePacket_0 (k := 6) rfl) rfl ?_
  refine m_iconst (v := 1) (d_C_receivePacket_0 (k := 7) rfl) (by decide) ?_
  refine m_iadd (d_C_receivePacket_0 (k := 8) rfl) ?_
  refine m_cvI (c := 0) (vs := [.inl (i2 + (1 : Int32))]) (st := []) (d_C_receivePacket_0 (k := 9) rfl) (s_B_at t1 (i2 + (1 : Int32)) M) cd_B_at ml_C_68 im_B_at se_B_at rfl (by decide) rfl (Nat.le_of_ble_eq_true rfl) (fun x3 M => ?_)
  refine m_ist (ls' := [some (.inr t0), some (.inr t1), some (.inl i2), some (.inl x2), some (.inl x3), none, none, none, none]) (d_C_receivePacket_0 (k := 10) rfl) (by decide) rfl ?_
  refine m_iload_n (d_C_receivePacket_0 (k := 11) rfl) rfl ?_
  refine m_iconst (v := 4) (d_C_receivePacket_0 (k := 12) rfl) (by decide) ?_
  refine m_icmp_le (tgt := 46) (d_C_receivePacket_0 (k := 13) rfl) rfl ?_ ?_
  · refine m_iload_n (d_C_receivePacket_0 (k := 14) rfl) rfl ?_
    refine m_bipush (v := 16) (d_C_receivePacket_0 (k := 15) rfl) (by decide) ?_
    refine m_icmp_gt (tgt := 46) (d_C_receivePacket_0 (k := 16) rfl) rfl ?_ ?_
    · exact m_drop (mles_s (mles_n (mles_n (mles_n (mles_n (mles_n (mles_n (mles_n (mles_n mles_0))))))))) (v_C_receivePacket_46 t0 M)
    · refine m_aload_n (d_C_receivePacket_0 (k := 17) rfl) rfl ?_
      refine m_iload_n (d_C_receivePacket_0 (k := 18) rfl) rfl ?_
      refine m_cvI (c := 0) (vs := [.inl i2]) (st := []) (d_C_receivePacket_0 (k := 19) rfl) (s_B_at t1 i2 M) cd_B_at ml_C_68 im_B_at se_B_at rfl (by decide) rfl (Nat.le_of_ble_eq_true rfl) (fun x4 M => ?_)
      refine m_csI (vs := [.inl x4]) (st := []) (d_C_receivePacket_0 (k := 20) rfl) (s_C_isStation x4 M) cd_C_isStation ml_C_110 sa_C_isStation (by decide) rfl (Nat.le_of_ble_eq_true rfl) (fun x5 M => ?_)
      refine m_if_eq (tgt := 46) (d_C_receivePacket_0 (k := 21) rfl) rfl ?_ ?_
      · exact m_drop (mles_s (mles_n (mles_n (mles_n (mles_n (mles_n (mles_n (mles_n (mles_n mles_0))))))))) (v_C_receivePacket_46 t0 M)
      · refine m_iload (d_C_receivePacket_0 (k := 22) rfl) rfl ?_
        refine m_csI (vs := [.inl x3]) (st := []) (d_C_receivePacket_0 (k := 23) rfl) (s_C_isStation x3 M) cd_C_isStation ml_C_110 sa_C_isStation (by decide) rfl (Nat.le_of_ble_eq_true rfl) (fun x6 M => ?_)
        refine m_if_ne (tgt := 57) (d_C_receivePacket_0 (k := 24) rfl) rfl ?_ ?_
        · exact m_drop (mles_s (mles_n (mles_n (mles_n (mles_n (mles_n (mles_n (mles_n (mles_n mles_0))))))))) (v_C_receivePacket_46 t0 M)
        · refine m_iload (d_C_receivePacket_0 (k := 32) rfl) rfl ?_
          refine m_aload_n (d_C_receivePacket_0 (k := 33) rfl) rfl ?_
          refine m_getI (d_C_receivePacket_0 (k := 34) rfl) fl_C_368 rfl (fun x7 => ?_)
          refine m_icmp_ne (tgt := 70) (d_C_receivePacket_0 (k := 35) rfl) rfl ?_ ?_
          · refine m_iconst (v := 1) (d_C_receivePacket_0 (k := 36) rfl) (by decide) ?_
            refine m_goto (tgt := 71) (d_C_receivePacket_0 (k := 37) rfl) rfl ?_
            exact m_drop (mles_s (mles_s (mles_s (mles_s (mles_s (mles_n (mles_n (mles_n (mles_n mles_0))))))))) (v_C_receivePacket_71 t0 t1 i2 x2 x3 (1 : Int32) M)
          · refine m_iconst (v := 0) (d_C_receivePacket_0 (k := 38) rfl) (by decide) ?_
            exact m_drop (mles_s (mles_s (mles_s (mles_s (mles_s (mles_n (mles_n (mles_n (mles_n mles_0))))))))) (v_C_receivePacket_71 t0 t1 i2 x2 x3 (0 : Int32) M)
  · exact m_drop (mles_s (mles_n (mles_n (mles_n (mles_n (mles_n (mles_n (mles_n (mles_n mles_0))))))))) (v_C_receivePacket_46 t0 M)
theorem s_C_receivePacket {E : mE} (t0 : Option Nat) (t1 : Option Nat) (i2 : Int32) (M : mM) : mSnd E mi_C_receivePacket 3 [.inr t0, .inr t1, .inl i2] M enU (q_C_receivePacket t0 t1 i2 M) := m_entryU (by decide) (Nat.le_of_ble_eq_true rfl) rfl (m_drop (mles_s (mles_s (mles_s (mles_e (mles_e (mles_e (mles_e (mles_e (mles_e mles_0))))))))) (v_C_receivePacket t0 t1 i2 M))
def dt_C_letter : List (Nat × Instr × Nat) := [(0, .aload_n 0, 1), (1, .iload_n 1, 1), (2, .invokevirtual 106, 3), (5, .astore_n 3, 1), (6, .aload_n 3, 1), (7, .ifnull 37, 3), (10, .iload_n 2, 1), (11, .invokestatic 110, 3), (14, .ifCond .eq 30, 3), (17, .aload_n 0, 1), (18, .getfield 30, 3), (21, .getfield 61, 3), (24, .iconst 1, 1), (25, .if_icmp .lt 19, 3), (28, .aload_n 0, 1), (29, .getfield 30, 3), (32, .getfield 61, 3), (35, .bipush 12, 2), (37, .if_icmp .gt 7, 3), (40, .iconst 1, 1), (41, .goto 4, 3), (44, .iconst 0, 1), (45, .istore 4, 2), (47, .iload 4, 2), (49, .ifCond .eq 14, 3), (52, .aload_n 3, 1), (53, .getfield 204, 3), (56, .sipush 255, 3), (59, .iand, 1), (60, .goto 4, 3), (63, .iconst (-1), 1), (64, .istore 5, 2), (66, .iload 4, 2), (68, .ifCond .eq 82, 3), (71, .aload_n 3, 1), (72, .dup, 1), (73, .getfield 204, 3), (76, .iconst 1, 1), (77, .iadd, 1), (78, .putfield 204, 3), (81, .aload_n 0, 1), (82, .getfield 51, 3), (85, .invokevirtual 76, 3), (88, .aload_n 0, 1), (89, .getfield 51, 3), (92, .iload_n 1, 1), (93, .invokevirtual 207, 3), (96, .aload_n 0, 1), (97, .getfield 51, 3), (100, .iload_n 2, 1), (101, .invokevirtual 207, 3), (104, .aload_n 0, 1), (105, .getfield 51, 3), (108, .bipush 8, 2), (110, .invokevirtual 207, 3), (113, .aload_n 0, 1), (114, .getfield 51, 3), (117, .iload 5, 2), (119, .invokevirtual 207, 3), (122, .aload_n 0, 1), (123, .getfield 51, 3), (126, .aload_n 0, 1), (127, .getfield 30, 3), (130, .iconst 0, 1), (131, .aload_n 0, 1), (132, .getfield 30, 3), (135, .getfield 61, 3), (138, .invokevirtual 134, 3), (141, .aload_n 3, 1), (142, .aload_n 0, 1), (143, .getfield 51, 3), (146, .iconst 0, 1), (147, .invokestatic 210, 3), (150, .aload_n 0, 1), (151, .getfield 30, 3), (154, .invokevirtual 76, 3), (157, .iload 5, 2), (159, .ireturn, 1)]
theorem dx_C_letter : ∀ p ∈ dt_C_letter, decode prog_1_method_14_code p.1 = .ok p.2 := by decide +kernel
theorem d_C_letter {k pc : Nat} {i : Instr} {n : Nat} (h : dt_C_letter[k]? = some (pc, i, n)) : decode mi_C_letter.2.1 pc = .ok (i, n) := dx_C_letter (pc, i, n) (List.mem_of_getElem? h)
def q_C_letter_150 (t0 : Option Nat) (i5 : Int32) (M : mM) : Option (Int32 × mM) :=
    x_gR M 9 t0 1 fun a1 =>
    x_cv M 0 a1 (q_B_clear a1 M) fun _ M =>
    some (i5, M)
set_option maxRecDepth 20000 in
theorem v_C_letter_150 {E : mE} (t0 : Option Nat) (i5 : Int32) (M : mM) : mVr E mi_C_letter 4 150 [some (.inr t0), none, none, none, none, some (.inl i5)] [] M enI (q_C_letter_150 t0 i5 M) := by
  unfold q_C_letter_150
  refine m_aload_n (d_C_letter (k := 73) rfl) rfl ?_
  refine m_getR (d_C_letter (k := 74) rfl) fl_C_30 rfl (fun a1 => ?_)
  refine m_cvU (c := 0) (vs := []) (st := []) (d_C_letter (k := 75) rfl) (s_B_clear a1 M) cd_B_clear ml_C_76 im_B_clear se_B_clear rfl (by decide) rfl (Nat.le_of_ble_eq_true rfl) (fun _ M => ?_)
  refine m_iload (d_C_letter (k := 76) rfl) rfl ?_
  exact m_iret (d_C_letter (k := 77) rfl) rfl
def q_C_letter_64 (t0 : Option Nat) (i1 : Int32) (i2 : Int32) (t3 : Option Nat) (i4 : Int32) (j0 : Int32) (M : mM) : Option (Int32 × mM) :=
    if i4 = 0 then
      q_C_letter_150 t0 j0 M
    else
      x_gI M 8 t3 12 fun x1 =>
      x_pI M 8 t3 12 (x1 + (1 : Int32)) fun M =>
      x_gR M 9 t0 5 fun a2 =>
      x_cv M 0 a2 (q_B_clear a2 M) fun _ M =>
      x_gR M 9 t0 5 fun a3 =>
      x_cv M 0 a3 (q_B_add a3 i1 M) fun _ M =>
      x_gR M 9 t0 5 fun a4 =>
      x_cv M 0 a4 (q_B_add a4 i2 M) fun _ M =>
      x_gR M 9 t0 5 fun a5 =>
      x_cv M 0 a5 (q_B_add a5 (8 : Int32) M) fun _ M =>
      x_gR M 9 t0 5 fun a6 =>
      x_cv M 0 a6 (q_B_add a6 j0 M) fun _ M =>
      x_gR M 9 t0 5 fun a7 =>
      x_gR M 9 t0 1 fun a8 =>
      x_gR M 9 t0 1 fun a9 =>
      x_gI M 0 a9 1 fun x10 =>
      x_cv M 0 a7 (q_B_addFrom a7 a8 (0 : Int32) x10 M) fun _ M =>
      x_gR M 9 t0 5 fun a11 =>
      x_cl (q_C_receivePacket t3 a11 (0 : Int32) M) fun _ M =>
      q_C_letter_150 t0 j0 M
set_option maxRecDepth 20000 in
theorem v_C_letter_64 {E : mE} (t0 : Option Nat) (i1 : Int32) (i2 : Int32) (t3 : Option Nat) (i4 : Int32) (j0 : Int32) (M : mM) : mVr E mi_C_letter 4 64 [some (.inr t0), some (.inl i1), some (.inl i2), some (.inr t3), some (.inl i4), none] [.inl j0] M enI (q_C_letter_64 t0 i1 i2 t3 i4 j0 M) := by
  unfold q_C_letter_64
  refine m_ist (ls' := [some (.inr t0), some (.inl i1), some (.inl i2), some (.inr t3), some (.inl i4), some (.inl j0)]) (d_C_letter (k := 31) rfl) (by decide) rfl ?_
  refine m_iload (d_C_letter (k := 32) rfl) rfl ?_
  refine m_if_eq (tgt := 150) (d_C_letter (k := 33) rfl) rfl ?_ ?_
  · exact m_drop (mles_s (mles_n (mles_n (mles_n (mles_n (mles_s mles_0)))))) (v_C_letter_150 t0 j0 M)
  · refine m_aload_n (d_C_letter (k := 34) rfl) rfl ?_
    refine m_dup (d_C_letter (k := 35) rfl) ?_
    refine m_getI (d_C_letter (k := 36) rfl) fl_C_204 rfl (fun x1 => ?_)
    refine m_iconst (v := 1) (d_C_letter (k := 37) rfl) (by decide) ?_
    refine m_iadd (d_C_letter (k := 38) rfl) ?_
    refine m_pI (d_C_letter (k := 39) rfl) fp_C_204 (fun h => absurd h (by decide)) rfl (fun M => ?_)
    refine m_aload_n (d_C_letter (k := 40) rfl) rfl ?_
    refine m_getR (d_C_letter (k := 41) rfl) fl_C_51 rfl (fun a2 => ?_)
    refine m_cvU (c := 0) (vs := []) (st := []) (d_C_letter (k := 42) rfl) (s_B_clear a2 M) cd_B_clear ml_C_76 im_B_clear se_B_clear rfl (by decide) rfl (Nat.le_of_ble_eq_true rfl) (fun _ M => ?_)
    refine m_aload_n (d_C_letter (k := 43) rfl) rfl ?_
    refine m_getR (d_C_letter (k := 44) rfl) fl_C_51 rfl (fun a3 => ?_)
    refine m_iload_n (d_C_letter (k := 45) rfl) rfl ?_
    refine m_cvU (c := 0) (vs := [.inl i1]) (st := []) (d_C_letter (k := 46) rfl) (s_B_add a3 i1 M) cd_B_add ml_C_207 im_B_add se_B_add rfl (by decide) rfl (Nat.le_of_ble_eq_true rfl) (fun _ M => ?_)
    refine m_aload_n (d_C_letter (k := 47) rfl) rfl ?_
    refine m_getR (d_C_letter (k := 48) rfl) fl_C_51 rfl (fun a4 => ?_)
    refine m_iload_n (d_C_letter (k := 49) rfl) rfl ?_
    refine m_cvU (c := 0) (vs := [.inl i2]) (st := []) (d_C_letter (k := 50) rfl) (s_B_add a4 i2 M) cd_B_add ml_C_207 im_B_add se_B_add rfl (by decide) rfl (Nat.le_of_ble_eq_true rfl) (fun _ M => ?_)
    refine m_aload_n (d_C_letter (k := 51) rfl) rfl ?_
    refine m_getR (d_C_letter (k := 52) rfl) fl_C_51 rfl (fun a5 => ?_)
    refine m_bipush (v := 8) (d_C_letter (k := 53) rfl) (by decide) ?_
    refine m_cvU (c := 0) (vs := [.inl (8 : Int32)]) (st := []) (d_C_letter (k := 54) rfl) (s_B_add a5 (8 : Int32) M) cd_B_add ml_C_207 im_B_add se_B_add rfl (by decide) rfl (Nat.le_of_ble_eq_true rfl) (fun _ M => ?_)
    refine m_aload_n (d_C_letter (k := 55) rfl) rfl ?_
    refine m_getR (d_C_letter (k := 56) rfl) fl_C_51 rfl (fun a6 => ?_)
    refine m_iload (d_C_letter (k := 57) rfl) rfl ?_
    refine m_cvU (c := 0) (vs := [.inl j0]) (st := []) (d_C_letter (k := 58) rfl) (s_B_add a6 j0 M) cd_B_add ml_C_207 im_B_add se_B_add rfl (by decide) rfl (Nat.le_of_ble_eq_true rfl) (fun _ M => ?_)
    refine m_aload_n (d_C_letter (k := 59) rfl) rfl ?_
    refine m_getR (d_C_letter (k := 60) rfl) fl_C_51 rfl (fun a7 => ?_)
    refine m_aload_n (d_C_letter (k := 61) rfl) rfl ?_
    refine m_getR (d_C_letter (k := 62) rfl) fl_C_30 rfl (fun a8 => ?_)
    refine m_iconst (v := 0) (d_C_letter (k := 63) rfl) (by decide) ?_
    refine m_aload_n (d_C_letter (k := 64) rfl) rfl ?_
    refine m_getR (d_C_letter (k := 65) rfl) fl_C_30 rfl (fun a9 => ?_)
    refine m_getI (d_C_letter (k := 66) rfl) fl_C_61 rfl (fun x10 => ?_)
    refine m_cvU (c := 0) (vs := [.inr a8, .inl (0 : Int32), .inl x10]) (st := []) (d_C_letter (k := 67) rfl) (s_B_addFrom a7 a8 (0 : Int32) x10 M) cd_B_addFrom ml_C_134 im_B_addFrom se_B_addFrom rfl (by decide) rfl (Nat.le_of_ble_eq_true rfl) (fun _ M => ?_)
    refine m_aload_n (d_C_letter (k := 68) rfl) rfl ?_
    refine m_aload_n (d_C_letter (k := 69) rfl) rfl ?_
    refine m_getR (d_C_letter (k := 70) rfl) fl_C_51 rfl (fun a11 => ?_)
    refine m_iconst (v := 0) (d_C_letter (k := 71) rfl) (by decide) ?_
    refine m_csU (vs := [.inr t3, .inr a11, .inl (0 : Int32)]) (st := []) (d_C_letter (k := 72) rfl) (s_C_receivePacket t3 a11 (0 : Int32) M) cd_C_receivePacket ml_C_210 sa_C_receivePacket (by decide) rfl (Nat.le_of_ble_eq_true rfl) (fun _ M => ?_)
    exact m_drop (mles_s (mles_n (mles_n (mles_n (mles_n (mles_s mles_0)))))) (v_C_letter_150 t0 j0 M)
def q_C_letter_45 (t0 : Option Nat) (i1 : Int32) (i2 : Int32) (t3 : Option Nat) (j0 : Int32) (M : mM) : Option (Int32 × mM) :=
    if j0 = 0 then
      q_C_letter_64 t0 i1 i2 t3 j0 (-1 : Int32) M
    else
      x_gI M 8 t3 12 fun x1 =>
      q_C_letter_64 t0 i1 i2 t3 j0 (x1 &&& (255 : Int32)) M
set_option maxRecDepth 20000 in
theorem v_C_letter_45 {E : mE} (t0 : Option Nat) (i1 : Int32) (i2 : Int32) (t3 : Option Nat) (j0 : Int32) (M : mM) : mVr E mi_C_letter 4 45 [some (.inr t0), some (.inl i1), some (.inl i2), some (.inr t3), none, none] [.inl j0] M enI (q_C_letter_45 t0 i1 i2 t3 j0 M) := by
  unfold q_C_letter_45
  refine m_ist (ls' := [some (.inr t0), some (.inl i1), some (.inl i2), some (.inr t3), some (.inl j0), none]) (d_C_letter (k := 22) rfl) (by decide) rfl ?_
  refine m_iload (d_C_letter (k := 23) rfl) rfl ?_
  refine m_if_eq (tgt := 63) (d_C_letter (k := 24) rfl) rfl ?_ ?_
  · refine m_iconst (v := (-1)) (d_C_letter (k := 30) rfl) (by decide) ?_
    exact m_drop (mles_s (mles_s (mles_s (mles_s (mles_s (mles_n mles_0)))))) (v_C_letter_64 t0 i1 i2 t3 j0 (-1 : Int32) M)
  · refine m_aload_n (d_C_letter (k := 25) rfl) rfl ?_
    refine m_getI (d_C_letter (k := 26) rfl) fl_C_204 rfl (fun x1 => ?_)
    refine m_sipush (v := 255) (d_C_letter (k := 27) rfl) (by decide) ?_
    refine m_iand (d_C_letter (k := 28) rfl) ?_
    refine m_goto (tgt := 64) (d_C_letter (k := 29) rfl) rfl ?_
    exact m_drop (mles_s (mles_s (mles_s (mles_s (mles_s (mles_n mles_0)))))) (v_C_letter_64 t0 i1 i2 t3 j0 (x1 &&& (255 : Int32)) M)
def q_C_letter_44 (t0 : Option Nat) (i1 : Int32) (i2 : Int32) (t3 : Option Nat) (M : mM) : Option (Int32 × mM) :=
    q_C_letter_45 t0 i1 i2 t3 (0 : Int32) M
set_option maxRecDepth 20000 in
theorem v_C_letter_44 {E : mE} (t0 : Option Nat) (i1 : Int32) (i2 : Int32) (t3 : Option Nat) (M : mM) : mVr E mi_C_letter 4 44 [some (.inr t0), some (.inl i1), some (.inl i2), some (.inr t3), none, none] [] M enI (q_C_letter_44 t0 i1 i2 t3 M) := by
  unfold q_C_letter_44
  refine m_iconst (v := 0) (d_C_letter (k := 21) rfl) (by decide) ?_
  exact m_drop (mles_s (mles_s (mles_s (mles_s (mles_n (mles_n mles_0)))))) (v_C_letter_45 t0 i1 i2 t3 (0 : Int32) M)
def q_C_letter (t0 : Option Nat) (i1 : Int32) (i2 : Int32) (M : mM) : Option (Int32 × mM) :=
    x_cv M 9 t0 (q_C_stationAt t0 i1 M) fun a1 M =>
    x_nl a1 (
      q_C_letter_44 t0 i1 i2 a1 M
    ) (
      x_cl (q_C_isStation i2 M) fun x2 M =>
      if x2 = 0 then
        q_C_letter_44 t0 i1 i2 a1 M
      else
        x_gR M 9 t0 1 fun a3 =>
        x_gI M 0 a3 1 fun x4 =>
        if x4 < (1 : Int32) then
          q_C_letter_44 t0 i1 i2 a1 M
        else
          x_gR M 9 t0 1 fun a5 =>
          x_gI M 0 a5 1 fun x6 =>
          if (12 : Int32) < x6 then
            q_C_letter_44 t0 i1 i2 a1 M
          else
            q_C_letter_45 t0 i1 i2 a1 (1 : Int32) M
    )
set_option maxRecDepth 20000 in
theorem v_C_letter {E : mE} (t0 : Option Nat) (i1 : Int32) (i2 : Int32) (M : mM) : mVr E mi_C_letter 4 0 [some (.inr t0), some (.inl i1), some (.inl i2), none, none, none] [] M enI (q_C_letter t0 i1 i2 M) := by
  unfold q_C_letter
  refine m_aload_n (d_C_letter (k := 0) rfl) rfl ?_
  refine m_iload_n (d_C_letter (k := 1) rfl) rfl ?_
  refine m_cvR (c := 9) (vs := [.inl i1]) (st := []) (d_C_letter (k := 2) rfl) (s_C_stationAt t0 i1 M) cd_C_stationAt ml_C_106 im_C_stationAt se_C_stationAt rfl (by decide) rfl (Nat.le_of_ble_eq_true rfl) (fun a1 M => ?_)
  refine m_ast_n (ls' := [some (.inr t0), some (.inl i1), some (.inl i2), some (.inr a1), none, none]) (d_C_letter (k := 3) rfl) (by decide) rfl ?_
  refine m_aload_n (d_C_letter (k := 4) rfl) rfl ?_
  refine m_ifnull (tgt := 44) (d_C_letter (k := 5) rfl) rfl ?_ ?_
  · exact m_drop (mles_s (mles_s (mles_s (mles_s (mles_n (mles_n mles_0)))))) (v_C_letter_44 t0 i1 i2 a1 M)
  · refine m_iload_n (d_C_letter (k := 6) rfl) rfl ?_
    refine m_csI (vs := [.inl i2]) (st := []) (d_C_letter (k := 7) rfl) (s_C_isStation i2 M) cd_C_isStation ml_C_110 sa_C_isStation (by decide) rfl (Nat.le_of_ble_eq_true rfl) (fun x2 M => ?_)
    refine m_if_eq (tgt := 44) (d_C_letter (k := 8) rfl) rfl ?_ ?_
    · exact m_drop (mles_s (mles_s (mles_s (mles_s (mles_n (mles_n mles_0)))))) (v_C_letter_44 t0 i1 i2 a1 M)
    · refine m_aload_n (d_C_letter (k := 9) rfl) rfl ?_
      refine m_getR (d_C_letter (k := 10) rfl) fl_C_30 rfl (fun a3 => ?_)
      refine m_getI (d_C_letter (k := 11) rfl) fl_C_61 rfl (fun x4 => ?_)
      refine m_iconst (v := 1) (d_C_letter (k := 12) rfl) (by decide) ?_
      refine m_icmp_lt (tgt := 44) (d_C_letter (k := 13) rfl) rfl ?_ ?_
      · exact m_drop (mles_s (mles_s (mles_s (mles_s (mles_n (mles_n mles_0)))))) (v_C_letter_44 t0 i1 i2 a1 M)
      · refine m_aload_n (d_C_letter (k := 14) rfl) rfl ?_
        refine m_getR (d_C_letter (k := 15) rfl) fl_C_30 rfl (fun a5 => ?_)
        refine m_getI (d_C_letter (k := 16) rfl) fl_C_61 rfl (fun x6 => ?_)
        refine m_bipush (v := 12) (d_C_letter (k := 17) rfl) (by decide) ?_
        refine m_icmp_gt (tgt := 44) (d_C_letter (k := 18) rfl) rfl ?_ ?_
        · exact m_drop (mles_s (mles_s (mles_s (mles_s (mles_n (mles_n mles_0)))))) (v_C_letter_44 t0 i1 i2 a1 M)
        · refine m_iconst (v := 1) (d_C_letter (k := 19) rfl) (by decide) ?_
          refine m_goto (tgt := 45) (d_C_letter (k := 20) rfl) rfl ?_
          exact m_drop (mles_s (mles_s (mles_s (mles_s (mles_n (mles_n mles_0)))))) (v_C_letter_45 t0 i1 i2 a1 (1 : Int32) M)
theorem s_C_letter {E : mE} (t0 : Option Nat) (i1 : Int32) (i2 : Int32) (M : mM) : mSnd E mi_C_letter 4 [.inr t0, .inl i1, .inl i2] M enI (q_C_letter t0 i1 i2 M) := m_entryI (by decide) (Nat.le_of_ble_eq_true rfl) rfl (m_drop (mles_s (mles_s (mles_s (mles_e (mles_e (mles_e mles_0)))))) (v_C_letter t0 i1 i2 M))
def dt_C_link : List (Nat × Instr × Nat) := [(0, .aload_n 0, 1), (1, .iload_n 1, 1), (2, .iload_n 2, 1), (3, .invokevirtual 137, 3), (6, .astore 4, 2), (8, .aload 4, 2), (10, .ifnonnull 5, 3), (13, .iconst (-1), 1), (14, .ireturn, 1), (15, .iload_n 3, 1), (16, .tableswitch 221 0 15 #[80, 86, 92, 98, 104, 110, 116, 130, 144, 158, 167, 176, 185, 194, 203, 212], 80), (96, .aload 4, 2), (98, .getfield 141, 3), (101, .ireturn, 1), (102, .aload 4, 2), (104, .getfield 288, 3), (107, .ireturn, 1), (108, .aload 4, 2), (110, .getfield 291, 3), (113, .ireturn, 1), (114, .aload 4, 2), (116, .getfield 294, 3), (119, .ireturn, 1), (120, .aload 4, 2), (122, .getfield 173, 3), (125, .ireturn, 1), (126, .aload 4, 2), (128, .getfield 166, 3), (131, .ireturn, 1), (132, .aload 4, 2), (134, .getfield 297, 3), (137, .ifCond .eq 7, 3), (140, .iconst 1, 1), (141, .goto 4, 3), (144, .iconst 0, 1), (145, .ireturn, 1), (146, .aload 4, 2), (148, .getfield 300, 3), (151, .ifCond .eq 7, 3), (154, .iconst 1, 1), (155, .goto 4, 3), (158, .iconst 0, 1), (159, .ireturn, 1), (160, .aload 4, 2), (162, .getfield 303, 3), (165, .ifCond .eq 7, 3), (168, .iconst 1, 1), (169, .goto 4, 3), (172, .iconst 0, 1), (173, .ireturn, 1), (174, .aload 4, 2), (176, .getfield 306, 3), (179, .getfield 61, 3), (182, .ireturn, 1), (183, .aload 4, 2), (185, .getfield 188, 3), (188, .getfield 61, 3), (191, .ireturn, 1), (192, .aload 4, 2), (194, .getfield 309, 3), (197, .getfield 264, 3), (200, .ireturn, 1), (201, .aload 4, 2), (203, .getfield 312, 3), (206, .getfield 264, 3), (209, .ireturn, 1), (210, .aload 4, 2), (212, .getfield 148, 3), (215, .getfield 315, 3), (218, .ireturn, 1), (219, .aload 4, 2), (221, .getfield 148, 3), (224, .getfield 152, 3), (227, .ireturn, 1), (228, .aload 4, 2), (230, .getfield 148, 3), (233, .getfield 157, 3), (236, .ireturn, 1), (237, .iconst (-1), 1), (238, .ireturn, 1)]
theorem dx_C_link : ∀ p ∈ dt_C_link, decode prog_1_method_20_code p.1 = .ok p.2 := by decide +kernel
theorem d_C_link {k pc : Nat} {i : Instr} {n : Nat} (h : dt_C_link[k]? = some (pc, i, n)) : decode mi_C_link.2.1 pc = .ok (i, n) := dx_C_link (pc, i, n) (List.mem_of_getElem? h)
def q_C_link (t0 : Option Nat) (i1 : Int32) (i2 : Int32) (i3 : Int32) (M : mM) : Option (Int32 × mM) :=
    x_cv M 9 t0 (q_C_linkAt t0 i1 i2 M) fun a1 M =>
    x_nl a1 (
      some ((-1 : Int32), M)
    ) (
      x_sw i3 [
        ((0 : Int32), (
          x_gI M 2 a1 7 fun x2 =>
          some (x2, M)
        )),
        ((1 : Int32), (
          x_gI M 2 a1 8 fun x3 =>
          some (x3, M)
        )),
        ((2 : Int32), (
          x_gI M 2 a1 9 fun x4 =>
          some (x4, M)
        )),
        ((3 : Int32), (
          x_gI M 2 a1 10 fun x5 =>
          some (x5, M)
        )),
        ((4 : Int32), (
          x_gI M 2 a1 11 fun x6 =>
          some (x6, M)
        )),
        ((5 : Int32), (
          x_gI M 2 a1 12 fun x7 =>
          some (x7, M)
        )),
        ((6 : Int32), (
          x_gI M 2 a1 13 fun x8 =>
          if x8 = 0 then
            some ((0 : Int32), M)
          else
            some ((1 : Int32), M)
        )),
        ((7 : Int32), (
          x_gI M 2 a1 14 fun x9 =>
          if x9 = 0 then
            some ((0 : Int32), M)
          else
            some ((1 : Int32), M)
        )),
        ((8 : Int32), (
          x_gI M 2 a1 15 fun x10 =>
          if x10 = 0 then
            some ((0 : Int32), M)
          else
            some ((1 : Int32), M)
        )),
        ((9 : Int32), (
          x_gR M 2 a1 3 fun a11 =>
          x_gI M 0 a11 1 fun x12 =>
          some (x12, M)
        )),
        ((10 : Int32), (
          x_gR M 2 a1 4 fun a13 =>
          x_gI M 0 a13 1 fun x14 =>
          some (x14, M)
        )),
        ((11 : Int32), (
          x_gR M 2 a1 5 fun a15 =>
          x_gI M 6 a15 2 fun x16 =>
          some (x16, M)
        )),
        ((12 : Int32), (
          x_gR M 2 a1 6 fun a17 =>
          x_gI M 6 a17 2 fun x18 =>
          some (x18, M)
        )),
        ((13 : Int32), (
          x_gR M 2 a1 2 fun a19 =>
          x_gI M 3 a19 3 fun x20 =>
          some (x20, M)
        )),
        ((14 : Int32), (
          x_gR M 2 a1 2 fun a21 =>
          x_gI M 3 a21 1 fun x22 =>
          some (x22, M)
        )),
        ((15 : Int32), (
          x_gR M 2 a1 2 fun a23 =>
          x_gI M 3 a23 2 fun x24 =>
          some (x24, M)
        ))
      ] (
        some ((-1 : Int32), M)
      )
    )
set_option maxRecDepth 20000 in
theorem v_C_link {E : mE} (t0 : Option Nat) (i1 : Int32) (i2 : Int32) (i3 : Int32) (M : mM) : mVr E mi_C_link 3 0 [some (.inr t0), some (.inl i1), some (.inl i2), some (.inl i3), none] [] M enI (q_C_link t0 i1 i2 i3 M) := by
  unfold q_C_link
  refine m_aload_n (d_C_link (k := 0) rfl) rfl ?_
  refine m_iload_n (d_C_link (k := 1) rfl) rfl ?_
  refine m_iload_n (d_C_link (k := 2) rfl) rfl ?_
  refine m_cvR (c := 9) (vs := [.inl i1, .inl i2]) (st := []) (d_C_link (k := 3) rfl) (s_C_linkAt t0 i1 i2 M) cd_C_linkAt ml_C_137 im_C_linkAt se_C_linkAt rfl (by decide) rfl (Nat.le_of_ble_eq_true rfl) (fun a1 M => ?_)
  refine m_ast (ls' := [some (.inr t0), some (.inl i1), some (.inl i2), some (.inl i3), some (.inr a1)]) (d_C_link (k := 4) rfl) (by decide) rfl ?_
  refine m_aload (d_C_link (k := 5) rfl) rfl ?_
  refine m_ifnonnull (tgt := 15) (d_C_link (k := 6) rfl) rfl ?_ ?_
  · refine m_iconst (v := (-1)) (d_C_link (k := 7) rfl) (by decide) ?_
    exact m_iret (d_C_link (k := 8) rfl) rfl
  · refine m_iload_n (d_C_link (k := 9) rfl) rfl ?_
    refine m_sw ?_ (fun hx => ?_)
    ·
      refine List.forall_mem_cons.mpr ⟨?_, ?_⟩
      · dsimp only
        refine m_tin (x := (0 : Int32)) (tgt := 96) (d_C_link (k := 10) rfl) (by decide) (by decide) rfl rfl ?_
        refine m_aload (d_C_link (k := 11) rfl) rfl ?_
        refine m_getI (d_C_link (k := 12) rfl) fl_C_141 rfl (fun x2 => ?_)
        exact m_iret (d_C_link (k := 13) rfl) rfl
      refine List.forall_mem_cons.mpr ⟨?_, ?_⟩
      · dsimp only
        refine m_tin (x := (1 : Int32)) (tgt := 102) (d_C_link (k := 10) rfl) (by decide) (by decide) rfl rfl ?_
        refine m_aload (d_C_link (k := 14) rfl) rfl ?_
        refine m_getI (d_C_link (k := 15) rfl) fl_C_288 rfl (fun x3 => ?_)
        exact m_iret (d_C_link (k := 16) rfl) rfl
      refine List.forall_mem_cons.mpr ⟨?_, ?_⟩
      · dsimp only
        refine m_tin (x := (2 : Int32)) (tgt := 108) (d_C_link (k := 10) rfl) (by decide) (by decide) rfl rfl ?_
        refine m_aload (d_C_link (k := 17) rfl) rfl ?_
        refine m_getI (d_C_link (k := 18) rfl) fl_C_291 rfl (fun x4 => ?_)
        exact m_iret (d_C_link (k := 19) rfl) rfl
      refine List.forall_mem_cons.mpr ⟨?_, ?_⟩
      · dsimp only
        refine m_tin (x := (3 : Int32)) (tgt := 114) (d_C_link (k := 10) rfl) (by decide) (by decide) rfl rfl ?_
        refine m_aload (d_C_link (k := 20) rfl) rfl ?_
        refine m_getI (d_C_link (k := 21) rfl) fl_C_294 rfl (fun x5 => ?_)
        exact m_iret (d_C_link (k := 22) rfl) rfl
      refine List.forall_mem_cons.mpr ⟨?_, ?_⟩
      · dsimp only
        refine m_tin (x := (4 : Int32)) (tgt := 120) (d_C_link (k := 10) rfl) (by decide) (by decide) rfl rfl ?_
        refine m_aload (d_C_link (k := 23) rfl) rfl ?_
        refine m_getI (d_C_link (k := 24) rfl) fl_C_173 rfl (fun x6 => ?_)
        exact m_iret (d_C_link (k := 25) rfl) rfl
      refine List.forall_mem_cons.mpr ⟨?_, ?_⟩
      · dsimp only
        refine m_tin (x := (5 : Int32)) (tgt := 126) (d_C_link (k := 10) rfl) (by decide) (by decide) rfl rfl ?_
        refine m_aload (d_C_link (k := 26) rfl) rfl ?_
        refine m_getI (d_C_link (k := 27) rfl) fl_C_166 rfl (fun x7 => ?_)
        exact m_iret (d_C_link (k := 28) rfl) rfl
      refine List.forall_mem_cons.mpr ⟨?_, ?_⟩
      · dsimp only
        refine m_tin (x := (6 : Int32)) (tgt := 132) (d_C_link (k := 10) rfl) (by decide) (by decide) rfl rfl ?_
        refine m_aload (d_C_link (k := 29) rfl) rfl ?_
        refine m_getI (d_C_link (k := 30) rfl) fl_C_297 rfl (fun x8 => ?_)
        refine m_if_eq (tgt := 144) (d_C_link (k := 31) rfl) rfl ?_ ?_
        · refine m_iconst (v := 0) (d_C_link (k := 34) rfl) (by decide) ?_
          exact m_iret (d_C_link (k := 35) rfl) rfl
        · refine m_iconst (v := 1) (d_C_link (k := 32) rfl) (by decide) ?_
          refine m_goto (tgt := 145) (d_C_link (k := 33) rfl) rfl ?_
          exact m_iret (d_C_link (k := 35) rfl) rfl
      refine List.forall_mem_cons.mpr ⟨?_, ?_⟩
      · dsimp only
        refine m_tin (x := (7 : Int32)) (tgt := 146) (d_C_link (k := 10) rfl) (by decide) (by decide) rfl rfl ?_
        refine m_aload (d_C_link (k := 36) rfl) rfl ?_
        refine m_getI (d_C_link (k := 37) rfl) fl_C_300 rfl (fun x9 => ?_)
        refine m_if_eq (tgt := 158) (d_C_link (k := 38) rfl) rfl ?_ ?_
        · refine m_iconst (v := 0) (d_C_link (k := 41) rfl) (by decide) ?_
          exact m_iret (d_C_link (k := 42) rfl) rfl
        · refine m_iconst (v := 1) (d_C_link (k := 39) rfl) (by decide) ?_
          refine m_goto (tgt := 159) (d_C_link (k := 40) rfl) rfl ?_
          exact m_iret (d_C_link (k := 42) rfl) rfl
      refine List.forall_mem_cons.mpr ⟨?_, ?_⟩
      · dsimp only
        refine m_tin (x := (8 : Int32)) (tgt := 160) (d_C_link (k := 10) rfl) (by decide) (by decide) rfl rfl ?_
        refine m_aload (d_C_link (k := 43) rfl) rfl ?_
        refine m_getI (d_C_link (k := 44) rfl) fl_C_303 rfl (fun x10 => ?_)
        refine m_if_eq (tgt := 172) (d_C_link (k := 45) rfl) rfl ?_ ?_
        · refine m_iconst (v := 0) (d_C_link (k := 48) rfl) (by decide) ?_
          exact m_iret (d_C_link (k := 49) rfl) rfl
        · refine m_iconst (v := 1) (d_C_link (k := 46) rfl) (by decide) ?_
          refine m_goto (tgt := 173) (d_C_link (k := 47) rfl) rfl ?_
          exact m_iret (d_C_link (k := 49) rfl) rfl
      refine List.forall_mem_cons.mpr ⟨?_, ?_⟩
      · dsimp only
        refine m_tin (x := (9 : Int32)) (tgt := 174) (d_C_link (k := 10) rfl) (by decide) (by decide) rfl rfl ?_
        refine m_aload (d_C_link (k := 50) rfl) rfl ?_
        refine m_getR (d_C_link (k := 51) rfl) fl_C_306 rfl (fun a11 => ?_)
        refine m_getI (d_C_link (k := 52) rfl) fl_C_61 rfl (fun x12 => ?_)
        exact m_iret (d_C_link (k := 53) rfl) rfl
      refine List.forall_mem_cons.mpr ⟨?_, ?_⟩
      · dsimp only
        refine m_tin (x := (10 : Int32)) (tgt := 183) (d_C_link (k := 10) rfl) (by decide) (by decide) rfl rfl ?_
        refine m_aload (d_C_link (k := 54) rfl) rfl ?_
        refine m_getR (d_C_link (k := 55) rfl) fl_C_188 rfl (fun a13 => ?_)
        refine m_getI (d_C_link (k := 56) rfl) fl_C_61 rfl (fun x14 => ?_)
        exact m_iret (d_C_link (k := 57) rfl) rfl
      refine List.forall_mem_cons.mpr ⟨?_, ?_⟩
      · dsimp only
        refine m_tin (x := (11 : Int32)) (tgt := 192) (d_C_link (k := 10) rfl) (by decide) (by decide) rfl rfl ?_
        refine m_aload (d_C_link (k := 58) rfl) rfl ?_
        refine m_getR (d_C_link (k := 59) rfl) fl_C_309 rfl (fun a15 => ?_)
        refine m_getI (d_C_link (k := 60) rfl) fl_C_264 rfl (fun x16 => ?_)
        exact m_iret (d_C_link (k := 61) rfl) rfl
      refine List.forall_mem_cons.mpr ⟨?_, ?_⟩
      · dsimp only
        refine m_tin (x := (12 : Int32)) (tgt := 201) (d_C_link (k := 10) rfl) (by decide) (by decide) rfl rfl ?_
        refine m_aload (d_C_link (k := 62) rfl) rfl ?_
        refine m_getR (d_C_link (k := 63) rfl) fl_C_312 rfl (fun a17 => ?_)
        refine m_getI (d_C_link (k := 64) rfl) fl_C_264 rfl (fun x18 => ?_)
        exact m_iret (d_C_link (k := 65) rfl) rfl
      refine List.forall_mem_cons.mpr ⟨?_, ?_⟩
      · dsimp only
        refine m_tin (x := (13 : Int32)) (tgt := 210) (d_C_link (k := 10) rfl) (by decide) (by decide) rfl rfl ?_
        refine m_aload (d_C_link (k := 66) rfl) rfl ?_
        refine m_getR (d_C_link (k := 67) rfl) fl_C_148 rfl (fun a19 => ?_)
        refine m_getI (d_C_link (k := 68) rfl) fl_C_315 rfl (fun x20 => ?_)
        exact m_iret (d_C_link (k := 69) rfl) rfl
      refine List.forall_mem_cons.mpr ⟨?_, ?_⟩
      · dsimp only
        refine m_tin (x := (14 : Int32)) (tgt := 219) (d_C_link (k := 10) rfl) (by decide) (by decide) rfl rfl ?_
        refine m_aload (d_C_link (k := 70) rfl) rfl ?_
        refine m_getR (d_C_link (k := 71) rfl) fl_C_148 rfl (fun a21 => ?_)
        refine m_getI (d_C_link (k := 72) rfl) fl_C_152 rfl (fun x22 => ?_)
        exact m_iret (d_C_link (k := 73) rfl) rfl
      refine List.forall_mem_cons.mpr ⟨?_, ?_⟩
      · dsimp only
        refine m_tin (x := (15 : Int32)) (tgt := 228) (d_C_link (k := 10) rfl) (by decide) (by decide) rfl rfl ?_
        refine m_aload (d_C_link (k := 74) rfl) rfl ?_
        refine m_getR (d_C_link (k := 75) rfl) fl_C_148 rfl (fun a23 => ?_)
        refine m_getI (d_C_link (k := 76) rfl) fl_C_157 rfl (fun x24 => ?_)
        exact m_iret (d_C_link (k := 77) rfl) rfl
      exact fun _ h => absurd h List.not_mem_nil
    · refine m_tout (ks := [0, 1, 2, 3, 4, 5, 6, 7, 8, 9, 10, 11, 12, 13, 14, 15]) (tgt := 237) (d_C_link (k := 10) rfl) (m_ks hx) (by decide) rfl ?_
      refine m_iconst (v := (-1)) (d_C_link (k := 78) rfl) (by decide) ?_
      exact m_iret (d_C_link (k := 79) rfl) rfl
theorem s_C_link {E : mE} (t0 : Option Nat) (i1 : Int32) (i2 : Int32) (i3 : Int32) (M : mM) : mSnd E mi_C_link 3 [.inr t0, .inl i1, .inl i2, .inl i3] M enI (q_C_link t0 i1 i2 i3 M) := m_entryI (by decide) (Nat.le_of_ble_eq_true rfl) rfl (m_drop (mles_s (mles_s (mles_s (mles_s (mles_e mles_0))))) (v_C_link t0 i1 i2 i3 M))
def dt_C_out : List (Nat × Instr × Nat) := [(0, .aload_n 0, 1), (1, .getfield 34, 3), (4, .iload_n 1, 1), (5, .invokevirtual 68, 3), (8, .ireturn, 1)]
theorem dx_C_out : ∀ p ∈ dt_C_out, decode prog_1_method_4_code p.1 = .ok p.2 := by decide +kernel
theorem d_C_out {k pc : Nat} {i : Instr} {n : Nat} (h : dt_C_out[k]? = some (pc, i, n)) : decode mi_C_out.2.1 pc = .ok (i, n) := dx_C_out (pc, i, n) (List.mem_of_getElem? h)
def q_C_out (t0 : Option Nat) (i1 : Int32) (M : mM) : Option (Int32 × mM) :=
    x_gR M 9 t0 2 fun a1 =>
    x_cv M 0 a1 (q_B_at a1 i1 M) fun x2 M =>
    some (x2, M)
set_option maxRecDepth 20000 in
theorem v_C_out {E : mE} (t0 : Option Nat) (i1 : Int32) (M : mM) : mVr E mi_C_out 1 0 [some (.inr t0), some (.inl i1)] [] M enI (q_C_out t0 i1 M) := by
  unfold q_C_out
  refine m_aload_n (d_C_out (k := 0) rfl) rfl ?_
  refine m_getR (d_C_out (k := 1) rfl) fl_C_34 rfl (fun a1 => ?_)
  refine m_iload_n (d_C_out (k := 2) rfl) rfl ?_
  refine m_cvI (c := 0) (vs := [.inl i1]) (st := []) (d_C_out (k := 3) rfl) (s_B_at a1 i1 M) cd_B_at ml_C_68 im_B_at se_B_at rfl (by decide) rfl (Nat.le_of_ble_eq_true rfl) (fun x2 M => ?_)
  exact m_iret (d_C_out (k := 4) rfl) rfl
theorem s_C_out {E : mE} (t0 : Option Nat) (i1 : Int32) (M : mM) : mSnd E mi_C_out 1 [.inr t0, .inl i1] M enI (q_C_out t0 i1 M) := m_entryI (by decide) (Nat.le_of_ble_eq_true rfl) rfl (m_drop (mles_s (mles_s mles_0)) (v_C_out t0 i1 M))
def dt_W_rowAt : List (Nat × Instr × Nat) := [(0, .iload_n 1, 1), (1, .ifCond .lt 31, 3), (4, .iload_n 1, 1), (5, .aload_n 0, 1), (6, .getfield 24, 3), (9, .if_icmp .ge 23, 3), (12, .aload_n 0, 1), (13, .getfield 15, 3), (16, .aload_n 0, 1), (17, .getfield 28, 3), (20, .iload_n 1, 1), (21, .iadd, 1), (22, .aload_n 0, 1), (23, .getfield 15, 3), (26, .arraylength, 1), (27, .irem, 1), (28, .aaload, 1), (29, .goto 4, 3), (32, .aconst_null, 1), (33, .areturn, 1)]
theorem dx_W_rowAt : ∀ p ∈ dt_W_rowAt, decode prog_8_method_3_code p.1 = .ok p.2 := by decide +kernel
theorem d_W_rowAt {k pc : Nat} {i : Instr} {n : Nat} (h : dt_W_rowAt[k]? = some (pc, i, n)) : decode mi_W_rowAt.2.1 pc = .ok (i, n) := dx_W_rowAt (pc, i, n) (List.mem_of_getElem? h)
def q_W_rowAt (t0 : Option Nat) (i1 : Int32) (M : mM) : Option (Option Nat × mM) :=
    if i1 < 0 then
      some (none, M)
    else
      x_gI M 6 t0 2 fun x1 =>
      if i1 < x1 then
        x_gR M 6 t0 0 fun a2 =>
        x_gI M 6 t0 1 fun x3 =>
        x_gR M 6 t0 0 fun a4 =>
        x_al M 2 a4 fun x5 =>
        x_rm (x3 + i1) x5 fun x6 =>
        x_aR M 0 a2 x6 fun a7 =>
        some (a7, M)
      else
        some (none, M)
set_option maxRecDepth 20000 in
theorem v_W_rowAt {E : mE} (t0 : Option Nat) (i1 : Int32) (M : mM) : mVr E mi_W_rowAt 0 0 [some (.inr t0), some (.inl i1)] [] M enR (q_W_rowAt t0 i1 M) := by
  unfold q_W_rowAt
  refine m_iload_n (d_W_rowAt (k := 0) rfl) rfl ?_
  refine m_if_lt (tgt := 32) (d_W_rowAt (k := 1) rfl) rfl ?_ ?_
  · refine m_null (d_W_rowAt (k := 18) rfl) ?_
    exact m_aret (d_W_rowAt (k := 19) rfl) rfl
  · refine m_iload_n (d_W_rowAt (k := 2) rfl) rfl ?_
    refine m_aload_n (d_W_rowAt (k := 3) rfl) rfl ?_
    refine m_getI (d_W_rowAt (k := 4) rfl) fl_W_24 rfl (fun x1 => ?_)
    refine m_icmp_ge (tgt := 32) (d_W_rowAt (k := 5) rfl) rfl ?_ ?_
    · refine m_aload_n (d_W_rowAt (k := 6) rfl) rfl ?_
      refine m_getR (d_W_rowAt (k := 7) rfl) fl_W_15 rfl (fun a2 => ?_)
      refine m_aload_n (d_W_rowAt (k := 8) rfl) rfl ?_
      refine m_getI (d_W_rowAt (k := 9) rfl) fl_W_28 rfl (fun x3 => ?_)
      refine m_iload_n (d_W_rowAt (k := 10) rfl) rfl ?_
      refine m_iadd (d_W_rowAt (k := 11) rfl) ?_
      refine m_aload_n (d_W_rowAt (k := 12) rfl) rfl ?_
      refine m_getR (d_W_rowAt (k := 13) rfl) fl_W_15 rfl (fun a4 => ?_)
      refine m_alen (t := 2) (d_W_rowAt (k := 14) rfl) rfl (fun x5 => ?_)
      refine m_irem (d_W_rowAt (k := 15) rfl) (fun x6 => ?_)
      refine m_aald (t := 0) (d_W_rowAt (k := 16) rfl) rfl (fun a7 => ?_)
      refine m_goto (tgt := 33) (d_W_rowAt (k := 17) rfl) rfl ?_
      exact m_aret (d_W_rowAt (k := 19) rfl) rfl
    · refine m_null (d_W_rowAt (k := 18) rfl) ?_
      exact m_aret (d_W_rowAt (k := 19) rfl) rfl
theorem s_W_rowAt {E : mE} (t0 : Option Nat) (i1 : Int32) (M : mM) : mSnd E mi_W_rowAt 0 [.inr t0, .inl i1] M enR (q_W_rowAt t0 i1 M) := m_entryR (by decide) (Nat.le_of_ble_eq_true rfl) rfl (m_drop (mles_s (mles_s mles_0)) (v_W_rowAt t0 i1 M))
def dt_C_queued : List (Nat × Instr × Nat) := [(0, .aload_n 0, 1), (1, .iload_n 1, 1), (2, .invokevirtual 106, 3), (5, .astore 4, 2), (7, .aload 4, 2), (9, .ifnonnull 7, 3), (12, .aconst_null, 1), (13, .goto 12, 3), (16, .aload 4, 2), (18, .getfield 124, 3), (21, .iload_n 2, 1), (22, .invokevirtual 217, 3), (25, .astore 5, 2), (27, .aload 5, 2), (29, .ifnonnull 7, 3), (32, .iconst (-1), 1), (33, .goto 9, 3), (36, .aload 5, 2), (38, .iload_n 3, 1), (39, .invokevirtual 68, 3), (42, .ireturn, 1)]
theorem dx_C_queued : ∀ p ∈ dt_C_queued, decode prog_1_method_23_code p.1 = .ok p.2 := by decide +kernel
theorem d_C_queued {k pc : Nat} {i : Instr} {n : Nat} (h : dt_C_queued[k]? = some (pc, i, n)) : decode mi_C_queued.2.1 pc = .ok (i, n) := dx_C_queued (pc, i, n) (List.mem_of_getElem? h)
def q_C_queued_25 (i3 : Int32) (u0 : Option Nat) (M : mM) : Option (Int32 × mM) :=
    x_nl u0 (
      some ((-1 : Int32), M)
    ) (
      x_cv M 0 u0 (q_B_at u0 i3 M) fun x1 M =>
      some (x1, M)
    )
set_option maxRecDepth 20000 in
theorem v_C_queued_25 {E : mE} (i3 : Int32) (u0 : Option Nat) (M : mM) : mVr E mi_C_queued 2 25 [none, none, none, some (.inl i3), none, none] [.inr u0] M enI (q_C_queued_25 i3 u0 M) := by
  unfold q_C_queued_25
  refine m_ast (ls' := [none, none, none, some (.inl i3), none, some (.inr u0)]) (d_C_queued (k := 12) rfl) (by decide) rfl ?_
  refine m_aload (d_C_queued (k := 13) rfl) rfl ?_
  refine m_ifnonnull (tgt := 36) (d_C_queued (k := 14) rfl) rfl ?_ ?_
  · refine m_iconst (v := (-1)) (d_C_queued (k := 15) rfl) (by decide) ?_
    refine m_goto (tgt := 42) (d_C_queued (k := 16) rfl) rfl ?_
    exact m_iret (d_C_queued (k := 20) rfl) rfl
  · refine m_aload (d_C_queued (k := 17) rfl) rfl ?_
    refine m_iload_n (d_C_queued (k := 18) rfl) rfl ?_
    refine m_cvI (c := 0) (vs := [.inl i3]) (st := []) (d_C_queued (k := 19) rfl) (s_B_at u0 i3 M) cd_B_at ml_C_68 im_B_at se_B_at rfl (by decide) rfl (Nat.le_of_ble_eq_true rfl) (fun x1 M => ?_)
    exact m_iret (d_C_queued (k := 20) rfl) rfl
def q_C_queued (t0 : Option Nat) (i1 : Int32) (i2 : Int32) (i3 : Int32) (M : mM) : Option (Int32 × mM) :=
    x_cv M 9 t0 (q_C_stationAt t0 i1 M) fun a1 M =>
    x_nl a1 (
      q_C_queued_25 i3 none M
    ) (
      x_gR M 8 a1 4 fun a2 =>
      x_cv M 6 a2 (q_W_rowAt a2 i2 M) fun a3 M =>
      q_C_queued_25 i3 a3 M
    )
set_option maxRecDepth 20000 in
theorem v_C_queued {E : mE} (t0 : Option Nat) (i1 : Int32) (i2 : Int32) (i3 : Int32) (M : mM) : mVr E mi_C_queued 2 0 [some (.inr t0), some (.inl i1), some (.inl i2), some (.inl i3), none, none] [] M enI (q_C_queued t0 i1 i2 i3 M) := by
  unfold q_C_queued
  refine m_aload_n (d_C_queued (k := 0) rfl) rfl ?_
  refine m_iload_n (d_C_queued (k := 1) rfl) rfl ?_
  refine m_cvR (c := 9) (vs := [.inl i1]) (st := []) (d_C_queued (k := 2) rfl) (s_C_stationAt t0 i1 M) cd_C_stationAt ml_C_106 im_C_stationAt se_C_stationAt rfl (by decide) rfl (Nat.le_of_ble_eq_true rfl) (fun a1 M => ?_)
  refine m_ast (ls' := [some (.inr t0), some (.inl i1), some (.inl i2), some (.inl i3), some (.inr a1), none]) (d_C_queued (k := 3) rfl) (by decide) rfl ?_
  refine m_aload (d_C_queued (k := 4) rfl) rfl ?_
  refine m_ifnonnull (tgt := 16) (d_C_queued (k := 5) rfl) rfl ?_ ?_
  · refine m_null (d_C_queued (k := 6) rfl) ?_
    refine m_goto (tgt := 25) (d_C_queued (k := 7) rfl) rfl ?_
    exact m_drop (mles_n (mles_n (mles_n (mles_s (mles_n (mles_n mles_0)))))) (v_C_queued_25 i3 none M)
  · refine m_aload (d_C_queued (k := 8) rfl) rfl ?_
    refine m_getR (d_C_queued (k := 9) rfl) fl_C_124 rfl (fun a2 => ?_)
    refine m_iload_n (d_C_queued (k := 10) rfl) rfl ?_
    refine m_cvR (c := 6) (vs := [.inl i2]) (st := []) (d_C_queued (k := 11) rfl) (s_W_rowAt a2 i2 M) cd_W_rowAt ml_C_217 im_W_rowAt se_W_rowAt rfl (by decide) rfl (Nat.le_of_ble_eq_true rfl) (fun a3 M => ?_)
    exact m_drop (mles_n (mles_n (mles_n (mles_s (mles_n (mles_n mles_0)))))) (v_C_queued_25 i3 a3 M)
theorem s_C_queued {E : mE} (t0 : Option Nat) (i1 : Int32) (i2 : Int32) (i3 : Int32) (M : mM) : mSnd E mi_C_queued 2 [.inr t0, .inl i1, .inl i2, .inl i3] M enI (q_C_queued t0 i1 i2 i3 M) := m_entryI (by decide) (Nat.le_of_ble_eq_true rfl) rfl (m_drop (mles_s (mles_s (mles_s (mles_s (mles_e (mles_e mles_0)))))) (v_C_queued t0 i1 i2 i3 M))
def dt_C_raw : List (Nat × Instr × Nat) := [(0, .aload_n 0, 1), (1, .iload_n 1, 1), (2, .invokevirtual 106, 3), (5, .astore_n 2, 1), (6, .aload_n 2, 1), (7, .ifnull 23, 3), (10, .aload_n 0, 1), (11, .getfield 30, 3), (14, .invokestatic 72, 3), (17, .ifCond .eq 13, 3), (20, .aload_n 2, 1), (21, .getfield 124, 3), (24, .invokevirtual 128, 3), (27, .goto 4, 3), (30, .aconst_null, 1), (31, .astore_n 3, 1), (32, .aload_n 3, 1), (33, .ifnull 19, 3), (36, .aload_n 3, 1), (37, .aload_n 0, 1), (38, .getfield 30, 3), (41, .iconst 0, 1), (42, .aload_n 0, 1), (43, .getfield 30, 3), (46, .getfield 61, 3), (49, .invokevirtual 134, 3), (52, .aload_n 0, 1), (53, .getfield 30, 3), (56, .invokevirtual 76, 3), (59, .aload_n 3, 1), (60, .ifnull 7, 3), (63, .iconst 1, 1), (64, .goto 4, 3), (67, .iconst 0, 1), (68, .ireturn, 1)]
theorem dx_C_raw : ∀ p ∈ dt_C_raw, decode prog_1_method_9_code p.1 = .ok p.2 := by decide +kernel
theorem d_C_raw {k pc : Nat} {i : Instr} {n : Nat} (h : dt_C_raw[k]? = some (pc, i, n)) : decode mi_C_raw.2.1 pc = .ok (i, n) := dx_C_raw (pc, i, n) (List.mem_of_getElem? h)
def q_C_raw_52 (t0 : Option Nat) (t3 : Option Nat) (M : mM) : Option (Int32 × mM) :=
    x_gR M 9 t0 1 fun a1 =>
    x_cv M 0 a1 (q_B_clear a1 M) fun _ M =>
    x_nl t3 (
      x_rz (0 : Int32) M
    ) (
      x_rz (1 : Int32) M
    )
set_option maxRecDepth 20000 in
theorem v_C_raw_52 {E : mE} (t0 : Option Nat) (t3 : Option Nat) (M : mM) : mVr E mi_C_raw 3 52 [some (.inr t0), none, none, some (.inr t3)] [] M enI (q_C_raw_52 t0 t3 M) := by
  unfold q_C_raw_52
  refine m_aload_n (d_C_raw (k := 26) rfl) rfl ?_
  refine m_getR (d_C_raw (k := 27) rfl) fl_C_30 rfl (fun a1 => ?_)
  refine m_cvU (c := 0) (vs := []) (st := []) (d_C_raw (k := 28) rfl) (s_B_clear a1 M) cd_B_clear ml_C_76 im_B_clear se_B_clear rfl (by decide) rfl (Nat.le_of_ble_eq_true rfl) (fun _ M => ?_)
  refine m_aload_n (d_C_raw (k := 29) rfl) rfl ?_
  refine m_ifnull (tgt := 67) (d_C_raw (k := 30) rfl) rfl ?_ ?_
  · refine m_iconst (v := 0) (d_C_raw (k := 33) rfl) (by decide) ?_
    exact m_zret (d_C_raw (k := 34) rfl) rfl
  · refine m_iconst (v := 1) (d_C_raw (k := 31) rfl) (by decide) ?_
    refine m_goto (tgt := 68) (d_C_raw (k := 32) rfl) rfl ?_
    exact m_zret (d_C_raw (k := 34) rfl) rfl
def q_C_raw_31 (t0 : Option Nat) (u0 : Option Nat) (M : mM) : Option (Int32 × mM) :=
    x_nl u0 (
      q_C_raw_52 t0 u0 M
    ) (
      x_gR M 9 t0 1 fun a1 =>
      x_gR M 9 t0 1 fun a2 =>
      x_gI M 0 a2 1 fun x3 =>
      x_cv M 0 u0 (q_B_addFrom u0 a1 (0 : Int32) x3 M) fun _ M =>
      q_C_raw_52 t0 u0 M
    )
set_option maxRecDepth 20000 in
theorem v_C_raw_31 {E : mE} (t0 : Option Nat) (u0 : Option Nat) (M : mM) : mVr E mi_C_raw 3 31 [some (.inr t0), none, none, none] [.inr u0] M enI (q_C_raw_31 t0 u0 M) := by
  unfold q_C_raw_31
  refine m_ast_n (ls' := [some (.inr t0), none, none, some (.inr u0)]) (d_C_raw (k := 15) rfl) (by decide) rfl ?_
  refine m_aload_n (d_C_raw (k := 16) rfl) rfl ?_
  refine m_ifnull (tgt := 52) (d_C_raw (k := 17) rfl) rfl ?_ ?_
  · exact m_drop (mles_s (mles_n (mles_n (mles_s mles_0)))) (v_C_raw_52 t0 u0 M)
  · refine m_aload_n (d_C_raw (k := 18) rfl) rfl ?_
    refine m_aload_n (d_C_raw (k := 19) rfl) rfl ?_
    refine m_getR (d_C_raw (k := 20) rfl) fl_C_30 rfl (fun a1 => ?_)
    refine m_iconst (v := 0) (d_C_raw (k := 21) rfl) (by decide) ?_
    refine m_aload_n (d_C_raw (k := 22) rfl) rfl ?_
    refine m_getR (d_C_raw (k := 23) rfl) fl_C_30 rfl (fun a2 => ?_)
    refine m_getI (d_C_raw (k := 24) rfl) fl_C_61 rfl (fun x3 => ?_)
    refine m_cvU (c := 0) (vs := [.inr a1, .inl (0 : Int32), .inl x3]) (st := []) (d_C_raw (k := 25) rfl) (s_B_addFrom u0 a1 (0 : Int32) x3 M) cd_B_addFrom ml_C_134 im_B_addFrom se_B_addFrom rfl (by decide) rfl (Nat.le_of_ble_eq_true rfl) (fun _ M => ?_)
    exact m_drop (mles_s (mles_n (mles_n (mles_s mles_0)))) (v_C_raw_52 t0 u0 M)
def q_C_raw_30 (t0 : Option Nat) (M : mM) : Option (Int32 × mM) :=
    q_C_raw_31 t0 none M
set_option maxRecDepth 20000 in
theorem v_C_raw_30 {E : mE} (t0 : Option Nat) (M : mM) : mVr E mi_C_raw 3 30 [some (.inr t0), none, none, none] [] M enI (q_C_raw_30 t0 M) := by
  unfold q_C_raw_30
  refine m_null (d_C_raw (k := 14) rfl) ?_
  exact m_drop (mles_s (mles_n (mles_n (mles_n mles_0)))) (v_C_raw_31 t0 none M)
def q_C_raw (t0 : Option Nat) (i1 : Int32) (M : mM) : Option (Int32 × mM) :=
    x_cv M 9 t0 (q_C_stationAt t0 i1 M) fun a1 M =>
    x_nl a1 (
      q_C_raw_30 t0 M
    ) (
      x_gR M 9 t0 1 fun a2 =>
      x_cl (q_C_isFrame a2 M) fun x3 M =>
      if x3 = 0 then
        q_C_raw_30 t0 M
      else
        x_gR M 8 a1 4 fun a4 =>
        x_cv M 6 a4 (q_W_addRow a4 M) fun a5 M =>
        q_C_raw_31 t0 a5 M
    )
set_option maxRecDepth 20000 in
theorem v_C_raw {E : mE} (t0 : Option Nat) (i1 : Int32) (M : mM) : mVr E mi_C_raw 3 0 [some (.inr t0), some (.inl i1), none, none] [] M enI (q_C_raw t0 i1 M) := by
  unfold q_C_raw
  refine m_aload_n (d_C_raw (k := 0) rfl) rfl ?_
  refine m_iload_n (d_C_raw (k := 1) rfl) rfl ?_
  refine m_cvR (c := 9) (vs := [.inl i1]) (st := []) (d_C_raw (k := 2) rfl) (s_C_stationAt t0 i1 M) cd_C_stationAt ml_C_106 im_C_stationAt se_C_stationAt rfl (by decide) rfl (Nat.le_of_ble_eq_true rfl) (fun a1 M => ?_)
  refine m_ast_n (ls' := [some (.inr t0), some (.inl i1), some (.inr a1), none]) (d_C_raw (k := 3) rfl) (by decide) rfl ?_
  refine m_aload_n (d_C_raw (k := 4) rfl) rfl ?_
  refine m_ifnull (tgt := 30) (d_C_raw (k := 5) rfl) rfl ?_ ?_
  · exact m_drop (mles_s (mles_n (mles_n (mles_n mles_0)))) (v_C_raw_30 t0 M)
  · refine m_aload_n (d_C_raw (k := 6) rfl) rfl ?_
    refine m_getR (d_C_raw (k := 7) rfl) fl_C_30 rfl (fun a2 => ?_)
    refine m_csI (vs := [.inr a2]) (st := []) (d_C_raw (k := 8) rfl) (s_C_isFrame a2 M) cd_C_isFrame ml_C_72 sa_C_isFrame (by decide) rfl (Nat.le_of_ble_eq_true rfl) (fun x3 M => ?_)
    refine m_if_eq (tgt := 30) (d_C_raw (k := 9) rfl) rfl ?_ ?_
    · exact m_drop (mles_s (mles_n (mles_n (mles_n mles_0)))) (v_C_raw_30 t0 M)
    · refine m_aload_n (d_C_raw (k := 10) rfl) rfl ?_
      refine m_getR (d_C_raw (k := 11) rfl) fl_C_124 rfl (fun a4 => ?_)
      refine m_cvR (c := 6) (vs := []) (st := []) (d_C_raw (k := 12) rfl) (s_W_addRow a4 M) cd_W_addRow ml_C_128 im_W_addRow se_W_addRow rfl (by decide) rfl (Nat.le_of_ble_eq_true rfl) (fun a5 M => ?_)
      refine m_goto (tgt := 31) (d_C_raw (k := 13) rfl) rfl ?_
      exact m_drop (mles_s (mles_n (mles_n (mles_n mles_0)))) (v_C_raw_31 t0 a5 M)
theorem s_C_raw {E : mE} (t0 : Option Nat) (i1 : Int32) (M : mM) : mSnd E mi_C_raw 3 [.inr t0, .inl i1] M enI (q_C_raw t0 i1 M) := m_entryZ (by decide) (Nat.le_of_ble_eq_true rfl) rfl (m_drop (mles_s (mles_s (mles_e (mles_e mles_0)))) (v_C_raw t0 i1 M))
def dt_B_dropFirst : List (Nat × Instr × Nat) := [(0, .iconst 0, 1), (1, .iload_n 1, 1), (2, .aload_n 0, 1), (3, .getfield 21, 3), (6, .invokestatic 35, 3), (9, .invokestatic 9, 3), (12, .istore_n 2, 1), (13, .aload_n 0, 1), (14, .getfield 15, 3), (17, .iload_n 2, 1), (18, .aload_n 0, 1), (19, .getfield 15, 3), (22, .iconst 0, 1), (23, .aload_n 0, 1), (24, .getfield 21, 3), (27, .iload_n 2, 1), (28, .isub, 1), (29, .invokestatic 29, 3), (32, .aload_n 0, 1), (33, .dup, 1), (34, .getfield 21, 3), (37, .iload_n 2, 1), (38, .isub, 1), (39, .putfield 21, 3), (42, .return_, 1)]
theorem dx_B_dropFirst : ∀ p ∈ dt_B_dropFirst, decode prog_2_method_9_code p.1 = .ok p.2 := by decide +kernel
theorem d_B_dropFirst {k pc : Nat} {i : Instr} {n : Nat} (h : dt_B_dropFirst[k]? = some (pc, i, n)) : decode mi_B_dropFirst.2.1 pc = .ok (i, n) := dx_B_dropFirst (pc, i, n) (List.mem_of_getElem? h)
def q_B_dropFirst (t0 : Option Nat) (i1 : Int32) (M : mM) : Option (Unit × mM) :=
    x_gI M 0 t0 1 fun x1 =>
    x_lt (if (0 : Int32) < (if x1 < i1 then x1 else i1) then (if x1 < i1 then x1 else i1) else (0 : Int32)) fun x2 =>
    x_gR M 0 t0 0 fun a3 =>
    x_gR M 0 t0 0 fun a4 =>
    x_gI M 0 t0 1 fun x5 =>
    x_cp M a3 x2 a4 (0 : Int32) (x5 - x2) fun M =>
    x_gI M 0 t0 1 fun x6 =>
    x_pI M 0 t0 1 (x6 - x2) fun M =>
    some ((), M)
set_option maxRecDepth 20000 in
theorem v_B_dropFirst {E : mE} (t0 : Option Nat) (i1 : Int32) (M : mM) : mVr E mi_B_dropFirst 2 0 [some (.inr t0), some (.inl i1), none] [] M enU (q_B_dropFirst t0 i1 M) := by
  unfold q_B_dropFirst
  refine m_iconst (v := 0) (d_B_dropFirst (k := 0) rfl) (by decide) ?_
  refine m_iload_n (d_B_dropFirst (k := 1) rfl) rfl ?_
  refine m_aload_n (d_B_dropFirst (k := 2) rfl) rfl ?_
  refine m_getI (d_B_dropFirst (k := 3) rfl) fl_B_21 rfl (fun x1 => ?_)
  refine m_min (d_B_dropFirst (k := 4) rfl) mm_B_35 ms_min mi_math mc_min (Nat.le_of_ble_eq_true rfl) ?_
  refine m_max (d_B_dropFirst (k := 5) rfl) mm_B_9 ms_max mi_math mc_max (Nat.le_of_ble_eq_true rfl) ?_
  refine m_lt (fun x2 => ?_)
  refine m_ist_n (ls' := [some (.inr t0), some (.inl i1), some (.inl x2)]) (d_B_dropFirst (k := 6) rfl) (by decide) rfl ?_
  refine m_aload_n (d_B_dropFirst (k := 7) rfl) rfl ?_
  refine m_getR (d_B_dropFirst (k := 8) rfl) fl_B_15 rfl (fun a3 => ?_)
  refine m_iload_n (d_B_dropFirst (k := 9) rfl) rfl ?_
  refine m_aload_n (d_B_dropFirst (k := 10) rfl) rfl ?_
  refine m_getR (d_B_dropFirst (k := 11) rfl) fl_B_15 rfl (fun a4 => ?_)
  refine m_iconst (v := 0) (d_B_dropFirst (k := 12) rfl) (by decide) ?_
  refine m_aload_n (d_B_dropFirst (k := 13) rfl) rfl ?_
  refine m_getI (d_B_dropFirst (k := 14) rfl) fl_B_21 rfl (fun x5 => ?_)
  refine m_iload_n (d_B_dropFirst (k := 15) rfl) rfl ?_
  refine m_isub (d_B_dropFirst (k := 16) rfl) ?_
  refine m_copy (d_B_dropFirst (k := 17) rfl) ma_B_29 an_1 an_2 an_3 (Nat.le_of_ble_eq_true rfl) (fun M => ?_)
  refine m_aload_n (d_B_dropFirst (k := 18) rfl) rfl ?_
  refine m_dup (d_B_dropFirst (k := 19) rfl) ?_
  refine m_getI (d_B_dropFirst (k := 20) rfl) fl_B_21 rfl (fun x6 => ?_)
  refine m_iload_n (d_B_dropFirst (k := 21) rfl) rfl ?_
  refine m_isub (d_B_dropFirst (k := 22) rfl) ?_
  refine m_pI (d_B_dropFirst (k := 23) rfl) fp_B_21 (fun h => absurd h (by decide)) rfl (fun M => ?_)
  exact m_vret (d_B_dropFirst (k := 24) rfl) rfl
theorem s_B_dropFirst {E : mE} (t0 : Option Nat) (i1 : Int32) (M : mM) : mSnd E mi_B_dropFirst 2 [.inr t0, .inl i1] M enU (q_B_dropFirst t0 i1 M) := m_entryU (by decide) (Nat.le_of_ble_eq_true rfl) rfl (m_drop (mles_s (mles_s (mles_e mles_0))) (v_B_dropFirst t0 i1 M))
def dt_C_putOut : List (Nat × Instr × Nat) := [(0, .aload_n 0, 1), (1, .getfield 34, 3), (4, .invokevirtual 76, 3), (7, .aload_n 0, 1), (8, .getfield 34, 3), (11, .aload_n 1, 1), (12, .iload_n 2, 1), (13, .iload_n 3, 1), (14, .invokevirtual 134, 3), (17, .return_, 1)]
theorem dx_C_putOut : ∀ p ∈ dt_C_putOut, decode prog_1_method_30_code p.1 = .ok p.2 := by decide +kernel
theorem d_C_putOut {k pc : Nat} {i : Instr} {n : Nat} (h : dt_C_putOut[k]? = some (pc, i, n)) : decode mi_C_putOut.2.1 pc = .ok (i, n) := dx_C_putOut (pc, i, n) (List.mem_of_getElem? h)
def q_C_putOut (t0 : Option Nat) (t1 : Option Nat) (i2 : Int32) (i3 : Int32) (M : mM) : Option (Unit × mM) :=
    x_gR M 9 t0 2 fun a1 =>
    x_cv M 0 a1 (q_B_clear a1 M) fun _ M =>
    x_gR M 9 t0 2 fun a2 =>
    x_cv M 0 a2 (q_B_addFrom a2 t1 i2 i3 M) fun _ M =>
    some ((), M)
set_option maxRecDepth 20000 in
theorem v_C_putOut {E : mE} (t0 : Option Nat) (t1 : Option Nat) (i2 : Int32) (i3 : Int32) (M : mM) : mVr E mi_C_putOut 3 0 [some (.inr t0), some (.inr t1), some (.inl i2), some (.inl i3)] [] M enU (q_C_putOut t0 t1 i2 i3 M) := by
  unfold q_C_putOut
  refine m_aload_n (d_C_putOut (k := 0) rfl) rfl ?_
  refine m_getR (d_C_putOut (k := 1) rfl) fl_C_34 rfl (fun a1 => ?_)
  refine m_cvU (c := 0) (vs := []) (st := []) (d_C_putOut (k := 2) rfl) (s_B_clear a1 M) cd_B_clear ml_C_76 im_B_clear se_B_clear rfl (by decide) rfl (Nat.le_of_ble_eq_true rfl) (fun _ M => ?_)
  refine m_aload_n (d_C_putOut (k := 3) rfl) rfl ?_
  refine m_getR (d_C_putOut (k := 4) rfl) fl_C_34 rfl (fun a2 => ?_)
  refine m_aload_n (d_C_putOut (k := 5) rfl) rfl ?_
  refine m_iload_n (d_C_putOut (k := 6) rfl) rfl ?_
  refine m_iload_n (d_C_putOut (k := 7) rfl) rfl ?_
  refine m_cvU (c := 0) (vs := [.inr t1, .inl i2, .inl i3]) (st := []) (d_C_putOut (k := 8) rfl) (s_B_addFrom a2 t1 i2 i3 M) cd_B_addFrom ml_C_134 im_B_addFrom se_B_addFrom rfl (by decide) rfl (Nat.le_of_ble_eq_true rfl) (fun _ M => ?_)
  exact m_vret (d_C_putOut (k := 9) rfl) rfl
theorem s_C_putOut {E : mE} (t0 : Option Nat) (t1 : Option Nat) (i2 : Int32) (i3 : Int32) (M : mM) : mSnd E mi_C_putOut 3 [.inr t0, .inr t1, .inl i2, .inl i3] M enU (q_C_putOut t0 t1 i2 i3 M) := m_entryU (by decide) (Nat.le_of_ble_eq_true rfl) rfl (m_drop (mles_s (mles_s (mles_s (mles_s mles_0)))) (v_C_putOut t0 t1 i2 i3 M))
