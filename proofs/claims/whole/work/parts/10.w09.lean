/-! X12_remember -/
abbrev wvX12_remember : List Cond := Cond.code yX12_remember cX12_remember 1 none :: wsL_law
theorem cd_X12_remember : okN yX12_remember RX12 0 := by unfold okN; decide +kernel
def b_X12_remember_35   (Q : wS → Prop)  (σ : wS) : Prop := w_X12_copyRow 188 191 (0 : Int32) ((202 : Int32) * ((((σ.1 176 23) + (σ.1 176 24)) - (1 : Int32)) - (((σ.1 176 23) + (σ.1 176 24)) - (1 : Int32)) / (40 : Int32) * (40 : Int32))) σ (fun s1 => Q s1)
set_option maxRecDepth 100000 in
set_option maxHeartbeats 4000000 in
theorem wb_X12_remember_35 {X : XT} {Q : wS → Prop}  (F : Fx X cX12_remember 1 RX12 wvX12_remember 1 24) (hret : Rv X 1 cX12_remember Q)     (σ : wS) (h : b_X12_remember_35   Q  σ) : Wx X 1 σ 35 [(0, .ref (ad X 176))] [] := by
  unfold b_X12_remember_35 at h
  refine x_aload_n F dX12_remember_35 rfl 0 rfl ?_
  refine g_12_19 F kz_176 in_12 (mc bw_7_18) dX12_remember_36 ?_
  refine x_iconst (0 : Int32) F dX12_remember_39 (by decide) ?_
  refine x_aload_n F dX12_remember_40 rfl 0 rfl ?_
  refine g_12_22 F kz_176 in_12 (mc bw_7_21) dX12_remember_41 ?_
  refine x_sipush (202 : Int32) F dX12_remember_44 (by decide) ?_
  refine x_aload_n F dX12_remember_47 rfl 0 rfl ?_
  refine g_12_23 F kz_176 in_12 (mc bw_37_23) dX12_remember_48 ?_
  refine x_aload_n F dX12_remember_51 rfl 0 rfl ?_
  refine g_12_24 F kz_176 in_12 (mc bw_22_19) dX12_remember_52 ?_
  refine x_iadd F dX12_remember_55 ?_
  refine x_iconst (1 : Int32) F dX12_remember_56 (by decide) ?_
  refine x_isub F dX12_remember_57 ?_
  refine x_bipush (40 : Int32) F dX12_remember_58 (by decide) ?_
  refine x_irem F dX12_remember_60 (by decide) ?_
  refine x_imul F dX12_remember_61 ?_
  refine x_callT_v F (c_X12_copyRow (xl X) (xg X) (xA X) F.2.2.1 kz_188 kz_191 h) (bw_S bw_25_14 bw_25_15 bw_1_5 bw_25_16) rfl cd_X12_copyRow (Nat.le_of_ble_eq_true rfl) (Nat.le_of_ble_eq_true rfl) rfl rfl (Nat.le_of_ble_eq_true rfl) dX12_remember_62 (fun s1 h => ?_)
  exact hret _ _ _ h dX12_remember_65
def w_X12_remember   (σ : wS) (Q : wS → Prop) : Prop := (¬ (σ.1 176 24) = (40 : Int32) → (∀ s1 : wS, s1 = upI σ 176 24 ((σ.1 176 24) + (1 : Int32)) → (b_X12_remember_35   Q  s1))) ∧ ((σ.1 176 24) = (40 : Int32) → (∀ s2 : wS, s2 = upI σ 176 23 (((σ.1 176 23) + (1 : Int32)) - ((σ.1 176 23) + (1 : Int32)) / (40 : Int32) * (40 : Int32)) → (b_X12_remember_35   Q  s2)))
set_option maxRecDepth 100000 in
set_option maxHeartbeats 4000000 in
theorem c_X12_remember (l : Launch) (g : wG) (A : Nat → Prop) (hA : adO g A)    {σ : wS} {Q : wS → Prop} (h : w_X12_remember   σ Q) : Mv l yX12_remember wvX12_remember 1 24 g A [.ref (g.2.2 176)] σ Q := by
  refine mt_v (own := RX12) (lv := [(0, .ref (g.2.2 176))]) (by decide) rfl rfl hA (Nat.le_of_ble_eq_true rfl) rfl ?_
  intro X hl hg hAA F hret
  subst hl hg hAA
  unfold w_X12_remember at h
  refine x_aload_n F dX12_remember_0 rfl 0 rfl ?_
  refine g_12_24 F kz_176 in_12 (mc bw_22_19) dX12_remember_1 ?_
  refine x_bipush (40 : Int32) F dX12_remember_4 (by decide) ?_
  refine x_icmp_ne (tgt := 25) F dX12_remember_6 (by decide) (fun c => ?_) (fun c => ?_)
  · replace h := h.1 c
    refine x_aload_n F dX12_remember_25 rfl 0 rfl ?_
    refine x_dup F dX12_remember_26 rfl ?_
    refine g_12_24 F kz_176 in_12 (mc bw_22_19) dX12_remember_27 ?_
    refine x_iconst (1 : Int32) F dX12_remember_30 (by decide) ?_
    refine x_iadd F dX12_remember_31 ?_
    refine q_12_24 F kz_176 in_12 (mc bw_22_19) dX12_remember_32 ?_
    refine x_nmS (fun s1 es1 => ?_)
    replace h := h s1 es1
    refine x_sub (lv' := [(0, .ref (ad X 176))]) [0] rfl ?_
    exact wb_X12_remember_35 F hret    _ h
  · replace h := h.2 c
    refine x_aload_n F dX12_remember_9 rfl 0 rfl ?_
    refine x_aload_n F dX12_remember_10 rfl 0 rfl ?_
    refine g_12_23 F kz_176 in_12 (mc bw_37_23) dX12_remember_11 ?_
    refine x_iconst (1 : Int32) F dX12_remember_14 (by decide) ?_
    refine x_iadd F dX12_remember_15 ?_
    refine x_bipush (40 : Int32) F dX12_remember_16 (by decide) ?_
    refine x_irem F dX12_remember_18 (by decide) ?_
    refine q_12_23 F kz_176 in_12 (mc bw_37_23) dX12_remember_19 ?_
    refine x_nmS (fun s2 es2 => ?_)
    replace h := h s2 es2
    refine x_goto (tgt := 35) F dX12_remember_22 (by decide) ?_
    refine x_sub (lv' := [(0, .ref (ad X 176))]) [0] rfl ?_
    exact wb_X12_remember_35 F hret    _ h
/-! X12_blames -/
abbrev wvX12_blames : List Cond := Cond.code yX12_blames cX12_blames 3 none :: wsL_law
theorem cd_X12_blames : okN yX12_blames RX12 2 := by unfold okN; decide +kernel
def b_X12_blames_27   (Q : wS → Prop) (x1 : Int32) (σ : wS) : Prop := w_X12_causes x1 σ (fun s1 => vp_in x1 5 ∧ (vp_in x1 5 ∧ (∀ s3 : wS, s3 = upI s1 185 (x1).toNatClampNeg ((s1.1 185 (x1).toNatClampNeg) + (1 : Int32)) → (Q s3))))
set_option maxRecDepth 100000 in
set_option maxHeartbeats 4000000 in
theorem wb_X12_blames_27 {X : XT} {Q : wS → Prop}  (F : Fx X cX12_blames 3 RX12 wvX12_blames 1 21) (hret : Rv X 3 cX12_blames Q)    (x1 : Int32) (σ : wS) (h : b_X12_blames_27   Q x1 σ) : Wx X 3 σ 27 [(0, .ref (ad X 176)), (1, .int x1)] [] := by
  unfold b_X12_blames_27 at h
  refine x_aload_n F dX12_blames_27 rfl 0 rfl ?_
  refine x_iload_n F dX12_blames_28 rfl 1 rfl ?_
  refine x_callV_v F (c_X12_causes (xl X) (xg X) (xA X) F.2.2.1  h) (bw_V bw_37_15 bw_37_16 bw_37_17 bw_1_5 bw_37_18) rfl cd_X12_causes (Nat.le_of_ble_eq_true rfl) (Nat.le_of_ble_eq_true rfl) (kd_w (by decide) kz_176) rfl (cl_12 kz_176) rfl rfl (Nat.le_of_ble_eq_true rfl) dX12_blames_29 (fun s1 h => ?_)
  refine x_aload_n F dX12_blames_32 rfl 0 rfl ?_
  refine g_12_12 F kz_176 in_12 (mc bw_7_15) dX12_blames_33 ?_
  refine x_iload_n F dX12_blames_36 rfl 1 rfl ?_
  refine x_dup2_11 F dX12_blames_37 rfl rfl ?_
  obtain ⟨hj, h⟩ := h
  refine x_iald F kz_185 nz_185 hj dX12_blames_38 ?_
  refine x_iconst (1 : Int32) F dX12_blames_39 (by decide) ?_
  refine x_iadd F dX12_blames_40 ?_
  obtain ⟨hz, h⟩ := h
  refine x_iast F kz_185 nz_185 hz dX12_blames_41 ?_
  refine x_nmS (fun s3 es3 => ?_)
  replace h := h s3 es3
  exact hret _ _ _ h dX12_blames_42
def w_X12_blames  (p0 : Int32) (p1 : Int32) (σ : wS) (Q : wS → Prop) : Prop := w_X12_causes ((100 : Int32) + p1) σ (fun s1 => ((s1.1 176 35) = 0 → (b_X12_blames_27   Q p0 s1)) ∧ (¬ (s1.1 176 35) = 0 → (w_X12_causes ((200 : Int32) + (s1.1 176 32)) s1 (fun s3 => b_X12_blames_27   Q p0 s3))))
set_option maxRecDepth 100000 in
set_option maxHeartbeats 4000000 in
theorem c_X12_blames (l : Launch) (g : wG) (A : Nat → Prop) (hA : adO g A)   {p0 : Int32} {p1 : Int32} {σ : wS} {Q : wS → Prop} (h : w_X12_blames  p0 p1 σ Q) : Mv l yX12_blames wvX12_blames 1 21 g A [.ref (g.2.2 176), .int p0, .int p1] σ Q := by
  refine mt_v (own := RX12) (lv := [(0, .ref (g.2.2 176)), (1, .int p0), (2, .int p1)]) (by decide) rfl rfl hA (Nat.le_of_ble_eq_true rfl) rfl ?_
  intro X hl hg hAA F hret
  subst hl hg hAA
  unfold w_X12_blames at h
  refine x_aload_n F dX12_blames_0 rfl 0 rfl ?_
  refine x_bipush (100 : Int32) F dX12_blames_1 (by decide) ?_
  refine x_iload_n F dX12_blames_3 rfl 2 rfl ?_
  refine x_iadd F dX12_blames_4 ?_
  refine x_callV_v F (c_X12_causes (xl X) (xg X) (xA X) F.2.2.1  h) (bw_V bw_37_15 bw_37_16 bw_37_17 bw_1_5 bw_37_18) rfl cd_X12_causes (Nat.le_of_ble_eq_true rfl) (Nat.le_of_ble_eq_true rfl) (kd_w (by decide) kz_176) rfl (cl_12 kz_176) rfl rfl (Nat.le_of_ble_eq_true rfl) dX12_blames_5 (fun s1 h => ?_)
  refine x_aload_n F dX12_blames_8 rfl 0 rfl ?_
  refine g_12_35 F kz_176 in_12 (mc bw_36_6) dX12_blames_9 ?_
  refine x_if_eq (tgt := 27) F dX12_blames_12 (by decide) (fun c => ?_) (fun c => ?_)
  · replace h := h.1 c
    refine x_sub (lv' := [(0, .ref (ad X 176)), (1, .int p0)]) [0, 1] rfl ?_
    exact wb_X12_blames_27 F hret   _ _ h
  · replace h := h.2 c
    refine x_aload_n F dX12_blames_15 rfl 0 rfl ?_
    refine x_sipush (200 : Int32) F dX12_blames_16 (by decide) ?_
    refine x_aload_n F dX12_blames_19 rfl 0 rfl ?_
    refine g_12_32 F kz_176 in_12 (mc bw_23_9) dX12_blames_20 ?_
    refine x_iadd F dX12_blames_23 ?_
    refine x_callV_v F (c_X12_causes (xl X) (xg X) (xA X) F.2.2.1  h) (bw_V bw_37_15 bw_37_16 bw_37_17 bw_1_5 bw_37_18) rfl cd_X12_causes (Nat.le_of_ble_eq_true rfl) (Nat.le_of_ble_eq_true rfl) (kd_w (by decide) kz_176) rfl (cl_12 kz_176) rfl rfl (Nat.le_of_ble_eq_true rfl) dX12_blames_24 (fun s3 h => ?_)
    refine x_sub (lv' := [(0, .ref (ad X 176)), (1, .int p0)]) [0, 1] rfl ?_
    exact wb_X12_blames_27 F hret   _ _ h
/-! X12_act -/
abbrev wvX12_act : List Cond := Cond.code yX12_act cX12_act 6 (some .int) :: wsL_law
theorem cd_X12_act : okN yX12_act RX12 4 := by unfold okN; decide +kernel
def w_X12_act  (p0 : Int32) (p1 : Int32) (p2 : Int32) (p3 : Int32) (σ : wS) (Q : Int32 → wS → Prop) : Prop := ∀ s1 : wS, s1 = upI σ 176 0 (0 : Int32) → (w_X12_copyRow 188 189 (0 : Int32) (0 : Int32) s1 (fun s2 => w_X12_does 189 p0 p1 p2 p3 s2 (fun r5 s4 => (r5 = (-1 : Int32) → (w_X12_remember  s4 (fun s6 => w_X12_copyRow 189 188 (0 : Int32) (0 : Int32) s6 (fun s8 => w_X12_brokenBits  s8 (fun r11 s10 => Q r11 s10))))) ∧ (¬ r5 = (-1 : Int32) → (∀ s12 : wS, s12 = upI s4 176 34 (0 : Int32) → (w_X12_blames r5 p0 s12 (fun s13 => Q (-1 : Int32) s13)))))))
set_option maxRecDepth 100000 in
set_option maxHeartbeats 4000000 in
theorem c_X12_act (l : Launch) (g : wG) (A : Nat → Prop) (hA : adO g A)   {p0 : Int32} {p1 : Int32} {p2 : Int32} {p3 : Int32} {σ : wS} {Q : Int32 → wS → Prop} (h : w_X12_act  p0 p1 p2 p3 σ Q) : Mi l yX12_act wvX12_act 6 151 g A [.ref (g.2.2 176), .int p0, .int p1, .int p2, .int p3] σ Q := by
  refine mt_i (own := RX12) (lv := [(0, .ref (g.2.2 176)), (1, .int p0), (2, .int p1), (3, .int p2), (4, .int p3)]) (by decide) rfl rfl hA (Nat.le_of_ble_eq_true rfl) rfl ?_
  intro X hl hg hAA F hret
  subst hl hg hAA
  unfold w_X12_act at h
  refine x_aload_n F dX12_act_0 rfl 0 rfl ?_
  refine x_iconst (0 : Int32) F dX12_act_1 (by decide) ?_
  refine q_12_0 F kz_176 in_12 (mc bw_8_21) dX12_act_2 ?_
  refine x_nmS (fun s1 es1 => ?_)
  replace h := h s1 es1
  refine x_aload_n F dX12_act_5 rfl 0 rfl ?_
  refine g_12_19 F kz_176 in_12 (mc bw_7_18) dX12_act_6 ?_
  refine x_iconst (0 : Int32) F dX12_act_9 (by decide) ?_
  refine x_aload_n F dX12_act_10 rfl 0 rfl ?_
  refine g_12_20 F kz_176 in_12 (mc bw_7_19) dX12_act_11 ?_
  refine x_iconst (0 : Int32) F dX12_act_14 (by decide) ?_
  refine x_callT_v F (c_X12_copyRow (xl X) (xg X) (xA X) F.2.2.1 kz_188 kz_189 h) (bw_S bw_25_14 bw_25_15 bw_1_5 bw_25_16) rfl cd_X12_copyRow (Nat.le_of_ble_eq_true rfl) (Nat.le_of_ble_eq_true rfl) rfl rfl (Nat.le_of_ble_eq_true rfl) dX12_act_15 (fun s2 h => ?_)
  refine x_aload_n F dX12_act_18 rfl 0 rfl ?_
  refine x_aload_n F dX12_act_19 rfl 0 rfl ?_
  refine g_12_20 F kz_176 in_12 (mc bw_7_19) dX12_act_20 ?_
  refine x_iload_n F dX12_act_23 rfl 1 rfl ?_
  refine x_iload_n F dX12_act_24 rfl 2 rfl ?_
  refine x_iload_n F dX12_act_25 rfl 3 rfl ?_
  refine x_iload F dX12_act_26 4 rfl ?_
  refine x_callV_i F (c_X12_does (xl X) (xg X) (xA X) F.2.2.1 kz_189 h) (bw_V bw_36_2 bw_36_3 bw_36_4 bw_1_5 bw_36_5) rfl cd_X12_does (Nat.le_of_ble_eq_true rfl) (Nat.le_of_ble_eq_true rfl) (kd_w (by decide) kz_176) rfl (cl_12 kz_176) rfl rfl (Nat.le_of_ble_eq_true rfl) dX12_act_28 (fun r5 s4 h => ?_)
  refine x_istore (lv' := [(5, .int r5), (0, .ref (ad X 176)), (1, .int p0), (2, .int p1), (3, .int p2), (4, .int p3)]) F dX12_act_31 (by decide) rfl ?_
  refine x_iload F dX12_act_33 0 rfl ?_
  refine x_iconst (-1 : Int32) F dX12_act_35 (by decide) ?_
  refine x_icmp_eq (tgt := 53) F dX12_act_36 (by decide) (fun c => ?_) (fun c => ?_)
  · replace h := h.1 c
    refine x_aload_n F dX12_act_53 rfl 1 rfl ?_
    refine x_callV_v F (c_X12_remember (xl X) (xg X) (xA X) F.2.2.1  h) (bw_V bw_37_19 bw_37_20 bw_37_21 bw_1_5 bw_37_22) rfl cd_X12_remember (Nat.le_of_ble_eq_true rfl) (Nat.le_of_ble_eq_true rfl) (kd_w (by decide) kz_176) rfl (cl_12 kz_176) rfl rfl (Nat.le_of_ble_eq_true rfl) dX12_act_54 (fun s6 h => ?_)
    refine x_aload_n F dX12_act_57 rfl 1 rfl ?_
    refine g_12_20 F kz_176 in_12 (mc bw_7_19) dX12_act_58 ?_
    refine x_iconst (0 : Int32) F dX12_act_61 (by decide) ?_
    refine x_aload_n F dX12_act_62 rfl 1 rfl ?_
    refine g_12_19 F kz_176 in_12 (mc bw_7_18) dX12_act_63 ?_
    refine x_iconst (0 : Int32) F dX12_act_66 (by decide) ?_
    refine x_callT_v F (c_X12_copyRow (xl X) (xg X) (xA X) F.2.2.1 kz_189 kz_188 h) (bw_S bw_25_14 bw_25_15 bw_1_5 bw_25_16) rfl cd_X12_copyRow (Nat.le_of_ble_eq_true rfl) (Nat.le_of_ble_eq_true rfl) rfl rfl (Nat.le_of_ble_eq_true rfl) dX12_act_67 (fun s8 h => ?_)
    refine x_aload_n F dX12_act_70 rfl 1 rfl ?_
    refine x_callV_i F (c_X12_brokenBits (xl X) (xg X) (xA X) F.2.2.1  h) (bw_V bw_37_3 bw_37_4 bw_37_5 bw_1_5 bw_37_6) rfl cd_X12_brokenBits (Nat.le_of_ble_eq_true rfl) (Nat.le_of_ble_eq_true rfl) (kd_w (by decide) kz_176) rfl (cl_12 kz_176) rfl rfl (Nat.le_of_ble_eq_true rfl) dX12_act_71 (fun r11 s10 h => ?_)
    exact hret _ _ _ _ h rfl dX12_act_74
  · replace h := h.2 c
    refine x_aload_n F dX12_act_39 rfl 1 rfl ?_
    refine x_iconst (0 : Int32) F dX12_act_40 (by decide) ?_
    refine q_12_34 F kz_176 in_12 (mc bw_36_1) dX12_act_41 ?_
    refine x_nmS (fun s12 es12 => ?_)
    replace h := h s12 es12
    refine x_aload_n F dX12_act_44 rfl 1 rfl ?_
    refine x_iload F dX12_act_45 0 rfl ?_
    refine x_iload_n F dX12_act_47 rfl 2 rfl ?_
    refine x_callV_v F (c_X12_blames (xl X) (xg X) (xA X) F.2.2.1  h) (bw_V bw_37_11 bw_37_12 bw_37_13 bw_1_5 bw_37_14) rfl cd_X12_blames (Nat.le_of_ble_eq_true rfl) (Nat.le_of_ble_eq_true rfl) (kd_w (by decide) kz_176) rfl (cl_12 kz_176) rfl rfl (Nat.le_of_ble_eq_true rfl) dX12_act_48 (fun s13 h => ?_)
    refine x_iconst (-1 : Int32) F dX12_act_51 (by decide) ?_
    exact hret _ _ _ _ h rfl dX12_act_52
/-! X12_wind -/
abbrev wvX12_wind : List Cond := Cond.code yX12_wind cX12_wind 4 (some .int) :: wsL_law
theorem cd_X12_wind : okN yX12_wind RX12 3 := by unfold okN; decide +kernel
def w_X12_wind  (p0 : Int32) (p1 : Int32) (p2 : Int32) (σ : wS) (Q : Int32 → wS → Prop) : Prop := w_X12_act (0 : Int32) p0 p1 p2 σ (fun r2 s1 => Q r2 s1)
set_option maxRecDepth 100000 in
set_option maxHeartbeats 4000000 in
theorem c_X12_wind (l : Launch) (g : wG) (A : Nat → Prop) (hA : adO g A)   {p0 : Int32} {p1 : Int32} {p2 : Int32} {σ : wS} {Q : Int32 → wS → Prop} (h : w_X12_wind  p0 p1 p2 σ Q) : Mi l yX12_wind wvX12_wind 7 176 g A [.ref (g.2.2 176), .int p0, .int p1, .int p2] σ Q := by
  refine mt_i (own := RX12) (lv := [(0, .ref (g.2.2 176)), (1, .int p0), (2, .int p1), (3, .int p2)]) (by decide) rfl rfl hA (Nat.le_of_ble_eq_true rfl) rfl ?_
  intro X hl hg hAA F hret
  subst hl hg hAA
  unfold w_X12_wind at h
  refine x_aload_n F dX12_wind_0 rfl 0 rfl ?_
  refine x_iconst (0 : Int32) F dX12_wind_1 (by decide) ?_
  refine x_iload_n F dX12_wind_2 rfl 1 rfl ?_
  refine x_iload_n F dX12_wind_3 rfl 2 rfl ?_
  refine x_iload_n F dX12_wind_4 rfl 3 rfl ?_
  refine x_callV_i F (c_X12_act (xl X) (xg X) (xA X) F.2.2.1  h) (bw_V bw_35_21 bw_35_22 bw_35_23 bw_1_5 bw_36_0) rfl cd_X12_act (Nat.le_of_ble_eq_true rfl) (Nat.le_of_ble_eq_true rfl) (kd_w (by decide) kz_176) rfl (cl_12 kz_176) rfl rfl (Nat.le_of_ble_eq_true rfl) dX12_wind_5 (fun r2 s1 h => ?_)
  exact hret _ _ _ _ h rfl dX12_wind_8
/-! X12_winch -/
abbrev wvX12_winch : List Cond := Cond.code yX12_winch cX12_winch 3 (some .int) :: wsL_law
theorem cd_X12_winch : okN yX12_winch RX12 2 := by unfold okN; decide +kernel
def w_X12_winch  (p0 : Int32) (p1 : Int32) (σ : wS) (Q : Int32 → wS → Prop) : Prop := w_X12_act (1 : Int32) p0 p1 (0 : Int32) σ (fun r2 s1 => Q r2 s1)
set_option maxRecDepth 100000 in
set_option maxHeartbeats 4000000 in
theorem c_X12_winch (l : Launch) (g : wG) (A : Nat → Prop) (hA : adO g A)   {p0 : Int32} {p1 : Int32} {σ : wS} {Q : Int32 → wS → Prop} (h : w_X12_winch  p0 p1 σ Q) : Mi l yX12_winch wvX12_winch 7 176 g A [.ref (g.2.2 176), .int p0, .int p1] σ Q := by
  refine mt_i (own := RX12) (lv := [(0, .ref (g.2.2 176)), (1, .int p0), (2, .int p1)]) (by decide) rfl rfl hA (Nat.le_of_ble_eq_true rfl) rfl ?_
  intro X hl hg hAA F hret
  subst hl hg hAA
  unfold w_X12_winch at h
  refine x_aload_n F dX12_winch_0 rfl 0 rfl ?_
  refine x_iconst (1 : Int32) F dX12_winch_1 (by decide) ?_
  refine x_iload_n F dX12_winch_2 rfl 1 rfl ?_
  refine x_iload_n F dX12_winch_3 rfl 2 rfl ?_
  refine x_iconst (0 : Int32) F dX12_winch_4 (by decide) ?_
  refine x_callV_i F (c_X12_act (xl X) (xg X) (xA X) F.2.2.1  h) (bw_V bw_35_21 bw_35_22 bw_35_23 bw_1_5 bw_36_0) rfl cd_X12_act (Nat.le_of_ble_eq_true rfl) (Nat.le_of_ble_eq_true rfl) (kd_w (by decide) kz_176) rfl (cl_12 kz_176) rfl rfl (Nat.le_of_ble_eq_true rfl) dX12_winch_5 (fun r2 s1 h => ?_)
  exact hret _ _ _ _ h rfl dX12_winch_8
/-! X12_cast -/
abbrev wvX12_cast : List Cond := Cond.code yX12_cast cX12_cast 2 (some .int) :: wsL_law
theorem cd_X12_cast : okN yX12_cast RX12 1 := by unfold okN; decide +kernel
def w_X12_cast  (p0 : Int32) (σ : wS) (Q : Int32 → wS → Prop) : Prop := w_X12_act (2 : Int32) p0 (0 : Int32) (0 : Int32) σ (fun r2 s1 => Q r2 s1)
set_option maxRecDepth 100000 in
set_option maxHeartbeats 4000000 in
theorem c_X12_cast (l : Launch) (g : wG) (A : Nat → Prop) (hA : adO g A)   {p0 : Int32} {σ : wS} {Q : Int32 → wS → Prop} (h : w_X12_cast  p0 σ Q) : Mi l yX12_cast wvX12_cast 7 176 g A [.ref (g.2.2 176), .int p0] σ Q := by
  refine mt_i (own := RX12) (lv := [(0, .ref (g.2.2 176)), (1, .int p0)]) (by decide) rfl rfl hA (Nat.le_of_ble_eq_true rfl) rfl ?_
  intro X hl hg hAA F hret
  subst hl hg hAA
  unfold w_X12_cast at h
  refine x_aload_n F dX12_cast_0 rfl 0 rfl ?_
  refine x_iconst (2 : Int32) F dX12_cast_1 (by decide) ?_
  refine x_iload_n F dX12_cast_2 rfl 1 rfl ?_
  refine x_iconst (0 : Int32) F dX12_cast_3 (by decide) ?_
  refine x_iconst (0 : Int32) F dX12_cast_4 (by decide) ?_
  refine x_callV_i F (c_X12_act (xl X) (xg X) (xA X) F.2.2.1  h) (bw_V bw_35_21 bw_35_22 bw_35_23 bw_1_5 bw_36_0) rfl cd_X12_act (Nat.le_of_ble_eq_true rfl) (Nat.le_of_ble_eq_true rfl) (kd_w (by decide) kz_176) rfl (cl_12 kz_176) rfl rfl (Nat.le_of_ble_eq_true rfl) dX12_cast_5 (fun r2 s1 h => ?_)
  exact hret _ _ _ _ h rfl dX12_cast_8
/-! X12_renew -/
abbrev wvX12_renew : List Cond := Cond.code yX12_renew cX12_renew 2 (some .int) :: wsL_law
theorem cd_X12_renew : okN yX12_renew RX12 1 := by unfold okN; decide +kernel
def w_X12_renew  (p0 : Int32) (σ : wS) (Q : Int32 → wS → Prop) : Prop := w_X12_act (3 : Int32) p0 (0 : Int32) (0 : Int32) σ (fun r2 s1 => Q r2 s1)
set_option maxRecDepth 100000 in
set_option maxHeartbeats 4000000 in
theorem c_X12_renew (l : Launch) (g : wG) (A : Nat → Prop) (hA : adO g A)   {p0 : Int32} {σ : wS} {Q : Int32 → wS → Prop} (h : w_X12_renew  p0 σ Q) : Mi l yX12_renew wvX12_renew 7 176 g A [.ref (g.2.2 176), .int p0] σ Q := by
  refine mt_i (own := RX12) (lv := [(0, .ref (g.2.2 176)), (1, .int p0)]) (by decide) rfl rfl hA (Nat.le_of_ble_eq_true rfl) rfl ?_
  intro X hl hg hAA F hret
  subst hl hg hAA
  unfold w_X12_renew at h
  refine x_aload_n F dX12_renew_0 rfl 0 rfl ?_
  refine x_iconst (3 : Int32) F dX12_renew_1 (by decide) ?_
  refine x_iload_n F dX12_renew_2 rfl 1 rfl ?_
  refine x_iconst (0 : Int32) F dX12_renew_3 (by decide) ?_
  refine x_iconst (0 : Int32) F dX12_renew_4 (by decide) ?_
  refine x_callV_i F (c_X12_act (xl X) (xg X) (xA X) F.2.2.1  h) (bw_V bw_35_21 bw_35_22 bw_35_23 bw_1_5 bw_36_0) rfl cd_X12_act (Nat.le_of_ble_eq_true rfl) (Nat.le_of_ble_eq_true rfl) (kd_w (by decide) kz_176) rfl (cl_12 kz_176) rfl rfl (Nat.le_of_ble_eq_true rfl) dX12_renew_5 (fun r2 s1 h => ?_)
  exact hret _ _ _ _ h rfl dX12_renew_8
/-! X12_draw -/
abbrev wvX12_draw : List Cond := Cond.code yX12_draw cX12_draw 2 (some .int) :: wsL_law
theorem cd_X12_draw : okN yX12_draw RX12 1 := by unfold okN; decide +kernel
def w_X12_draw  (p0 : Int32) (σ : wS) (Q : Int32 → wS → Prop) : Prop := ∀ s1 : wS, s1 = upJ σ 176 36 (((σ.2 176 36) * (6364136223846793005 : Int64)) + (1442695040888963407 : Int64)) → (¬ (p0).toInt64 = 0 ∧ (Q (((((s1.2 176 36)).toUInt64 >>> (((33 : Int32)).toInt64.toUInt64 &&& Int64.toUInt64 63)).toInt64 - (((s1.2 176 36)).toUInt64 >>> (((33 : Int32)).toInt64.toUInt64 &&& Int64.toUInt64 63)).toInt64 / (p0).toInt64 * (p0).toInt64)).toInt32 s1))
set_option maxRecDepth 100000 in
set_option maxHeartbeats 4000000 in
theorem c_X12_draw (l : Launch) (g : wG) (A : Nat → Prop) (hA : adO g A)   {p0 : Int32} {σ : wS} {Q : Int32 → wS → Prop} (h : w_X12_draw  p0 σ Q) : Mi l yX12_draw wvX12_draw 0 0 g A [.ref (g.2.2 176), .int p0] σ Q := by
  refine mt_i (own := RX12) (lv := [(0, .ref (g.2.2 176)), (1, .int p0)]) (by decide) rfl rfl hA (Nat.le_of_ble_eq_true rfl) rfl ?_
  intro X hl hg hAA F hret
  subst hl hg hAA
  unfold w_X12_draw at h
  refine x_aload_n F dX12_draw_0 rfl 0 rfl ?_
  refine x_aload_n F dX12_draw_1 rfl 0 rfl ?_
  refine g_12_36 F kz_176 in_12 (mc bw_52_11) dX12_draw_2 ?_
  refine x_ldc2 F dX12_draw_5 (mc bw_52_20) ?_
  refine x_lmul F dX12_draw_8 ?_
  refine x_ldc2 F dX12_draw_9 (mc bw_52_21) ?_
  refine x_ladd F dX12_draw_12 ?_
  refine q_12_36 F kz_176 in_12 (mc bw_52_11) dX12_draw_13 ?_
  refine x_nmS (fun s1 es1 => ?_)
  replace h := h s1 es1
  refine x_aload_n F dX12_draw_16 rfl 0 rfl ?_
  refine g_12_36 F kz_176 in_12 (mc bw_52_11) dX12_draw_17 ?_
  refine x_bipush (33 : Int32) F dX12_draw_20 (by decide) ?_
  refine x_lushr F dX12_draw_22 ?_
  refine x_iload_n F dX12_draw_23 rfl 1 rfl ?_
  refine x_i2l F dX12_draw_24 ?_
  obtain ⟨hj, h⟩ := h
  refine x_lrem F dX12_draw_25 hj ?_
  refine x_l2i F dX12_draw_26 ?_
  exact hret _ _ _ _ h rfl dX12_draw_27
/-! X12_tries -/
abbrev wvX12_tries : List Cond := Cond.code yX12_tries cX12_tries 5 none :: wsL_law
theorem cd_X12_tries : okN yX12_tries RX12 4 := by unfold okN; decide +kernel
def w_X12_tries  (p0 : Int32) (p1 : Int32) (p2 : Int32) (p3 : Int32) (σ : wS) (Q : wS → Prop) : Prop := w_X12_copyRow 188 189 (0 : Int32) (0 : Int32) σ (fun s1 => w_X12_does 189 p0 p1 p2 p3 s1 (fun r4 s3 => (r4 = (-1 : Int32) → (w_X12_remember  s3 (fun s5 => w_X12_copyRow 189 188 (0 : Int32) (0 : Int32) s5 (fun s7 => Q s7)))) ∧ (¬ r4 = (-1 : Int32) → (Q s3))))
set_option maxRecDepth 100000 in
set_option maxHeartbeats 4000000 in
theorem c_X12_tries (l : Launch) (g : wG) (A : Nat → Prop) (hA : adO g A)   {p0 : Int32} {p1 : Int32} {p2 : Int32} {p3 : Int32} {σ : wS} {Q : wS → Prop} (h : w_X12_tries  p0 p1 p2 p3 σ Q) : Mv l yX12_tries wvX12_tries 6 151 g A [.ref (g.2.2 176), .int p0, .int p1, .int p2, .int p3] σ Q := by
  refine mt_v (own := RX12) (lv := [(0, .ref (g.2.2 176)), (1, .int p0), (2, .int p1), (3, .int p2), (4, .int p3)]) (by decide) rfl rfl hA (Nat.le_of_ble_eq_true rfl) rfl ?_
  intro X hl hg hAA F hret
  subst hl hg hAA
  unfold w_X12_tries at h
  refine x_aload_n F dX12_tries_0 rfl 0 rfl ?_
  refine g_12_19 F kz_176 in_12 (mc bw_7_18) dX12_tries_1 ?_
  refine x_iconst (0 : Int32) F dX12_tries_4 (by decide) ?_
  refine x_aload_n F dX12_tries_5 rfl 0 rfl ?_
  refine g_12_20 F kz_176 in_12 (mc bw_7_19) dX12_tries_6 ?_
  refine x_iconst (0 : Int32) F dX12_tries_9 (by decide) ?_
  refine x_callT_v F (c_X12_copyRow (xl X) (xg X) (xA X) F.2.2.1 kz_188 kz_189 h) (bw_S bw_25_14 bw_25_15 bw_1_5 bw_25_16) rfl cd_X12_copyRow (Nat.le_of_ble_eq_true rfl) (Nat.le_of_ble_eq_true rfl) rfl rfl (Nat.le_of_ble_eq_true rfl) dX12_tries_10 (fun s1 h => ?_)
  refine x_aload_n F dX12_tries_13 rfl 0 rfl ?_
  refine x_aload_n F dX12_tries_14 rfl 0 rfl ?_
  refine g_12_20 F kz_176 in_12 (mc bw_7_19) dX12_tries_15 ?_
  refine x_iload_n F dX12_tries_18 rfl 1 rfl ?_
  refine x_iload_n F dX12_tries_19 rfl 2 rfl ?_
  refine x_iload_n F dX12_tries_20 rfl 3 rfl ?_
  refine x_iload F dX12_tries_21 4 rfl ?_
  refine x_callV_i F (c_X12_does (xl X) (xg X) (xA X) F.2.2.1 kz_189 h) (bw_V bw_36_2 bw_36_3 bw_36_4 bw_1_5 bw_36_5) rfl cd_X12_does (Nat.le_of_ble_eq_true rfl) (Nat.le_of_ble_eq_true rfl) (kd_w (by decide) kz_176) rfl (cl_12 kz_176) rfl rfl (Nat.le_of_ble_eq_true rfl) dX12_tries_23 (fun r4 s3 h => ?_)
  refine x_iconst (-1 : Int32) F dX12_tries_26 (by decide) ?_
  refine x_icmp_eq (tgt := 31) F dX12_tries_27 (by decide) (fun c => ?_) (fun c => ?_)
  · replace h := h.1 c
    refine x_aload_n F dX12_tries_31 rfl 0 rfl ?_
    refine x_callV_v F (c_X12_remember (xl X) (xg X) (xA X) F.2.2.1  h) (bw_V bw_37_19 bw_37_20 bw_37_21 bw_1_5 bw_37_22) rfl cd_X12_remember (Nat.le_of_ble_eq_true rfl) (Nat.le_of_ble_eq_true rfl) (kd_w (by decide) kz_176) rfl (cl_12 kz_176) rfl rfl (Nat.le_of_ble_eq_true rfl) dX12_tries_32 (fun s5 h => ?_)
    refine x_aload_n F dX12_tries_35 rfl 0 rfl ?_
    refine g_12_20 F kz_176 in_12 (mc bw_7_19) dX12_tries_36 ?_
    refine x_iconst (0 : Int32) F dX12_tries_39 (by decide) ?_
    refine x_aload_n F dX12_tries_40 rfl 0 rfl ?_
    refine g_12_19 F kz_176 in_12 (mc bw_7_18) dX12_tries_41 ?_
    refine x_iconst (0 : Int32) F dX12_tries_44 (by decide) ?_
    refine x_callT_v F (c_X12_copyRow (xl X) (xg X) (xA X) F.2.2.1 kz_189 kz_188 h) (bw_S bw_25_14 bw_25_15 bw_1_5 bw_25_16) rfl cd_X12_copyRow (Nat.le_of_ble_eq_true rfl) (Nat.le_of_ble_eq_true rfl) rfl rfl (Nat.le_of_ble_eq_true rfl) dX12_tries_45 (fun s7 h => ?_)
    exact hret _ _ _ h dX12_tries_48
  · replace h := h.2 c
    exact hret _ _ _ h dX12_tries_30
/-! X12_happens -/
abbrev wvX12_happens : List Cond := Cond.code yX12_happens cX12_happens 4 none :: wsL_law
theorem cd_X12_happens : okN yX12_happens RX12 0 := by unfold okN; decide +kernel
def b_X12_happens_112   (Q : wS → Prop) (x2 : Int32) (z0 : Int32) (σ : wS) : Prop := w_X12_tries z0 x2 (0 : Int32) (0 : Int32) σ (fun s1 => Q s1)
set_option maxRecDepth 100000 in
set_option maxHeartbeats 4000000 in
theorem wb_X12_happens_112 {X : XT} {Q : wS → Prop}  (F : Fx X cX12_happens 4 RX12 wvX12_happens 7 175) (hret : Rv X 4 cX12_happens Q)    (x2 : Int32) (z0 : Int32) (σ : wS) (h : b_X12_happens_112   Q x2 z0 σ) : Wx X 4 σ 112 [(2, .int x2)] [.int z0, .ref (ad X 176)] := by
  unfold b_X12_happens_112 at h
  refine x_iload_n F dX12_happens_112 rfl 0 rfl ?_
  refine x_iconst (0 : Int32) F dX12_happens_113 (by decide) ?_
  refine x_iconst (0 : Int32) F dX12_happens_114 (by decide) ?_
  refine x_callV_v F (c_X12_tries (xl X) (xg X) (xA X) F.2.2.1  h) (bw_V bw_52_22 bw_52_23 bw_53_0 bw_1_5 bw_53_1) rfl cd_X12_tries (Nat.le_of_ble_eq_true rfl) (Nat.le_of_ble_eq_true rfl) (kd_w (by decide) kz_176) rfl (cl_12 kz_176) rfl rfl (Nat.le_of_ble_eq_true rfl) dX12_happens_115 (fun s1 h => ?_)
  exact hret _ _ _ h dX12_happens_118
def w_X12_happens   (σ : wS) (Q : wS → Prop) : Prop := w_X12_draw (8 : Int32) σ (fun r2 s1 => ((5 : Int32) ≤ r2 → (((7 : Int32) ≤ r2 → (w_X12_draw (s1.1 176 14) s1 (fun r4 s3 => vp_in ((8 : Int32) + r4) 202 ∧ (((2 : Int32) ≤ (s3.1 188 (((8 : Int32) + r4)).toNatClampNeg) → (b_X12_happens_112   Q r4 (3 : Int32) s3)) ∧ (¬ (2 : Int32) ≤ (s3.1 188 (((8 : Int32) + r4)).toNatClampNeg) → (b_X12_happens_112   Q r4 (2 : Int32) s3)))))) ∧ (¬ (7 : Int32) ≤ r2 → (w_X12_draw (s1.1 176 14) s1 (fun r6 s5 => w_X12_draw (7 : Int32) s5 (fun r8 s7 => w_X12_tries (1 : Int32) r6 (r8 - (3 : Int32)) (0 : Int32) s7 (fun s9 => Q s9))))))) ∧ (¬ (5 : Int32) ≤ r2 → (w_X12_draw (21 : Int32) s1 (fun r12 s11 => ∀ y13 : Int32, y13 = (r12 - (10 : Int32)) → (w_X12_draw (21 : Int32) s11 (fun r15 s14 => ∀ y16 : Int32, y16 = (r15 - (10 : Int32)) → (w_X12_draw (61 : Int32) s14 (fun r18 s17 => w_X12_tries (0 : Int32) y13 y16 (r18 - (30 : Int32)) s17 (fun s19 => Q s19)))))))))
set_option maxRecDepth 100000 in
set_option maxHeartbeats 4000000 in
theorem c_X12_happens (l : Launch) (g : wG) (A : Nat → Prop) (hA : adO g A)    {σ : wS} {Q : wS → Prop} (h : w_X12_happens   σ Q) : Mv l yX12_happens wvX12_happens 7 175 g A [.ref (g.2.2 176)] σ Q := by
  refine mt_v (own := RX12) (lv := [(0, .ref (g.2.2 176))]) (by decide) rfl rfl hA (Nat.le_of_ble_eq_true rfl) rfl ?_
  intro X hl hg hAA F hret
  subst hl hg hAA
  unfold w_X12_happens at h
  refine x_aload_n F dX12_happens_0 rfl 0 rfl ?_
  refine x_bipush (8 : Int32) F dX12_happens_1 (by decide) ?_
  refine x_callV_i F (c_X12_draw (xl X) (xg X) (xA X) F.2.2.1  h) (bw_V bw_52_16 bw_52_17 bw_52_18 bw_1_5 bw_52_19) rfl cd_X12_draw (Nat.le_of_ble_eq_true rfl) (Nat.le_of_ble_eq_true rfl) (kd_w (by decide) kz_176) rfl (cl_12 kz_176) rfl rfl (Nat.le_of_ble_eq_true rfl) dX12_happens_3 (fun r2 s1 h => ?_)
  refine x_istore_n (lv' := [(1, .int r2), (0, .ref (ad X 176))]) F dX12_happens_6 rfl (by decide) rfl ?_
  refine x_iload_n F dX12_happens_7 rfl 0 rfl ?_
  refine x_iconst (5 : Int32) F dX12_happens_8 (by decide) ?_
  refine x_icmp_ge (tgt := 51) F dX12_happens_9 (by decide) (fun c => ?_) (fun c => ?_)
  · replace h := h.1 c
    refine x_iload_n F dX12_happens_51 rfl 0 rfl ?_
    refine x_bipush (7 : Int32) F dX12_happens_52 (by decide) ?_
    refine x_icmp_ge (tgt := 84) F dX12_happens_54 (by decide) (fun c => ?_) (fun c => ?_)
    · replace h := h.1 c
      refine x_aload_n F dX12_happens_84 rfl 1 rfl ?_
      refine x_aload_n F dX12_happens_85 rfl 1 rfl ?_
      refine g_12_14 F kz_176 in_12 (mc bw_22_18) dX12_happens_86 ?_
      refine x_callV_i F (c_X12_draw (xl X) (xg X) (xA X) F.2.2.1  h) (bw_V bw_52_16 bw_52_17 bw_52_18 bw_1_5 bw_52_19) rfl cd_X12_draw (Nat.le_of_ble_eq_true rfl) (Nat.le_of_ble_eq_true rfl) (kd_w (by decide) kz_176) rfl (cl_12 kz_176) rfl rfl (Nat.le_of_ble_eq_true rfl) dX12_happens_89 (fun r4 s3 h => ?_)
      refine x_istore_n (lv' := [(2, .int r4), (1, .int r2), (0, .ref (ad X 176))]) F dX12_happens_92 rfl (by decide) rfl ?_
      refine x_aload_n F dX12_happens_93 rfl 2 rfl ?_
      refine x_aload_n F dX12_happens_94 rfl 2 rfl ?_
      refine g_12_19 F kz_176 in_12 (mc bw_7_18) dX12_happens_95 ?_
      refine x_bipush (8 : Int32) F dX12_happens_98 (by decide) ?_
      refine x_iload_n F dX12_happens_100 rfl 0 rfl ?_
      refine x_iadd F dX12_happens_101 ?_
      obtain ⟨hj, h⟩ := h
      refine x_iald F kz_188 nz_188 hj dX12_happens_102 ?_
      refine x_iconst (2 : Int32) F dX12_happens_103 (by decide) ?_
      refine x_icmp_ge (tgt := 111) F dX12_happens_104 (by decide) (fun c => ?_) (fun c => ?_)
      · replace h := h.1 c
        refine x_iconst (3 : Int32) F dX12_happens_111 (by decide) ?_
        refine x_sub (lv' := [(2, .int r4)]) [0] rfl ?_
        exact wb_X12_happens_112 F hret   _ _ _ h
      · replace h := h.2 c
        refine x_iconst (2 : Int32) F dX12_happens_107 (by decide) ?_
        refine x_goto (tgt := 112) F dX12_happens_108 (by decide) ?_
        refine x_sub (lv' := [(2, .int r4)]) [0] rfl ?_
        exact wb_X12_happens_112 F hret   _ _ _ h
    · replace h := h.2 c
      refine x_aload_n F dX12_happens_57 rfl 1 rfl ?_
      refine x_aload_n F dX12_happens_58 rfl 1 rfl ?_
      refine g_12_14 F kz_176 in_12 (mc bw_22_18) dX12_happens_59 ?_
      refine x_callV_i F (c_X12_draw (xl X) (xg X) (xA X) F.2.2.1  h) (bw_V bw_52_16 bw_52_17 bw_52_18 bw_1_5 bw_52_19) rfl cd_X12_draw (Nat.le_of_ble_eq_true rfl) (Nat.le_of_ble_eq_true rfl) (kd_w (by decide) kz_176) rfl (cl_12 kz_176) rfl rfl (Nat.le_of_ble_eq_true rfl) dX12_happens_62 (fun r6 s5 h => ?_)
      refine x_istore_n (lv' := [(2, .int r6), (1, .int r2), (0, .ref (ad X 176))]) F dX12_happens_65 rfl (by decide) rfl ?_
      refine x_aload_n F dX12_happens_66 rfl 2 rfl ?_
      refine x_iconst (1 : Int32) F dX12_happens_67 (by decide) ?_
      refine x_iload_n F dX12_happens_68 rfl 0 rfl ?_
      refine x_aload_n F dX12_happens_69 rfl 2 rfl ?_
      refine x_bipush (7 : Int32) F dX12_happens_70 (by decide) ?_
      refine x_callV_i F (c_X12_draw (xl X) (xg X) (xA X) F.2.2.1  h) (bw_V bw_52_16 bw_52_17 bw_52_18 bw_1_5 bw_52_19) rfl cd_X12_draw (Nat.le_of_ble_eq_true rfl) (Nat.le_of_ble_eq_true rfl) (kd_w (by decide) kz_176) rfl (cl_12 kz_176) rfl rfl (Nat.le_of_ble_eq_true rfl) dX12_happens_72 (fun r8 s7 h => ?_)
      refine x_iconst (3 : Int32) F dX12_happens_75 (by decide) ?_
      refine x_isub F dX12_happens_76 ?_
      refine x_iconst (0 : Int32) F dX12_happens_77 (by decide) ?_
      refine x_callV_v F (c_X12_tries (xl X) (xg X) (xA X) F.2.2.1  h) (bw_V bw_52_22 bw_52_23 bw_53_0 bw_1_5 bw_53_1) rfl cd_X12_tries (Nat.le_of_ble_eq_true rfl) (Nat.le_of_ble_eq_true rfl) (kd_w (by decide) kz_176) rfl (cl_12 kz_176) rfl rfl (Nat.le_of_ble_eq_true rfl) dX12_happens_78 (fun s9 h => ?_)
      refine x_goto (tgt := 118) F dX12_happens_81 (by decide) ?_
      exact hret _ _ _ h dX12_happens_118
  · replace h := h.2 c
    refine x_aload_n F dX12_happens_12 rfl 1 rfl ?_
    refine x_bipush (21 : Int32) F dX12_happens_13 (by decide) ?_
    refine x_callV_i F (c_X12_draw (xl X) (xg X) (xA X) F.2.2.1  h) (bw_V bw_52_16 bw_52_17 bw_52_18 bw_1_5 bw_52_19) rfl cd_X12_draw (Nat.le_of_ble_eq_true rfl) (Nat.le_of_ble_eq_true rfl) (kd_w (by decide) kz_176) rfl (cl_12 kz_176) rfl rfl (Nat.le_of_ble_eq_true rfl) dX12_happens_15 (fun r12 s11 h => ?_)
    refine x_bipush (10 : Int32) F dX12_happens_18 (by decide) ?_
    refine x_isub F dX12_happens_20 ?_
    refine x_topi (fun y13 ey13 => ?_)
    replace h := h y13 ey13
    refine x_istore_n (lv' := [(2, .int y13), (1, .int r2), (0, .ref (ad X 176))]) F dX12_happens_21 rfl (by decide) rfl ?_
    refine x_aload_n F dX12_happens_22 rfl 2 rfl ?_
    refine x_bipush (21 : Int32) F dX12_happens_23 (by decide) ?_
    refine x_callV_i F (c_X12_draw (xl X) (xg X) (xA X) F.2.2.1  h) (bw_V bw_52_16 bw_52_17 bw_52_18 bw_1_5 bw_52_19) rfl cd_X12_draw (Nat.le_of_ble_eq_true rfl) (Nat.le_of_ble_eq_true rfl) (kd_w (by decide) kz_176) rfl (cl_12 kz_176) rfl rfl (Nat.le_of_ble_eq_true rfl) dX12_happens_25 (fun r15 s14 h => ?_)
    refine x_bipush (10 : Int32) F dX12_happens_28 (by decide) ?_
    refine x_isub F dX12_happens_30 ?_
    refine x_topi (fun y16 ey16 => ?_)
    replace h := h y16 ey16
    refine x_istore_n (lv' := [(3, .int y16), (2, .int y13), (1, .int r2), (0, .ref (ad X 176))]) F dX12_happens_31 rfl (by decide) rfl ?_
    refine x_aload_n F dX12_happens_32 rfl 3 rfl ?_
    refine x_iconst (0 : Int32) F dX12_happens_33 (by decide) ?_
    refine x_iload_n F dX12_happens_34 rfl 1 rfl ?_
    refine x_iload_n F dX12_happens_35 rfl 0 rfl ?_
    refine x_aload_n F dX12_happens_36 rfl 3 rfl ?_
    refine x_bipush (61 : Int32) F dX12_happens_37 (by decide) ?_
    refine x_callV_i F (c_X12_draw (xl X) (xg X) (xA X) F.2.2.1  h) (bw_V bw_52_16 bw_52_17 bw_52_18 bw_1_5 bw_52_19) rfl cd_X12_draw (Nat.le_of_ble_eq_true rfl) (Nat.le_of_ble_eq_true rfl) (kd_w (by decide) kz_176) rfl (cl_12 kz_176) rfl rfl (Nat.le_of_ble_eq_true rfl) dX12_happens_39 (fun r18 s17 h => ?_)
    refine x_bipush (30 : Int32) F dX12_happens_42 (by decide) ?_
    refine x_isub F dX12_happens_44 ?_
    refine x_callV_v F (c_X12_tries (xl X) (xg X) (xA X) F.2.2.1  h) (bw_V bw_52_22 bw_52_23 bw_53_0 bw_1_5 bw_53_1) rfl cd_X12_tries (Nat.le_of_ble_eq_true rfl) (Nat.le_of_ble_eq_true rfl) (kd_w (by decide) kz_176) rfl (cl_12 kz_176) rfl rfl (Nat.le_of_ble_eq_true rfl) dX12_happens_45 (fun s19 h => ?_)
    refine x_goto (tgt := 118) F dX12_happens_48 (by decide) ?_
    exact hret _ _ _ h dX12_happens_118
/-! X12_years -/
abbrev wvX12_years : List Cond := Cond.code yX12_years cX12_years 5 (some .int) :: wsL_law
theorem cd_X12_years : okN yX12_years RX12 2 := by unfold okN; decide +kernel
def l_X12_years_34   (Q : Int32 → wS → Prop) : Nat → Int32 → Int32 → wS → Prop
  | 0, _, _, _ => False
  | n + 1, x1, x4, σ => (x1 ≤ x4 → (w_X12_those 188 (σ.1 176 14) (0 : Int32) σ (fun r2 s1 => Q r2 s1))) ∧ (¬ x1 ≤ x4 → (w_X12_happens  σ (fun s3 => ∀ y5 : Int32, y5 = (x4 + (1 : Int32)) → (l_X12_years_34   Q n x1 y5 s3))))
set_option maxRecDepth 100000 in
set_option maxHeartbeats 4000000 in
theorem wl_X12_years_34 {X : XT} {Q : Int32 → wS → Prop}  (F : Fx X cX12_years 5 RX12 wvX12_years 8 198) (hret : Ri X 5 cX12_years .int Q)    : ∀ (n : Nat) (x1 : Int32) (x4 : Int32) (σ : wS), l_X12_years_34   Q n x1 x4 σ → Wx X 5 σ 34 [(0, .ref (ad X 176)), (1, .int x1), (4, .int x4)] [] := by
  intro n
  induction n with
  | zero =>
    intros
    contradiction
  | succ n ih =>
    intro x1 x4 σ h
    simp only [l_X12_years_34] at h
    refine x_iload F dX12_years_34 2 rfl ?_
    refine x_iload_n F dX12_years_36 rfl 1 rfl ?_
    refine x_icmp_ge (tgt := 50) F dX12_years_37 (by decide) (fun c => ?_) (fun c => ?_)
    · replace h := h.1 c
      refine x_aload_n F dX12_years_50 rfl 0 rfl ?_
      refine g_12_19 F kz_176 in_12 (mc bw_7_18) dX12_years_51 ?_
      refine x_aload_n F dX12_years_54 rfl 0 rfl ?_
      refine g_12_14 F kz_176 in_12 (mc bw_22_18) dX12_years_55 ?_
      refine x_iconst (0 : Int32) F dX12_years_58 (by decide) ?_
      refine x_callT_i F (c_X12_those (xl X) (xg X) (xA X) F.2.2.1 kz_188 h) (bw_S bw_23_11 bw_23_12 bw_1_5 bw_23_13) rfl cd_X12_those (Nat.le_of_ble_eq_true rfl) (Nat.le_of_ble_eq_true rfl) rfl rfl (Nat.le_of_ble_eq_true rfl) dX12_years_59 (fun r2 s1 h => ?_)
      exact hret _ _ _ _ h rfl dX12_years_62
    · replace h := h.2 c
      refine x_aload_n F dX12_years_40 rfl 0 rfl ?_
      refine x_callV_v F (c_X12_happens (xl X) (xg X) (xA X) F.2.2.1  h) (bw_V bw_52_12 bw_52_13 bw_52_14 bw_1_5 bw_52_15) rfl cd_X12_happens (Nat.le_of_ble_eq_true rfl) (Nat.le_of_ble_eq_true rfl) (kd_w (by decide) kz_176) rfl (cl_12 kz_176) rfl rfl (Nat.le_of_ble_eq_true rfl) dX12_years_41 (fun s3 h => ?_)
      obtain ⟨y5, ey5⟩ : ∃ y : Int32, y = (x4 + (1 : Int32)) := ⟨_, rfl⟩
      replace h := h y5 ey5
      refine x_iinc (q := 2) (v := y5) (lv' := [(4, .int y5), (0, .ref (ad X 176)), (1, .int x1)]) F dX12_years_44 rfl (by rw [ey5]; rfl) (by decide) rfl ?_
      refine x_goto (tgt := 34) F dX12_years_47 (by decide) ?_
      refine x_sub (lv' := [(0, .ref (ad X 176)), (1, .int x1), (4, .int y5)]) [1, 2, 0] rfl ?_
      exact ih _ _ _ h
def w_X12_years  (p0 : Int32) (p1 : Int64) (σ : wS) (Q : Int32 → wS → Prop) : Prop := ∀ s1 : wS, s1 = upI σ 176 0 (0 : Int32) → (((s1.1 176 14) = 0 → (Q (-1 : Int32) s1)) ∧ (¬ (s1.1 176 14) = 0 → (w_X12_isIn (p0).toInt64 (1 : Int64) (40 : Int64) s1 (fun r3 s2 => (¬ r3 = 0 → (∀ s4 : wS, s4 = upJ s2 176 36 p1 → ((∃ m, l_X12_years_34   Q m p0 (0 : Int32) s4)))) ∧ (r3 = 0 → (Q (-1 : Int32) s2))))))
set_option maxRecDepth 100000 in
set_option maxHeartbeats 4000000 in
theorem c_X12_years (l : Launch) (g : wG) (A : Nat → Prop) (hA : adO g A)   {p0 : Int32} {p1 : Int64} {σ : wS} {Q : Int32 → wS → Prop} (h : w_X12_years  p0 p1 σ Q) : Mi l yX12_years wvX12_years 8 198 g A [.ref (g.2.2 176), .int p0, .long p1] σ Q := by
  refine mt_i (own := RX12) (lv := [(0, .ref (g.2.2 176)), (1, .int p0), (2, .long p1)]) (by decide) rfl rfl hA (Nat.le_of_ble_eq_true rfl) rfl ?_
  intro X hl hg hAA F hret
  subst hl hg hAA
  unfold w_X12_years at h
  refine x_aload_n F dX12_years_0 rfl 0 rfl ?_
  refine x_iconst (0 : Int32) F dX12_years_1 (by decide) ?_
  refine q_12_0 F kz_176 in_12 (mc bw_8_21) dX12_years_2 ?_
  refine x_nmS (fun s1 es1 => ?_)
  replace h := h s1 es1
  refine x_aload_n F dX12_years_5 rfl 0 rfl ?_
  refine g_12_14 F kz_176 in_12 (mc bw_22_18) dX12_years_6 ?_
  refine x_if_eq (tgt := 24) F dX12_years_9 (by decide) (fun c => ?_) (fun c => ?_)
  · replace h := h.1 c
    refine x_iconst (-1 : Int32) F dX12_years_24 (by decide) ?_
    exact hret _ _ _ _ h rfl dX12_years_25
  · replace h := h.2 c
    refine x_iload_n F dX12_years_12 rfl 1 rfl ?_
    refine x_i2l F dX12_years_13 ?_
    refine x_lconst (1 : Int64) F dX12_years_14 (by decide) ?_
    refine x_ldc2 F dX12_years_15 (mc bw_52_10) ?_
    refine x_callT_i F (c_X12_isIn (xl X) (xg X) (xA X) F.2.2.1  h) (bw_S bw_13_13 bw_13_14 bw_1_5 bw_13_15) rfl cd_X12_isIn (Nat.le_of_ble_eq_true rfl) (Nat.le_of_ble_eq_true rfl) rfl rfl (Nat.le_of_ble_eq_true rfl) dX12_years_18 (fun r3 s2 h => ?_)
    refine x_if_ne (tgt := 26) F dX12_years_21 (by decide) (fun c => ?_) (fun c => ?_)
    · replace h := h.1 c
      refine x_aload_n F dX12_years_26 rfl 0 rfl ?_
      refine x_lload_n F dX12_years_27 rfl 2 rfl ?_
      refine q_12_36 F kz_176 in_12 (mc bw_52_11) dX12_years_28 ?_
      refine x_nmS (fun s4 es4 => ?_)
      replace h := h s4 es4
      refine x_iconst (0 : Int32) F dX12_years_31 (by decide) ?_
      refine x_istore (lv' := [(4, .int (0 : Int32)), (0, .ref (ad X 176)), (1, .int p0), (2, .long p1)]) F dX12_years_32 (by decide) rfl ?_
      refine x_sub (lv' := [(0, .ref (ad X 176)), (1, .int p0), (4, .int (0 : Int32))]) [1, 2, 0] rfl ?_
      obtain ⟨n2, h⟩ := h
      exact wl_X12_years_34 F hret   n2 _ _ _ h
    · replace h := h.2 c
      refine x_iconst (-1 : Int32) F dX12_years_24 (by decide) ?_
      exact hret _ _ _ _ h rfl dX12_years_25
/-! X12_status -/
abbrev wvX12_status : List Cond := Cond.code yX12_status cX12_status 2 (some .int) :: wsL_law
theorem cd_X12_status : okN yX12_status RX12 1 := by unfold okN; decide +kernel
def w_X12_status  (p0 : Int32) (σ : wS) (Q : Int32 → wS → Prop) : Prop := ∀ s1 : wS, s1 = upI σ 176 0 (0 : Int32) → (w_X12_isIn (p0).toInt64 (0 : Int64) (4 : Int64) s1 (fun r3 s2 => (r3 = 0 → (Q (-1 : Int32) s2)) ∧ (¬ r3 = 0 → (vp_in p0 5 ∧ (Q (s2.1 185 (p0).toNatClampNeg) s2)))))
set_option maxRecDepth 100000 in
set_option maxHeartbeats 4000000 in
theorem c_X12_status (l : Launch) (g : wG) (A : Nat → Prop) (hA : adO g A)   {p0 : Int32} {σ : wS} {Q : Int32 → wS → Prop} (h : w_X12_status  p0 σ Q) : Mi l yX12_status wvX12_status 1 25 g A [.ref (g.2.2 176), .int p0] σ Q := by
  refine mt_i (own := RX12) (lv := [(0, .ref (g.2.2 176)), (1, .int p0)]) (by decide) rfl rfl hA (Nat.le_of_ble_eq_true rfl) rfl ?_
  intro X hl hg hAA F hret
  subst hl hg hAA
  unfold w_X12_status at h
  refine x_aload_n F dX12_status_0 rfl 0 rfl ?_
  refine x_iconst (0 : Int32) F dX12_status_1 (by decide) ?_
  refine q_12_0 F kz_176 in_12 (mc bw_8_21) dX12_status_2 ?_
  refine x_nmS (fun s1 es1 => ?_)
  replace h := h s1 es1
  refine x_iload_n F dX12_status_5 rfl 1 rfl ?_
  refine x_i2l F dX12_status_6 ?_
  refine x_lconst (0 : Int64) F dX12_status_7 (by decide) ?_
  refine x_ldc2 F dX12_status_8 (mc bw_26_12) ?_
  refine x_callT_i F (c_X12_isIn (xl X) (xg X) (xA X) F.2.2.1  h) (bw_S bw_13_13 bw_13_14 bw_1_5 bw_13_15) rfl cd_X12_isIn (Nat.le_of_ble_eq_true rfl) (Nat.le_of_ble_eq_true rfl) rfl rfl (Nat.le_of_ble_eq_true rfl) dX12_status_11 (fun r3 s2 h => ?_)
  refine x_if_eq (tgt := 26) F dX12_status_14 (by decide) (fun c => ?_) (fun c => ?_)
  · replace h := h.1 c
    refine x_iconst (-1 : Int32) F dX12_status_26 (by decide) ?_
    exact hret _ _ _ _ h rfl dX12_status_27
  · replace h := h.2 c
    refine x_aload_n F dX12_status_17 rfl 0 rfl ?_
    refine g_12_12 F kz_176 in_12 (mc bw_7_15) dX12_status_18 ?_
    refine x_iload_n F dX12_status_21 rfl 1 rfl ?_
    obtain ⟨hj, h⟩ := h
    refine x_iald F kz_185 nz_185 hj dX12_status_22 ?_
    refine x_goto (tgt := 27) F dX12_status_23 (by decide) ?_
    exact hret _ _ _ _ h rfl dX12_status_27
/-! X12_cause -/
abbrev wvX12_cause : List Cond := Cond.code yX12_cause cX12_cause 2 (some .int) :: wsL_law
theorem cd_X12_cause : okN yX12_cause RX12 1 := by unfold okN; decide +kernel
def w_X12_cause  (p0 : Int32) (σ : wS) (Q : Int32 → wS → Prop) : Prop := ∀ s1 : wS, s1 = upI σ 176 0 (0 : Int32) → (w_X12_isIn (p0).toInt64 (0 : Int64) (((s1.1 176 34) - (1 : Int32))).toInt64 s1 (fun r3 s2 => (r3 = 0 → (Q (-1 : Int32) s2)) ∧ (¬ r3 = 0 → (vp_in p0 4 ∧ (Q (s2.1 197 (p0).toNatClampNeg) s2)))))
set_option maxRecDepth 100000 in
set_option maxHeartbeats 4000000 in
theorem c_X12_cause (l : Launch) (g : wG) (A : Nat → Prop) (hA : adO g A)   {p0 : Int32} {σ : wS} {Q : Int32 → wS → Prop} (h : w_X12_cause  p0 σ Q) : Mi l yX12_cause wvX12_cause 1 25 g A [.ref (g.2.2 176), .int p0] σ Q := by
  refine mt_i (own := RX12) (lv := [(0, .ref (g.2.2 176)), (1, .int p0)]) (by decide) rfl rfl hA (Nat.le_of_ble_eq_true rfl) rfl ?_
  intro X hl hg hAA F hret
  subst hl hg hAA
  unfold w_X12_cause at h
  refine x_aload_n F dX12_cause_0 rfl 0 rfl ?_
  refine x_iconst (0 : Int32) F dX12_cause_1 (by decide) ?_
  refine q_12_0 F kz_176 in_12 (mc bw_8_21) dX12_cause_2 ?_
  refine x_nmS (fun s1 es1 => ?_)
  replace h := h s1 es1
  refine x_iload_n F dX12_cause_5 rfl 1 rfl ?_
  refine x_i2l F dX12_cause_6 ?_
  refine x_lconst (0 : Int64) F dX12_cause_7 (by decide) ?_
  refine x_aload_n F dX12_cause_8 rfl 0 rfl ?_
  refine g_12_34 F kz_176 in_12 (mc bw_36_1) dX12_cause_9 ?_
  refine x_iconst (1 : Int32) F dX12_cause_12 (by decide) ?_
  refine x_isub F dX12_cause_13 ?_
  refine x_i2l F dX12_cause_14 ?_
  refine x_callT_i F (c_X12_isIn (xl X) (xg X) (xA X) F.2.2.1  h) (bw_S bw_13_13 bw_13_14 bw_1_5 bw_13_15) rfl cd_X12_isIn (Nat.le_of_ble_eq_true rfl) (Nat.le_of_ble_eq_true rfl) rfl rfl (Nat.le_of_ble_eq_true rfl) dX12_cause_15 (fun r3 s2 h => ?_)
  refine x_if_eq (tgt := 30) F dX12_cause_18 (by decide) (fun c => ?_) (fun c => ?_)
  · replace h := h.1 c
    refine x_iconst (-1 : Int32) F dX12_cause_30 (by decide) ?_
    exact hret _ _ _ _ h rfl dX12_cause_31
  · replace h := h.2 c
    refine x_aload_n F dX12_cause_21 rfl 0 rfl ?_
    refine g_12_33 F kz_176 in_12 (mc bw_8_3) dX12_cause_22 ?_
    refine x_iload_n F dX12_cause_25 rfl 1 rfl ?_
    obtain ⟨hj, h⟩ := h
    refine x_iald F kz_197 nz_197 hj dX12_cause_26 ?_
    refine x_goto (tgt := 31) F dX12_cause_27 (by decide) ?_
    exact hret _ _ _ _ h rfl dX12_cause_31
/-! X12_undo -/
abbrev wvX12_undo : List Cond := Cond.code yX12_undo cX12_undo 1 (some .int) :: wsL_law
theorem cd_X12_undo : okN yX12_undo RX12 0 := by unfold okN; decide +kernel
def w_X12_undo   (σ : wS) (Q : Int32 → wS → Prop) : Prop := ∀ s1 : wS, s1 = upI σ 176 0 (0 : Int32) → ((¬ (s1.1 176 24) = 0 → (∀ s2 : wS, s2 = upI s1 176 24 ((s1.1 176 24) - (1 : Int32)) → (w_X12_copyRow 191 188 ((202 : Int32) * (((s2.1 176 23) + (s2.1 176 24)) - ((s2.1 176 23) + (s2.1 176 24)) / (40 : Int32) * (40 : Int32))) (0 : Int32) s2 (fun s3 => Q (s3.1 176 24) s3)))) ∧ ((s1.1 176 24) = 0 → (Q (-1 : Int32) s1)))
set_option maxRecDepth 100000 in
set_option maxHeartbeats 4000000 in
theorem c_X12_undo (l : Launch) (g : wG) (A : Nat → Prop) (hA : adO g A)    {σ : wS} {Q : Int32 → wS → Prop} (h : w_X12_undo   σ Q) : Mi l yX12_undo wvX12_undo 1 24 g A [.ref (g.2.2 176)] σ Q := by
  refine mt_i (own := RX12) (lv := [(0, .ref (g.2.2 176))]) (by decide) rfl rfl hA (Nat.le_of_ble_eq_true rfl) rfl ?_
  intro X hl hg hAA F hret
  subst hl hg hAA
  unfold w_X12_undo at h
  refine x_aload_n F dX12_undo_0 rfl 0 rfl ?_
  refine x_iconst (0 : Int32) F dX12_undo_1 (by decide) ?_
  refine q_12_0 F kz_176 in_12 (mc bw_8_21) dX12_undo_2 ?_
  refine x_nmS (fun s1 es1 => ?_)
  replace h := h s1 es1
  refine x_aload_n F dX12_undo_5 rfl 0 rfl ?_
  refine g_12_24 F kz_176 in_12 (mc bw_22_19) dX12_undo_6 ?_
  refine x_if_ne (tgt := 14) F dX12_undo_9 (by decide) (fun c => ?_) (fun c => ?_)
  · replace h := h.1 c
    refine x_aload_n F dX12_undo_14 rfl 0 rfl ?_
    refine x_dup F dX12_undo_15 rfl ?_
    refine g_12_24 F kz_176 in_12 (mc bw_22_19) dX12_undo_16 ?_
    refine x_iconst (1 : Int32) F dX12_undo_19 (by decide) ?_
    refine x_isub F dX12_undo_20 ?_
    refine q_12_24 F kz_176 in_12 (mc bw_22_19) dX12_undo_21 ?_
    refine x_nmS (fun s2 es2 => ?_)
    replace h := h s2 es2
    refine x_aload_n F dX12_undo_24 rfl 0 rfl ?_
    refine g_12_22 F kz_176 in_12 (mc bw_7_21) dX12_undo_25 ?_
    refine x_sipush (202 : Int32) F dX12_undo_28 (by decide) ?_
    refine x_aload_n F dX12_undo_31 rfl 0 rfl ?_
    refine g_12_23 F kz_176 in_12 (mc bw_37_23) dX12_undo_32 ?_
    refine x_aload_n F dX12_undo_35 rfl 0 rfl ?_
    refine g_12_24 F kz_176 in_12 (mc bw_22_19) dX12_undo_36 ?_
    refine x_iadd F dX12_undo_39 ?_
    refine x_bipush (40 : Int32) F dX12_undo_40 (by decide) ?_
    refine x_irem F dX12_undo_42 (by decide) ?_
    refine x_imul F dX12_undo_43 ?_
    refine x_aload_n F dX12_undo_44 rfl 0 rfl ?_
    refine g_12_19 F kz_176 in_12 (mc bw_7_18) dX12_undo_45 ?_
    refine x_iconst (0 : Int32) F dX12_undo_48 (by decide) ?_
    refine x_callT_v F (c_X12_copyRow (xl X) (xg X) (xA X) F.2.2.1 kz_191 kz_188 h) (bw_S bw_25_14 bw_25_15 bw_1_5 bw_25_16) rfl cd_X12_copyRow (Nat.le_of_ble_eq_true rfl) (Nat.le_of_ble_eq_true rfl) rfl rfl (Nat.le_of_ble_eq_true rfl) dX12_undo_49 (fun s3 h => ?_)
    refine x_aload_n F dX12_undo_52 rfl 0 rfl ?_
    refine g_12_24 F kz_176 in_12 (mc bw_22_19) dX12_undo_53 ?_
    exact hret _ _ _ _ h rfl dX12_undo_56
  · replace h := h.2 c
    refine x_iconst (-1 : Int32) F dX12_undo_12 (by decide) ?_
    exact hret _ _ _ _ h rfl dX12_undo_13
/-! X12_log -/
abbrev wvX12_log : List Cond := Cond.code yX12_log cX12_log 3 (some .int) :: wsL_law
theorem cd_X12_log : okN yX12_log RX12 2 := by unfold okN; decide +kernel
def w_X12_log  (p0 : Int32) (p1 : Int32) (σ : wS) (Q : Int32 → wS → Prop) : Prop := ∀ s1 : wS, s1 = upI σ 176 0 (0 : Int32) → ((p0 < 0 → (Q (-1000000 : Int32) s1)) ∧ (¬ p0 < 0 → (((s1.1 188 ((21 : Int32)).toNatClampNeg) ≤ p0 → (Q (-1000000 : Int32) s1)) ∧ (¬ (s1.1 188 ((21 : Int32)).toNatClampNeg) ≤ p0 → (w_X12_isIn (p1).toInt64 (0 : Int64) (2 : Int64) s1 (fun r3 s2 => (¬ r3 = 0 → (vp_in (((22 : Int32) + ((3 : Int32) * (((s2.1 188 ((21 : Int32)).toNatClampNeg) - (1 : Int32)) - p0))) + p1) 202 ∧ (Q (s2.1 188 ((((22 : Int32) + ((3 : Int32) * (((s2.1 188 ((21 : Int32)).toNatClampNeg) - (1 : Int32)) - p0))) + p1)).toNatClampNeg) s2))) ∧ (r3 = 0 → (Q (-1000000 : Int32) s2))))))))
set_option maxRecDepth 100000 in
set_option maxHeartbeats 4000000 in
theorem c_X12_log (l : Launch) (g : wG) (A : Nat → Prop) (hA : adO g A)   {p0 : Int32} {p1 : Int32} {σ : wS} {Q : Int32 → wS → Prop} (h : w_X12_log  p0 p1 σ Q) : Mi l yX12_log wvX12_log 1 25 g A [.ref (g.2.2 176), .int p0, .int p1] σ Q := by
  refine mt_i (own := RX12) (lv := [(0, .ref (g.2.2 176)), (1, .int p0), (2, .int p1)]) (by decide) rfl rfl hA (Nat.le_of_ble_eq_true rfl) rfl ?_
  intro X hl hg hAA F hret
  subst hl hg hAA
  unfold w_X12_log at h
  refine x_aload_n F dX12_log_0 rfl 0 rfl ?_
  refine x_iconst (0 : Int32) F dX12_log_1 (by decide) ?_
  refine q_12_0 F kz_176 in_12 (mc bw_8_21) dX12_log_2 ?_
  refine x_nmS (fun s1 es1 => ?_)
  replace h := h s1 es1
  refine x_iload_n F dX12_log_5 rfl 1 rfl ?_
  refine x_if_lt (tgt := 32) F dX12_log_6 (by decide) (fun c => ?_) (fun c => ?_)
  · replace h := h.1 c
    refine x_ldc F dX12_log_32 (mc bw_18_9) ?_
    exact hret _ _ _ _ h rfl dX12_log_34
  · replace h := h.2 c
    refine x_iload_n F dX12_log_9 rfl 1 rfl ?_
    refine x_aload_n F dX12_log_10 rfl 0 rfl ?_
    refine g_12_19 F kz_176 in_12 (mc bw_7_18) dX12_log_11 ?_
    refine x_bipush (21 : Int32) F dX12_log_14 (by decide) ?_
    refine x_iald F kz_188 nz_188 (by unfold vp_in; decide) dX12_log_16 ?_
    refine x_icmp_ge (tgt := 32) F dX12_log_17 (by decide) (fun c => ?_) (fun c => ?_)
    · replace h := h.1 c
      refine x_ldc F dX12_log_32 (mc bw_18_9) ?_
      exact hret _ _ _ _ h rfl dX12_log_34
    · replace h := h.2 c
      refine x_iload_n F dX12_log_20 rfl 2 rfl ?_
      refine x_i2l F dX12_log_21 ?_
      refine x_lconst (0 : Int64) F dX12_log_22 (by decide) ?_
      refine x_ldc2 F dX12_log_23 (mc bw_30_18) ?_
      refine x_callT_i F (c_X12_isIn (xl X) (xg X) (xA X) F.2.2.1  h) (bw_S bw_13_13 bw_13_14 bw_1_5 bw_13_15) rfl cd_X12_isIn (Nat.le_of_ble_eq_true rfl) (Nat.le_of_ble_eq_true rfl) rfl rfl (Nat.le_of_ble_eq_true rfl) dX12_log_26 (fun r3 s2 h => ?_)
      refine x_if_ne (tgt := 35) F dX12_log_29 (by decide) (fun c => ?_) (fun c => ?_)
      · replace h := h.1 c
        refine x_aload_n F dX12_log_35 rfl 0 rfl ?_
        refine g_12_19 F kz_176 in_12 (mc bw_7_18) dX12_log_36 ?_
        refine x_bipush (22 : Int32) F dX12_log_39 (by decide) ?_
        refine x_iconst (3 : Int32) F dX12_log_41 (by decide) ?_
        refine x_aload_n F dX12_log_42 rfl 0 rfl ?_
        refine g_12_19 F kz_176 in_12 (mc bw_7_18) dX12_log_43 ?_
        refine x_bipush (21 : Int32) F dX12_log_46 (by decide) ?_
        refine x_iald F kz_188 nz_188 (by unfold vp_in; decide) dX12_log_48 ?_
        refine x_iconst (1 : Int32) F dX12_log_49 (by decide) ?_
        refine x_isub F dX12_log_50 ?_
        refine x_iload_n F dX12_log_51 rfl 1 rfl ?_
        refine x_isub F dX12_log_52 ?_
        refine x_imul F dX12_log_53 ?_
        refine x_iadd F dX12_log_54 ?_
        refine x_iload_n F dX12_log_55 rfl 2 rfl ?_
        refine x_iadd F dX12_log_56 ?_
        obtain ⟨hj, h⟩ := h
        refine x_iald F kz_188 nz_188 hj dX12_log_57 ?_
        exact hret _ _ _ _ h rfl dX12_log_58
      · replace h := h.2 c
        refine x_ldc F dX12_log_32 (mc bw_18_9) ?_
        exact hret _ _ _ _ h rfl dX12_log_34
/-! X12_image -/
abbrev wvX12_image : List Cond := Cond.code yX12_image cX12_image 1 (some .int) :: wsL_law
theorem cd_X12_image : okN yX12_image RX12 0 := by unfold okN; decide +kernel
def w_X12_image   (σ : wS) (Q : Int32 → wS → Prop) : Prop := ∀ s1 : wS, s1 = upI σ 176 0 (0 : Int32) → ((¬ (s1.1 176 14) = 0 → (w_X12_copyRow 188 190 (0 : Int32) (0 : Int32) s1 (fun s2 => ∀ s4 : wS, s4 = upI s2 176 25 (1 : Int32) → (w_X12_those 188 (s4.1 176 14) (0 : Int32) s4 (fun r6 s5 => Q r6 s5))))) ∧ ((s1.1 176 14) = 0 → (Q (-1 : Int32) s1)))
set_option maxRecDepth 100000 in
set_option maxHeartbeats 4000000 in
theorem c_X12_image (l : Launch) (g : wG) (A : Nat → Prop) (hA : adO g A)    {σ : wS} {Q : Int32 → wS → Prop} (h : w_X12_image   σ Q) : Mi l yX12_image wvX12_image 1 24 g A [.ref (g.2.2 176)] σ Q := by
  refine mt_i (own := RX12) (lv := [(0, .ref (g.2.2 176))]) (by decide) rfl rfl hA (Nat.le_of_ble_eq_true rfl) rfl ?_
  intro X hl hg hAA F hret
  subst hl hg hAA
  unfold w_X12_image at h
  refine x_aload_n F dX12_image_0 rfl 0 rfl ?_
  refine x_iconst (0 : Int32) F dX12_image_1 (by decide) ?_
  refine q_12_0 F kz_176 in_12 (mc bw_8_21) dX12_image_2 ?_
  refine x_nmS (fun s1 es1 => ?_)
  replace h := h s1 es1
  refine x_aload_n F dX12_image_5 rfl 0 rfl ?_
  refine g_12_14 F kz_176 in_12 (mc bw_22_18) dX12_image_6 ?_
  refine x_if_ne (tgt := 14) F dX12_image_9 (by decide) (fun c => ?_) (fun c => ?_)
  · replace h := h.1 c
    refine x_aload_n F dX12_image_14 rfl 0 rfl ?_
    refine g_12_19 F kz_176 in_12 (mc bw_7_18) dX12_image_15 ?_
    refine x_iconst (0 : Int32) F dX12_image_18 (by decide) ?_
    refine x_aload_n F dX12_image_19 rfl 0 rfl ?_
    refine g_12_21 F kz_176 in_12 (mc bw_7_20) dX12_image_20 ?_
    refine x_iconst (0 : Int32) F dX12_image_23 (by decide) ?_
    refine x_callT_v F (c_X12_copyRow (xl X) (xg X) (xA X) F.2.2.1 kz_188 kz_190 h) (bw_S bw_25_14 bw_25_15 bw_1_5 bw_25_16) rfl cd_X12_copyRow (Nat.le_of_ble_eq_true rfl) (Nat.le_of_ble_eq_true rfl) rfl rfl (Nat.le_of_ble_eq_true rfl) dX12_image_24 (fun s2 h => ?_)
    refine x_aload_n F dX12_image_27 rfl 0 rfl ?_
    refine x_iconst (1 : Int32) F dX12_image_28 (by decide) ?_
    refine q_12_25 F kz_176 (by decide) in_12 (mc bw_22_20) dX12_image_29 ?_
    refine x_nmS (fun s4 es4 => ?_)
    replace h := h s4 es4
    refine x_aload_n F dX12_image_32 rfl 0 rfl ?_
    refine g_12_19 F kz_176 in_12 (mc bw_7_18) dX12_image_33 ?_
    refine x_aload_n F dX12_image_36 rfl 0 rfl ?_
    refine g_12_14 F kz_176 in_12 (mc bw_22_18) dX12_image_37 ?_
    refine x_iconst (0 : Int32) F dX12_image_40 (by decide) ?_
    refine x_callT_i F (c_X12_those (xl X) (xg X) (xA X) F.2.2.1 kz_188 h) (bw_S bw_23_11 bw_23_12 bw_1_5 bw_23_13) rfl cd_X12_those (Nat.le_of_ble_eq_true rfl) (Nat.le_of_ble_eq_true rfl) rfl rfl (Nat.le_of_ble_eq_true rfl) dX12_image_41 (fun r6 s5 h => ?_)
    exact hret _ _ _ _ h rfl dX12_image_44
  · replace h := h.2 c
    refine x_iconst (-1 : Int32) F dX12_image_12 (by decide) ?_
    exact hret _ _ _ _ h rfl dX12_image_13
/-! X12_back -/
abbrev wvX12_back : List Cond := Cond.code yX12_back cX12_back 1 (some .int) :: wsL_law
theorem cd_X12_back : okN yX12_back RX12 0 := by unfold okN; decide +kernel
def w_X12_back   (σ : wS) (Q : Int32 → wS → Prop) : Prop := ∀ s1 : wS, s1 = upI σ 176 0 (0 : Int32) → ((¬ (s1.1 176 25) = 0 → (w_X12_copyRow 190 188 (0 : Int32) (0 : Int32) s1 (fun s2 => ∀ s4 : wS, s4 = upI s2 176 24 (0 : Int32) → (w_X12_those 188 (s4.1 176 14) (0 : Int32) s4 (fun r6 s5 => Q r6 s5))))) ∧ ((s1.1 176 25) = 0 → (Q (-1 : Int32) s1)))
set_option maxRecDepth 100000 in
set_option maxHeartbeats 4000000 in
theorem c_X12_back (l : Launch) (g : wG) (A : Nat → Prop) (hA : adO g A)    {σ : wS} {Q : Int32 → wS → Prop} (h : w_X12_back   σ Q) : Mi l yX12_back wvX12_back 1 24 g A [.ref (g.2.2 176)] σ Q := by
  refine mt_i (own := RX12) (lv := [(0, .ref (g.2.2 176))]) (by decide) rfl rfl hA (Nat.le_of_ble_eq_true rfl) rfl ?_
  intro X hl hg hAA F hret
  subst hl hg hAA
  unfold w_X12_back at h
  refine x_aload_n F dX12_back_0 rfl 0 rfl ?_
  refine x_iconst (0 : Int32) F dX12_back_1 (by decide) ?_
  refine q_12_0 F kz_176 in_12 (mc bw_8_21) dX12_back_2 ?_
  refine x_nmS (fun s1 es1 => ?_)
  replace h := h s1 es1
  refine x_aload_n F dX12_back_5 rfl 0 rfl ?_
  refine g_12_25 F kz_176 in_12 (mc bw_22_20) dX12_back_6 ?_
  refine x_if_ne (tgt := 14) F dX12_back_9 (by decide) (fun c => ?_) (fun c => ?_)
  · replace h := h.1 c
    refine x_aload_n F dX12_back_14 rfl 0 rfl ?_
    refine g_12_21 F kz_176 in_12 (mc bw_7_20) dX12_back_15 ?_
    refine x_iconst (0 : Int32) F dX12_back_18 (by decide) ?_
    refine x_aload_n F dX12_back_19 rfl 0 rfl ?_
    refine g_12_19 F kz_176 in_12 (mc bw_7_18) dX12_back_20 ?_
    refine x_iconst (0 : Int32) F dX12_back_23 (by decide) ?_
    refine x_callT_v F (c_X12_copyRow (xl X) (xg X) (xA X) F.2.2.1 kz_190 kz_188 h) (bw_S bw_25_14 bw_25_15 bw_1_5 bw_25_16) rfl cd_X12_copyRow (Nat.le_of_ble_eq_true rfl) (Nat.le_of_ble_eq_true rfl) rfl rfl (Nat.le_of_ble_eq_true rfl) dX12_back_24 (fun s2 h => ?_)
    refine x_aload_n F dX12_back_27 rfl 0 rfl ?_
    refine x_iconst (0 : Int32) F dX12_back_28 (by decide) ?_
    refine q_12_24 F kz_176 in_12 (mc bw_22_19) dX12_back_29 ?_
    refine x_nmS (fun s4 es4 => ?_)
    replace h := h s4 es4
    refine x_aload_n F dX12_back_32 rfl 0 rfl ?_
    refine g_12_19 F kz_176 in_12 (mc bw_7_18) dX12_back_33 ?_
    refine x_aload_n F dX12_back_36 rfl 0 rfl ?_
    refine g_12_14 F kz_176 in_12 (mc bw_22_18) dX12_back_37 ?_
    refine x_iconst (0 : Int32) F dX12_back_40 (by decide) ?_
    refine x_callT_i F (c_X12_those (xl X) (xg X) (xA X) F.2.2.1 kz_188 h) (bw_S bw_23_11 bw_23_12 bw_1_5 bw_23_13) rfl cd_X12_those (Nat.le_of_ble_eq_true rfl) (Nat.le_of_ble_eq_true rfl) rfl rfl (Nat.le_of_ble_eq_true rfl) dX12_back_41 (fun r6 s5 h => ?_)
    exact hret _ _ _ _ h rfl dX12_back_44
  · replace h := h.2 c
    refine x_iconst (-1 : Int32) F dX12_back_12 (by decide) ?_
    exact hret _ _ _ _ h rfl dX12_back_13
/-! X12_isScript -/
abbrev wvX12_isScript : List Cond := Cond.code yX12_isScript cX12_isScript 2 (some .boolean) :: wsL_law
theorem cd_X12_isScript : okN yX12_isScript RX12 1 := by unfold okN; decide +kernel
def w_X12_isScript  (p0 : Int32) (σ : wS) (Q : Int32 → wS → Prop) : Prop := w_X12_isIn (p0).toInt64 (0 : Int64) (((σ.1 176 15) - (1 : Int32))).toInt64 σ (fun r2 s1 => (r2 = 0 ∨ r2 = 1) ∧ Q r2 s1)
set_option maxRecDepth 100000 in
set_option maxHeartbeats 4000000 in
theorem c_X12_isScript (l : Launch) (g : wG) (A : Nat → Prop) (hA : adO g A)   {p0 : Int32} {σ : wS} {Q : Int32 → wS → Prop} (h : w_X12_isScript  p0 σ Q) : Mi l yX12_isScript wvX12_isScript 1 25 g A [.ref (g.2.2 176), .int p0] σ Q := by
  refine mt_i (own := RX12) (lv := [(0, .ref (g.2.2 176)), (1, .int p0)]) (by decide) rfl rfl hA (Nat.le_of_ble_eq_true rfl) rfl ?_
  intro X hl hg hAA F hret
  subst hl hg hAA
  unfold w_X12_isScript at h
  refine x_iload_n F dX12_isScript_0 rfl 1 rfl ?_
  refine x_i2l F dX12_isScript_1 ?_
  refine x_lconst (0 : Int64) F dX12_isScript_2 (by decide) ?_
  refine x_aload_n F dX12_isScript_3 rfl 0 rfl ?_
  refine g_12_15 F kz_176 in_12 (mc bw_22_17) dX12_isScript_4 ?_
  refine x_iconst (1 : Int32) F dX12_isScript_7 (by decide) ?_
  refine x_isub F dX12_isScript_8 ?_
  refine x_i2l F dX12_isScript_9 ?_
  refine x_callT_i F (c_X12_isIn (xl X) (xg X) (xA X) F.2.2.1  h) (bw_S bw_13_13 bw_13_14 bw_1_5 bw_13_15) rfl cd_X12_isIn (Nat.le_of_ble_eq_true rfl) (Nat.le_of_ble_eq_true rfl) rfl rfl (Nat.le_of_ble_eq_true rfl) dX12_isScript_10 (fun r2 s1 h => ?_)
  obtain ⟨hz, h⟩ := h
  exact hret _ _ _ _ h (nar01 hz) dX12_isScript_13
/-! X12_step -/
abbrev wvX12_step : List Cond := Cond.code yX12_step cX12_step 4 (some .int) :: wsL_law
theorem cd_X12_step : okN yX12_step RX12 3 := by unfold okN; decide +kernel
def w_X12_step  (p0 : Int32) (p1 : Int32) (p2 : Int32) (σ : wS) (Q : Int32 → wS → Prop) : Prop := ∀ s1 : wS, s1 = upI σ 176 0 (0 : Int32) → (w_X12_isScript p0 s1 (fun r3 s2 => (r3 = 0 → (Q (-1000000 : Int32) s2)) ∧ (¬ r3 = 0 → (vp_in p0 5 ∧ (w_X12_isIn (p1).toInt64 (0 : Int64) (((s2.1 184 (p0).toNatClampNeg) - (1 : Int32))).toInt64 s2 (fun r5 s4 => (r5 = 0 → (Q (-1000000 : Int32) s4)) ∧ (¬ r5 = 0 → (w_X12_isIn (p2).toInt64 (0 : Int64) (3 : Int64) s4 (fun r7 s6 => (¬ r7 = 0 → (vp_in (((4 : Int32) * (((16 : Int32) * p0) + p1)) + p2) 320 ∧ (Q (s6.1 183 ((((4 : Int32) * (((16 : Int32) * p0) + p1)) + p2)).toNatClampNeg) s6))) ∧ (r7 = 0 → (Q (-1000000 : Int32) s6)))))))))))
set_option maxRecDepth 100000 in
set_option maxHeartbeats 4000000 in
theorem c_X12_step (l : Launch) (g : wG) (A : Nat → Prop) (hA : adO g A)   {p0 : Int32} {p1 : Int32} {p2 : Int32} {σ : wS} {Q : Int32 → wS → Prop} (h : w_X12_step  p0 p1 p2 σ Q) : Mi l yX12_step wvX12_step 2 46 g A [.ref (g.2.2 176), .int p0, .int p1, .int p2] σ Q := by
  refine mt_i (own := RX12) (lv := [(0, .ref (g.2.2 176)), (1, .int p0), (2, .int p1), (3, .int p2)]) (by decide) rfl rfl hA (Nat.le_of_ble_eq_true rfl) rfl ?_
  intro X hl hg hAA F hret
  subst hl hg hAA
  unfold w_X12_step at h
  refine x_aload_n F dX12_step_0 rfl 0 rfl ?_
  refine x_iconst (0 : Int32) F dX12_step_1 (by decide) ?_
  refine q_12_0 F kz_176 in_12 (mc bw_8_21) dX12_step_2 ?_
  refine x_nmS (fun s1 es1 => ?_)
  replace h := h s1 es1
  refine x_aload_n F dX12_step_5 rfl 0 rfl ?_
  refine x_iload_n F dX12_step_6 rfl 1 rfl ?_
  refine x_callV_i F (c_X12_isScript (xl X) (xg X) (xA X) F.2.2.1  h) (bw_V bw_42_2 bw_42_3 bw_42_4 bw_1_5 bw_42_5) rfl cd_X12_isScript (Nat.le_of_ble_eq_true rfl) (Nat.le_of_ble_eq_true rfl) (kd_w (by decide) kz_176) rfl (cl_12 kz_176) rfl rfl (Nat.le_of_ble_eq_true rfl) dX12_step_7 (fun r3 s2 h => ?_)
  refine x_if_eq (tgt := 43) F dX12_step_10 (by decide) (fun c => ?_) (fun c => ?_)
  · replace h := h.1 c
    refine x_ldc F dX12_step_43 (mc bw_18_9) ?_
    exact hret _ _ _ _ h rfl dX12_step_45
  · replace h := h.2 c
    refine x_iload_n F dX12_step_13 rfl 2 rfl ?_
    refine x_i2l F dX12_step_14 ?_
    refine x_lconst (0 : Int64) F dX12_step_15 (by decide) ?_
    refine x_aload_n F dX12_step_16 rfl 0 rfl ?_
    refine g_12_11 F kz_176 in_12 (mc bw_7_14) dX12_step_17 ?_
    refine x_iload_n F dX12_step_20 rfl 1 rfl ?_
    obtain ⟨hj, h⟩ := h
    refine x_iald F kz_184 nz_184 hj dX12_step_21 ?_
    refine x_iconst (1 : Int32) F dX12_step_22 (by decide) ?_
    refine x_isub F dX12_step_23 ?_
    refine x_i2l F dX12_step_24 ?_
    refine x_callT_i F (c_X12_isIn (xl X) (xg X) (xA X) F.2.2.1  h) (bw_S bw_13_13 bw_13_14 bw_1_5 bw_13_15) rfl cd_X12_isIn (Nat.le_of_ble_eq_true rfl) (Nat.le_of_ble_eq_true rfl) rfl rfl (Nat.le_of_ble_eq_true rfl) dX12_step_25 (fun r5 s4 h => ?_)
    refine x_if_eq (tgt := 43) F dX12_step_28 (by decide) (fun c => ?_) (fun c => ?_)
    · replace h := h.1 c
      refine x_ldc F dX12_step_43 (mc bw_18_9) ?_
      exact hret _ _ _ _ h rfl dX12_step_45
    · replace h := h.2 c
      refine x_iload_n F dX12_step_31 rfl 3 rfl ?_
      refine x_i2l F dX12_step_32 ?_
      refine x_lconst (0 : Int64) F dX12_step_33 (by decide) ?_
      refine x_ldc2 F dX12_step_34 (mc bw_42_1) ?_
      refine x_callT_i F (c_X12_isIn (xl X) (xg X) (xA X) F.2.2.1  h) (bw_S bw_13_13 bw_13_14 bw_1_5 bw_13_15) rfl cd_X12_isIn (Nat.le_of_ble_eq_true rfl) (Nat.le_of_ble_eq_true rfl) rfl rfl (Nat.le_of_ble_eq_true rfl) dX12_step_37 (fun r7 s6 h => ?_)
      refine x_if_ne (tgt := 46) F dX12_step_40 (by decide) (fun c => ?_) (fun c => ?_)
      · replace h := h.1 c
        refine x_aload_n F dX12_step_46 rfl 0 rfl ?_
        refine g_12_10 F kz_176 in_12 (mc bw_7_13) dX12_step_47 ?_
        refine x_iconst (4 : Int32) F dX12_step_50 (by decide) ?_
        refine x_bipush (16 : Int32) F dX12_step_51 (by decide) ?_
        refine x_iload_n F dX12_step_53 rfl 1 rfl ?_
        refine x_imul F dX12_step_54 ?_
        refine x_iload_n F dX12_step_55 rfl 2 rfl ?_
        refine x_iadd F dX12_step_56 ?_
        refine x_imul F dX12_step_57 ?_
        refine x_iload_n F dX12_step_58 rfl 3 rfl ?_
        refine x_iadd F dX12_step_59 ?_
        obtain ⟨hj, h⟩ := h
        refine x_iald F kz_183 nz_183 hj dX12_step_60 ?_
        exact hret _ _ _ _ h rfl dX12_step_61
      · replace h := h.2 c
        refine x_ldc F dX12_step_43 (mc bw_18_9) ?_
        exact hret _ _ _ _ h rfl dX12_step_45
/-! X12_doesStep -/
abbrev wvX12_doesStep : List Cond := Cond.code yX12_doesStep cX12_doesStep 4 (some .int) :: wsL_law
theorem cd_X12_doesStep : okN yX12_doesStep RX12 2 := by unfold okN; decide +kernel
def b_X12_doesStep_51 (p0 : Nat)  (Q : Int32 → wS → Prop) (z0 : Int32) (z1 : Int32) (z2 : Int32) (z3 : Int32) (z4 : Nat) (σ : wS) : Prop := w_X12_does z4 z3 z2 z1 z0 σ (fun r2 s1 => Q r2 s1)
set_option maxRecDepth 100000 in
set_option maxHeartbeats 4000000 in
theorem wb_X12_doesStep_51 {X : XT} {Q : Int32 → wS → Prop} {p0 : Nat} (F : Fx X cX12_doesStep 4 RX12 wvX12_doesStep 6 151) (hret : Ri X 4 cX12_doesStep .int Q) (k_p0 : kd p0 = 14)   (z0 : Int32) (z1 : Int32) (z2 : Int32) (z3 : Int32) (z4 : Nat) (k_z4 : kd z4 = 14) (σ : wS) (h : b_X12_doesStep_51 p0  Q z0 z1 z2 z3 z4 σ) : Wx X 4 σ 51 [] [.int z0, .int z1, .int z2, .int z3, .ref (ad X z4), .ref (ad X 176)] := by
  unfold b_X12_doesStep_51 at h
  refine x_callV_i F (c_X12_does (xl X) (xg X) (xA X) F.2.2.1 k_z4 h) (bw_V bw_36_2 bw_36_3 bw_36_4 bw_1_5 bw_36_5) rfl cd_X12_does (Nat.le_of_ble_eq_true rfl) (Nat.le_of_ble_eq_true rfl) (kd_w (by decide) kz_176) rfl (cl_12 kz_176) rfl rfl (Nat.le_of_ble_eq_true rfl) dX12_doesStep_51 (fun r2 s1 h => ?_)
  exact hret _ _ _ _ h rfl dX12_doesStep_54
def b_X12_doesStep_35 (p0 : Nat)  (Q : Int32 → wS → Prop) (x2 : Int32) (x3 : Int32) (z0 : Int32) (z1 : Int32) (z2 : Int32) (z3 : Nat) (σ : wS) : Prop := (¬ x3 = 0 → (b_X12_doesStep_51 p0  Q (0 : Int32) z0 z1 z2 z3 σ)) ∧ (x3 = 0 → (vp_in (x2 + (3 : Int32)) 320 ∧ (b_X12_doesStep_51 p0  Q (σ.1 183 ((x2 + (3 : Int32))).toNatClampNeg) z0 z1 z2 z3 σ)))
set_option maxRecDepth 100000 in
set_option maxHeartbeats 4000000 in
theorem wb_X12_doesStep_35 {X : XT} {Q : Int32 → wS → Prop} {p0 : Nat} (F : Fx X cX12_doesStep 4 RX12 wvX12_doesStep 6 151) (hret : Ri X 4 cX12_doesStep .int Q) (k_p0 : kd p0 = 14)   (x2 : Int32) (x3 : Int32) (z0 : Int32) (z1 : Int32) (z2 : Int32) (z3 : Nat) (k_z3 : kd z3 = 14) (σ : wS) (h : b_X12_doesStep_35 p0  Q x2 x3 z0 z1 z2 z3 σ) : Wx X 4 σ 35 [(0, .ref (ad X 176)), (2, .int x2), (3, .int x3)] [.int z0, .int z1, .int z2, .ref (ad X z3), .ref (ad X 176)] := by
  unfold b_X12_doesStep_35 at h
  refine x_iload_n F dX12_doesStep_35 rfl 2 rfl ?_
  refine x_if_ne (tgt := 50) F dX12_doesStep_36 (by decide) (fun c => ?_) (fun c => ?_)
  · replace h := h.1 c
    refine x_iconst (0 : Int32) F dX12_doesStep_50 (by decide) ?_
    refine x_sub (lv' := []) [] rfl ?_
    exact wb_X12_doesStep_51 F hret k_p0  _ _ _ _ _ k_z3 _ h
  · replace h := h.2 c
    refine x_aload_n F dX12_doesStep_39 rfl 0 rfl ?_
    refine g_12_10 F kz_176 in_12 (mc bw_7_13) dX12_doesStep_40 ?_
    refine x_iload_n F dX12_doesStep_43 rfl 1 rfl ?_
    refine x_iconst (3 : Int32) F dX12_doesStep_44 (by decide) ?_
    refine x_iadd F dX12_doesStep_45 ?_
    obtain ⟨hj, h⟩ := h
    refine x_iald F kz_183 nz_183 hj dX12_doesStep_46 ?_
    refine x_goto (tgt := 51) F dX12_doesStep_47 (by decide) ?_
    refine x_sub (lv' := []) [] rfl ?_
    exact wb_X12_doesStep_51 F hret k_p0  _ _ _ _ _ k_z3 _ h
def w_X12_doesStep (p0 : Nat) (p1 : Int32) (σ : wS) (Q : Int32 → wS → Prop) : Prop := vp_in p1 320 ∧ (∀ y1 : Int32, y1 = (σ.1 183 (p1).toNatClampNeg) → (vp_in (p1 + (1 : Int32)) 320 ∧ (((2 : Int32) ≤ y1 → (b_X12_doesStep_35 p0  Q p1 y1 (0 : Int32) (σ.1 183 ((p1 + (1 : Int32))).toNatClampNeg) y1 p0 σ)) ∧ (¬ (2 : Int32) ≤ y1 → (vp_in (p1 + (2 : Int32)) 320 ∧ (b_X12_doesStep_35 p0  Q p1 y1 (σ.1 183 ((p1 + (2 : Int32))).toNatClampNeg) (σ.1 183 ((p1 + (1 : Int32))).toNatClampNeg) y1 p0 σ))))))
set_option maxRecDepth 100000 in
set_option maxHeartbeats 4000000 in
theorem c_X12_doesStep (l : Launch) (g : wG) (A : Nat → Prop) (hA : adO g A) {p0 : Nat} (k_p0 : kd p0 = 14) {p1 : Int32} {σ : wS} {Q : Int32 → wS → Prop} (h : w_X12_doesStep p0 p1 σ Q) : Mi l yX12_doesStep wvX12_doesStep 6 151 g A [.ref (g.2.2 176), .ref (g.2.2 p0), .int p1] σ Q := by
  refine mt_i (own := RX12) (lv := [(0, .ref (g.2.2 176)), (1, .ref (g.2.2 p0)), (2, .int p1)]) (by decide) rfl rfl hA (Nat.le_of_ble_eq_true rfl) rfl ?_
  intro X hl hg hAA F hret
  subst hl hg hAA
  unfold w_X12_doesStep at h
  refine x_aload_n F dX12_doesStep_0 rfl 0 rfl ?_
  refine g_12_10 F kz_176 in_12 (mc bw_7_13) dX12_doesStep_1 ?_
  refine x_iload_n F dX12_doesStep_4 rfl 2 rfl ?_
  obtain ⟨hj, h⟩ := h
  refine x_iald F kz_183 nz_183 hj dX12_doesStep_5 ?_
  refine x_topi (fun y1 ey1 => ?_)
  replace h := h y1 ey1
  refine x_istore_n (lv' := [(3, .int y1), (0, .ref (ad X 176)), (1, .ref (ad X p0)), (2, .int p1)]) F dX12_doesStep_6 rfl (by decide) rfl ?_
  refine x_aload_n F dX12_doesStep_7 rfl 1 rfl ?_
  refine x_aload_n F dX12_doesStep_8 rfl 2 rfl ?_
  refine x_iload_n F dX12_doesStep_9 rfl 0 rfl ?_
  refine x_aload_n F dX12_doesStep_10 rfl 1 rfl ?_
  refine g_12_10 F kz_176 in_12 (mc bw_7_13) dX12_doesStep_11 ?_
  refine x_iload_n F dX12_doesStep_14 rfl 3 rfl ?_
  refine x_iconst (1 : Int32) F dX12_doesStep_15 (by decide) ?_
  refine x_iadd F dX12_doesStep_16 ?_
  obtain ⟨hj, h⟩ := h
  refine x_iald F kz_183 nz_183 hj dX12_doesStep_17 ?_
  refine x_iload_n F dX12_doesStep_18 rfl 0 rfl ?_
  refine x_iconst (2 : Int32) F dX12_doesStep_19 (by decide) ?_
  refine x_icmp_ge (tgt := 34) F dX12_doesStep_20 (by decide) (fun c => ?_) (fun c => ?_)
  · replace h := h.1 c
    refine x_iconst (0 : Int32) F dX12_doesStep_34 (by decide) ?_
    refine x_sub (lv' := [(0, .ref (ad X 176)), (2, .int p1), (3, .int y1)]) [1, 3, 0] rfl ?_
    exact wb_X12_doesStep_35 F hret k_p0  _ _ _ _ _ _ k_p0 _ h
  · replace h := h.2 c
    refine x_aload_n F dX12_doesStep_23 rfl 1 rfl ?_
    refine g_12_10 F kz_176 in_12 (mc bw_7_13) dX12_doesStep_24 ?_
    refine x_iload_n F dX12_doesStep_27 rfl 3 rfl ?_
    refine x_iconst (2 : Int32) F dX12_doesStep_28 (by decide) ?_
    refine x_iadd F dX12_doesStep_29 ?_
    obtain ⟨hj, h⟩ := h
    refine x_iald F kz_183 nz_183 hj dX12_doesStep_30 ?_
    refine x_goto (tgt := 35) F dX12_doesStep_31 (by decide) ?_
    refine x_sub (lv' := [(0, .ref (ad X 176)), (2, .int p1), (3, .int y1)]) [1, 3, 0] rfl ?_
    exact wb_X12_doesStep_35 F hret k_p0  _ _ _ _ _ _ k_p0 _ h
/-! X12_goes -/
abbrev wvX12_goes : List Cond := Cond.code yX12_goes cX12_goes 3 (some .int) :: wsL_law
theorem cd_X12_goes : okN yX12_goes RX12 1 := by unfold okN; decide +kernel
def l_X12_goes_20   (Q : Int32 → wS → Prop) : Nat → Int32 → Int32 → wS → Prop
  | 0, _, _, _ => False
  | n + 1, x1, x2, σ => vp_in x1 5 ∧ (((σ.1 184 (x1).toNatClampNeg) ≤ x2 → (Q x2 σ)) ∧ (¬ (σ.1 184 (x1).toNatClampNeg) ≤ x2 → ((¬ (σ.1 176 38) = (-1 : Int32) → (Q x2 σ)) ∧ ((σ.1 176 38) = (-1 : Int32) → (w_X12_copyRow 189 198 (0 : Int32) (0 : Int32) σ (fun s1 => w_X12_doesStep 189 ((4 : Int32) * (((16 : Int32) * x1) + x2)) s1 (fun r4 s3 => ∀ s5 : wS, s5 = upI s3 176 38 r4 → ((¬ (s5.1 176 38) = (-1 : Int32) → (l_X12_goes_20   Q n x1 x2 s5)) ∧ ((s5.1 176 38) = (-1 : Int32) → (∀ y6 : Int32, y6 = (x2 + (1 : Int32)) → (l_X12_goes_20   Q n x1 y6 s5)))))))))))
set_option maxRecDepth 100000 in
set_option maxHeartbeats 4000000 in
theorem wl_X12_goes_20 {X : XT} {Q : Int32 → wS → Prop}  (F : Fx X cX12_goes 3 RX12 wvX12_goes 7 174) (hret : Ri X 3 cX12_goes .int Q)    : ∀ (n : Nat) (x1 : Int32) (x2 : Int32) (σ : wS), l_X12_goes_20   Q n x1 x2 σ → Wx X 3 σ 20 [(0, .ref (ad X 176)), (1, .int x1), (2, .int x2)] [] := by
  intro n
  induction n with
  | zero =>
    intros
    contradiction
  | succ n ih =>
    intro x1 x2 σ h
    simp only [l_X12_goes_20] at h
    refine x_iload_n F dX12_goes_20 rfl 2 rfl ?_
    refine x_aload_n F dX12_goes_21 rfl 0 rfl ?_
    refine g_12_11 F kz_176 in_12 (mc bw_7_14) dX12_goes_22 ?_
    refine x_iload_n F dX12_goes_25 rfl 1 rfl ?_
    obtain ⟨hj, h⟩ := h
    refine x_iald F kz_184 nz_184 hj dX12_goes_26 ?_
    refine x_icmp_ge (tgt := 85) F dX12_goes_27 (by decide) (fun c => ?_) (fun c => ?_)
    · replace h := h.1 c
      refine x_iload_n F dX12_goes_85 rfl 2 rfl ?_
      exact hret _ _ _ _ h rfl dX12_goes_86
    · replace h := h.2 c
      refine x_aload_n F dX12_goes_30 rfl 0 rfl ?_
      refine g_12_38 F kz_176 in_12 (mc bw_43_2) dX12_goes_31 ?_
      refine x_iconst (-1 : Int32) F dX12_goes_34 (by decide) ?_
      refine x_icmp_ne (tgt := 85) F dX12_goes_35 (by decide) (fun c => ?_) (fun c => ?_)
      · replace h := h.1 c
        refine x_iload_n F dX12_goes_85 rfl 2 rfl ?_
        exact hret _ _ _ _ h rfl dX12_goes_86
      · replace h := h.2 c
        refine x_aload_n F dX12_goes_38 rfl 0 rfl ?_
        refine g_12_20 F kz_176 in_12 (mc bw_7_19) dX12_goes_39 ?_
        refine x_iconst (0 : Int32) F dX12_goes_42 (by decide) ?_
        refine x_aload_n F dX12_goes_43 rfl 0 rfl ?_
        refine g_12_37 F kz_176 in_12 (mc bw_8_4) dX12_goes_44 ?_
        refine x_iconst (0 : Int32) F dX12_goes_47 (by decide) ?_
        refine x_callT_v F (c_X12_copyRow (xl X) (xg X) (xA X) F.2.2.1 kz_189 kz_198 h) (bw_S bw_25_14 bw_25_15 bw_1_5 bw_25_16) rfl cd_X12_copyRow (Nat.le_of_ble_eq_true rfl) (Nat.le_of_ble_eq_true rfl) rfl rfl (Nat.le_of_ble_eq_true rfl) dX12_goes_48 (fun s1 h => ?_)
        refine x_aload_n F dX12_goes_51 rfl 0 rfl ?_
        refine x_aload_n F dX12_goes_52 rfl 0 rfl ?_
        refine x_aload_n F dX12_goes_53 rfl 0 rfl ?_
        refine g_12_20 F kz_176 in_12 (mc bw_7_19) dX12_goes_54 ?_
        refine x_iconst (4 : Int32) F dX12_goes_57 (by decide) ?_
        refine x_bipush (16 : Int32) F dX12_goes_58 (by decide) ?_
        refine x_iload_n F dX12_goes_60 rfl 1 rfl ?_
        refine x_imul F dX12_goes_61 ?_
        refine x_iload_n F dX12_goes_62 rfl 2 rfl ?_
        refine x_iadd F dX12_goes_63 ?_
        refine x_imul F dX12_goes_64 ?_
        refine x_callV_i F (c_X12_doesStep (xl X) (xg X) (xA X) F.2.2.1 kz_189 h) (bw_V bw_43_7 bw_43_8 bw_43_9 bw_1_5 bw_43_10) rfl cd_X12_doesStep (Nat.le_of_ble_eq_true rfl) (Nat.le_of_ble_eq_true rfl) (kd_w (by decide) kz_176) rfl (cl_12 kz_176) rfl rfl (Nat.le_of_ble_eq_true rfl) dX12_goes_65 (fun r4 s3 h => ?_)
        refine q_12_38 F kz_176 in_12 (mc bw_43_2) dX12_goes_68 ?_
        refine x_nmS (fun s5 es5 => ?_)
        replace h := h s5 es5
        refine x_aload_n F dX12_goes_71 rfl 0 rfl ?_
        refine g_12_38 F kz_176 in_12 (mc bw_43_2) dX12_goes_72 ?_
        refine x_iconst (-1 : Int32) F dX12_goes_75 (by decide) ?_
        refine x_icmp_ne (tgt := 20) F dX12_goes_76 (by decide) (fun c => ?_) (fun c => ?_)
        · replace h := h.1 c
          refine x_sub (lv' := [(0, .ref (ad X 176)), (1, .int x1), (2, .int x2)]) [0, 1, 2] rfl ?_
          exact ih _ _ _ h
        · replace h := h.2 c
          obtain ⟨y6, ey6⟩ : ∃ y : Int32, y = (x2 + (1 : Int32)) := ⟨_, rfl⟩
          replace h := h y6 ey6
          refine x_iinc (q := 2) (v := y6) (lv' := [(2, .int y6), (0, .ref (ad X 176)), (1, .int x1)]) F dX12_goes_79 rfl (by rw [ey6]; rfl) (by decide) rfl ?_
          refine x_goto (tgt := 20) F dX12_goes_82 (by decide) ?_
          refine x_sub (lv' := [(0, .ref (ad X 176)), (1, .int x1), (2, .int y6)]) [1, 2, 0] rfl ?_
          exact ih _ _ _ h
def w_X12_goes  (p0 : Int32) (σ : wS) (Q : Int32 → wS → Prop) : Prop := w_X12_copyRow 188 189 (0 : Int32) (0 : Int32) σ (fun s1 => ∀ s3 : wS, s3 = upI s1 176 38 (-1 : Int32) → ((∃ m, l_X12_goes_20   Q m p0 (0 : Int32) s3)))
set_option maxRecDepth 100000 in
set_option maxHeartbeats 4000000 in
theorem c_X12_goes (l : Launch) (g : wG) (A : Nat → Prop) (hA : adO g A)   {p0 : Int32} {σ : wS} {Q : Int32 → wS → Prop} (h : w_X12_goes  p0 σ Q) : Mi l yX12_goes wvX12_goes 7 174 g A [.ref (g.2.2 176), .int p0] σ Q := by
  refine mt_i (own := RX12) (lv := [(0, .ref (g.2.2 176)), (1, .int p0)]) (by decide) rfl rfl hA (Nat.le_of_ble_eq_true rfl) rfl ?_
  intro X hl hg hAA F hret
  subst hl hg hAA
  unfold w_X12_goes at h
  refine x_aload_n F dX12_goes_0 rfl 0 rfl ?_
  refine g_12_19 F kz_176 in_12 (mc bw_7_18) dX12_goes_1 ?_
  refine x_iconst (0 : Int32) F dX12_goes_4 (by decide) ?_
  refine x_aload_n F dX12_goes_5 rfl 0 rfl ?_
  refine g_12_20 F kz_176 in_12 (mc bw_7_19) dX12_goes_6 ?_
  refine x_iconst (0 : Int32) F dX12_goes_9 (by decide) ?_
  refine x_callT_v F (c_X12_copyRow (xl X) (xg X) (xA X) F.2.2.1 kz_188 kz_189 h) (bw_S bw_25_14 bw_25_15 bw_1_5 bw_25_16) rfl cd_X12_copyRow (Nat.le_of_ble_eq_true rfl) (Nat.le_of_ble_eq_true rfl) rfl rfl (Nat.le_of_ble_eq_true rfl) dX12_goes_10 (fun s1 h => ?_)
  refine x_iconst (0 : Int32) F dX12_goes_13 (by decide) ?_
  refine x_istore_n (lv' := [(2, .int (0 : Int32)), (0, .ref (ad X 176)), (1, .int p0)]) F dX12_goes_14 rfl (by decide) rfl ?_
  refine x_aload_n F dX12_goes_15 rfl 1 rfl ?_
  refine x_iconst (-1 : Int32) F dX12_goes_16 (by decide) ?_
  refine q_12_38 F kz_176 in_12 (mc bw_43_2) dX12_goes_17 ?_
  refine x_nmS (fun s3 es3 => ?_)
  replace h := h s3 es3
  refine x_sub (lv' := [(0, .ref (ad X 176)), (1, .int p0), (2, .int (0 : Int32))]) [1, 2, 0] rfl ?_
  obtain ⟨n2, h⟩ := h
  exact wl_X12_goes_20 F hret   n2 _ _ _ h
/-! X12_size -/
abbrev wvX12_size : List Cond := Cond.code yX12_size cX12_size 3 (some .int) :: wsL_law
theorem cd_X12_size : okN yX12_size RX12 1 := by unfold okN; decide +kernel
def l_X12_size_4   (Q : Int32 → wS → Prop) : Nat → Int32 → Int32 → Int32 → wS → Prop
  | 0, _, _, _, _ => False
  | n + 1, x0, x1, x2, σ => ((8 : Int32) ≤ x2 → (Q x1 σ)) ∧ (¬ (8 : Int32) ≤ x2 → (∀ y1 : Int32, y1 = (x1 + ((x0 >>> (x2 &&& 31)) &&& (1 : Int32))) → (∀ y2 : Int32, y2 = (x2 + (1 : Int32)) → (l_X12_size_4   Q n x0 y1 y2 σ))))
set_option maxRecDepth 100000 in
set_option maxHeartbeats 4000000 in
theorem wl_X12_size_4 {X : XT} {Q : Int32 → wS → Prop}  (F : Fx X cX12_size 3 RX12 wvX12_size 0 0) (hret : Ri X 3 cX12_size .int Q)    : ∀ (n : Nat) (x0 : Int32) (x1 : Int32) (x2 : Int32) (σ : wS), l_X12_size_4   Q n x0 x1 x2 σ → Wx X 3 σ 4 [(0, .int x0), (1, .int x1), (2, .int x2)] [] := by
  intro n
  induction n with
  | zero =>
    intros
    contradiction
  | succ n ih =>
    intro x0 x1 x2 σ h
    simp only [l_X12_size_4] at h
    refine x_iload_n F dX12_size_4 rfl 2 rfl ?_
    refine x_bipush (8 : Int32) F dX12_size_5 (by decide) ?_
    refine x_icmp_ge (tgt := 24) F dX12_size_7 (by decide) (fun c => ?_) (fun c => ?_)
    · replace h := h.1 c
      refine x_iload_n F dX12_size_24 rfl 1 rfl ?_
      exact hret _ _ _ _ h rfl dX12_size_25
    · replace h := h.2 c
      refine x_iload_n F dX12_size_10 rfl 1 rfl ?_
      refine x_iload_n F dX12_size_11 rfl 0 rfl ?_
      refine x_iload_n F dX12_size_12 rfl 2 rfl ?_
      refine x_ishr F dX12_size_13 ?_
      refine x_iconst (1 : Int32) F dX12_size_14 (by decide) ?_
      refine x_iand F dX12_size_15 ?_
      refine x_iadd F dX12_size_16 ?_
      refine x_topi (fun y1 ey1 => ?_)
      replace h := h y1 ey1
      refine x_istore_n (lv' := [(1, .int y1), (0, .int x0), (2, .int x2)]) F dX12_size_17 rfl (by decide) rfl ?_
      obtain ⟨y2, ey2⟩ : ∃ y : Int32, y = (x2 + (1 : Int32)) := ⟨_, rfl⟩
      replace h := h y2 ey2
      refine x_iinc (q := 2) (v := y2) (lv' := [(2, .int y2), (1, .int y1), (0, .int x0)]) F dX12_size_18 rfl (by rw [ey2]; rfl) (by decide) rfl ?_
      refine x_goto (tgt := 4) F dX12_size_21 (by decide) ?_
      refine x_sub (lv' := [(0, .int x0), (1, .int y1), (2, .int y2)]) [2, 1, 0] rfl ?_
      exact ih _ _ _ _ h
def w_X12_size  (p0 : Int32) (σ : wS) (Q : Int32 → wS → Prop) : Prop := (∃ m, l_X12_size_4   Q m p0 (0 : Int32) (0 : Int32) σ)
set_option maxRecDepth 100000 in
set_option maxHeartbeats 4000000 in
theorem c_X12_size (l : Launch) (g : wG) (A : Nat → Prop) (hA : adO g A)   {p0 : Int32} {σ : wS} {Q : Int32 → wS → Prop} (h : w_X12_size  p0 σ Q) : Mi l yX12_size wvX12_size 0 0 g A [.int p0] σ Q := by
  refine mt_i (own := RX12) (lv := [(0, .int p0)]) (by decide) rfl rfl hA (Nat.le_of_ble_eq_true rfl) rfl ?_
  intro X hl hg hAA F hret
  subst hl hg hAA
  unfold w_X12_size at h
  refine x_iconst (0 : Int32) F dX12_size_0 (by decide) ?_
  refine x_istore_n (lv' := [(1, .int (0 : Int32)), (0, .int p0)]) F dX12_size_1 rfl (by decide) rfl ?_
  refine x_iconst (0 : Int32) F dX12_size_2 (by decide) ?_
  refine x_istore_n (lv' := [(2, .int (0 : Int32)), (1, .int (0 : Int32)), (0, .int p0)]) F dX12_size_3 rfl (by decide) rfl ?_
  refine x_sub (lv' := [(0, .int p0), (1, .int (0 : Int32)), (2, .int (0 : Int32))]) [2, 1, 0] rfl ?_
  obtain ⟨n2, h⟩ := h
  exact wl_X12_size_4 F hret   n2 _ _ _ _ h
/-! X12_run -/
abbrev wvX12_run : List Cond := Cond.code yX12_run cX12_run 4 (some .int) :: wsL_law
theorem cd_X12_run : okN yX12_run RX12 2 := by unfold okN; decide +kernel
def b_X12_run_76   (Q : Int32 → wS → Prop) (z0 : Nat) (σ : wS) : Prop := w_X12_those z0 (σ.1 176 14) (0 : Int32) σ (fun r2 s1 => w_X12_size r2 s1 (fun r4 s3 => Q r4 s3))
set_option maxRecDepth 100000 in
set_option maxHeartbeats 4000000 in
theorem wb_X12_run_76 {X : XT} {Q : Int32 → wS → Prop}  (F : Fx X cX12_run 4 RX12 wvX12_run 8 196) (hret : Ri X 4 cX12_run .int Q)    (z0 : Nat) (k_z0 : kd z0 = 14) (σ : wS) (h : b_X12_run_76   Q z0 σ) : Wx X 4 σ 76 [(0, .ref (ad X 176))] [.ref (ad X z0)] := by
  unfold b_X12_run_76 at h
  refine x_aload_n F dX12_run_76 rfl 0 rfl ?_
  refine g_12_14 F kz_176 in_12 (mc bw_22_18) dX12_run_77 ?_
  refine x_iconst (0 : Int32) F dX12_run_80 (by decide) ?_
  refine x_callT_i F (c_X12_those (xl X) (xg X) (xA X) F.2.2.1 k_z0 h) (bw_S bw_23_11 bw_23_12 bw_1_5 bw_23_13) rfl cd_X12_those (Nat.le_of_ble_eq_true rfl) (Nat.le_of_ble_eq_true rfl) rfl rfl (Nat.le_of_ble_eq_true rfl) dX12_run_81 (fun r2 s1 h => ?_)
  refine x_callT_i F (c_X12_size (xl X) (xg X) (xA X) F.2.2.1  h) (bw_S bw_43_11 bw_43_12 bw_1_5 bw_43_13) rfl cd_X12_size (Nat.le_of_ble_eq_true rfl) (Nat.le_of_ble_eq_true rfl) rfl rfl (Nat.le_of_ble_eq_true rfl) dX12_run_84 (fun r4 s3 h => ?_)
  exact hret _ _ _ _ h rfl dX12_run_87
def w_X12_run  (p0 : Int32) (p1 : Int32) (σ : wS) (Q : Int32 → wS → Prop) : Prop := ∀ s1 : wS, s1 = upI σ 176 0 (0 : Int32) → (w_X12_isScript p0 s1 (fun r3 s2 => (r3 = 0 → (Q (-1000000 : Int32) s2)) ∧ (¬ r3 = 0 → (((s2.1 176 14) = 0 → (Q (-1000000 : Int32) s2)) ∧ (¬ (s2.1 176 14) = 0 → (w_X12_isIn (p1).toInt64 (0 : Int64) (1 : Int64) s2 (fun r5 s4 => (¬ r5 = 0 → (w_X12_goes p0 s4 (fun r7 s6 => (¬ p1 = 0 → ((¬ (s6.1 176 38) = (-1 : Int32) → (b_X12_run_76   Q 198 s6)) ∧ ((s6.1 176 38) = (-1 : Int32) → (b_X12_run_76   Q 189 s6)))) ∧ (p1 = 0 → ((¬ (s6.1 176 38) = (-1 : Int32) → (Q r7 s6)) ∧ ((s6.1 176 38) = (-1 : Int32) → (Q (-1 : Int32) s6))))))) ∧ (r5 = 0 → (Q (-1000000 : Int32) s4)))))))))
set_option maxRecDepth 100000 in
set_option maxHeartbeats 4000000 in
theorem c_X12_run (l : Launch) (g : wG) (A : Nat → Prop) (hA : adO g A)   {p0 : Int32} {p1 : Int32} {σ : wS} {Q : Int32 → wS → Prop} (h : w_X12_run  p0 p1 σ Q) : Mi l yX12_run wvX12_run 8 196 g A [.ref (g.2.2 176), .int p0, .int p1] σ Q := by
  refine mt_i (own := RX12) (lv := [(0, .ref (g.2.2 176)), (1, .int p0), (2, .int p1)]) (by decide) rfl rfl hA (Nat.le_of_ble_eq_true rfl) rfl ?_
  intro X hl hg hAA F hret
  subst hl hg hAA
  unfold w_X12_run at h
  refine x_aload_n F dX12_run_0 rfl 0 rfl ?_
  refine x_iconst (0 : Int32) F dX12_run_1 (by decide) ?_
  refine q_12_0 F kz_176 in_12 (mc bw_8_21) dX12_run_2 ?_
  refine x_nmS (fun s1 es1 => ?_)
  replace h := h s1 es1
  refine x_aload_n F dX12_run_5 rfl 0 rfl ?_
  refine x_iload_n F dX12_run_6 rfl 1 rfl ?_
  refine x_callV_i F (c_X12_isScript (xl X) (xg X) (xA X) F.2.2.1  h) (bw_V bw_42_2 bw_42_3 bw_42_4 bw_1_5 bw_42_5) rfl cd_X12_isScript (Nat.le_of_ble_eq_true rfl) (Nat.le_of_ble_eq_true rfl) (kd_w (by decide) kz_176) rfl (cl_12 kz_176) rfl rfl (Nat.le_of_ble_eq_true rfl) dX12_run_7 (fun r3 s2 h => ?_)
  refine x_if_eq (tgt := 30) F dX12_run_10 (by decide) (fun c => ?_) (fun c => ?_)
  · replace h := h.1 c
    refine x_ldc F dX12_run_30 (mc bw_18_9) ?_
    exact hret _ _ _ _ h rfl dX12_run_32
  · replace h := h.2 c
    refine x_aload_n F dX12_run_13 rfl 0 rfl ?_
    refine g_12_14 F kz_176 in_12 (mc bw_22_18) dX12_run_14 ?_
    refine x_if_eq (tgt := 30) F dX12_run_17 (by decide) (fun c => ?_) (fun c => ?_)
    · replace h := h.1 c
      refine x_ldc F dX12_run_30 (mc bw_18_9) ?_
      exact hret _ _ _ _ h rfl dX12_run_32
    · replace h := h.2 c
      refine x_iload_n F dX12_run_20 rfl 2 rfl ?_
      refine x_i2l F dX12_run_21 ?_
      refine x_lconst (0 : Int64) F dX12_run_22 (by decide) ?_
      refine x_lconst (1 : Int64) F dX12_run_23 (by decide) ?_
      refine x_callT_i F (c_X12_isIn (xl X) (xg X) (xA X) F.2.2.1  h) (bw_S bw_13_13 bw_13_14 bw_1_5 bw_13_15) rfl cd_X12_isIn (Nat.le_of_ble_eq_true rfl) (Nat.le_of_ble_eq_true rfl) rfl rfl (Nat.le_of_ble_eq_true rfl) dX12_run_24 (fun r5 s4 h => ?_)
      refine x_if_ne (tgt := 33) F dX12_run_27 (by decide) (fun c => ?_) (fun c => ?_)
      · replace h := h.1 c
        refine x_aload_n F dX12_run_33 rfl 0 rfl ?_
        refine x_iload_n F dX12_run_34 rfl 1 rfl ?_
        refine x_callV_i F (c_X12_goes (xl X) (xg X) (xA X) F.2.2.1  h) (bw_V bw_43_3 bw_43_4 bw_43_5 bw_1_5 bw_43_6) rfl cd_X12_goes (Nat.le_of_ble_eq_true rfl) (Nat.le_of_ble_eq_true rfl) (kd_w (by decide) kz_176) rfl (cl_12 kz_176) rfl rfl (Nat.le_of_ble_eq_true rfl) dX12_run_35 (fun r7 s6 h => ?_)
        refine x_istore_n (lv' := [(3, .int r7), (0, .ref (ad X 176)), (1, .int p0), (2, .int p1)]) F dX12_run_38 rfl (by decide) rfl ?_
        refine x_iload_n F dX12_run_39 rfl 3 rfl ?_
        refine x_if_ne (tgt := 57) F dX12_run_40 (by decide) (fun c => ?_) (fun c => ?_)
        · replace h := h.1 c
          refine x_aload_n F dX12_run_57 rfl 1 rfl ?_
          refine g_12_38 F kz_176 in_12 (mc bw_43_2) dX12_run_58 ?_
          refine x_iconst (-1 : Int32) F dX12_run_61 (by decide) ?_
          refine x_icmp_ne (tgt := 72) F dX12_run_62 (by decide) (fun c => ?_) (fun c => ?_)
          · replace h := h.1 c
            refine x_aload_n F dX12_run_72 rfl 1 rfl ?_
            refine g_12_37 F kz_176 in_12 (mc bw_8_4) dX12_run_73 ?_
            refine x_sub (lv' := [(0, .ref (ad X 176))]) [1] rfl ?_
            exact wb_X12_run_76 F hret   _ kz_198 _ h
          · replace h := h.2 c
            refine x_aload_n F dX12_run_65 rfl 1 rfl ?_
            refine g_12_20 F kz_176 in_12 (mc bw_7_19) dX12_run_66 ?_
            refine x_goto (tgt := 76) F dX12_run_69 (by decide) ?_
            refine x_sub (lv' := [(0, .ref (ad X 176))]) [1] rfl ?_
            exact wb_X12_run_76 F hret   _ kz_189 _ h
        · replace h := h.2 c
          refine x_aload_n F dX12_run_43 rfl 1 rfl ?_
          refine g_12_38 F kz_176 in_12 (mc bw_43_2) dX12_run_44 ?_
          refine x_iconst (-1 : Int32) F dX12_run_47 (by decide) ?_
          refine x_icmp_ne (tgt := 55) F dX12_run_48 (by decide) (fun c => ?_) (fun c => ?_)
          · replace h := h.1 c
            refine x_iload_n F dX12_run_55 rfl 0 rfl ?_
            exact hret _ _ _ _ h rfl dX12_run_56
          · replace h := h.2 c
            refine x_iconst (-1 : Int32) F dX12_run_51 (by decide) ?_
            refine x_goto (tgt := 56) F dX12_run_52 (by decide) ?_
            exact hret _ _ _ _ h rfl dX12_run_56
      · replace h := h.2 c
        refine x_ldc F dX12_run_30 (mc bw_18_9) ?_
        exact hret _ _ _ _ h rfl dX12_run_32
/-! X12_perform -/
abbrev wvX12_perform : List Cond := Cond.code yX12_perform cX12_perform 3 (some .int) :: wsL_law
theorem cd_X12_perform : okN yX12_perform RX12 1 := by unfold okN; decide +kernel
def b_X12_perform_20   (Q : Int32 → wS → Prop)  (σ : wS) : Prop := ∀ s1 : wS, s1 = upI σ 176 34 (0 : Int32) → (w_X12_causes (0 : Int32) s1 (fun s2 => ∀ s4 : wS, s4 = upI s2 185 ((0 : Int32)).toNatClampNeg ((s2.1 185 ((0 : Int32)).toNatClampNeg) + (1 : Int32)) → (Q (-1 : Int32) s4)))
set_option maxRecDepth 100000 in
set_option maxHeartbeats 4000000 in
theorem wb_X12_perform_20 {X : XT} {Q : Int32 → wS → Prop}  (F : Fx X cX12_perform 3 RX12 wvX12_perform 8 196) (hret : Ri X 3 cX12_perform .int Q)     (σ : wS) (h : b_X12_perform_20   Q  σ) : Wx X 3 σ 20 [(0, .ref (ad X 176))] [] := by
  unfold b_X12_perform_20 at h
  refine x_aload_n F dX12_perform_20 rfl 0 rfl ?_
  refine x_iconst (0 : Int32) F dX12_perform_21 (by decide) ?_
  refine q_12_34 F kz_176 in_12 (mc bw_36_1) dX12_perform_22 ?_
  refine x_nmS (fun s1 es1 => ?_)
  replace h := h s1 es1
  refine x_aload_n F dX12_perform_25 rfl 0 rfl ?_
  refine x_iconst (0 : Int32) F dX12_perform_26 (by decide) ?_
  refine x_callV_v F (c_X12_causes (xl X) (xg X) (xA X) F.2.2.1  h) (bw_V bw_37_15 bw_37_16 bw_37_17 bw_1_5 bw_37_18) rfl cd_X12_causes (Nat.le_of_ble_eq_true rfl) (Nat.le_of_ble_eq_true rfl) (kd_w (by decide) kz_176) rfl (cl_12 kz_176) rfl rfl (Nat.le_of_ble_eq_true rfl) dX12_perform_27 (fun s2 h => ?_)
  refine x_aload_n F dX12_perform_30 rfl 0 rfl ?_
  refine g_12_12 F kz_176 in_12 (mc bw_7_15) dX12_perform_31 ?_
  refine x_iconst (0 : Int32) F dX12_perform_34 (by decide) ?_
  refine x_dup2_11 F dX12_perform_35 rfl rfl ?_
  refine x_iald F kz_185 nz_185 (by unfold vp_in; decide) dX12_perform_36 ?_
  refine x_iconst (1 : Int32) F dX12_perform_37 (by decide) ?_
  refine x_iadd F dX12_perform_38 ?_
  refine x_iast F kz_185 nz_185 (by unfold vp_in; decide) dX12_perform_39 ?_
  refine x_nmS (fun s4 es4 => ?_)
  replace h := h s4 es4
  refine x_iconst (-1 : Int32) F dX12_perform_40 (by decide) ?_
  exact hret _ _ _ _ h rfl dX12_perform_41
def w_X12_perform  (p0 : Int32) (σ : wS) (Q : Int32 → wS → Prop) : Prop := ∀ s1 : wS, s1 = upI σ 176 0 (0 : Int32) → (w_X12_isScript p0 s1 (fun r3 s2 => (r3 = 0 → (b_X12_perform_20   Q  s2)) ∧ (¬ r3 = 0 → ((¬ (s2.1 176 14) = 0 → (w_X12_goes p0 s2 (fun r5 s4 => ((s4.1 176 38) = (-1 : Int32) → (w_X12_remember  s4 (fun s6 => w_X12_copyRow 189 188 (0 : Int32) (0 : Int32) s6 (fun s8 => Q r5 s8)))) ∧ (¬ (s4.1 176 38) = (-1 : Int32) → (∀ s10 : wS, s10 = upI s4 176 34 (0 : Int32) → (w_X12_causes ((1000 : Int32) + r5) s10 (fun s11 => vp_in ((4 : Int32) * (((16 : Int32) * p0) + r5)) 320 ∧ (w_X12_blames (s11.1 176 38) (s11.1 183 (((4 : Int32) * (((16 : Int32) * p0) + r5))).toNatClampNeg) s11 (fun s13 => Q (-1 : Int32) s13))))))))) ∧ ((s2.1 176 14) = 0 → (b_X12_perform_20   Q  s2))))))
set_option maxRecDepth 100000 in
set_option maxHeartbeats 4000000 in
theorem c_X12_perform (l : Launch) (g : wG) (A : Nat → Prop) (hA : adO g A)   {p0 : Int32} {σ : wS} {Q : Int32 → wS → Prop} (h : w_X12_perform  p0 σ Q) : Mi l yX12_perform wvX12_perform 8 196 g A [.ref (g.2.2 176), .int p0] σ Q := by
  refine mt_i (own := RX12) (lv := [(0, .ref (g.2.2 176)), (1, .int p0)]) (by decide) rfl rfl hA (Nat.le_of_ble_eq_true rfl) rfl ?_
  intro X hl hg hAA F hret
  subst hl hg hAA
  unfold w_X12_perform at h
  refine x_aload_n F dX12_perform_0 rfl 0 rfl ?_
  refine x_iconst (0 : Int32) F dX12_perform_1 (by decide) ?_
  refine q_12_0 F kz_176 in_12 (mc bw_8_21) dX12_perform_2 ?_
  refine x_nmS (fun s1 es1 => ?_)
  replace h := h s1 es1
  refine x_aload_n F dX12_perform_5 rfl 0 rfl ?_
  refine x_iload_n F dX12_perform_6 rfl 1 rfl ?_
  refine x_callV_i F (c_X12_isScript (xl X) (xg X) (xA X) F.2.2.1  h) (bw_V bw_42_2 bw_42_3 bw_42_4 bw_1_5 bw_42_5) rfl cd_X12_isScript (Nat.le_of_ble_eq_true rfl) (Nat.le_of_ble_eq_true rfl) (kd_w (by decide) kz_176) rfl (cl_12 kz_176) rfl rfl (Nat.le_of_ble_eq_true rfl) dX12_perform_7 (fun r3 s2 h => ?_)
  refine x_if_eq (tgt := 20) F dX12_perform_10 (by decide) (fun c => ?_) (fun c => ?_)
  · replace h := h.1 c
    refine x_sub (lv' := [(0, .ref (ad X 176))]) [0] rfl ?_
    exact wb_X12_perform_20 F hret    _ h
  · replace h := h.2 c
    refine x_aload_n F dX12_perform_13 rfl 0 rfl ?_
    refine g_12_14 F kz_176 in_12 (mc bw_22_18) dX12_perform_14 ?_
    refine x_if_ne (tgt := 42) F dX12_perform_17 (by decide) (fun c => ?_) (fun c => ?_)
    · replace h := h.1 c
      refine x_aload_n F dX12_perform_42 rfl 0 rfl ?_
      refine x_iload_n F dX12_perform_43 rfl 1 rfl ?_
      refine x_callV_i F (c_X12_goes (xl X) (xg X) (xA X) F.2.2.1  h) (bw_V bw_43_3 bw_43_4 bw_43_5 bw_1_5 bw_43_6) rfl cd_X12_goes (Nat.le_of_ble_eq_true rfl) (Nat.le_of_ble_eq_true rfl) (kd_w (by decide) kz_176) rfl (cl_12 kz_176) rfl rfl (Nat.le_of_ble_eq_true rfl) dX12_perform_44 (fun r5 s4 h => ?_)
      refine x_istore_n (lv' := [(2, .int r5), (0, .ref (ad X 176)), (1, .int p0)]) F dX12_perform_47 rfl (by decide) rfl ?_
      refine x_aload_n F dX12_perform_48 rfl 1 rfl ?_
      refine g_12_38 F kz_176 in_12 (mc bw_43_2) dX12_perform_49 ?_
      refine x_iconst (-1 : Int32) F dX12_perform_52 (by decide) ?_
      refine x_icmp_eq (tgt := 93) F dX12_perform_53 (by decide) (fun c => ?_) (fun c => ?_)
      · replace h := h.1 c
        refine x_aload_n F dX12_perform_93 rfl 1 rfl ?_
        refine x_callV_v F (c_X12_remember (xl X) (xg X) (xA X) F.2.2.1  h) (bw_V bw_37_19 bw_37_20 bw_37_21 bw_1_5 bw_37_22) rfl cd_X12_remember (Nat.le_of_ble_eq_true rfl) (Nat.le_of_ble_eq_true rfl) (kd_w (by decide) kz_176) rfl (cl_12 kz_176) rfl rfl (Nat.le_of_ble_eq_true rfl) dX12_perform_94 (fun s6 h => ?_)
        refine x_aload_n F dX12_perform_97 rfl 1 rfl ?_
        refine g_12_20 F kz_176 in_12 (mc bw_7_19) dX12_perform_98 ?_
        refine x_iconst (0 : Int32) F dX12_perform_101 (by decide) ?_
        refine x_aload_n F dX12_perform_102 rfl 1 rfl ?_
        refine g_12_19 F kz_176 in_12 (mc bw_7_18) dX12_perform_103 ?_
        refine x_iconst (0 : Int32) F dX12_perform_106 (by decide) ?_
        refine x_callT_v F (c_X12_copyRow (xl X) (xg X) (xA X) F.2.2.1 kz_189 kz_188 h) (bw_S bw_25_14 bw_25_15 bw_1_5 bw_25_16) rfl cd_X12_copyRow (Nat.le_of_ble_eq_true rfl) (Nat.le_of_ble_eq_true rfl) rfl rfl (Nat.le_of_ble_eq_true rfl) dX12_perform_107 (fun s8 h => ?_)
        refine x_iload_n F dX12_perform_110 rfl 0 rfl ?_
        exact hret _ _ _ _ h rfl dX12_perform_111
      · replace h := h.2 c
        refine x_aload_n F dX12_perform_56 rfl 1 rfl ?_
        refine x_iconst (0 : Int32) F dX12_perform_57 (by decide) ?_
        refine q_12_34 F kz_176 in_12 (mc bw_36_1) dX12_perform_58 ?_
        refine x_nmS (fun s10 es10 => ?_)
        replace h := h s10 es10
        refine x_aload_n F dX12_perform_61 rfl 1 rfl ?_
        refine x_sipush (1000 : Int32) F dX12_perform_62 (by decide) ?_
        refine x_iload_n F dX12_perform_65 rfl 0 rfl ?_
        refine x_iadd F dX12_perform_66 ?_
        refine x_callV_v F (c_X12_causes (xl X) (xg X) (xA X) F.2.2.1  h) (bw_V bw_37_15 bw_37_16 bw_37_17 bw_1_5 bw_37_18) rfl cd_X12_causes (Nat.le_of_ble_eq_true rfl) (Nat.le_of_ble_eq_true rfl) (kd_w (by decide) kz_176) rfl (cl_12 kz_176) rfl rfl (Nat.le_of_ble_eq_true rfl) dX12_perform_67 (fun s11 h => ?_)
        refine x_aload_n F dX12_perform_70 rfl 1 rfl ?_
        refine x_aload_n F dX12_perform_71 rfl 1 rfl ?_
        refine g_12_38 F kz_176 in_12 (mc bw_43_2) dX12_perform_72 ?_
        refine x_aload_n F dX12_perform_75 rfl 1 rfl ?_
        refine g_12_10 F kz_176 in_12 (mc bw_7_13) dX12_perform_76 ?_
        refine x_iconst (4 : Int32) F dX12_perform_79 (by decide) ?_
        refine x_bipush (16 : Int32) F dX12_perform_80 (by decide) ?_
        refine x_iload_n F dX12_perform_82 rfl 2 rfl ?_
        refine x_imul F dX12_perform_83 ?_
        refine x_iload_n F dX12_perform_84 rfl 0 rfl ?_
        refine x_iadd F dX12_perform_85 ?_
        refine x_imul F dX12_perform_86 ?_
        obtain ⟨hj, h⟩ := h
        refine x_iald F kz_183 nz_183 hj dX12_perform_87 ?_
        refine x_callV_v F (c_X12_blames (xl X) (xg X) (xA X) F.2.2.1  h) (bw_V bw_37_11 bw_37_12 bw_37_13 bw_1_5 bw_37_14) rfl cd_X12_blames (Nat.le_of_ble_eq_true rfl) (Nat.le_of_ble_eq_true rfl) (kd_w (by decide) kz_176) rfl (cl_12 kz_176) rfl rfl (Nat.le_of_ble_eq_true rfl) dX12_perform_88 (fun s13 h => ?_)
        refine x_iconst (-1 : Int32) F dX12_perform_91 (by decide) ?_
        exact hret _ _ _ _ h rfl dX12_perform_92
    · replace h := h.2 c
      refine x_sub (lv' := [(0, .ref (ad X 176))]) [0] rfl ?_
      exact wb_X12_perform_20 F hret    _ h
