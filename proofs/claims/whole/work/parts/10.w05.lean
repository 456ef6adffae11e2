/-! X11_fall -/
abbrev wvX11_fall : List Cond := Cond.code yX11_fall cX11_fall 8 (some .int) :: wsL_law
theorem cd_X11_fall : okN yX11_fall RX11 5 := by unfold okN; decide +kernel
def l_X11_fall_46   (Q : Int32 → wS → Prop) : Nat → Int32 → Int32 → Int32 → Int32 → Int32 → Int32 → wS → Prop
  | 0, _, _, _, _, _, _, _ => False
  | n + 1, x1, x2, x3, x5, x6, x7, σ => ((60 : Int32) < x7 → (Q (-1000000 : Int32) σ)) ∧ (¬ (60 : Int32) < x7 → (w_X1_attempt (mo (σ.1 0 2)) 32 (0 : Int32) x1 x2 x3 σ (fun r2 s1 => (r2 = (-1 : Int32) → (((s1.1 38 4) ≤ x6 → (∀ y3 : Int32, y3 = (x6 - (s1.1 38 4)) → (∀ y4 : Int32, y4 = (x7 + (1 : Int32)) → (l_X11_fall_46   Q n x1 x2 x3 x5 y3 y4 s1)))) ∧ (¬ (s1.1 38 4) ≤ x6 → ((¬ x5 = 0 → (Q x7 s1)) ∧ (x5 = 0 → (vp_in x6 8 ∧ (Q (s1.1 39 (x6).toNatClampNeg) s1))))))) ∧ (¬ r2 = (-1 : Int32) → (Q (-1000000 : Int32) s1)))))
set_option maxRecDepth 100000 in
set_option maxHeartbeats 4000000 in
theorem wl_X11_fall_46 {X : XT} {Q : Int32 → wS → Prop}  (F : Fx X cX11_fall 8 RX11 wvX11_fall 4 101) (hret : Ri X 8 cX11_fall .int Q)    : ∀ (n : Nat) (x1 : Int32) (x2 : Int32) (x3 : Int32) (x5 : Int32) (x6 : Int32) (x7 : Int32) (σ : wS), l_X11_fall_46   Q n x1 x2 x3 x5 x6 x7 σ → Wx X 8 σ 46 [(0, .ref (ad X 0)), (1, .int x1), (2, .int x2), (3, .int x3), (5, .int x5), (6, .int x6), (7, .int x7)] [] := by
  intro n
  induction n with
  | zero =>
    intros
    contradiction
  | succ n ih =>
    intro x1 x2 x3 x5 x6 x7 σ h
    simp only [l_X11_fall_46] at h
    refine x_iload F dX11_fall_46 6 rfl ?_
    refine x_bipush (60 : Int32) F dX11_fall_48 (by decide) ?_
    refine x_icmp_gt (tgt := 130) F dX11_fall_50 (by decide) (fun c => ?_) (fun c => ?_)
    · replace h := h.1 c
      refine x_ldc F dX11_fall_130 (mc bw_25_21) ?_
      exact hret _ _ _ _ h rfl dX11_fall_132
    · replace h := h.2 c
      refine x_aload_n F dX11_fall_53 rfl 0 rfl ?_
      refine g_11_8 F kz_0 in_11 (mc bw_2_14) dX11_fall_54 ?_
      refine x_aload_n F dX11_fall_57 rfl 0 rfl ?_
      refine g_11_2 F kz_0 in_11 (mc bw_2_1) dX11_fall_58 ?_
      refine x_aload_n F dX11_fall_61 rfl 0 rfl ?_
      refine g_11_7 F kz_0 in_11 (mc bw_2_10) dX11_fall_62 ?_
      refine x_iconst (0 : Int32) F dX11_fall_65 (by decide) ?_
      refine x_iload_n F dX11_fall_66 rfl 1 rfl ?_
      refine x_iload_n F dX11_fall_67 rfl 2 rfl ?_
      refine x_iload_n F dX11_fall_68 rfl 3 rfl ?_
      refine x_callV_i F (c_X1_attempt (xl X) (xg X) (xA X) F.2.2.1 (mo_kd _) kz_32 h) (bw_V bw_32_23 bw_33_0 bw_33_1 bw_2_13 bw_33_2) rfl cd_X1_attempt (Nat.le_of_ble_eq_true rfl) (Nat.le_of_ble_eq_true rfl) (kd_w (by decide) kz_38) rfl (cl_1 kz_38) rfl rfl (Nat.le_of_ble_eq_true rfl) dX11_fall_69 (fun r2 s1 h => ?_)
      refine x_iconst (-1 : Int32) F dX11_fall_72 (by decide) ?_
      refine x_icmp_eq (tgt := 79) F dX11_fall_73 (by decide) (fun c => ?_) (fun c => ?_)
      · replace h := h.1 c
        refine x_iload F dX11_fall_79 5 rfl ?_
        refine x_aload_n F dX11_fall_81 rfl 0 rfl ?_
        refine g_11_8 F kz_0 in_11 (mc bw_2_14) dX11_fall_82 ?_
        refine g_1_4 F kz_38 in_1 (mc bw_35_7) dX11_fall_85 ?_
        refine x_icmp_ge (tgt := 112) F dX11_fall_88 (by decide) (fun c => ?_) (fun c => ?_)
        · replace h := h.1 c
          refine x_iload F dX11_fall_112 5 rfl ?_
          refine x_aload_n F dX11_fall_114 rfl 0 rfl ?_
          refine g_11_8 F kz_0 in_11 (mc bw_2_14) dX11_fall_115 ?_
          refine g_1_4 F kz_38 in_1 (mc bw_35_7) dX11_fall_118 ?_
          refine x_isub F dX11_fall_121 ?_
          refine x_topi (fun y3 ey3 => ?_)
          replace h := h y3 ey3
          refine x_istore (lv' := [(6, .int y3), (0, .ref (ad X 0)), (1, .int x1), (2, .int x2), (3, .int x3), (5, .int x5), (7, .int x7)]) F dX11_fall_122 (by decide) rfl ?_
          obtain ⟨y4, ey4⟩ : ∃ y : Int32, y = (x7 + (1 : Int32)) := ⟨_, rfl⟩
          replace h := h y4 ey4
          refine x_iinc (q := 6) (v := y4) (lv' := [(7, .int y4), (6, .int y3), (0, .ref (ad X 0)), (1, .int x1), (2, .int x2), (3, .int x3), (5, .int x5)]) F dX11_fall_124 rfl (by rw [ey4]; rfl) (by decide) rfl ?_
          refine x_goto (tgt := 46) F dX11_fall_127 (by decide) ?_
          refine x_sub (lv' := [(0, .ref (ad X 0)), (1, .int x1), (2, .int x2), (3, .int x3), (5, .int x5), (6, .int y3), (7, .int y4)]) [2, 3, 4, 5, 6, 1, 0] rfl ?_
          exact ih _ _ _ _ _ _ _ h
        · replace h := h.2 c
          refine x_iload F dX11_fall_91 4 rfl ?_
          refine x_if_ne (tgt := 109) F dX11_fall_93 (by decide) (fun c => ?_) (fun c => ?_)
          · replace h := h.1 c
            refine x_iload F dX11_fall_109 6 rfl ?_
            exact hret _ _ _ _ h rfl dX11_fall_111
          · replace h := h.2 c
            refine x_aload_n F dX11_fall_96 rfl 0 rfl ?_
            refine g_11_8 F kz_0 in_11 (mc bw_2_14) dX11_fall_97 ?_
            refine g_1_1 F kz_38 in_1 (mc bw_45_3) dX11_fall_100 ?_
            refine x_iload F dX11_fall_103 5 rfl ?_
            obtain ⟨hj, h⟩ := h
            refine x_iald F kz_39 nz_39 hj dX11_fall_105 ?_
            refine x_goto (tgt := 111) F dX11_fall_106 (by decide) ?_
            exact hret _ _ _ _ h rfl dX11_fall_111
      · replace h := h.2 c
        refine x_ldc F dX11_fall_76 (mc bw_25_21) ?_
        exact hret _ _ _ _ h rfl dX11_fall_78
def w_X11_fall  (p0 : Int32) (p1 : Int32) (p2 : Int32) (p3 : Int32) (p4 : Int32) (σ : wS) (Q : Int32 → wS → Prop) : Prop := w_X11_isGust p0 p1 p2 σ (fun r2 s1 => (r2 = 0 → (Q (-1000000 : Int32) s1)) ∧ (¬ r2 = 0 → ((p3 < 0 → (Q (-1000000 : Int32) s1)) ∧ (¬ p3 < 0 → (w_X11_isWithin p4 (0 : Int32) (1 : Int32) s1 (fun r4 s3 => (¬ r4 = 0 → (w_X3_copy 32 29 s3 (fun s5 => (∃ m, l_X11_fall_46   Q m p0 p1 p2 p4 p3 (1 : Int32) s5)))) ∧ (r4 = 0 → (Q (-1000000 : Int32) s3))))))))
set_option maxRecDepth 100000 in
set_option maxHeartbeats 4000000 in
theorem c_X11_fall (l : Launch) (g : wG) (A : Nat → Prop) (hA : adO g A)   {p0 : Int32} {p1 : Int32} {p2 : Int32} {p3 : Int32} {p4 : Int32} {σ : wS} {Q : Int32 → wS → Prop} (h : w_X11_fall  p0 p1 p2 p3 p4 σ Q) : Mi l yX11_fall wvX11_fall 4 101 g A [.ref (g.2.2 0), .int p0, .int p1, .int p2, .int p3, .int p4] σ Q := by
  refine mt_i (own := RX11) (lv := [(0, .ref (g.2.2 0)), (1, .int p0), (2, .int p1), (3, .int p2), (4, .int p3), (5, .int p4)]) (by decide) rfl rfl hA (Nat.le_of_ble_eq_true rfl) rfl ?_
  intro X hl hg hAA F hret
  subst hl hg hAA
  unfold w_X11_fall at h
  refine x_aload_n F dX11_fall_0 rfl 0 rfl ?_
  refine x_iload_n F dX11_fall_1 rfl 1 rfl ?_
  refine x_iload_n F dX11_fall_2 rfl 2 rfl ?_
  refine x_iload_n F dX11_fall_3 rfl 3 rfl ?_
  refine x_callV_i F (c_X11_isGust (xl X) (xg X) (xA X) F.2.2.1  h) (bw_V bw_44_2 bw_44_3 bw_44_4 bw_1_2 bw_44_5) rfl cd_X11_isGust (Nat.le_of_ble_eq_true rfl) (Nat.le_of_ble_eq_true rfl) (kd_w (by decide) kz_0) rfl (cl_11 kz_0) rfl rfl (Nat.le_of_ble_eq_true rfl) dX11_fall_4 (fun r2 s1 h => ?_)
  refine x_if_eq (tgt := 25) F dX11_fall_7 (by decide) (fun c => ?_) (fun c => ?_)
  · replace h := h.1 c
    refine x_ldc F dX11_fall_25 (mc bw_25_21) ?_
    exact hret _ _ _ _ h rfl dX11_fall_27
  · replace h := h.2 c
    refine x_iload F dX11_fall_10 4 rfl ?_
    refine x_if_lt (tgt := 25) F dX11_fall_12 (by decide) (fun c => ?_) (fun c => ?_)
    · replace h := h.1 c
      refine x_ldc F dX11_fall_25 (mc bw_25_21) ?_
      exact hret _ _ _ _ h rfl dX11_fall_27
    · replace h := h.2 c
      refine x_iload F dX11_fall_15 5 rfl ?_
      refine x_iconst (0 : Int32) F dX11_fall_17 (by decide) ?_
      refine x_iconst (1 : Int32) F dX11_fall_18 (by decide) ?_
      refine x_callT_i F (c_X11_isWithin (xl X) (xg X) (xA X) F.2.2.1  h) (bw_S bw_26_5 bw_26_6 bw_1_2 bw_26_7) rfl cd_X11_isWithin (Nat.le_of_ble_eq_true rfl) (Nat.le_of_ble_eq_true rfl) rfl rfl (Nat.le_of_ble_eq_true rfl) dX11_fall_19 (fun r4 s3 h => ?_)
      refine x_if_ne (tgt := 28) F dX11_fall_22 (by decide) (fun c => ?_) (fun c => ?_)
      · replace h := h.1 c
        refine x_aload_n F dX11_fall_28 rfl 0 rfl ?_
        refine g_11_7 F kz_0 in_11 (mc bw_2_10) dX11_fall_29 ?_
        refine x_aload_n F dX11_fall_32 rfl 0 rfl ?_
        refine g_11_6 F kz_0 in_11 (mc bw_2_9) dX11_fall_33 ?_
        refine x_callV_v F (c_X3_copy (xl X) (xg X) (xA X) F.2.2.1 kz_32 kz_29 h) (bw_V bw_22_1 bw_22_2 bw_22_3 bw_2_8 bw_22_4) rfl cd_X3_copy (Nat.le_of_ble_eq_true rfl) (Nat.le_of_ble_eq_true rfl) (kd_w (by decide) kz_32) rfl (cl_3 kz_32) rfl rfl (Nat.le_of_ble_eq_true rfl) dX11_fall_36 (fun s5 h => ?_)
        refine x_iload F dX11_fall_39 4 rfl ?_
        refine x_istore (lv' := [(6, .int p3), (0, .ref (ad X 0)), (1, .int p0), (2, .int p1), (3, .int p2), (4, .int p3), (5, .int p4)]) F dX11_fall_41 (by decide) rfl ?_
        refine x_iconst (1 : Int32) F dX11_fall_43 (by decide) ?_
        refine x_istore (lv' := [(7, .int (1 : Int32)), (6, .int p3), (0, .ref (ad X 0)), (1, .int p0), (2, .int p1), (3, .int p2), (4, .int p3), (5, .int p4)]) F dX11_fall_44 (by decide) rfl ?_
        refine x_sub (lv' := [(0, .ref (ad X 0)), (1, .int p0), (2, .int p1), (3, .int p2), (5, .int p4), (6, .int p3), (7, .int (1 : Int32))]) [2, 3, 4, 5, 7, 1, 0] rfl ?_
        obtain ⟨n2, h⟩ := h
        exact wl_X11_fall_46 F hret   n2 _ _ _ _ _ _ _ h
      · replace h := h.2 c
        refine x_ldc F dX11_fall_25 (mc bw_25_21) ?_
        exact hret _ _ _ _ h rfl dX11_fall_27
/-! X11_ease -/
abbrev wvX11_ease : List Cond := Cond.code yX11_ease cX11_ease 3 (some .int) :: wsL_law
theorem cd_X11_ease : okN yX11_ease RX11 1 := by unfold okN; decide +kernel
def l_X11_ease_23   (Q : Int32 → wS → Prop) : Nat → Int32 → Int32 → wS → Prop
  | 0, _, _, _ => False
  | n + 1, x1, x2, σ => ((60 : Int32) < x2 → (Q (-1 : Int32) σ)) ∧ (¬ (60 : Int32) < x2 → (w_X3_stateOf 32 x1 σ (fun r2 s1 => (¬ r2 = (1 : Int32) → (w_X1_attempt (mo (s1.1 0 2)) 32 (1 : Int32) x1 (-1 : Int32) (0 : Int32) s1 (fun r4 s3 => (¬ r4 = (-1 : Int32) → (Q (-1 : Int32) s3)) ∧ (r4 = (-1 : Int32) → (((s3.1 38 3) = 0 → (∀ y5 : Int32, y5 = (x2 + (1 : Int32)) → (l_X11_ease_23   Q n x1 y5 s3))) ∧ (¬ (s3.1 38 3) = 0 → (Q (-1 : Int32) s3))))))) ∧ (r2 = (1 : Int32) → (Q x2 s1)))))
set_option maxRecDepth 100000 in
set_option maxHeartbeats 4000000 in
theorem wl_X11_ease_23 {X : XT} {Q : Int32 → wS → Prop}  (F : Fx X cX11_ease 3 RX11 wvX11_ease 4 101) (hret : Ri X 3 cX11_ease .int Q)    : ∀ (n : Nat) (x1 : Int32) (x2 : Int32) (σ : wS), l_X11_ease_23   Q n x1 x2 σ → Wx X 3 σ 23 [(0, .ref (ad X 0)), (1, .int x1), (2, .int x2)] [] := by
  intro n
  induction n with
  | zero =>
    intros
    contradiction
  | succ n ih =>
    intro x1 x2 σ h
    simp only [l_X11_ease_23] at h
    refine x_iload_n F dX11_ease_23 rfl 2 rfl ?_
    refine x_bipush (60 : Int32) F dX11_ease_24 (by decide) ?_
    refine x_icmp_gt (tgt := 84) F dX11_ease_26 (by decide) (fun c => ?_) (fun c => ?_)
    · replace h := h.1 c
      refine x_iconst (-1 : Int32) F dX11_ease_84 (by decide) ?_
      exact hret _ _ _ _ h rfl dX11_ease_85
    · replace h := h.2 c
      refine x_aload_n F dX11_ease_29 rfl 0 rfl ?_
      refine g_11_7 F kz_0 in_11 (mc bw_2_10) dX11_ease_30 ?_
      refine x_iload_n F dX11_ease_33 rfl 1 rfl ?_
      refine x_callV_i F (c_X3_stateOf (xl X) (xg X) (xA X) F.2.2.1 kz_32 h) (bw_V bw_27_7 bw_27_8 bw_27_9 bw_2_8 bw_27_10) rfl cd_X3_stateOf (Nat.le_of_ble_eq_true rfl) (Nat.le_of_ble_eq_true rfl) (kd_w (by decide) kz_32) rfl (cl_3 kz_32) rfl rfl (Nat.le_of_ble_eq_true rfl) dX11_ease_34 (fun r2 s1 h => ?_)
      refine x_iconst (1 : Int32) F dX11_ease_37 (by decide) ?_
      refine x_icmp_ne (tgt := 43) F dX11_ease_38 (by decide) (fun c => ?_) (fun c => ?_)
      · replace h := h.1 c
        refine x_aload_n F dX11_ease_43 rfl 0 rfl ?_
        refine g_11_8 F kz_0 in_11 (mc bw_2_14) dX11_ease_44 ?_
        refine x_aload_n F dX11_ease_47 rfl 0 rfl ?_
        refine g_11_2 F kz_0 in_11 (mc bw_2_1) dX11_ease_48 ?_
        refine x_aload_n F dX11_ease_51 rfl 0 rfl ?_
        refine g_11_7 F kz_0 in_11 (mc bw_2_10) dX11_ease_52 ?_
        refine x_iconst (1 : Int32) F dX11_ease_55 (by decide) ?_
        refine x_iload_n F dX11_ease_56 rfl 1 rfl ?_
        refine x_iconst (-1 : Int32) F dX11_ease_57 (by decide) ?_
        refine x_iconst (0 : Int32) F dX11_ease_58 (by decide) ?_
        refine x_callV_i F (c_X1_attempt (xl X) (xg X) (xA X) F.2.2.1 (mo_kd _) kz_32 h) (bw_V bw_32_23 bw_33_0 bw_33_1 bw_2_13 bw_33_2) rfl cd_X1_attempt (Nat.le_of_ble_eq_true rfl) (Nat.le_of_ble_eq_true rfl) (kd_w (by decide) kz_38) rfl (cl_1 kz_38) rfl rfl (Nat.le_of_ble_eq_true rfl) dX11_ease_59 (fun r4 s3 h => ?_)
        refine x_iconst (-1 : Int32) F dX11_ease_62 (by decide) ?_
        refine x_icmp_ne (tgt := 76) F dX11_ease_63 (by decide) (fun c => ?_) (fun c => ?_)
        · replace h := h.1 c
          refine x_iconst (-1 : Int32) F dX11_ease_76 (by decide) ?_
          exact hret _ _ _ _ h rfl dX11_ease_77
        · replace h := h.2 c
          refine x_aload_n F dX11_ease_66 rfl 0 rfl ?_
          refine g_11_8 F kz_0 in_11 (mc bw_2_14) dX11_ease_67 ?_
          refine g_1_3 F kz_38 in_1 (mc bw_32_18) dX11_ease_70 ?_
          refine x_if_eq (tgt := 78) F dX11_ease_73 (by decide) (fun c => ?_) (fun c => ?_)
          · replace h := h.1 c
            obtain ⟨y5, ey5⟩ : ∃ y : Int32, y = (x2 + (1 : Int32)) := ⟨_, rfl⟩
            replace h := h y5 ey5
            refine x_iinc (q := 2) (v := y5) (lv' := [(2, .int y5), (0, .ref (ad X 0)), (1, .int x1)]) F dX11_ease_78 rfl (by rw [ey5]; rfl) (by decide) rfl ?_
            refine x_goto (tgt := 23) F dX11_ease_81 (by decide) ?_
            refine x_sub (lv' := [(0, .ref (ad X 0)), (1, .int x1), (2, .int y5)]) [1, 2, 0] rfl ?_
            exact ih _ _ _ h
          · replace h := h.2 c
            refine x_iconst (-1 : Int32) F dX11_ease_76 (by decide) ?_
            exact hret _ _ _ _ h rfl dX11_ease_77
      · replace h := h.2 c
        refine x_iload_n F dX11_ease_41 rfl 2 rfl ?_
        exact hret _ _ _ _ h rfl dX11_ease_42
def w_X11_ease  (p0 : Int32) (σ : wS) (Q : Int32 → wS → Prop) : Prop := w_X11_isFast p0 σ (fun r2 s1 => (¬ r2 = 0 → (w_X3_copy 32 29 s1 (fun s3 => (∃ m, l_X11_ease_23   Q m p0 (0 : Int32) s3)))) ∧ (r2 = 0 → (Q (-1 : Int32) s1)))
set_option maxRecDepth 100000 in
set_option maxHeartbeats 4000000 in
theorem c_X11_ease (l : Launch) (g : wG) (A : Nat → Prop) (hA : adO g A)   {p0 : Int32} {σ : wS} {Q : Int32 → wS → Prop} (h : w_X11_ease  p0 σ Q) : Mi l yX11_ease wvX11_ease 4 101 g A [.ref (g.2.2 0), .int p0] σ Q := by
  refine mt_i (own := RX11) (lv := [(0, .ref (g.2.2 0)), (1, .int p0)]) (by decide) rfl rfl hA (Nat.le_of_ble_eq_true rfl) rfl ?_
  intro X hl hg hAA F hret
  subst hl hg hAA
  unfold w_X11_ease at h
  refine x_aload_n F dX11_ease_0 rfl 0 rfl ?_
  refine x_iload_n F dX11_ease_1 rfl 1 rfl ?_
  refine x_callV_i F (c_X11_isFast (xl X) (xg X) (xA X) F.2.2.1  h) (bw_V bw_28_12 bw_28_13 bw_28_14 bw_1_2 bw_28_15) rfl cd_X11_isFast (Nat.le_of_ble_eq_true rfl) (Nat.le_of_ble_eq_true rfl) (kd_w (by decide) kz_0) rfl (cl_11 kz_0) rfl rfl (Nat.le_of_ble_eq_true rfl) dX11_ease_2 (fun r2 s1 h => ?_)
  refine x_if_ne (tgt := 10) F dX11_ease_5 (by decide) (fun c => ?_) (fun c => ?_)
  · replace h := h.1 c
    refine x_aload_n F dX11_ease_10 rfl 0 rfl ?_
    refine g_11_7 F kz_0 in_11 (mc bw_2_10) dX11_ease_11 ?_
    refine x_aload_n F dX11_ease_14 rfl 0 rfl ?_
    refine g_11_6 F kz_0 in_11 (mc bw_2_9) dX11_ease_15 ?_
    refine x_callV_v F (c_X3_copy (xl X) (xg X) (xA X) F.2.2.1 kz_32 kz_29 h) (bw_V bw_22_1 bw_22_2 bw_22_3 bw_2_8 bw_22_4) rfl cd_X3_copy (Nat.le_of_ble_eq_true rfl) (Nat.le_of_ble_eq_true rfl) (kd_w (by decide) kz_32) rfl (cl_3 kz_32) rfl rfl (Nat.le_of_ble_eq_true rfl) dX11_ease_18 (fun s3 h => ?_)
    refine x_iconst (0 : Int32) F dX11_ease_21 (by decide) ?_
    refine x_istore_n (lv' := [(2, .int (0 : Int32)), (0, .ref (ad X 0)), (1, .int p0)]) F dX11_ease_22 rfl (by decide) rfl ?_
    refine x_sub (lv' := [(0, .ref (ad X 0)), (1, .int p0), (2, .int (0 : Int32))]) [1, 2, 0] rfl ?_
    obtain ⟨n2, h⟩ := h
    exact wl_X11_ease_23 F hret   n2 _ _ _ h
  · replace h := h.2 c
    refine x_iconst (-1 : Int32) F dX11_ease_8 (by decide) ?_
    exact hret _ _ _ _ h rfl dX11_ease_9
/-! X11_range -/
abbrev wvX11_range : List Cond := Cond.code yX11_range cX11_range 6 (some .int) :: wsL_law
theorem cd_X11_range : okN yX11_range RX11 2 := by unfold okN; decide +kernel
def b_X11_range_89  (K40 : Int32 → Int32 → Int32 → wS → Prop) (Q : Int32 → wS → Prop) (x1 : Int32) (x3 : Int32) (x4 : Int32) (z0 : Int32) (z1 : Int32) (z2 : Int32) (z3 : Int32) (z5 : Nat) (σ : wS) : Prop := w_X1_attempt z5 32 z3 z2 z1 z0 σ (fun r2 s1 => (¬ r2 = (-1 : Int32) → (Q x4 s1)) ∧ (r2 = (-1 : Int32) → ((¬ (s1.1 38 3) = 0 → (Q x4 s1)) ∧ ((s1.1 38 3) = 0 → (((s1.1 32 2) = (s1.1 29 2) → (∀ y3 : Int32, y3 = (x4 + (1 : Int32)) → (K40 x1 x3 y3 s1))) ∧ (¬ (s1.1 32 2) = (s1.1 29 2) → (Q x4 s1)))))))
set_option maxRecDepth 100000 in
set_option maxHeartbeats 4000000 in
theorem wb_X11_range_89 {X : XT} {Q : Int32 → wS → Prop}  (F : Fx X cX11_range 6 RX11 wvX11_range 4 101) (hret : Ri X 6 cX11_range .int Q)  {K40 : Int32 → Int32 → Int32 → wS → Prop} (hK40 : ∀ (x1 : Int32) (x3 : Int32) (x4 : Int32) (σ : wS), K40 x1 x3 x4 σ → Wx X 6 σ 40 [(0, .ref (ad X 0)), (1, .int x1), (3, .int x3), (4, .int x4)] []) (x1 : Int32) (x3 : Int32) (x4 : Int32) (z0 : Int32) (z1 : Int32) (z2 : Int32) (z3 : Int32) (z5 : Nat) (k_z5 : kd z5 = 5) (σ : wS) (h : b_X11_range_89  K40 Q x1 x3 x4 z0 z1 z2 z3 z5 σ) : Wx X 6 σ 89 [(0, .ref (ad X 0)), (1, .int x1), (3, .int x3), (4, .int x4)] [.int z0, .int z1, .int z2, .int z3, .ref (ad X 32), .ref (ad X z5), .ref (ad X 38)] := by
  unfold b_X11_range_89 at h
  refine x_callV_i F (c_X1_attempt (xl X) (xg X) (xA X) F.2.2.1 k_z5 kz_32 h) (bw_V bw_32_23 bw_33_0 bw_33_1 bw_2_13 bw_33_2) rfl cd_X1_attempt (Nat.le_of_ble_eq_true rfl) (Nat.le_of_ble_eq_true rfl) (kd_w (by decide) kz_38) rfl (cl_1 kz_38) rfl rfl (Nat.le_of_ble_eq_true rfl) dX11_range_89 (fun r2 s1 h => ?_)
  refine x_istore (lv' := [(5, .int r2), (0, .ref (ad X 0)), (1, .int x1), (3, .int x3), (4, .int x4)]) F dX11_range_92 (by decide) rfl ?_
  refine x_iload F dX11_range_94 0 rfl ?_
  refine x_iconst (-1 : Int32) F dX11_range_96 (by decide) ?_
  refine x_icmp_ne (tgt := 127) F dX11_range_97 (by decide) (fun c => ?_) (fun c => ?_)
  · replace h := h.1 c
    refine x_iload F dX11_range_127 4 rfl ?_
    exact hret _ _ _ _ h rfl dX11_range_129
  · replace h := h.2 c
    refine x_aload_n F dX11_range_100 rfl 1 rfl ?_
    refine g_11_8 F kz_0 in_11 (mc bw_2_14) dX11_range_101 ?_
    refine g_1_3 F kz_38 in_1 (mc bw_32_18) dX11_range_104 ?_
    refine x_if_ne (tgt := 127) F dX11_range_107 (by decide) (fun c => ?_) (fun c => ?_)
    · replace h := h.1 c
      refine x_iload F dX11_range_127 4 rfl ?_
      exact hret _ _ _ _ h rfl dX11_range_129
    · replace h := h.2 c
      refine x_aload_n F dX11_range_110 rfl 1 rfl ?_
      refine g_11_7 F kz_0 in_11 (mc bw_2_10) dX11_range_111 ?_
      refine g_3_2 F kz_32 in_3 (mc bw_28_22) dX11_range_114 ?_
      refine x_aload_n F dX11_range_117 rfl 1 rfl ?_
      refine g_11_6 F kz_0 in_11 (mc bw_2_9) dX11_range_118 ?_
      refine g_3_2 F kz_29 in_3 (mc bw_28_22) dX11_range_121 ?_
      refine x_icmp_eq (tgt := 130) F dX11_range_124 (by decide) (fun c => ?_) (fun c => ?_)
      · replace h := h.1 c
        obtain ⟨y3, ey3⟩ : ∃ y : Int32, y = (x4 + (1 : Int32)) := ⟨_, rfl⟩
        replace h := h y3 ey3
        refine x_iinc (q := 4) (v := y3) (lv' := [(4, .int y3), (5, .int r2), (0, .ref (ad X 0)), (1, .int x1), (3, .int x3)]) F dX11_range_130 rfl (by rw [ey3]; rfl) (by decide) rfl ?_
        refine x_goto (tgt := 40) F dX11_range_133 (by decide) ?_
        refine x_sub (lv' := [(0, .ref (ad X 0)), (1, .int x1), (3, .int x3), (4, .int y3)]) [2, 3, 4, 0] rfl ?_
        exact hK40 _ _ _ _ h
      · replace h := h.2 c
        refine x_iload F dX11_range_127 4 rfl ?_
        exact hret _ _ _ _ h rfl dX11_range_129
def b_X11_range_79  (K40 : Int32 → Int32 → Int32 → wS → Prop) (Q : Int32 → wS → Prop) (x1 : Int32) (x3 : Int32) (x4 : Int32) (z0 : Int32) (z1 : Int32) (z2 : Int32) (z4 : Nat) (σ : wS) : Prop := (¬ x1 = (2 : Int32) → (b_X11_range_89  K40 Q x1 x3 x4 (0 : Int32) z0 z1 z2 z4 σ)) ∧ (x1 = (2 : Int32) → (b_X11_range_89  K40 Q x1 x3 x4 x3 z0 z1 z2 z4 σ))
set_option maxRecDepth 100000 in
set_option maxHeartbeats 4000000 in
theorem wb_X11_range_79 {X : XT} {Q : Int32 → wS → Prop}  (F : Fx X cX11_range 6 RX11 wvX11_range 4 101) (hret : Ri X 6 cX11_range .int Q)  {K40 : Int32 → Int32 → Int32 → wS → Prop} (hK40 : ∀ (x1 : Int32) (x3 : Int32) (x4 : Int32) (σ : wS), K40 x1 x3 x4 σ → Wx X 6 σ 40 [(0, .ref (ad X 0)), (1, .int x1), (3, .int x3), (4, .int x4)] []) (x1 : Int32) (x3 : Int32) (x4 : Int32) (z0 : Int32) (z1 : Int32) (z2 : Int32) (z4 : Nat) (k_z4 : kd z4 = 5) (σ : wS) (h : b_X11_range_79  K40 Q x1 x3 x4 z0 z1 z2 z4 σ) : Wx X 6 σ 79 [(0, .ref (ad X 0)), (1, .int x1), (3, .int x3), (4, .int x4)] [.int z0, .int z1, .int z2, .ref (ad X 32), .ref (ad X z4), .ref (ad X 38)] := by
  unfold b_X11_range_79 at h
  refine x_iload_n F dX11_range_79 rfl 1 rfl ?_
  refine x_iconst (2 : Int32) F dX11_range_80 (by decide) ?_
  refine x_icmp_ne (tgt := 88) F dX11_range_81 (by decide) (fun c => ?_) (fun c => ?_)
  · replace h := h.1 c
    refine x_iconst (0 : Int32) F dX11_range_88 (by decide) ?_
    refine x_sub (lv' := [(0, .ref (ad X 0)), (1, .int x1), (3, .int x3), (4, .int x4)]) [0, 1, 2, 3] rfl ?_
    exact wb_X11_range_89 F hret  hK40 _ _ _ _ _ _ _ _ k_z4 _ h
  · replace h := h.2 c
    refine x_iload_n F dX11_range_84 rfl 2 rfl ?_
    refine x_goto (tgt := 89) F dX11_range_85 (by decide) ?_
    refine x_sub (lv' := [(0, .ref (ad X 0)), (1, .int x1), (3, .int x3), (4, .int x4)]) [0, 1, 2, 3] rfl ?_
    exact wb_X11_range_89 F hret  hK40 _ _ _ _ _ _ _ _ k_z4 _ h
def b_X11_range_69  (K40 : Int32 → Int32 → Int32 → wS → Prop) (Q : Int32 → wS → Prop) (x1 : Int32) (x3 : Int32) (x4 : Int32) (z0 : Int32) (z1 : Int32) (z3 : Nat) (σ : wS) : Prop := (¬ x1 = (1 : Int32) → (b_X11_range_79  K40 Q x1 x3 x4 (0 : Int32) z0 z1 z3 σ)) ∧ (x1 = (1 : Int32) → (b_X11_range_79  K40 Q x1 x3 x4 x3 z0 z1 z3 σ))
set_option maxRecDepth 100000 in
set_option maxHeartbeats 4000000 in
theorem wb_X11_range_69 {X : XT} {Q : Int32 → wS → Prop}  (F : Fx X cX11_range 6 RX11 wvX11_range 4 101) (hret : Ri X 6 cX11_range .int Q)  {K40 : Int32 → Int32 → Int32 → wS → Prop} (hK40 : ∀ (x1 : Int32) (x3 : Int32) (x4 : Int32) (σ : wS), K40 x1 x3 x4 σ → Wx X 6 σ 40 [(0, .ref (ad X 0)), (1, .int x1), (3, .int x3), (4, .int x4)] []) (x1 : Int32) (x3 : Int32) (x4 : Int32) (z0 : Int32) (z1 : Int32) (z3 : Nat) (k_z3 : kd z3 = 5) (σ : wS) (h : b_X11_range_69  K40 Q x1 x3 x4 z0 z1 z3 σ) : Wx X 6 σ 69 [(0, .ref (ad X 0)), (1, .int x1), (3, .int x3), (4, .int x4)] [.int z0, .int z1, .ref (ad X 32), .ref (ad X z3), .ref (ad X 38)] := by
  unfold b_X11_range_69 at h
  refine x_iload_n F dX11_range_69 rfl 1 rfl ?_
  refine x_iconst (1 : Int32) F dX11_range_70 (by decide) ?_
  refine x_icmp_ne (tgt := 78) F dX11_range_71 (by decide) (fun c => ?_) (fun c => ?_)
  · replace h := h.1 c
    refine x_iconst (0 : Int32) F dX11_range_78 (by decide) ?_
    refine x_sub (lv' := [(0, .ref (ad X 0)), (1, .int x1), (3, .int x3), (4, .int x4)]) [0, 1, 2, 3] rfl ?_
    exact wb_X11_range_79 F hret  hK40 _ _ _ _ _ _ _ k_z3 _ h
  · replace h := h.2 c
    refine x_iload_n F dX11_range_74 rfl 2 rfl ?_
    refine x_goto (tgt := 79) F dX11_range_75 (by decide) ?_
    refine x_sub (lv' := [(0, .ref (ad X 0)), (1, .int x1), (3, .int x3), (4, .int x4)]) [0, 1, 2, 3] rfl ?_
    exact wb_X11_range_79 F hret  hK40 _ _ _ _ _ _ _ k_z3 _ h
def l_X11_range_40   (Q : Int32 → wS → Prop) : Nat → Int32 → Int32 → Int32 → wS → Prop
  | 0, _, _, _, _ => False
  | n + 1, x1, x3, x4, σ => ((60 : Int32) ≤ x4 → (Q (60 : Int32) σ)) ∧ (¬ (60 : Int32) ≤ x4 → ((¬ x1 = 0 → (b_X11_range_69  (fun x1 x3 x4 σ => l_X11_range_40   Q n x1 x3 x4 σ) Q x1 x3 x4 (0 : Int32) (0 : Int32) (mo (σ.1 0 2)) σ)) ∧ (x1 = 0 → (b_X11_range_69  (fun x1 x3 x4 σ => l_X11_range_40   Q n x1 x3 x4 σ) Q x1 x3 x4 x3 (0 : Int32) (mo (σ.1 0 2)) σ))))
set_option maxRecDepth 100000 in
set_option maxHeartbeats 4000000 in
theorem wl_X11_range_40 {X : XT} {Q : Int32 → wS → Prop}  (F : Fx X cX11_range 6 RX11 wvX11_range 4 101) (hret : Ri X 6 cX11_range .int Q)    : ∀ (n : Nat) (x1 : Int32) (x3 : Int32) (x4 : Int32) (σ : wS), l_X11_range_40   Q n x1 x3 x4 σ → Wx X 6 σ 40 [(0, .ref (ad X 0)), (1, .int x1), (3, .int x3), (4, .int x4)] [] := by
  intro n
  induction n with
  | zero =>
    intros
    contradiction
  | succ n ih =>
    intro x1 x3 x4 σ h
    simp only [l_X11_range_40] at h
    refine x_iload F dX11_range_40 3 rfl ?_
    refine x_bipush (60 : Int32) F dX11_range_42 (by decide) ?_
    refine x_icmp_ge (tgt := 136) F dX11_range_44 (by decide) (fun c => ?_) (fun c => ?_)
    · replace h := h.1 c
      refine x_bipush (60 : Int32) F dX11_range_136 (by decide) ?_
      exact hret _ _ _ _ h rfl dX11_range_138
    · replace h := h.2 c
      refine x_aload_n F dX11_range_47 rfl 0 rfl ?_
      refine g_11_8 F kz_0 in_11 (mc bw_2_14) dX11_range_48 ?_
      refine x_aload_n F dX11_range_51 rfl 0 rfl ?_
      refine g_11_2 F kz_0 in_11 (mc bw_2_1) dX11_range_52 ?_
      refine x_aload_n F dX11_range_55 rfl 0 rfl ?_
      refine g_11_7 F kz_0 in_11 (mc bw_2_10) dX11_range_56 ?_
      refine x_iconst (0 : Int32) F dX11_range_59 (by decide) ?_
      refine x_iload_n F dX11_range_60 rfl 1 rfl ?_
      refine x_if_ne (tgt := 68) F dX11_range_61 (by decide) (fun c => ?_) (fun c => ?_)
      · replace h := h.1 c
        refine x_iconst (0 : Int32) F dX11_range_68 (by decide) ?_
        refine x_sub (lv' := [(0, .ref (ad X 0)), (1, .int x1), (3, .int x3), (4, .int x4)]) [0, 1, 2, 3] rfl ?_
        exact wb_X11_range_69 F hret  ih _ _ _ _ _ _ (mo_kd _) _ h
      · replace h := h.2 c
        refine x_iload_n F dX11_range_64 rfl 2 rfl ?_
        refine x_goto (tgt := 69) F dX11_range_65 (by decide) ?_
        refine x_sub (lv' := [(0, .ref (ad X 0)), (1, .int x1), (3, .int x3), (4, .int x4)]) [0, 1, 2, 3] rfl ?_
        exact wb_X11_range_69 F hret  ih _ _ _ _ _ _ (mo_kd _) _ h
def b_X11_range_25   (Q : Int32 → wS → Prop) (x1 : Int32) (z0 : Int32) (σ : wS) : Prop := w_X3_copy 32 29 σ (fun s1 => (∃ m, l_X11_range_40   Q m x1 z0 (0 : Int32) s1))
set_option maxRecDepth 100000 in
set_option maxHeartbeats 4000000 in
theorem wb_X11_range_25 {X : XT} {Q : Int32 → wS → Prop}  (F : Fx X cX11_range 6 RX11 wvX11_range 4 101) (hret : Ri X 6 cX11_range .int Q)    (x1 : Int32) (z0 : Int32) (σ : wS) (h : b_X11_range_25   Q x1 z0 σ) : Wx X 6 σ 25 [(0, .ref (ad X 0)), (1, .int x1)] [.int z0] := by
  unfold b_X11_range_25 at h
  refine x_istore_n (lv' := [(3, .int z0), (0, .ref (ad X 0)), (1, .int x1)]) F dX11_range_25 rfl (by decide) rfl ?_
  refine x_aload_n F dX11_range_26 rfl 1 rfl ?_
  refine g_11_7 F kz_0 in_11 (mc bw_2_10) dX11_range_27 ?_
  refine x_aload_n F dX11_range_30 rfl 1 rfl ?_
  refine g_11_6 F kz_0 in_11 (mc bw_2_9) dX11_range_31 ?_
  refine x_callV_v F (c_X3_copy (xl X) (xg X) (xA X) F.2.2.1 kz_32 kz_29 h) (bw_V bw_22_1 bw_22_2 bw_22_3 bw_2_8 bw_22_4) rfl cd_X3_copy (Nat.le_of_ble_eq_true rfl) (Nat.le_of_ble_eq_true rfl) (kd_w (by decide) kz_32) rfl (cl_3 kz_32) rfl rfl (Nat.le_of_ble_eq_true rfl) dX11_range_34 (fun s1 h => ?_)
  refine x_iconst (0 : Int32) F dX11_range_37 (by decide) ?_
  refine x_istore (lv' := [(4, .int (0 : Int32)), (3, .int z0), (0, .ref (ad X 0)), (1, .int x1)]) F dX11_range_38 (by decide) rfl ?_
  refine x_sub (lv' := [(0, .ref (ad X 0)), (1, .int x1), (3, .int z0), (4, .int (0 : Int32))]) [2, 3, 1, 0] rfl ?_
  obtain ⟨n2, h⟩ := h
  exact wl_X11_range_40 F hret   n2 _ _ _ _ h
def w_X11_range  (p0 : Int32) (p1 : Int32) (σ : wS) (Q : Int32 → wS → Prop) : Prop := w_X11_hasMooring  σ (fun r2 s1 => (r2 = 0 → (Q (-1 : Int32) s1)) ∧ (¬ r2 = 0 → (w_X11_isAxis p0 s1 (fun r4 s3 => (¬ r4 = 0 → ((p1 = 0 → (b_X11_range_25   Q p0 (-1 : Int32) s3)) ∧ (¬ p1 = 0 → (b_X11_range_25   Q p0 (1 : Int32) s3)))) ∧ (r4 = 0 → (Q (-1 : Int32) s3))))))
set_option maxRecDepth 100000 in
set_option maxHeartbeats 4000000 in
theorem c_X11_range (l : Launch) (g : wG) (A : Nat → Prop) (hA : adO g A)   {p0 : Int32} {p1 : Int32} {σ : wS} {Q : Int32 → wS → Prop} (h : w_X11_range  p0 p1 σ Q) : Mi l yX11_range wvX11_range 4 101 g A [.ref (g.2.2 0), .int p0, .int p1] σ Q := by
  refine mt_i (own := RX11) (lv := [(0, .ref (g.2.2 0)), (1, .int p0), (2, .int p1)]) (by decide) rfl rfl hA (Nat.le_of_ble_eq_true rfl) rfl ?_
  intro X hl hg hAA F hret
  subst hl hg hAA
  unfold w_X11_range at h
  refine x_aload_n F dX11_range_0 rfl 0 rfl ?_
  refine x_callV_i F (c_X11_hasMooring (xl X) (xg X) (xA X) F.2.2.1  h) (bw_V bw_26_1 bw_26_2 bw_26_3 bw_1_2 bw_26_4) rfl cd_X11_hasMooring (Nat.le_of_ble_eq_true rfl) (Nat.le_of_ble_eq_true rfl) (kd_w (by decide) kz_0) rfl (cl_11 kz_0) rfl rfl (Nat.le_of_ble_eq_true rfl) dX11_range_1 (fun r2 s1 h => ?_)
  refine x_if_eq (tgt := 14) F dX11_range_4 (by decide) (fun c => ?_) (fun c => ?_)
  · replace h := h.1 c
    refine x_iconst (-1 : Int32) F dX11_range_14 (by decide) ?_
    exact hret _ _ _ _ h rfl dX11_range_15
  · replace h := h.2 c
    refine x_iload_n F dX11_range_7 rfl 1 rfl ?_
    refine x_callT_i F (c_X11_isAxis (xl X) (xg X) (xA X) F.2.2.1  h) (bw_S bw_30_11 bw_30_12 bw_1_2 bw_30_13) rfl cd_X11_isAxis (Nat.le_of_ble_eq_true rfl) (Nat.le_of_ble_eq_true rfl) rfl rfl (Nat.le_of_ble_eq_true rfl) dX11_range_8 (fun r4 s3 h => ?_)
    refine x_if_ne (tgt := 16) F dX11_range_11 (by decide) (fun c => ?_) (fun c => ?_)
    · replace h := h.1 c
      refine x_iload_n F dX11_range_16 rfl 2 rfl ?_
      refine x_if_eq (tgt := 24) F dX11_range_17 (by decide) (fun c => ?_) (fun c => ?_)
      · replace h := h.1 c
        refine x_iconst (-1 : Int32) F dX11_range_24 (by decide) ?_
        refine x_sub (lv' := [(0, .ref (ad X 0)), (1, .int p0)]) [0, 1] rfl ?_
        exact wb_X11_range_25 F hret   _ _ _ h
      · replace h := h.2 c
        refine x_iconst (1 : Int32) F dX11_range_20 (by decide) ?_
        refine x_goto (tgt := 25) F dX11_range_21 (by decide) ?_
        refine x_sub (lv' := [(0, .ref (ad X 0)), (1, .int p0)]) [0, 1] rfl ?_
        exact wb_X11_range_25 F hret   _ _ _ h
    · replace h := h.2 c
      refine x_iconst (-1 : Int32) F dX11_range_14 (by decide) ?_
      exact hret _ _ _ _ h rfl dX11_range_15
/-! X11_putTurned -/
abbrev wvX11_putTurned : List Cond := Cond.code yX11_putTurned cX11_putTurned 4 (some .boolean) :: wsL_law
theorem cd_X11_putTurned : okN yX11_putTurned RX11 2 := by unfold okN; decide +kernel
def w_X11_putTurned  (p0 : Int32) (p1 : Int32) (σ : wS) (Q : Int32 → wS → Prop) : Prop := w_X3_copy 32 29 σ (fun s1 => w_X1_attempt (mo (s1.1 0 2)) 32 (1 : Int32) p0 p1 (0 : Int32) s1 (fun r4 s3 => (¬ r4 = (-1 : Int32) → (Q (0 : Int32) s3)) ∧ (r4 = (-1 : Int32) → (((s3.1 38 3) = 0 → (w_X0_mostLoaded (mo (s3.1 0 2)) (s3.1 32 2) (1 : Int32) s3 (fun r6 s5 => (¬ r6 = (-1 : Int32) → (w_X11_putLoad r6 s5 (fun s7 => Q (1 : Int32) s7))) ∧ (r6 = (-1 : Int32) → (Q (0 : Int32) s5))))) ∧ (¬ (s3.1 38 3) = 0 → (Q (0 : Int32) s3))))))
set_option maxRecDepth 100000 in
set_option maxHeartbeats 4000000 in
theorem c_X11_putTurned (l : Launch) (g : wG) (A : Nat → Prop) (hA : adO g A)   {p0 : Int32} {p1 : Int32} {σ : wS} {Q : Int32 → wS → Prop} (h : w_X11_putTurned  p0 p1 σ Q) : Mi l yX11_putTurned wvX11_putTurned 4 101 g A [.ref (g.2.2 0), .int p0, .int p1] σ Q := by
  refine mt_i (own := RX11) (lv := [(0, .ref (g.2.2 0)), (1, .int p0), (2, .int p1)]) (by decide) rfl rfl hA (Nat.le_of_ble_eq_true rfl) rfl ?_
  intro X hl hg hAA F hret
  subst hl hg hAA
  unfold w_X11_putTurned at h
  refine x_aload_n F dX11_putTurned_0 rfl 0 rfl ?_
  refine g_11_7 F kz_0 in_11 (mc bw_2_10) dX11_putTurned_1 ?_
  refine x_aload_n F dX11_putTurned_4 rfl 0 rfl ?_
  refine g_11_6 F kz_0 in_11 (mc bw_2_9) dX11_putTurned_5 ?_
  refine x_callV_v F (c_X3_copy (xl X) (xg X) (xA X) F.2.2.1 kz_32 kz_29 h) (bw_V bw_22_1 bw_22_2 bw_22_3 bw_2_8 bw_22_4) rfl cd_X3_copy (Nat.le_of_ble_eq_true rfl) (Nat.le_of_ble_eq_true rfl) (kd_w (by decide) kz_32) rfl (cl_3 kz_32) rfl rfl (Nat.le_of_ble_eq_true rfl) dX11_putTurned_8 (fun s1 h => ?_)
  refine x_aload_n F dX11_putTurned_11 rfl 0 rfl ?_
  refine g_11_8 F kz_0 in_11 (mc bw_2_14) dX11_putTurned_12 ?_
  refine x_aload_n F dX11_putTurned_15 rfl 0 rfl ?_
  refine g_11_2 F kz_0 in_11 (mc bw_2_1) dX11_putTurned_16 ?_
  refine x_aload_n F dX11_putTurned_19 rfl 0 rfl ?_
  refine g_11_7 F kz_0 in_11 (mc bw_2_10) dX11_putTurned_20 ?_
  refine x_iconst (1 : Int32) F dX11_putTurned_23 (by decide) ?_
  refine x_iload_n F dX11_putTurned_24 rfl 1 rfl ?_
  refine x_iload_n F dX11_putTurned_25 rfl 2 rfl ?_
  refine x_iconst (0 : Int32) F dX11_putTurned_26 (by decide) ?_
  refine x_callV_i F (c_X1_attempt (xl X) (xg X) (xA X) F.2.2.1 (mo_kd _) kz_32 h) (bw_V bw_32_23 bw_33_0 bw_33_1 bw_2_13 bw_33_2) rfl cd_X1_attempt (Nat.le_of_ble_eq_true rfl) (Nat.le_of_ble_eq_true rfl) (kd_w (by decide) kz_38) rfl (cl_1 kz_38) rfl rfl (Nat.le_of_ble_eq_true rfl) dX11_putTurned_27 (fun r4 s3 h => ?_)
  refine x_iconst (-1 : Int32) F dX11_putTurned_30 (by decide) ?_
  refine x_icmp_ne (tgt := 44) F dX11_putTurned_31 (by decide) (fun c => ?_) (fun c => ?_)
  · replace h := h.1 c
    refine x_iconst (0 : Int32) F dX11_putTurned_44 (by decide) ?_
    exact hret _ _ _ _ h (nar01 (by decide)) dX11_putTurned_45
  · replace h := h.2 c
    refine x_aload_n F dX11_putTurned_34 rfl 0 rfl ?_
    refine g_11_8 F kz_0 in_11 (mc bw_2_14) dX11_putTurned_35 ?_
    refine g_1_3 F kz_38 in_1 (mc bw_32_18) dX11_putTurned_38 ?_
    refine x_if_eq (tgt := 46) F dX11_putTurned_41 (by decide) (fun c => ?_) (fun c => ?_)
    · replace h := h.1 c
      refine x_aload_n F dX11_putTurned_46 rfl 0 rfl ?_
      refine g_11_8 F kz_0 in_11 (mc bw_2_14) dX11_putTurned_47 ?_
      refine g_1_0 F kz_38 in_1 (mc bw_28_21) dX11_putTurned_50 ?_
      refine x_aload_n F dX11_putTurned_53 rfl 0 rfl ?_
      refine g_11_2 F kz_0 in_11 (mc bw_2_1) dX11_putTurned_54 ?_
      refine x_aload_n F dX11_putTurned_57 rfl 0 rfl ?_
      refine g_11_7 F kz_0 in_11 (mc bw_2_10) dX11_putTurned_58 ?_
      refine g_3_2 F kz_32 in_3 (mc bw_28_22) dX11_putTurned_61 ?_
      refine x_iconst (1 : Int32) F dX11_putTurned_64 (by decide) ?_
      refine x_callV_i F (c_X0_mostLoaded (xl X) (xg X) (xA X) F.2.2.1 (mo_kd _) h) (bw_V bw_32_5 bw_21_21 bw_21_22 bw_5_8 bw_21_23) rfl cd_X0_mostLoaded (Nat.le_of_ble_eq_true rfl) (Nat.le_of_ble_eq_true rfl) (kd_w (by decide) kz_41) rfl (cl_0 kz_41) rfl rfl (Nat.le_of_ble_eq_true rfl) dX11_putTurned_65 (fun r6 s5 h => ?_)
      refine x_istore_n (lv' := [(3, .int r6), (0, .ref (ad X 0)), (1, .int p0), (2, .int p1)]) F dX11_putTurned_68 rfl (by decide) rfl ?_
      refine x_iload_n F dX11_putTurned_69 rfl 0 rfl ?_
      refine x_iconst (-1 : Int32) F dX11_putTurned_70 (by decide) ?_
      refine x_icmp_ne (tgt := 76) F dX11_putTurned_71 (by decide) (fun c => ?_) (fun c => ?_)
      · replace h := h.1 c
        refine x_aload_n F dX11_putTurned_76 rfl 1 rfl ?_
        refine x_aload_n F dX11_putTurned_77 rfl 1 rfl ?_
        refine g_11_8 F kz_0 in_11 (mc bw_2_14) dX11_putTurned_78 ?_
        refine g_1_0 F kz_38 in_1 (mc bw_28_21) dX11_putTurned_81 ?_
        refine x_iload_n F dX11_putTurned_84 rfl 0 rfl ?_
        refine x_callV_v F (c_X11_putLoad (xl X) (xg X) (xA X) F.2.2.1  h) (bw_V bw_31_17 bw_31_18 bw_31_19 bw_1_2 bw_31_20) rfl cd_X11_putLoad (Nat.le_of_ble_eq_true rfl) (Nat.le_of_ble_eq_true rfl) (kd_w (by decide) kz_0) rfl (cl_11 kz_0) rfl rfl (Nat.le_of_ble_eq_true rfl) dX11_putTurned_85 (fun s7 h => ?_)
        refine x_iconst (1 : Int32) F dX11_putTurned_88 (by decide) ?_
        exact hret _ _ _ _ h (nar01 (by decide)) dX11_putTurned_89
      · replace h := h.2 c
        refine x_iconst (0 : Int32) F dX11_putTurned_74 (by decide) ?_
        exact hret _ _ _ _ h (nar01 (by decide)) dX11_putTurned_75
    · replace h := h.2 c
      refine x_iconst (0 : Int32) F dX11_putTurned_44 (by decide) ?_
      exact hret _ _ _ _ h (nar01 (by decide)) dX11_putTurned_45
/-! X11_trim -/
abbrev wvX11_trim : List Cond := Cond.code yX11_trim cX11_trim 7 (some .long) :: wsL_law
theorem cd_X11_trim : okN yX11_trim RX11 2 := by unfold okN; decide +kernel
def b_X11_trim_140  (K46 : Int32 → Int32 → Int32 → Int32 → Int32 → wS → Prop) (K62 : Int32 → Int32 → Int32 → Int32 → Int32 → Int32 → wS → Prop) (Q : Int64 → wS → Prop) (x1 : Int32) (x2 : Int32) (x3 : Int32) (x4 : Int32) (x5 : Int32) (x6 : Int32) (σ : wS) : Prop := ∀ y1 : Int32, y1 = (x6 + (1 : Int32)) → (K62 x1 x2 x3 x4 x5 y1 σ)
set_option maxRecDepth 100000 in
set_option maxHeartbeats 4000000 in
theorem wb_X11_trim_140 {X : XT} {Q : Int64 → wS → Prop}  (F : Fx X cX11_trim 7 RX11 wvX11_trim 5 124) (hret : Rl X 7 cX11_trim Q)  {K46 : Int32 → Int32 → Int32 → Int32 → Int32 → wS → Prop} {K62 : Int32 → Int32 → Int32 → Int32 → Int32 → Int32 → wS → Prop} (hK46 : ∀ (x1 : Int32) (x2 : Int32) (x3 : Int32) (x4 : Int32) (x5 : Int32) (σ : wS), K46 x1 x2 x3 x4 x5 σ → Wx X 7 σ 46 [(0, .ref (ad X 0)), (1, .int x1), (2, .int x2), (3, .int x3), (4, .int x4), (5, .int x5)] []) (hK62 : ∀ (x1 : Int32) (x2 : Int32) (x3 : Int32) (x4 : Int32) (x5 : Int32) (x6 : Int32) (σ : wS), K62 x1 x2 x3 x4 x5 x6 σ → Wx X 7 σ 62 [(0, .ref (ad X 0)), (1, .int x1), (2, .int x2), (3, .int x3), (4, .int x4), (5, .int x5), (6, .int x6)] []) (x1 : Int32) (x2 : Int32) (x3 : Int32) (x4 : Int32) (x5 : Int32) (x6 : Int32) (σ : wS) (h : b_X11_trim_140  K46 K62 Q x1 x2 x3 x4 x5 x6 σ) : Wx X 7 σ 140 [(0, .ref (ad X 0)), (1, .int x1), (2, .int x2), (3, .int x3), (4, .int x4), (5, .int x5), (6, .int x6)] [] := by
  unfold b_X11_trim_140 at h
  obtain ⟨y1, ey1⟩ : ∃ y : Int32, y = (x6 + (1 : Int32)) := ⟨_, rfl⟩
  replace h := h y1 ey1
  refine x_iinc (q := 6) (v := y1) (lv' := [(6, .int y1), (0, .ref (ad X 0)), (1, .int x1), (2, .int x2), (3, .int x3), (4, .int x4), (5, .int x5)]) F dX11_trim_140 rfl (by rw [ey1]; rfl) (by decide) rfl ?_
  refine x_goto (tgt := 62) F dX11_trim_143 (by decide) ?_
  refine x_sub (lv' := [(0, .ref (ad X 0)), (1, .int x1), (2, .int x2), (3, .int x3), (4, .int x4), (5, .int x5), (6, .int y1)]) [1, 2, 3, 4, 5, 6, 0] rfl ?_
  exact hK62 _ _ _ _ _ _ _ h
def b_X11_trim_112  (K46 : Int32 → Int32 → Int32 → Int32 → Int32 → wS → Prop) (K62 : Int32 → Int32 → Int32 → Int32 → Int32 → Int32 → wS → Prop) (Q : Int64 → wS → Prop) (x1 : Int32) (x2 : Int32) (x5 : Int32) (x6 : Int32) (σ : wS) : Prop := w_X2_put 47 (σ.2 46 0) (σ.2 46 1) σ (fun s1 => b_X11_trim_140  K46 K62 Q x1 x2 x5 x6 x5 x6 s1)
set_option maxRecDepth 100000 in
set_option maxHeartbeats 4000000 in
theorem wb_X11_trim_112 {X : XT} {Q : Int64 → wS → Prop}  (F : Fx X cX11_trim 7 RX11 wvX11_trim 5 124) (hret : Rl X 7 cX11_trim Q)  {K46 : Int32 → Int32 → Int32 → Int32 → Int32 → wS → Prop} {K62 : Int32 → Int32 → Int32 → Int32 → Int32 → Int32 → wS → Prop} (hK46 : ∀ (x1 : Int32) (x2 : Int32) (x3 : Int32) (x4 : Int32) (x5 : Int32) (σ : wS), K46 x1 x2 x3 x4 x5 σ → Wx X 7 σ 46 [(0, .ref (ad X 0)), (1, .int x1), (2, .int x2), (3, .int x3), (4, .int x4), (5, .int x5)] []) (hK62 : ∀ (x1 : Int32) (x2 : Int32) (x3 : Int32) (x4 : Int32) (x5 : Int32) (x6 : Int32) (σ : wS), K62 x1 x2 x3 x4 x5 x6 σ → Wx X 7 σ 62 [(0, .ref (ad X 0)), (1, .int x1), (2, .int x2), (3, .int x3), (4, .int x4), (5, .int x5), (6, .int x6)] []) (x1 : Int32) (x2 : Int32) (x5 : Int32) (x6 : Int32) (σ : wS) (h : b_X11_trim_112  K46 K62 Q x1 x2 x5 x6 σ) : Wx X 7 σ 112 [(0, .ref (ad X 0)), (1, .int x1), (2, .int x2), (5, .int x5), (6, .int x6)] [] := by
  unfold b_X11_trim_112 at h
  refine x_iload F dX11_trim_112 3 rfl ?_
  refine x_istore_n (lv' := [(3, .int x5), (0, .ref (ad X 0)), (1, .int x1), (2, .int x2), (5, .int x5), (6, .int x6)]) F dX11_trim_114 rfl (by decide) rfl ?_
  refine x_iload F dX11_trim_115 5 rfl ?_
  refine x_istore (lv' := [(4, .int x6), (3, .int x5), (0, .ref (ad X 0)), (1, .int x1), (2, .int x2), (5, .int x5), (6, .int x6)]) F dX11_trim_117 (by decide) rfl ?_
  refine x_aload_n F dX11_trim_119 rfl 2 rfl ?_
  refine g_11_10 F kz_0 in_11 (mc bw_2_19) dX11_trim_120 ?_
  refine x_aload_n F dX11_trim_123 rfl 2 rfl ?_
  refine g_11_9 F kz_0 in_11 (mc bw_2_18) dX11_trim_124 ?_
  refine g_2_0 F kz_46 in_2 (mc bw_47_12) dX11_trim_127 ?_
  refine x_aload_n F dX11_trim_130 rfl 2 rfl ?_
  refine g_11_9 F kz_0 in_11 (mc bw_2_18) dX11_trim_131 ?_
  refine g_2_1 F kz_46 in_2 (mc bw_47_13) dX11_trim_134 ?_
  refine x_callV_v F (c_X2_put (xl X) (xg X) (xA X) F.2.2.1 kz_47 h) (bw_V bw_29_0 bw_29_1 bw_29_2 bw_2_17 bw_29_3) rfl cd_X2_put (Nat.le_of_ble_eq_true rfl) (Nat.le_of_ble_eq_true rfl) (kd_w (by decide) kz_47) rfl (cl_2 kz_47) rfl rfl (Nat.le_of_ble_eq_true rfl) dX11_trim_137 (fun s1 h => ?_)
  refine x_sub (lv' := [(0, .ref (ad X 0)), (1, .int x1), (2, .int x2), (3, .int x5), (4, .int x6), (5, .int x5), (6, .int x6)]) [2, 3, 4, 1, 0, 5, 6] rfl ?_
  exact wb_X11_trim_140 F hret  hK46 hK62 _ _ _ _ _ _ _ h
def l_X11_trim_62  (K46 : Int32 → Int32 → Int32 → Int32 → Int32 → wS → Prop) (Q : Int64 → wS → Prop) : Nat → Int32 → Int32 → Int32 → Int32 → Int32 → Int32 → wS → Prop
  | 0, _, _, _, _, _, _, _ => False
  | n + 1, x1, x2, x3, x4, x5, x6, σ => (x1 < x6 → (∀ y1 : Int32, y1 = (x5 + (1 : Int32)) → (K46 x1 x2 x3 x4 y1 σ))) ∧ (¬ x1 < x6 → ((x6 = 0 → (b_X11_trim_140  K46 (fun x1 x2 x3 x4 x5 x6 σ => l_X11_trim_62  K46 Q n x1 x2 x3 x4 x5 x6 σ) Q x1 x2 x3 x4 x5 x6 σ)) ∧ (¬ x6 = 0 → (w_X11_isFast x5 σ (fun r3 s2 => (r3 = 0 → (b_X11_trim_140  K46 (fun x1 x2 x3 x4 x5 x6 σ => l_X11_trim_62  K46 Q n x1 x2 x3 x4 x5 x6 σ) Q x1 x2 x3 x4 x5 x6 s2)) ∧ (¬ r3 = 0 → (w_X11_putTurned x5 x6 s2 (fun r5 s4 => (r5 = 0 → (b_X11_trim_140  K46 (fun x1 x2 x3 x4 x5 x6 σ => l_X11_trim_62  K46 Q n x1 x2 x3 x4 x5 x6 σ) Q x1 x2 x3 x4 x5 x6 s4)) ∧ (¬ r5 = 0 → ((x3 = (-1 : Int32) → (b_X11_trim_112  K46 (fun x1 x2 x3 x4 x5 x6 σ => l_X11_trim_62  K46 Q n x1 x2 x3 x4 x5 x6 σ) Q x1 x2 x5 x6 s4)) ∧ (¬ x3 = (-1 : Int32) → (w_X2_isBelow 46 47 s4 (fun r7 s6 => (r7 = 0 → (b_X11_trim_140  K46 (fun x1 x2 x3 x4 x5 x6 σ => l_X11_trim_62  K46 Q n x1 x2 x3 x4 x5 x6 σ) Q x1 x2 x3 x4 x5 x6 s6)) ∧ (¬ r7 = 0 → (b_X11_trim_112  K46 (fun x1 x2 x3 x4 x5 x6 σ => l_X11_trim_62  K46 Q n x1 x2 x3 x4 x5 x6 σ) Q x1 x2 x5 x6 s6)))))))))))))))
set_option maxRecDepth 100000 in
set_option maxHeartbeats 4000000 in
theorem wl_X11_trim_62 {X : XT} {Q : Int64 → wS → Prop}  (F : Fx X cX11_trim 7 RX11 wvX11_trim 5 124) (hret : Rl X 7 cX11_trim Q)  {K46 : Int32 → Int32 → Int32 → Int32 → Int32 → wS → Prop} (hK46 : ∀ (x1 : Int32) (x2 : Int32) (x3 : Int32) (x4 : Int32) (x5 : Int32) (σ : wS), K46 x1 x2 x3 x4 x5 σ → Wx X 7 σ 46 [(0, .ref (ad X 0)), (1, .int x1), (2, .int x2), (3, .int x3), (4, .int x4), (5, .int x5)] []) : ∀ (n : Nat) (x1 : Int32) (x2 : Int32) (x3 : Int32) (x4 : Int32) (x5 : Int32) (x6 : Int32) (σ : wS), l_X11_trim_62  K46 Q n x1 x2 x3 x4 x5 x6 σ → Wx X 7 σ 62 [(0, .ref (ad X 0)), (1, .int x1), (2, .int x2), (3, .int x3), (4, .int x4), (5, .int x5), (6, .int x6)] [] := by
  intro n
  induction n with
  | zero =>
    intros
    contradiction
  | succ n ih =>
    intro x1 x2 x3 x4 x5 x6 σ h
    simp only [l_X11_trim_62] at h
    refine x_iload F dX11_trim_62 6 rfl ?_
    refine x_iload_n F dX11_trim_64 rfl 1 rfl ?_
    refine x_icmp_gt (tgt := 146) F dX11_trim_65 (by decide) (fun c => ?_) (fun c => ?_)
    · replace h := h.1 c
      obtain ⟨y1, ey1⟩ : ∃ y : Int32, y = (x5 + (1 : Int32)) := ⟨_, rfl⟩
      replace h := h y1 ey1
      refine x_iinc (q := 5) (v := y1) (lv' := [(5, .int y1), (0, .ref (ad X 0)), (1, .int x1), (2, .int x2), (3, .int x3), (4, .int x4), (6, .int x6)]) F dX11_trim_146 rfl (by rw [ey1]; rfl) (by decide) rfl ?_
      refine x_goto (tgt := 46) F dX11_trim_149 (by decide) ?_
      refine x_sub (lv' := [(0, .ref (ad X 0)), (1, .int x1), (2, .int x2), (3, .int x3), (4, .int x4), (5, .int y1)]) [1, 2, 3, 4, 5, 0] rfl ?_
      exact hK46 _ _ _ _ _ _ h
    · replace h := h.2 c
      refine x_iload F dX11_trim_68 6 rfl ?_
      refine x_if_eq (tgt := 140) F dX11_trim_70 (by decide) (fun c => ?_) (fun c => ?_)
      · replace h := h.1 c
        refine x_sub (lv' := [(0, .ref (ad X 0)), (1, .int x1), (2, .int x2), (3, .int x3), (4, .int x4), (5, .int x5), (6, .int x6)]) [0, 1, 2, 3, 4, 5, 6] rfl ?_
        exact wb_X11_trim_140 F hret  hK46 ih _ _ _ _ _ _ _ h
      · replace h := h.2 c
        refine x_aload_n F dX11_trim_73 rfl 0 rfl ?_
        refine x_iload F dX11_trim_74 5 rfl ?_
        refine x_callV_i F (c_X11_isFast (xl X) (xg X) (xA X) F.2.2.1  h) (bw_V bw_28_12 bw_28_13 bw_28_14 bw_1_2 bw_28_15) rfl cd_X11_isFast (Nat.le_of_ble_eq_true rfl) (Nat.le_of_ble_eq_true rfl) (kd_w (by decide) kz_0) rfl (cl_11 kz_0) rfl rfl (Nat.le_of_ble_eq_true rfl) dX11_trim_76 (fun r3 s2 h => ?_)
        refine x_if_eq (tgt := 140) F dX11_trim_79 (by decide) (fun c => ?_) (fun c => ?_)
        · replace h := h.1 c
          refine x_sub (lv' := [(0, .ref (ad X 0)), (1, .int x1), (2, .int x2), (3, .int x3), (4, .int x4), (5, .int x5), (6, .int x6)]) [0, 1, 2, 3, 4, 5, 6] rfl ?_
          exact wb_X11_trim_140 F hret  hK46 ih _ _ _ _ _ _ _ h
        · replace h := h.2 c
          refine x_aload_n F dX11_trim_82 rfl 0 rfl ?_
          refine x_iload F dX11_trim_83 5 rfl ?_
          refine x_iload F dX11_trim_85 6 rfl ?_
          refine x_callV_i F (c_X11_putTurned (xl X) (xg X) (xA X) F.2.2.1  h) (bw_V bw_47_14 bw_47_15 bw_47_16 bw_1_2 bw_47_17) rfl cd_X11_putTurned (Nat.le_of_ble_eq_true rfl) (Nat.le_of_ble_eq_true rfl) (kd_w (by decide) kz_0) rfl (cl_11 kz_0) rfl rfl (Nat.le_of_ble_eq_true rfl) dX11_trim_87 (fun r5 s4 h => ?_)
          refine x_if_eq (tgt := 140) F dX11_trim_90 (by decide) (fun c => ?_) (fun c => ?_)
          · replace h := h.1 c
            refine x_sub (lv' := [(0, .ref (ad X 0)), (1, .int x1), (2, .int x2), (3, .int x3), (4, .int x4), (5, .int x5), (6, .int x6)]) [0, 1, 2, 3, 4, 5, 6] rfl ?_
            exact wb_X11_trim_140 F hret  hK46 ih _ _ _ _ _ _ _ h
          · replace h := h.2 c
            refine x_iload_n F dX11_trim_93 rfl 3 rfl ?_
            refine x_iconst (-1 : Int32) F dX11_trim_94 (by decide) ?_
            refine x_icmp_eq (tgt := 112) F dX11_trim_95 (by decide) (fun c => ?_) (fun c => ?_)
            · replace h := h.1 c
              refine x_sub (lv' := [(0, .ref (ad X 0)), (1, .int x1), (2, .int x2), (5, .int x5), (6, .int x6)]) [0, 1, 2, 5, 6] rfl ?_
              exact wb_X11_trim_112 F hret  hK46 ih _ _ _ _ _ h
            · replace h := h.2 c
              refine x_aload_n F dX11_trim_98 rfl 0 rfl ?_
              refine g_11_9 F kz_0 in_11 (mc bw_2_18) dX11_trim_99 ?_
              refine x_aload_n F dX11_trim_102 rfl 0 rfl ?_
              refine g_11_10 F kz_0 in_11 (mc bw_2_19) dX11_trim_103 ?_
              refine x_callV_i F (c_X2_isBelow (xl X) (xg X) (xA X) F.2.2.1 kz_46 kz_47 h) (bw_V bw_47_18 bw_47_19 bw_47_20 bw_2_17 bw_47_21) rfl cd_X2_isBelow (Nat.le_of_ble_eq_true rfl) (Nat.le_of_ble_eq_true rfl) (kd_w (by decide) kz_46) rfl (cl_2 kz_46) rfl rfl (Nat.le_of_ble_eq_true rfl) dX11_trim_106 (fun r7 s6 h => ?_)
              refine x_if_eq (tgt := 140) F dX11_trim_109 (by decide) (fun c => ?_) (fun c => ?_)
              · replace h := h.1 c
                refine x_sub (lv' := [(0, .ref (ad X 0)), (1, .int x1), (2, .int x2), (3, .int x3), (4, .int x4), (5, .int x5), (6, .int x6)]) [0, 1, 2, 3, 4, 5, 6] rfl ?_
                exact wb_X11_trim_140 F hret  hK46 ih _ _ _ _ _ _ _ h
              · replace h := h.2 c
                refine x_sub (lv' := [(0, .ref (ad X 0)), (1, .int x1), (2, .int x2), (5, .int x5), (6, .int x6)]) [0, 1, 2, 5, 6] rfl ?_
                exact wb_X11_trim_112 F hret  hK46 ih _ _ _ _ _ h
def l_X11_trim_46   (Q : Int64 → wS → Prop) : Nat → Int32 → Int32 → Int32 → Int32 → Int32 → wS → Prop
  | 0, _, _, _, _, _, _ => False
  | n + 1, x1, x2, x3, x4, x5, σ => ((σ.1 (mo (σ.1 0 2)) 6) ≤ x5 → ((¬ x2 = 0 → ((¬ x2 = (1 : Int32) → (w_X2_told 47 (x2 - (2 : Int32)) σ (fun r2 s1 => Q r2 s1))) ∧ (x2 = (1 : Int32) → (Q (x4).toInt64 σ)))) ∧ (x2 = 0 → (Q (x3).toInt64 σ)))) ∧ (¬ (σ.1 (mo (σ.1 0 2)) 6) ≤ x5 → (∀ y3 : Int32, y3 = (-x1) → ((∃ m, l_X11_trim_62  (fun x1 x2 x3 x4 x5 σ => l_X11_trim_46   Q n x1 x2 x3 x4 x5 σ) Q m x1 x2 x3 x4 x5 y3 σ))))
set_option maxRecDepth 100000 in
set_option maxHeartbeats 4000000 in
theorem wl_X11_trim_46 {X : XT} {Q : Int64 → wS → Prop}  (F : Fx X cX11_trim 7 RX11 wvX11_trim 5 124) (hret : Rl X 7 cX11_trim Q)    : ∀ (n : Nat) (x1 : Int32) (x2 : Int32) (x3 : Int32) (x4 : Int32) (x5 : Int32) (σ : wS), l_X11_trim_46   Q n x1 x2 x3 x4 x5 σ → Wx X 7 σ 46 [(0, .ref (ad X 0)), (1, .int x1), (2, .int x2), (3, .int x3), (4, .int x4), (5, .int x5)] [] := by
  intro n
  induction n with
  | zero =>
    intros
    contradiction
  | succ n ih =>
    intro x1 x2 x3 x4 x5 σ h
    simp only [l_X11_trim_46] at h
    refine x_iload F dX11_trim_46 5 rfl ?_
    refine x_aload_n F dX11_trim_48 rfl 0 rfl ?_
    refine g_11_2 F kz_0 in_11 (mc bw_2_1) dX11_trim_49 ?_
    refine g_5_6 F (mo_kd _) in_5 (mc bw_19_2) dX11_trim_52 ?_
    refine x_icmp_ge (tgt := 152) F dX11_trim_55 (by decide) (fun c => ?_) (fun c => ?_)
    · replace h := h.1 c
      refine x_iload_n F dX11_trim_152 rfl 2 rfl ?_
      refine x_if_ne (tgt := 159) F dX11_trim_153 (by decide) (fun c => ?_) (fun c => ?_)
      · replace h := h.1 c
        refine x_iload_n F dX11_trim_159 rfl 2 rfl ?_
        refine x_iconst (1 : Int32) F dX11_trim_160 (by decide) ?_
        refine x_icmp_ne (tgt := 170) F dX11_trim_161 (by decide) (fun c => ?_) (fun c => ?_)
        · replace h := h.1 c
          refine x_aload_n F dX11_trim_170 rfl 0 rfl ?_
          refine g_11_10 F kz_0 in_11 (mc bw_2_19) dX11_trim_171 ?_
          refine x_iload_n F dX11_trim_174 rfl 2 rfl ?_
          refine x_iconst (2 : Int32) F dX11_trim_175 (by decide) ?_
          refine x_isub F dX11_trim_176 ?_
          refine x_callV_l F (c_X2_told (xl X) (xg X) (xA X) F.2.2.1 kz_47 h) (bw_V bw_29_11 bw_29_12 bw_29_13 bw_2_17 bw_29_14) rfl cd_X2_told (Nat.le_of_ble_eq_true rfl) (Nat.le_of_ble_eq_true rfl) (kd_w (by decide) kz_47) rfl (cl_2 kz_47) rfl rfl (Nat.le_of_ble_eq_true rfl) dX11_trim_177 (fun r2 s1 h => ?_)
          exact hret _ _ _ _ h dX11_trim_180
        · replace h := h.2 c
          refine x_iload F dX11_trim_164 4 rfl ?_
          refine x_i2l F dX11_trim_166 ?_
          refine x_goto (tgt := 180) F dX11_trim_167 (by decide) ?_
          exact hret _ _ _ _ h dX11_trim_180
      · replace h := h.2 c
        refine x_iload_n F dX11_trim_156 rfl 3 rfl ?_
        refine x_i2l F dX11_trim_157 ?_
        exact hret _ _ _ _ h dX11_trim_158
    · replace h := h.2 c
      refine x_iload_n F dX11_trim_58 rfl 1 rfl ?_
      refine x_ineg F dX11_trim_59 ?_
      refine x_topi (fun y3 ey3 => ?_)
      replace h := h y3 ey3
      refine x_istore (lv' := [(6, .int y3), (0, .ref (ad X 0)), (1, .int x1), (2, .int x2), (3, .int x3), (4, .int x4), (5, .int x5)]) F dX11_trim_60 (by decide) rfl ?_
      refine x_sub (lv' := [(0, .ref (ad X 0)), (1, .int x1), (2, .int x2), (3, .int x3), (4, .int x4), (5, .int x5), (6, .int y3)]) [1, 2, 3, 4, 5, 6, 0] rfl ?_
      obtain ⟨n2, h⟩ := h
      exact wl_X11_trim_62 F hret  ih n2 _ _ _ _ _ _ _ h
def w_X11_trim  (p0 : Int32) (p1 : Int32) (σ : wS) (Q : Int64 → wS → Prop) : Prop := w_X11_hasMooring  σ (fun r2 s1 => (r2 = 0 → (Q (-1000000 : Int64) s1)) ∧ (¬ r2 = 0 → (w_X11_isWithin p0 (1 : Int32) (3 : Int32) s1 (fun r4 s3 => (r4 = 0 → (Q (-1000000 : Int64) s3)) ∧ (¬ r4 = 0 → (w_X11_isWithin p1 (0 : Int32) (3 : Int32) s3 (fun r6 s5 => (¬ r6 = 0 → (w_X2_put 47 (0 : Int64) (1 : Int64) s5 (fun s7 => (∃ m, l_X11_trim_46   Q m p0 p1 (-1 : Int32) (0 : Int32) (0 : Int32) s7)))) ∧ (r6 = 0 → (Q (-1000000 : Int64) s5)))))))))
set_option maxRecDepth 100000 in
set_option maxHeartbeats 4000000 in
theorem c_X11_trim (l : Launch) (g : wG) (A : Nat → Prop) (hA : adO g A)   {p0 : Int32} {p1 : Int32} {σ : wS} {Q : Int64 → wS → Prop} (h : w_X11_trim  p0 p1 σ Q) : Ml l yX11_trim wvX11_trim 5 124 g A [.ref (g.2.2 0), .int p0, .int p1] σ Q := by
  refine mt_l (own := RX11) (lv := [(0, .ref (g.2.2 0)), (1, .int p0), (2, .int p1)]) (by decide) rfl rfl hA (Nat.le_of_ble_eq_true rfl) rfl ?_
  intro X hl hg hAA F hret
  subst hl hg hAA
  unfold w_X11_trim at h
  refine x_aload_n F dX11_trim_0 rfl 0 rfl ?_
  refine x_callV_i F (c_X11_hasMooring (xl X) (xg X) (xA X) F.2.2.1  h) (bw_V bw_26_1 bw_26_2 bw_26_3 bw_1_2 bw_26_4) rfl cd_X11_hasMooring (Nat.le_of_ble_eq_true rfl) (Nat.le_of_ble_eq_true rfl) (kd_w (by decide) kz_0) rfl (cl_11 kz_0) rfl rfl (Nat.le_of_ble_eq_true rfl) dX11_trim_1 (fun r2 s1 h => ?_)
  refine x_if_eq (tgt := 25) F dX11_trim_4 (by decide) (fun c => ?_) (fun c => ?_)
  · replace h := h.1 c
    refine x_ldc2 F dX11_trim_25 (mc bw_28_9) ?_
    exact hret _ _ _ _ h dX11_trim_28
  · replace h := h.2 c
    refine x_iload_n F dX11_trim_7 rfl 1 rfl ?_
    refine x_iconst (1 : Int32) F dX11_trim_8 (by decide) ?_
    refine x_iconst (3 : Int32) F dX11_trim_9 (by decide) ?_
    refine x_callT_i F (c_X11_isWithin (xl X) (xg X) (xA X) F.2.2.1  h) (bw_S bw_26_5 bw_26_6 bw_1_2 bw_26_7) rfl cd_X11_isWithin (Nat.le_of_ble_eq_true rfl) (Nat.le_of_ble_eq_true rfl) rfl rfl (Nat.le_of_ble_eq_true rfl) dX11_trim_10 (fun r4 s3 h => ?_)
    refine x_if_eq (tgt := 25) F dX11_trim_13 (by decide) (fun c => ?_) (fun c => ?_)
    · replace h := h.1 c
      refine x_ldc2 F dX11_trim_25 (mc bw_28_9) ?_
      exact hret _ _ _ _ h dX11_trim_28
    · replace h := h.2 c
      refine x_iload_n F dX11_trim_16 rfl 2 rfl ?_
      refine x_iconst (0 : Int32) F dX11_trim_17 (by decide) ?_
      refine x_iconst (3 : Int32) F dX11_trim_18 (by decide) ?_
      refine x_callT_i F (c_X11_isWithin (xl X) (xg X) (xA X) F.2.2.1  h) (bw_S bw_26_5 bw_26_6 bw_1_2 bw_26_7) rfl cd_X11_isWithin (Nat.le_of_ble_eq_true rfl) (Nat.le_of_ble_eq_true rfl) rfl rfl (Nat.le_of_ble_eq_true rfl) dX11_trim_19 (fun r6 s5 h => ?_)
      refine x_if_ne (tgt := 29) F dX11_trim_22 (by decide) (fun c => ?_) (fun c => ?_)
      · replace h := h.1 c
        refine x_iconst (-1 : Int32) F dX11_trim_29 (by decide) ?_
        refine x_istore_n (lv' := [(3, .int (-1 : Int32)), (0, .ref (ad X 0)), (1, .int p0), (2, .int p1)]) F dX11_trim_30 rfl (by decide) rfl ?_
        refine x_iconst (0 : Int32) F dX11_trim_31 (by decide) ?_
        refine x_istore (lv' := [(4, .int (0 : Int32)), (3, .int (-1 : Int32)), (0, .ref (ad X 0)), (1, .int p0), (2, .int p1)]) F dX11_trim_32 (by decide) rfl ?_
        refine x_aload_n F dX11_trim_34 rfl 2 rfl ?_
        refine g_11_10 F kz_0 in_11 (mc bw_2_19) dX11_trim_35 ?_
        refine x_lconst (0 : Int64) F dX11_trim_38 (by decide) ?_
        refine x_lconst (1 : Int64) F dX11_trim_39 (by decide) ?_
        refine x_callV_v F (c_X2_put (xl X) (xg X) (xA X) F.2.2.1 kz_47 h) (bw_V bw_29_0 bw_29_1 bw_29_2 bw_2_17 bw_29_3) rfl cd_X2_put (Nat.le_of_ble_eq_true rfl) (Nat.le_of_ble_eq_true rfl) (kd_w (by decide) kz_47) rfl (cl_2 kz_47) rfl rfl (Nat.le_of_ble_eq_true rfl) dX11_trim_40 (fun s7 h => ?_)
        refine x_iconst (0 : Int32) F dX11_trim_43 (by decide) ?_
        refine x_istore (lv' := [(5, .int (0 : Int32)), (4, .int (0 : Int32)), (3, .int (-1 : Int32)), (0, .ref (ad X 0)), (1, .int p0), (2, .int p1)]) F dX11_trim_44 (by decide) rfl ?_
        refine x_sub (lv' := [(0, .ref (ad X 0)), (1, .int p0), (2, .int p1), (3, .int (-1 : Int32)), (4, .int (0 : Int32)), (5, .int (0 : Int32))]) [3, 4, 5, 2, 1, 0] rfl ?_
        obtain ⟨n2, h⟩ := h
        exact wl_X11_trim_46 F hret   n2 _ _ _ _ _ _ h
      · replace h := h.2 c
        refine x_ldc2 F dX11_trim_25 (mc bw_28_9) ?_
        exact hret _ _ _ _ h dX11_trim_28
/-! X11_isEnough -/
abbrev wvX11_isEnough : List Cond := Cond.code yX11_isEnough cX11_isEnough 3 (some .boolean) :: wsL_law
theorem cd_X11_isEnough : okN yX11_isEnough RX11 2 := by unfold okN; decide +kernel
def w_X11_isEnough  (p0 : Int32) (p1 : Int32) (σ : wS) (Q : Int32 → wS → Prop) : Prop := w_X3_copy 32 29 σ (fun s1 => ∀ s3 : wS, s3 = upI s1 32 2 p0 → (∀ s4 : wS, s4 = upI s3 32 4 ((s3.1 32 4) ||| (p1 &&& (p0 ^^^ (-1 : Int32)))) → (w_X1_settle (mo (s4.1 0 2)) 32 s4 (fun r6 s5 => (¬ r6 = (-1 : Int32) → (Q (0 : Int32) s5)) ∧ (r6 = (-1 : Int32) → ((¬ (s5.1 38 3) = 0 → (Q (0 : Int32) s5)) ∧ ((s5.1 38 3) = 0 → (Q (1 : Int32) s5))))))))
set_option maxRecDepth 100000 in
set_option maxHeartbeats 4000000 in
theorem c_X11_isEnough (l : Launch) (g : wG) (A : Nat → Prop) (hA : adO g A)   {p0 : Int32} {p1 : Int32} {σ : wS} {Q : Int32 → wS → Prop} (h : w_X11_isEnough  p0 p1 σ Q) : Mi l yX11_isEnough wvX11_isEnough 3 75 g A [.ref (g.2.2 0), .int p0, .int p1] σ Q := by
  refine mt_i (own := RX11) (lv := [(0, .ref (g.2.2 0)), (1, .int p0), (2, .int p1)]) (by decide) rfl rfl hA (Nat.le_of_ble_eq_true rfl) rfl ?_
  intro X hl hg hAA F hret
  subst hl hg hAA
  unfold w_X11_isEnough at h
  refine x_aload_n F dX11_isEnough_0 rfl 0 rfl ?_
  refine g_11_7 F kz_0 in_11 (mc bw_2_10) dX11_isEnough_1 ?_
  refine x_aload_n F dX11_isEnough_4 rfl 0 rfl ?_
  refine g_11_6 F kz_0 in_11 (mc bw_2_9) dX11_isEnough_5 ?_
  refine x_callV_v F (c_X3_copy (xl X) (xg X) (xA X) F.2.2.1 kz_32 kz_29 h) (bw_V bw_22_1 bw_22_2 bw_22_3 bw_2_8 bw_22_4) rfl cd_X3_copy (Nat.le_of_ble_eq_true rfl) (Nat.le_of_ble_eq_true rfl) (kd_w (by decide) kz_32) rfl (cl_3 kz_32) rfl rfl (Nat.le_of_ble_eq_true rfl) dX11_isEnough_8 (fun s1 h => ?_)
  refine x_aload_n F dX11_isEnough_11 rfl 0 rfl ?_
  refine g_11_7 F kz_0 in_11 (mc bw_2_10) dX11_isEnough_12 ?_
  refine x_iload_n F dX11_isEnough_15 rfl 1 rfl ?_
  refine q_3_2 F kz_32 in_3 (mc bw_28_22) dX11_isEnough_16 ?_
  refine x_nmS (fun s3 es3 => ?_)
  replace h := h s3 es3
  refine x_aload_n F dX11_isEnough_19 rfl 0 rfl ?_
  refine g_11_7 F kz_0 in_11 (mc bw_2_10) dX11_isEnough_20 ?_
  refine x_dup F dX11_isEnough_23 rfl ?_
  refine g_3_4 F kz_32 in_3 (mc bw_48_22) dX11_isEnough_24 ?_
  refine x_iload_n F dX11_isEnough_27 rfl 2 rfl ?_
  refine x_iload_n F dX11_isEnough_28 rfl 1 rfl ?_
  refine x_iconst (-1 : Int32) F dX11_isEnough_29 (by decide) ?_
  refine x_ixor F dX11_isEnough_30 ?_
  refine x_iand F dX11_isEnough_31 ?_
  refine x_ior F dX11_isEnough_32 ?_
  refine q_3_4 F kz_32 in_3 (mc bw_48_22) dX11_isEnough_33 ?_
  refine x_nmS (fun s4 es4 => ?_)
  replace h := h s4 es4
  refine x_aload_n F dX11_isEnough_36 rfl 0 rfl ?_
  refine g_11_8 F kz_0 in_11 (mc bw_2_14) dX11_isEnough_37 ?_
  refine x_aload_n F dX11_isEnough_40 rfl 0 rfl ?_
  refine g_11_2 F kz_0 in_11 (mc bw_2_1) dX11_isEnough_41 ?_
  refine x_aload_n F dX11_isEnough_44 rfl 0 rfl ?_
  refine g_11_7 F kz_0 in_11 (mc bw_2_10) dX11_isEnough_45 ?_
  refine x_callV_i F (c_X1_settle (xl X) (xg X) (xA X) F.2.2.1 (mo_kd _) kz_32 h) (bw_V bw_19_11 bw_19_12 bw_19_13 bw_2_13 bw_19_14) rfl cd_X1_settle (Nat.le_of_ble_eq_true rfl) (Nat.le_of_ble_eq_true rfl) (kd_w (by decide) kz_38) rfl (cl_1 kz_38) rfl rfl (Nat.le_of_ble_eq_true rfl) dX11_isEnough_48 (fun r6 s5 h => ?_)
  refine x_iconst (-1 : Int32) F dX11_isEnough_51 (by decide) ?_
  refine x_icmp_ne (tgt := 69) F dX11_isEnough_52 (by decide) (fun c => ?_) (fun c => ?_)
  · replace h := h.1 c
    refine x_iconst (0 : Int32) F dX11_isEnough_69 (by decide) ?_
    exact hret _ _ _ _ h (nar01 (by decide)) dX11_isEnough_70
  · replace h := h.2 c
    refine x_aload_n F dX11_isEnough_55 rfl 0 rfl ?_
    refine g_11_8 F kz_0 in_11 (mc bw_2_14) dX11_isEnough_56 ?_
    refine g_1_3 F kz_38 in_1 (mc bw_32_18) dX11_isEnough_59 ?_
    refine x_if_ne (tgt := 69) F dX11_isEnough_62 (by decide) (fun c => ?_) (fun c => ?_)
    · replace h := h.1 c
      refine x_iconst (0 : Int32) F dX11_isEnough_69 (by decide) ?_
      exact hret _ _ _ _ h (nar01 (by decide)) dX11_isEnough_70
    · replace h := h.2 c
      refine x_iconst (1 : Int32) F dX11_isEnough_65 (by decide) ?_
      refine x_goto (tgt := 70) F dX11_isEnough_66 (by decide) ?_
      exact hret _ _ _ _ h (nar01 (by decide)) dX11_isEnough_70
/-! X11_fewest -/
abbrev wvX11_fewest : List Cond := Cond.code yX11_fewest cX11_fewest 5 (some .int) :: wsL_law
theorem cd_X11_fewest : okN yX11_fewest RX11 1 := by unfold okN; decide +kernel
def b_X11_fewest_99  (K40 : Int32 → Int32 → Int32 → wS → Prop) (K54 : Int32 → Int32 → Int32 → Int32 → wS → Prop) (Q : Int32 → wS → Prop) (x1 : Int32) (x2 : Int32) (x3 : Int32) (x4 : Int32) (σ : wS) : Prop := ∀ y1 : Int32, y1 = (x4 + (1 : Int32)) → (K54 x1 x2 x3 y1 σ)
set_option maxRecDepth 100000 in
set_option maxHeartbeats 4000000 in
theorem wb_X11_fewest_99 {X : XT} {Q : Int32 → wS → Prop}  (F : Fx X cX11_fewest 5 RX11 wvX11_fewest 4 97) (hret : Ri X 5 cX11_fewest .int Q)  {K40 : Int32 → Int32 → Int32 → wS → Prop} {K54 : Int32 → Int32 → Int32 → Int32 → wS → Prop} (hK40 : ∀ (x1 : Int32) (x2 : Int32) (x3 : Int32) (σ : wS), K40 x1 x2 x3 σ → Wx X 5 σ 40 [(0, .ref (ad X 0)), (1, .int x1), (2, .int x2), (3, .int x3)] []) (hK54 : ∀ (x1 : Int32) (x2 : Int32) (x3 : Int32) (x4 : Int32) (σ : wS), K54 x1 x2 x3 x4 σ → Wx X 5 σ 54 [(0, .ref (ad X 0)), (1, .int x1), (2, .int x2), (3, .int x3), (4, .int x4)] []) (x1 : Int32) (x2 : Int32) (x3 : Int32) (x4 : Int32) (σ : wS) (h : b_X11_fewest_99  K40 K54 Q x1 x2 x3 x4 σ) : Wx X 5 σ 99 [(0, .ref (ad X 0)), (1, .int x1), (2, .int x2), (3, .int x3), (4, .int x4)] [] := by
  unfold b_X11_fewest_99 at h
  obtain ⟨y1, ey1⟩ : ∃ y : Int32, y = (x4 + (1 : Int32)) := ⟨_, rfl⟩
  replace h := h y1 ey1
  refine x_iinc (q := 4) (v := y1) (lv' := [(4, .int y1), (0, .ref (ad X 0)), (1, .int x1), (2, .int x2), (3, .int x3)]) F dX11_fewest_99 rfl (by rw [ey1]; rfl) (by decide) rfl ?_
  refine x_goto (tgt := 54) F dX11_fewest_102 (by decide) ?_
  refine x_sub (lv' := [(0, .ref (ad X 0)), (1, .int x1), (2, .int x2), (3, .int x3), (4, .int y1)]) [1, 2, 3, 4, 0] rfl ?_
  exact hK54 _ _ _ _ _ h
def l_X11_fewest_54  (K40 : Int32 → Int32 → Int32 → wS → Prop) (Q : Int32 → wS → Prop) : Nat → Int32 → Int32 → Int32 → Int32 → wS → Prop
  | 0, _, _, _, _, _ => False
  | n + 1, x1, x2, x3, x4, σ => (x2 < x4 → (∀ y1 : Int32, y1 = (x3 + (1 : Int32)) → (K40 x1 x2 y1 σ))) ∧ (¬ x2 < x4 → (w_J6_bitCount_0f7a4 x4 σ (fun r3 s2 => (¬ r3 = x3 → (b_X11_fewest_99  K40 (fun x1 x2 x3 x4 σ => l_X11_fewest_54  K40 Q n x1 x2 x3 x4 σ) Q x1 x2 x3 x4 s2)) ∧ (r3 = x3 → ((¬ (x4 &&& (x2 ^^^ (-1 : Int32))) = 0 → (b_X11_fewest_99  K40 (fun x1 x2 x3 x4 σ => l_X11_fewest_54  K40 Q n x1 x2 x3 x4 σ) Q x1 x2 x3 x4 s2)) ∧ ((x4 &&& (x2 ^^^ (-1 : Int32))) = 0 → (w_X11_isEnough x4 x2 s2 (fun r5 s4 => (r5 = 0 → (b_X11_fewest_99  K40 (fun x1 x2 x3 x4 σ => l_X11_fewest_54  K40 Q n x1 x2 x3 x4 σ) Q x1 x2 x3 x4 s4)) ∧ (¬ r5 = 0 → ((¬ x1 = 0 → (Q x4 s4)) ∧ (x1 = 0 → (Q x3 s4))))))))))))
set_option maxRecDepth 100000 in
set_option maxHeartbeats 4000000 in
theorem wl_X11_fewest_54 {X : XT} {Q : Int32 → wS → Prop}  (F : Fx X cX11_fewest 5 RX11 wvX11_fewest 4 97) (hret : Ri X 5 cX11_fewest .int Q)  {K40 : Int32 → Int32 → Int32 → wS → Prop} (hK40 : ∀ (x1 : Int32) (x2 : Int32) (x3 : Int32) (σ : wS), K40 x1 x2 x3 σ → Wx X 5 σ 40 [(0, .ref (ad X 0)), (1, .int x1), (2, .int x2), (3, .int x3)] []) : ∀ (n : Nat) (x1 : Int32) (x2 : Int32) (x3 : Int32) (x4 : Int32) (σ : wS), l_X11_fewest_54  K40 Q n x1 x2 x3 x4 σ → Wx X 5 σ 54 [(0, .ref (ad X 0)), (1, .int x1), (2, .int x2), (3, .int x3), (4, .int x4)] [] := by
  intro n
  induction n with
  | zero =>
    intros
    contradiction
  | succ n ih =>
    intro x1 x2 x3 x4 σ h
    simp only [l_X11_fewest_54] at h
    refine x_iload F dX11_fewest_54 4 rfl ?_
    refine x_iload_n F dX11_fewest_56 rfl 2 rfl ?_
    refine x_icmp_gt (tgt := 105) F dX11_fewest_57 (by decide) (fun c => ?_) (fun c => ?_)
    · replace h := h.1 c
      obtain ⟨y1, ey1⟩ : ∃ y : Int32, y = (x3 + (1 : Int32)) := ⟨_, rfl⟩
      replace h := h y1 ey1
      refine x_iinc (q := 3) (v := y1) (lv' := [(3, .int y1), (0, .ref (ad X 0)), (1, .int x1), (2, .int x2), (4, .int x4)]) F dX11_fewest_105 rfl (by rw [ey1]; rfl) (by decide) rfl ?_
      refine x_goto (tgt := 40) F dX11_fewest_108 (by decide) ?_
      refine x_sub (lv' := [(0, .ref (ad X 0)), (1, .int x1), (2, .int x2), (3, .int y1)]) [1, 2, 3, 0] rfl ?_
      exact hK40 _ _ _ _ h
    · replace h := h.2 c
      refine x_iload F dX11_fewest_60 4 rfl ?_
      refine x_callT_i F (c_J6_bitCount_0f7a4 (xl X) (xg X) (xA X) F.2.2.1  h) (bw_S bw_42_15 bw_42_16 bw_42_17 bw_42_18) rfl cd_J6_bitCount_0f7a4 (Nat.le_of_ble_eq_true rfl) (Nat.le_of_ble_eq_true rfl) rfl rfl (Nat.le_of_ble_eq_true rfl) dX11_fewest_62 (fun r3 s2 h => ?_)
      refine x_iload_n F dX11_fewest_65 rfl 3 rfl ?_
      refine x_icmp_ne (tgt := 99) F dX11_fewest_66 (by decide) (fun c => ?_) (fun c => ?_)
      · replace h := h.1 c
        refine x_sub (lv' := [(0, .ref (ad X 0)), (1, .int x1), (2, .int x2), (3, .int x3), (4, .int x4)]) [0, 1, 2, 3, 4] rfl ?_
        exact wb_X11_fewest_99 F hret  hK40 ih _ _ _ _ _ h
      · replace h := h.2 c
        refine x_iload F dX11_fewest_69 4 rfl ?_
        refine x_iload_n F dX11_fewest_71 rfl 2 rfl ?_
        refine x_iconst (-1 : Int32) F dX11_fewest_72 (by decide) ?_
        refine x_ixor F dX11_fewest_73 ?_
        refine x_iand F dX11_fewest_74 ?_
        refine x_if_ne (tgt := 99) F dX11_fewest_75 (by decide) (fun c => ?_) (fun c => ?_)
        · replace h := h.1 c
          refine x_sub (lv' := [(0, .ref (ad X 0)), (1, .int x1), (2, .int x2), (3, .int x3), (4, .int x4)]) [0, 1, 2, 3, 4] rfl ?_
          exact wb_X11_fewest_99 F hret  hK40 ih _ _ _ _ _ h
        · replace h := h.2 c
          refine x_aload_n F dX11_fewest_78 rfl 0 rfl ?_
          refine x_iload F dX11_fewest_79 4 rfl ?_
          refine x_iload_n F dX11_fewest_81 rfl 2 rfl ?_
          refine x_callV_i F (c_X11_isEnough (xl X) (xg X) (xA X) F.2.2.1  h) (bw_V bw_48_18 bw_48_19 bw_48_20 bw_1_2 bw_48_21) rfl cd_X11_isEnough (Nat.le_of_ble_eq_true rfl) (Nat.le_of_ble_eq_true rfl) (kd_w (by decide) kz_0) rfl (cl_11 kz_0) rfl rfl (Nat.le_of_ble_eq_true rfl) dX11_fewest_82 (fun r5 s4 h => ?_)
          refine x_if_eq (tgt := 99) F dX11_fewest_85 (by decide) (fun c => ?_) (fun c => ?_)
          · replace h := h.1 c
            refine x_sub (lv' := [(0, .ref (ad X 0)), (1, .int x1), (2, .int x2), (3, .int x3), (4, .int x4)]) [0, 1, 2, 3, 4] rfl ?_
            exact wb_X11_fewest_99 F hret  hK40 ih _ _ _ _ _ h
          · replace h := h.2 c
            refine x_iload_n F dX11_fewest_88 rfl 1 rfl ?_
            refine x_if_ne (tgt := 96) F dX11_fewest_89 (by decide) (fun c => ?_) (fun c => ?_)
            · replace h := h.1 c
              refine x_iload F dX11_fewest_96 4 rfl ?_
              exact hret _ _ _ _ h rfl dX11_fewest_98
            · replace h := h.2 c
              refine x_iload_n F dX11_fewest_92 rfl 3 rfl ?_
              refine x_goto (tgt := 98) F dX11_fewest_93 (by decide) ?_
              exact hret _ _ _ _ h rfl dX11_fewest_98
def l_X11_fewest_40   (Q : Int32 → wS → Prop) : Nat → Int32 → Int32 → Int32 → wS → Prop
  | 0, _, _, _, _ => False
  | n + 1, x1, x2, x3, σ => ((σ.1 (mo (σ.1 0 2)) 6) < x3 → (Q (-1 : Int32) σ)) ∧ (¬ (σ.1 (mo (σ.1 0 2)) 6) < x3 → ((∃ m, l_X11_fewest_54  (fun x1 x2 x3 σ => l_X11_fewest_40   Q n x1 x2 x3 σ) Q m x1 x2 x3 (1 : Int32) σ)))
set_option maxRecDepth 100000 in
set_option maxHeartbeats 4000000 in
theorem wl_X11_fewest_40 {X : XT} {Q : Int32 → wS → Prop}  (F : Fx X cX11_fewest 5 RX11 wvX11_fewest 4 97) (hret : Ri X 5 cX11_fewest .int Q)    : ∀ (n : Nat) (x1 : Int32) (x2 : Int32) (x3 : Int32) (σ : wS), l_X11_fewest_40   Q n x1 x2 x3 σ → Wx X 5 σ 40 [(0, .ref (ad X 0)), (1, .int x1), (2, .int x2), (3, .int x3)] [] := by
  intro n
  induction n with
  | zero =>
    intros
    contradiction
  | succ n ih =>
    intro x1 x2 x3 σ h
    simp only [l_X11_fewest_40] at h
    refine x_iload_n F dX11_fewest_40 rfl 3 rfl ?_
    refine x_aload_n F dX11_fewest_41 rfl 0 rfl ?_
    refine g_11_2 F kz_0 in_11 (mc bw_2_1) dX11_fewest_42 ?_
    refine g_5_6 F (mo_kd _) in_5 (mc bw_19_2) dX11_fewest_45 ?_
    refine x_icmp_gt (tgt := 111) F dX11_fewest_48 (by decide) (fun c => ?_) (fun c => ?_)
    · replace h := h.1 c
      refine x_iconst (-1 : Int32) F dX11_fewest_111 (by decide) ?_
      exact hret _ _ _ _ h rfl dX11_fewest_112
    · replace h := h.2 c
      refine x_iconst (1 : Int32) F dX11_fewest_51 (by decide) ?_
      refine x_istore (lv' := [(4, .int (1 : Int32)), (0, .ref (ad X 0)), (1, .int x1), (2, .int x2), (3, .int x3)]) F dX11_fewest_52 (by decide) rfl ?_
      refine x_sub (lv' := [(0, .ref (ad X 0)), (1, .int x1), (2, .int x2), (3, .int x3), (4, .int (1 : Int32))]) [1, 2, 3, 4, 0] rfl ?_
      obtain ⟨n2, h⟩ := h
      exact wl_X11_fewest_54 F hret  ih n2 _ _ _ _ _ h
def w_X11_fewest  (p0 : Int32) (σ : wS) (Q : Int32 → wS → Prop) : Prop := w_X11_hasMooring  σ (fun r2 s1 => (r2 = 0 → (Q (-1 : Int32) s1)) ∧ (¬ r2 = 0 → (w_X11_isWithin p0 (0 : Int32) (1 : Int32) s1 (fun r4 s3 => (¬ r4 = 0 → (w_X3_slackOf 29 (mo (s3.1 0 2)) s3 (fun r6 s5 => ∀ y7 : Int32, y7 = ((s3.1 29 2) ||| r6) → ((∃ m, l_X11_fewest_40   Q m p0 y7 (1 : Int32) s5))))) ∧ (r4 = 0 → (Q (-1 : Int32) s3))))))
set_option maxRecDepth 100000 in
set_option maxHeartbeats 4000000 in
theorem c_X11_fewest (l : Launch) (g : wG) (A : Nat → Prop) (hA : adO g A)   {p0 : Int32} {σ : wS} {Q : Int32 → wS → Prop} (h : w_X11_fewest  p0 σ Q) : Mi l yX11_fewest wvX11_fewest 4 97 g A [.ref (g.2.2 0), .int p0] σ Q := by
  refine mt_i (own := RX11) (lv := [(0, .ref (g.2.2 0)), (1, .int p0)]) (by decide) rfl rfl hA (Nat.le_of_ble_eq_true rfl) rfl ?_
  intro X hl hg hAA F hret
  subst hl hg hAA
  unfold w_X11_fewest at h
  refine x_aload_n F dX11_fewest_0 rfl 0 rfl ?_
  refine x_callV_i F (c_X11_hasMooring (xl X) (xg X) (xA X) F.2.2.1  h) (bw_V bw_26_1 bw_26_2 bw_26_3 bw_1_2 bw_26_4) rfl cd_X11_hasMooring (Nat.le_of_ble_eq_true rfl) (Nat.le_of_ble_eq_true rfl) (kd_w (by decide) kz_0) rfl (cl_11 kz_0) rfl rfl (Nat.le_of_ble_eq_true rfl) dX11_fewest_1 (fun r2 s1 h => ?_)
  refine x_if_eq (tgt := 16) F dX11_fewest_4 (by decide) (fun c => ?_) (fun c => ?_)
  · replace h := h.1 c
    refine x_iconst (-1 : Int32) F dX11_fewest_16 (by decide) ?_
    exact hret _ _ _ _ h rfl dX11_fewest_17
  · replace h := h.2 c
    refine x_iload_n F dX11_fewest_7 rfl 1 rfl ?_
    refine x_iconst (0 : Int32) F dX11_fewest_8 (by decide) ?_
    refine x_iconst (1 : Int32) F dX11_fewest_9 (by decide) ?_
    refine x_callT_i F (c_X11_isWithin (xl X) (xg X) (xA X) F.2.2.1  h) (bw_S bw_26_5 bw_26_6 bw_1_2 bw_26_7) rfl cd_X11_isWithin (Nat.le_of_ble_eq_true rfl) (Nat.le_of_ble_eq_true rfl) rfl rfl (Nat.le_of_ble_eq_true rfl) dX11_fewest_10 (fun r4 s3 h => ?_)
    refine x_if_ne (tgt := 18) F dX11_fewest_13 (by decide) (fun c => ?_) (fun c => ?_)
    · replace h := h.1 c
      refine x_aload_n F dX11_fewest_18 rfl 0 rfl ?_
      refine g_11_6 F kz_0 in_11 (mc bw_2_9) dX11_fewest_19 ?_
      refine g_3_2 F kz_29 in_3 (mc bw_28_22) dX11_fewest_22 ?_
      refine x_aload_n F dX11_fewest_25 rfl 0 rfl ?_
      refine g_11_6 F kz_0 in_11 (mc bw_2_9) dX11_fewest_26 ?_
      refine x_aload_n F dX11_fewest_29 rfl 0 rfl ?_
      refine g_11_2 F kz_0 in_11 (mc bw_2_1) dX11_fewest_30 ?_
      refine x_callV_i F (c_X3_slackOf (xl X) (xg X) (xA X) F.2.2.1 kz_29 (mo_kd _) h) (bw_V bw_48_17 bw_21_10 bw_21_11 bw_2_8 bw_21_12) rfl cd_X3_slackOf (Nat.le_of_ble_eq_true rfl) (Nat.le_of_ble_eq_true rfl) (kd_w (by decide) kz_29) rfl (cl_3 kz_29) rfl rfl (Nat.le_of_ble_eq_true rfl) dX11_fewest_33 (fun r6 s5 h => ?_)
      refine x_ior F dX11_fewest_36 ?_
      refine x_topi (fun y7 ey7 => ?_)
      replace h := h y7 ey7
      refine x_istore_n (lv' := [(2, .int y7), (0, .ref (ad X 0)), (1, .int p0)]) F dX11_fewest_37 rfl (by decide) rfl ?_
      refine x_iconst (1 : Int32) F dX11_fewest_38 (by decide) ?_
      refine x_istore_n (lv' := [(3, .int (1 : Int32)), (2, .int y7), (0, .ref (ad X 0)), (1, .int p0)]) F dX11_fewest_39 rfl (by decide) rfl ?_
      refine x_sub (lv' := [(0, .ref (ad X 0)), (1, .int p0), (2, .int y7), (3, .int (1 : Int32))]) [2, 3, 1, 0] rfl ?_
      obtain ⟨n2, h⟩ := h
      exact wl_X11_fewest_40 F hret   n2 _ _ _ _ h
    · replace h := h.2 c
      refine x_iconst (-1 : Int32) F dX11_fewest_16 (by decide) ?_
      exact hret _ _ _ _ h rfl dX11_fewest_17
/-! X11_settlesWithout -/
abbrev wvX11_settlesWithout : List Cond := Cond.code yX11_settlesWithout cX11_settlesWithout 2 (some .boolean) :: wsL_law
theorem cd_X11_settlesWithout : okN yX11_settlesWithout RX11 1 := by unfold okN; decide +kernel
def w_X11_settlesWithout  (p0 : Int32) (σ : wS) (Q : Int32 → wS → Prop) : Prop := w_X3_copy 32 29 σ (fun s1 => w_X1_attempt (mo (s1.1 0 2)) 32 (2 : Int32) p0 (0 : Int32) (0 : Int32) s1 (fun r4 s3 => (¬ r4 = (-1 : Int32) → (Q (0 : Int32) s3)) ∧ (r4 = (-1 : Int32) → (Q (1 : Int32) s3))))
set_option maxRecDepth 100000 in
set_option maxHeartbeats 4000000 in
theorem c_X11_settlesWithout (l : Launch) (g : wG) (A : Nat → Prop) (hA : adO g A)   {p0 : Int32} {σ : wS} {Q : Int32 → wS → Prop} (h : w_X11_settlesWithout  p0 σ Q) : Mi l yX11_settlesWithout wvX11_settlesWithout 4 101 g A [.ref (g.2.2 0), .int p0] σ Q := by
  refine mt_i (own := RX11) (lv := [(0, .ref (g.2.2 0)), (1, .int p0)]) (by decide) rfl rfl hA (Nat.le_of_ble_eq_true rfl) rfl ?_
  intro X hl hg hAA F hret
  subst hl hg hAA
  unfold w_X11_settlesWithout at h
  refine x_aload_n F dX11_settlesWithout_0 rfl 0 rfl ?_
  refine g_11_7 F kz_0 in_11 (mc bw_2_10) dX11_settlesWithout_1 ?_
  refine x_aload_n F dX11_settlesWithout_4 rfl 0 rfl ?_
  refine g_11_6 F kz_0 in_11 (mc bw_2_9) dX11_settlesWithout_5 ?_
  refine x_callV_v F (c_X3_copy (xl X) (xg X) (xA X) F.2.2.1 kz_32 kz_29 h) (bw_V bw_22_1 bw_22_2 bw_22_3 bw_2_8 bw_22_4) rfl cd_X3_copy (Nat.le_of_ble_eq_true rfl) (Nat.le_of_ble_eq_true rfl) (kd_w (by decide) kz_32) rfl (cl_3 kz_32) rfl rfl (Nat.le_of_ble_eq_true rfl) dX11_settlesWithout_8 (fun s1 h => ?_)
  refine x_aload_n F dX11_settlesWithout_11 rfl 0 rfl ?_
  refine g_11_8 F kz_0 in_11 (mc bw_2_14) dX11_settlesWithout_12 ?_
  refine x_aload_n F dX11_settlesWithout_15 rfl 0 rfl ?_
  refine g_11_2 F kz_0 in_11 (mc bw_2_1) dX11_settlesWithout_16 ?_
  refine x_aload_n F dX11_settlesWithout_19 rfl 0 rfl ?_
  refine g_11_7 F kz_0 in_11 (mc bw_2_10) dX11_settlesWithout_20 ?_
  refine x_iconst (2 : Int32) F dX11_settlesWithout_23 (by decide) ?_
  refine x_iload_n F dX11_settlesWithout_24 rfl 1 rfl ?_
  refine x_iconst (0 : Int32) F dX11_settlesWithout_25 (by decide) ?_
  refine x_iconst (0 : Int32) F dX11_settlesWithout_26 (by decide) ?_
  refine x_callV_i F (c_X1_attempt (xl X) (xg X) (xA X) F.2.2.1 (mo_kd _) kz_32 h) (bw_V bw_32_23 bw_33_0 bw_33_1 bw_2_13 bw_33_2) rfl cd_X1_attempt (Nat.le_of_ble_eq_true rfl) (Nat.le_of_ble_eq_true rfl) (kd_w (by decide) kz_38) rfl (cl_1 kz_38) rfl rfl (Nat.le_of_ble_eq_true rfl) dX11_settlesWithout_27 (fun r4 s3 h => ?_)
  refine x_iconst (-1 : Int32) F dX11_settlesWithout_30 (by decide) ?_
  refine x_icmp_ne (tgt := 38) F dX11_settlesWithout_31 (by decide) (fun c => ?_) (fun c => ?_)
  · replace h := h.1 c
    refine x_iconst (0 : Int32) F dX11_settlesWithout_38 (by decide) ?_
    exact hret _ _ _ _ h (nar01 (by decide)) dX11_settlesWithout_39
  · replace h := h.2 c
    refine x_iconst (1 : Int32) F dX11_settlesWithout_34 (by decide) ?_
    refine x_goto (tgt := 39) F dX11_settlesWithout_35 (by decide) ?_
    exact hret _ _ _ _ h (nar01 (by decide)) dX11_settlesWithout_39
/-! X11_without -/
abbrev wvX11_without : List Cond := Cond.code yX11_without cX11_without 3 (some .int) :: wsL_law
theorem cd_X11_without : okN yX11_without RX11 2 := by unfold okN; decide +kernel
def w_X11_without  (p0 : Int32) (p1 : Int32) (σ : wS) (Q : Int32 → wS → Prop) : Prop := w_X11_isFast p0 σ (fun r2 s1 => (r2 = 0 → (Q (-1 : Int32) s1)) ∧ (¬ r2 = 0 → (w_X11_isWithin p1 (0 : Int32) (1 : Int32) s1 (fun r4 s3 => (r4 = 0 → (Q (-1 : Int32) s3)) ∧ (¬ r4 = 0 → (w_X11_settlesWithout p0 s3 (fun r6 s5 => (¬ r6 = 0 → ((¬ p1 = 0 → (Q (s5.1 38 3) s5)) ∧ (p1 = 0 → (Q (s5.1 32 2) s5)))) ∧ (r6 = 0 → (Q (-1 : Int32) s5)))))))))
set_option maxRecDepth 100000 in
set_option maxHeartbeats 4000000 in
theorem c_X11_without (l : Launch) (g : wG) (A : Nat → Prop) (hA : adO g A)   {p0 : Int32} {p1 : Int32} {σ : wS} {Q : Int32 → wS → Prop} (h : w_X11_without  p0 p1 σ Q) : Mi l yX11_without wvX11_without 5 122 g A [.ref (g.2.2 0), .int p0, .int p1] σ Q := by
  refine mt_i (own := RX11) (lv := [(0, .ref (g.2.2 0)), (1, .int p0), (2, .int p1)]) (by decide) rfl rfl hA (Nat.le_of_ble_eq_true rfl) rfl ?_
  intro X hl hg hAA F hret
  subst hl hg hAA
  unfold w_X11_without at h
  refine x_aload_n F dX11_without_0 rfl 0 rfl ?_
  refine x_iload_n F dX11_without_1 rfl 1 rfl ?_
  refine x_callV_i F (c_X11_isFast (xl X) (xg X) (xA X) F.2.2.1  h) (bw_V bw_28_12 bw_28_13 bw_28_14 bw_1_2 bw_28_15) rfl cd_X11_isFast (Nat.le_of_ble_eq_true rfl) (Nat.le_of_ble_eq_true rfl) (kd_w (by decide) kz_0) rfl (cl_11 kz_0) rfl rfl (Nat.le_of_ble_eq_true rfl) dX11_without_2 (fun r2 s1 h => ?_)
  refine x_if_eq (tgt := 25) F dX11_without_5 (by decide) (fun c => ?_) (fun c => ?_)
  · replace h := h.1 c
    refine x_iconst (-1 : Int32) F dX11_without_25 (by decide) ?_
    exact hret _ _ _ _ h rfl dX11_without_26
  · replace h := h.2 c
    refine x_iload_n F dX11_without_8 rfl 2 rfl ?_
    refine x_iconst (0 : Int32) F dX11_without_9 (by decide) ?_
    refine x_iconst (1 : Int32) F dX11_without_10 (by decide) ?_
    refine x_callT_i F (c_X11_isWithin (xl X) (xg X) (xA X) F.2.2.1  h) (bw_S bw_26_5 bw_26_6 bw_1_2 bw_26_7) rfl cd_X11_isWithin (Nat.le_of_ble_eq_true rfl) (Nat.le_of_ble_eq_true rfl) rfl rfl (Nat.le_of_ble_eq_true rfl) dX11_without_11 (fun r4 s3 h => ?_)
    refine x_if_eq (tgt := 25) F dX11_without_14 (by decide) (fun c => ?_) (fun c => ?_)
    · replace h := h.1 c
      refine x_iconst (-1 : Int32) F dX11_without_25 (by decide) ?_
      exact hret _ _ _ _ h rfl dX11_without_26
    · replace h := h.2 c
      refine x_aload_n F dX11_without_17 rfl 0 rfl ?_
      refine x_iload_n F dX11_without_18 rfl 1 rfl ?_
      refine x_callV_i F (c_X11_settlesWithout (xl X) (xg X) (xA X) F.2.2.1  h) (bw_V bw_49_11 bw_49_12 bw_49_13 bw_1_2 bw_49_14) rfl cd_X11_settlesWithout (Nat.le_of_ble_eq_true rfl) (Nat.le_of_ble_eq_true rfl) (kd_w (by decide) kz_0) rfl (cl_11 kz_0) rfl rfl (Nat.le_of_ble_eq_true rfl) dX11_without_19 (fun r6 s5 h => ?_)
      refine x_if_ne (tgt := 27) F dX11_without_22 (by decide) (fun c => ?_) (fun c => ?_)
      · replace h := h.1 c
        refine x_iload_n F dX11_without_27 rfl 2 rfl ?_
        refine x_if_ne (tgt := 41) F dX11_without_28 (by decide) (fun c => ?_) (fun c => ?_)
        · replace h := h.1 c
          refine x_aload_n F dX11_without_41 rfl 0 rfl ?_
          refine g_11_8 F kz_0 in_11 (mc bw_2_14) dX11_without_42 ?_
          refine g_1_3 F kz_38 in_1 (mc bw_32_18) dX11_without_45 ?_
          exact hret _ _ _ _ h rfl dX11_without_48
        · replace h := h.2 c
          refine x_aload_n F dX11_without_31 rfl 0 rfl ?_
          refine g_11_7 F kz_0 in_11 (mc bw_2_10) dX11_without_32 ?_
          refine g_3_2 F kz_32 in_3 (mc bw_28_22) dX11_without_35 ?_
          refine x_goto (tgt := 48) F dX11_without_38 (by decide) ?_
          exact hret _ _ _ _ h rfl dX11_without_48
      · replace h := h.2 c
        refine x_iconst (-1 : Int32) F dX11_without_25 (by decide) ?_
        exact hret _ _ _ _ h rfl dX11_without_26
/-! X11_key -/
abbrev wvX11_key : List Cond := Cond.code yX11_key cX11_key 5 (some .int) :: wsL_law
theorem cd_X11_key : okN yX11_key RX11 0 := by unfold okN; decide +kernel
def b_X11_key_61  (K6 : Int32 → Int32 → Int32 → wS → Prop) (Q : Int32 → wS → Prop) (x1 : Int32) (x2 : Int32) (x3 : Int32) (σ : wS) : Prop := ∀ y1 : Int32, y1 = (x3 + (1 : Int32)) → (K6 x1 x2 y1 σ)
set_option maxRecDepth 100000 in
set_option maxHeartbeats 4000000 in
theorem wb_X11_key_61 {X : XT} {Q : Int32 → wS → Prop}  (F : Fx X cX11_key 5 RX11 wvX11_key 5 122) (hret : Ri X 5 cX11_key .int Q)  {K6 : Int32 → Int32 → Int32 → wS → Prop} (hK6 : ∀ (x1 : Int32) (x2 : Int32) (x3 : Int32) (σ : wS), K6 x1 x2 x3 σ → Wx X 5 σ 6 [(0, .ref (ad X 0)), (1, .int x1), (2, .int x2), (3, .int x3)] []) (x1 : Int32) (x2 : Int32) (x3 : Int32) (σ : wS) (h : b_X11_key_61  K6 Q x1 x2 x3 σ) : Wx X 5 σ 61 [(0, .ref (ad X 0)), (1, .int x1), (2, .int x2), (3, .int x3)] [] := by
  unfold b_X11_key_61 at h
  obtain ⟨y1, ey1⟩ : ∃ y : Int32, y = (x3 + (1 : Int32)) := ⟨_, rfl⟩
  replace h := h y1 ey1
  refine x_iinc (q := 3) (v := y1) (lv' := [(3, .int y1), (0, .ref (ad X 0)), (1, .int x1), (2, .int x2)]) F dX11_key_61 rfl (by rw [ey1]; rfl) (by decide) rfl ?_
  refine x_goto (tgt := 6) F dX11_key_64 (by decide) ?_
  refine x_sub (lv' := [(0, .ref (ad X 0)), (1, .int x1), (2, .int x2), (3, .int y1)]) [1, 2, 3, 0] rfl ?_
  exact hK6 _ _ _ _ h
def b_X11_key_48  (K6 : Int32 → Int32 → Int32 → wS → Prop) (Q : Int32 → wS → Prop) (x1 : Int32) (x2 : Int32) (x3 : Int32) (z0 : Int32) (σ : wS) : Prop := (z0 ≤ x2 → (b_X11_key_61  K6 Q x1 x2 x3 σ)) ∧ (¬ z0 ≤ x2 → (b_X11_key_61  K6 Q x3 z0 x3 σ))
set_option maxRecDepth 100000 in
set_option maxHeartbeats 4000000 in
theorem wb_X11_key_48 {X : XT} {Q : Int32 → wS → Prop}  (F : Fx X cX11_key 5 RX11 wvX11_key 5 122) (hret : Ri X 5 cX11_key .int Q)  {K6 : Int32 → Int32 → Int32 → wS → Prop} (hK6 : ∀ (x1 : Int32) (x2 : Int32) (x3 : Int32) (σ : wS), K6 x1 x2 x3 σ → Wx X 5 σ 6 [(0, .ref (ad X 0)), (1, .int x1), (2, .int x2), (3, .int x3)] []) (x1 : Int32) (x2 : Int32) (x3 : Int32) (z0 : Int32) (σ : wS) (h : b_X11_key_48  K6 Q x1 x2 x3 z0 σ) : Wx X 5 σ 48 [(0, .ref (ad X 0)), (1, .int x1), (2, .int x2), (3, .int x3)] [.int z0] := by
  unfold b_X11_key_48 at h
  refine x_istore (lv' := [(4, .int z0), (0, .ref (ad X 0)), (1, .int x1), (2, .int x2), (3, .int x3)]) F dX11_key_48 (by decide) rfl ?_
  refine x_iload F dX11_key_50 0 rfl ?_
  refine x_iload_n F dX11_key_52 rfl 3 rfl ?_
  refine x_icmp_le (tgt := 61) F dX11_key_53 (by decide) (fun c => ?_) (fun c => ?_)
  · replace h := h.1 c
    refine x_sub (lv' := [(0, .ref (ad X 0)), (1, .int x1), (2, .int x2), (3, .int x3)]) [1, 2, 3, 4] rfl ?_
    exact wb_X11_key_61 F hret  hK6 _ _ _ _ h
  · replace h := h.2 c
    refine x_iload_n F dX11_key_56 rfl 4 rfl ?_
    refine x_istore_n (lv' := [(1, .int x3), (4, .int z0), (0, .ref (ad X 0)), (2, .int x2), (3, .int x3)]) F dX11_key_57 rfl (by decide) rfl ?_
    refine x_iload F dX11_key_58 1 rfl ?_
    refine x_istore_n (lv' := [(2, .int z0), (1, .int x3), (4, .int z0), (0, .ref (ad X 0)), (3, .int x3)]) F dX11_key_60 rfl (by decide) rfl ?_
    refine x_sub (lv' := [(0, .ref (ad X 0)), (1, .int x3), (2, .int z0), (3, .int x3)]) [3, 1, 0, 4] rfl ?_
    exact wb_X11_key_61 F hret  hK6 _ _ _ _ h
def l_X11_key_6   (Q : Int32 → wS → Prop) : Nat → Int32 → Int32 → Int32 → wS → Prop
  | 0, _, _, _, _ => False
  | n + 1, x1, x2, x3, σ => ((σ.1 (mo (σ.1 0 2)) 6) ≤ x3 → (Q x1 σ)) ∧ (¬ (σ.1 (mo (σ.1 0 2)) 6) ≤ x3 → (w_X11_isFast x3 σ (fun r2 s1 => (¬ r2 = 0 → (w_X11_settlesWithout x3 s1 (fun r4 s3 => (r4 = 0 → (b_X11_key_48  (fun x1 x2 x3 σ => l_X11_key_6   Q n x1 x2 x3 σ) Q x1 x2 x3 (9 : Int32) s3)) ∧ (¬ r4 = 0 → (b_X11_key_48  (fun x1 x2 x3 σ => l_X11_key_6   Q n x1 x2 x3 σ) Q x1 x2 x3 (s3.1 38 4) s3))))) ∧ (r2 = 0 → (b_X11_key_61  (fun x1 x2 x3 σ => l_X11_key_6   Q n x1 x2 x3 σ) Q x1 x2 x3 s1)))))
set_option maxRecDepth 100000 in
set_option maxHeartbeats 4000000 in
theorem wl_X11_key_6 {X : XT} {Q : Int32 → wS → Prop}  (F : Fx X cX11_key 5 RX11 wvX11_key 5 122) (hret : Ri X 5 cX11_key .int Q)    : ∀ (n : Nat) (x1 : Int32) (x2 : Int32) (x3 : Int32) (σ : wS), l_X11_key_6   Q n x1 x2 x3 σ → Wx X 5 σ 6 [(0, .ref (ad X 0)), (1, .int x1), (2, .int x2), (3, .int x3)] [] := by
  intro n
  induction n with
  | zero =>
    intros
    contradiction
  | succ n ih =>
    intro x1 x2 x3 σ h
    simp only [l_X11_key_6] at h
    refine x_iload_n F dX11_key_6 rfl 3 rfl ?_
    refine x_aload_n F dX11_key_7 rfl 0 rfl ?_
    refine g_11_2 F kz_0 in_11 (mc bw_2_1) dX11_key_8 ?_
    refine g_5_6 F (mo_kd _) in_5 (mc bw_19_2) dX11_key_11 ?_
    refine x_icmp_ge (tgt := 67) F dX11_key_14 (by decide) (fun c => ?_) (fun c => ?_)
    · replace h := h.1 c
      refine x_iload_n F dX11_key_67 rfl 1 rfl ?_
      exact hret _ _ _ _ h rfl dX11_key_68
    · replace h := h.2 c
      refine x_aload_n F dX11_key_17 rfl 0 rfl ?_
      refine x_iload_n F dX11_key_18 rfl 3 rfl ?_
      refine x_callV_i F (c_X11_isFast (xl X) (xg X) (xA X) F.2.2.1  h) (bw_V bw_28_12 bw_28_13 bw_28_14 bw_1_2 bw_28_15) rfl cd_X11_isFast (Nat.le_of_ble_eq_true rfl) (Nat.le_of_ble_eq_true rfl) (kd_w (by decide) kz_0) rfl (cl_11 kz_0) rfl rfl (Nat.le_of_ble_eq_true rfl) dX11_key_19 (fun r2 s1 h => ?_)
      refine x_if_ne (tgt := 28) F dX11_key_22 (by decide) (fun c => ?_) (fun c => ?_)
      · replace h := h.1 c
        refine x_aload_n F dX11_key_28 rfl 0 rfl ?_
        refine x_iload_n F dX11_key_29 rfl 3 rfl ?_
        refine x_callV_i F (c_X11_settlesWithout (xl X) (xg X) (xA X) F.2.2.1  h) (bw_V bw_49_11 bw_49_12 bw_49_13 bw_1_2 bw_49_14) rfl cd_X11_settlesWithout (Nat.le_of_ble_eq_true rfl) (Nat.le_of_ble_eq_true rfl) (kd_w (by decide) kz_0) rfl (cl_11 kz_0) rfl rfl (Nat.le_of_ble_eq_true rfl) dX11_key_30 (fun r4 s3 h => ?_)
        refine x_if_eq (tgt := 46) F dX11_key_33 (by decide) (fun c => ?_) (fun c => ?_)
        · replace h := h.1 c
          refine x_bipush (9 : Int32) F dX11_key_46 (by decide) ?_
          refine x_sub (lv' := [(0, .ref (ad X 0)), (1, .int x1), (2, .int x2), (3, .int x3)]) [0, 1, 2, 3] rfl ?_
          exact wb_X11_key_48 F hret  ih _ _ _ _ _ h
        · replace h := h.2 c
          refine x_aload_n F dX11_key_36 rfl 0 rfl ?_
          refine g_11_8 F kz_0 in_11 (mc bw_2_14) dX11_key_37 ?_
          refine g_1_4 F kz_38 in_1 (mc bw_35_7) dX11_key_40 ?_
          refine x_goto (tgt := 48) F dX11_key_43 (by decide) ?_
          refine x_sub (lv' := [(0, .ref (ad X 0)), (1, .int x1), (2, .int x2), (3, .int x3)]) [0, 1, 2, 3] rfl ?_
          exact wb_X11_key_48 F hret  ih _ _ _ _ _ h
      · replace h := h.2 c
        refine x_goto (tgt := 61) F dX11_key_25 (by decide) ?_
        refine x_sub (lv' := [(0, .ref (ad X 0)), (1, .int x1), (2, .int x2), (3, .int x3)]) [0, 1, 2, 3] rfl ?_
        exact wb_X11_key_61 F hret  ih _ _ _ _ h
def w_X11_key   (σ : wS) (Q : Int32 → wS → Prop) : Prop := (∃ m, l_X11_key_6   Q m (-1 : Int32) (-1 : Int32) (0 : Int32) σ)
set_option maxRecDepth 100000 in
set_option maxHeartbeats 4000000 in
theorem c_X11_key (l : Launch) (g : wG) (A : Nat → Prop) (hA : adO g A)    {σ : wS} {Q : Int32 → wS → Prop} (h : w_X11_key   σ Q) : Mi l yX11_key wvX11_key 5 122 g A [.ref (g.2.2 0)] σ Q := by
  refine mt_i (own := RX11) (lv := [(0, .ref (g.2.2 0))]) (by decide) rfl rfl hA (Nat.le_of_ble_eq_true rfl) rfl ?_
  intro X hl hg hAA F hret
  subst hl hg hAA
  unfold w_X11_key at h
  refine x_iconst (-1 : Int32) F dX11_key_0 (by decide) ?_
  refine x_istore_n (lv' := [(1, .int (-1 : Int32)), (0, .ref (ad X 0))]) F dX11_key_1 rfl (by decide) rfl ?_
  refine x_iconst (-1 : Int32) F dX11_key_2 (by decide) ?_
  refine x_istore_n (lv' := [(2, .int (-1 : Int32)), (1, .int (-1 : Int32)), (0, .ref (ad X 0))]) F dX11_key_3 rfl (by decide) rfl ?_
  refine x_iconst (0 : Int32) F dX11_key_4 (by decide) ?_
  refine x_istore_n (lv' := [(3, .int (0 : Int32)), (2, .int (-1 : Int32)), (1, .int (-1 : Int32)), (0, .ref (ad X 0))]) F dX11_key_5 rfl (by decide) rfl ?_
  refine x_sub (lv' := [(0, .ref (ad X 0)), (1, .int (-1 : Int32)), (2, .int (-1 : Int32)), (3, .int (0 : Int32))]) [3, 2, 1, 0] rfl ?_
  obtain ⟨n2, h⟩ := h
  exact wl_X11_key_6 F hret   n2 _ _ _ _ h
/-! X11_partsOf -/
abbrev wvX11_partsOf : List Cond := Cond.code yX11_partsOf cX11_partsOf 8 (some .long) :: wsL_law
theorem cd_X11_partsOf : okN yX11_partsOf RX11 3 := by unfold okN; decide +kernel
def b_X11_partsOf_41  (K7 : Int32 → Int32 → Int32 → Int64 → Int32 → wS → Prop) (Q : Int64 → wS → Prop) (x0 : Int32) (x1 : Int32) (x2 : Int32) (x5 : Int32) (z0 : Int64) (σ : wS) : Prop := ∀ y1 : Int32, y1 = (x5 + (1 : Int32)) → (K7 x0 x1 x2 z0 y1 σ)
set_option maxRecDepth 100000 in
set_option maxHeartbeats 4000000 in
theorem wb_X11_partsOf_41 {X : XT} {Q : Int64 → wS → Prop}  (F : Fx X cX11_partsOf 8 RX11 wvX11_partsOf 0 0) (hret : Rl X 8 cX11_partsOf Q)  {K7 : Int32 → Int32 → Int32 → Int64 → Int32 → wS → Prop} (hK7 : ∀ (x0 : Int32) (x1 : Int32) (x2 : Int32) (x3 : Int64) (x5 : Int32) (σ : wS), K7 x0 x1 x2 x3 x5 σ → Wx X 8 σ 7 [(0, .int x0), (1, .int x1), (2, .int x2), (3, .long x3), (5, .int x5)] []) (x0 : Int32) (x1 : Int32) (x2 : Int32) (x5 : Int32) (z0 : Int64) (σ : wS) (h : b_X11_partsOf_41  K7 Q x0 x1 x2 x5 z0 σ) : Wx X 8 σ 41 [(0, .int x0), (1, .int x1), (2, .int x2), (5, .int x5)] [.long z0] := by
  unfold b_X11_partsOf_41 at h
  refine x_lstore_n (lv' := [(3, .long z0), (0, .int x0), (1, .int x1), (2, .int x2), (5, .int x5)]) F dX11_partsOf_41 rfl (by decide) rfl ?_
  obtain ⟨y1, ey1⟩ : ∃ y : Int32, y = (x5 + (1 : Int32)) := ⟨_, rfl⟩
  replace h := h y1 ey1
  refine x_iinc (q := 4) (v := y1) (lv' := [(5, .int y1), (3, .long z0), (0, .int x0), (1, .int x1), (2, .int x2)]) F dX11_partsOf_42 rfl (by rw [ey1]; rfl) (by decide) rfl ?_
  refine x_goto (tgt := 7) F dX11_partsOf_45 (by decide) ?_
  refine x_sub (lv' := [(0, .int x0), (1, .int x1), (2, .int x2), (3, .long z0), (5, .int y1)]) [2, 3, 4, 1, 0] rfl ?_
  exact hK7 _ _ _ _ _ _ h
def l_X11_partsOf_7   (Q : Int64 → wS → Prop) : Nat → Int32 → Int32 → Int32 → Int64 → Int32 → wS → Prop
  | 0, _, _, _, _, _, _ => False
  | n + 1, x0, x1, x2, x3, x5, σ => (x2 ≤ x5 → (Q x3 σ)) ∧ (¬ x2 ≤ x5 → (∀ y1 : Int64, y1 = ((x3 * (x0).toInt64) / (100 : Int64)) → ((((x1 >>> (x5 &&& 31)) &&& (1 : Int32)) = 0 → (b_X11_partsOf_41  (fun x0 x1 x2 x3 x5 σ => l_X11_partsOf_7   Q n x0 x1 x2 x3 x5 σ) Q x0 x1 x2 x5 (x3 - y1) σ)) ∧ (¬ ((x1 >>> (x5 &&& 31)) &&& (1 : Int32)) = 0 → (b_X11_partsOf_41  (fun x0 x1 x2 x3 x5 σ => l_X11_partsOf_7   Q n x0 x1 x2 x3 x5 σ) Q x0 x1 x2 x5 y1 σ)))))
set_option maxRecDepth 100000 in
set_option maxHeartbeats 4000000 in
theorem wl_X11_partsOf_7 {X : XT} {Q : Int64 → wS → Prop}  (F : Fx X cX11_partsOf 8 RX11 wvX11_partsOf 0 0) (hret : Rl X 8 cX11_partsOf Q)    : ∀ (n : Nat) (x0 : Int32) (x1 : Int32) (x2 : Int32) (x3 : Int64) (x5 : Int32) (σ : wS), l_X11_partsOf_7   Q n x0 x1 x2 x3 x5 σ → Wx X 8 σ 7 [(0, .int x0), (1, .int x1), (2, .int x2), (3, .long x3), (5, .int x5)] [] := by
  intro n
  induction n with
  | zero =>
    intros
    contradiction
  | succ n ih =>
    intro x0 x1 x2 x3 x5 σ h
    simp only [l_X11_partsOf_7] at h
    refine x_iload F dX11_partsOf_7 4 rfl ?_
    refine x_iload_n F dX11_partsOf_9 rfl 2 rfl ?_
    refine x_icmp_ge (tgt := 48) F dX11_partsOf_10 (by decide) (fun c => ?_) (fun c => ?_)
    · replace h := h.1 c
      refine x_lload_n F dX11_partsOf_48 rfl 3 rfl ?_
      exact hret _ _ _ _ h dX11_partsOf_49
    · replace h := h.2 c
      refine x_lload_n F dX11_partsOf_13 rfl 3 rfl ?_
      refine x_iload_n F dX11_partsOf_14 rfl 0 rfl ?_
      refine x_i2l F dX11_partsOf_15 ?_
      refine x_lmul F dX11_partsOf_16 ?_
      refine x_ldc2 F dX11_partsOf_17 (mc bw_50_11) ?_
      refine x_ldiv F dX11_partsOf_20 (by decide) ?_
      refine x_topl (fun y1 ey1 => ?_)
      replace h := h y1 ey1
      refine x_lstore (lv' := [(6, .long y1), (0, .int x0), (1, .int x1), (2, .int x2), (3, .long x3), (5, .int x5)]) F dX11_partsOf_21 (by decide) rfl ?_
      refine x_iload_n F dX11_partsOf_23 rfl 2 rfl ?_
      refine x_iload F dX11_partsOf_24 5 rfl ?_
      refine x_ishr F dX11_partsOf_26 ?_
      refine x_iconst (1 : Int32) F dX11_partsOf_27 (by decide) ?_
      refine x_iand F dX11_partsOf_28 ?_
      refine x_if_eq (tgt := 37) F dX11_partsOf_29 (by decide) (fun c => ?_) (fun c => ?_)
      · replace h := h.1 c
        refine x_lload_n F dX11_partsOf_37 rfl 4 rfl ?_
        refine x_lload F dX11_partsOf_38 0 rfl ?_
        refine x_lsub F dX11_partsOf_40 ?_
        refine x_sub (lv' := [(0, .int x0), (1, .int x1), (2, .int x2), (5, .int x5)]) [1, 2, 3, 5] rfl ?_
        exact wb_X11_partsOf_41 F hret  ih _ _ _ _ _ _ h
      · replace h := h.2 c
        refine x_lload F dX11_partsOf_32 0 rfl ?_
        refine x_goto (tgt := 41) F dX11_partsOf_34 (by decide) ?_
        refine x_sub (lv' := [(0, .int x0), (1, .int x1), (2, .int x2), (5, .int x5)]) [1, 2, 3, 5] rfl ?_
        exact wb_X11_partsOf_41 F hret  ih _ _ _ _ _ _ h
def w_X11_partsOf  (p0 : Int32) (p1 : Int32) (p2 : Int32) (σ : wS) (Q : Int64 → wS → Prop) : Prop := (∃ m, l_X11_partsOf_7   Q m p0 p1 p2 (1000000000 : Int64) (0 : Int32) σ)
set_option maxRecDepth 100000 in
set_option maxHeartbeats 4000000 in
theorem c_X11_partsOf (l : Launch) (g : wG) (A : Nat → Prop) (hA : adO g A)   {p0 : Int32} {p1 : Int32} {p2 : Int32} {σ : wS} {Q : Int64 → wS → Prop} (h : w_X11_partsOf  p0 p1 p2 σ Q) : Ml l yX11_partsOf wvX11_partsOf 0 0 g A [.int p0, .int p1, .int p2] σ Q := by
  refine mt_l (own := RX11) (lv := [(0, .int p0), (1, .int p1), (2, .int p2)]) (by decide) rfl rfl hA (Nat.le_of_ble_eq_true rfl) rfl ?_
  intro X hl hg hAA F hret
  subst hl hg hAA
  unfold w_X11_partsOf at h
  refine x_ldc2 F dX11_partsOf_0 (mc bw_50_10) ?_
  refine x_lstore_n (lv' := [(3, .long (1000000000 : Int64)), (0, .int p0), (1, .int p1), (2, .int p2)]) F dX11_partsOf_3 rfl (by decide) rfl ?_
  refine x_iconst (0 : Int32) F dX11_partsOf_4 (by decide) ?_
  refine x_istore (lv' := [(5, .int (0 : Int32)), (3, .long (1000000000 : Int64)), (0, .int p0), (1, .int p1), (2, .int p2)]) F dX11_partsOf_5 (by decide) rfl ?_
  refine x_sub (lv' := [(0, .int p0), (1, .int p1), (2, .int p2), (3, .long (1000000000 : Int64)), (5, .int (0 : Int32))]) [2, 3, 4, 1, 0] rfl ?_
  obtain ⟨n2, h⟩ := h
  exact wl_X11_partsOf_7 F hret   n2 _ _ _ _ _ _ h
/-! X11_odds -/
abbrev wvX11_odds : List Cond := Cond.code yX11_odds cX11_odds 10 (some .int) :: wsL_law
theorem cd_X11_odds : okN yX11_odds RX11 5 := by unfold okN; decide +kernel
def b_X11_odds_84  (K52 : Int32 → Int32 → Int32 → Int64 → Int32 → wS → Prop) (Q : Int32 → wS → Prop) (x1 : Int32) (x5 : Int32) (x6 : Int32) (x7 : Int64) (x9 : Int32) (σ : wS) : Prop := ∀ y1 : Int32, y1 = (x9 + (1 : Int32)) → (K52 x1 x5 x6 x7 y1 σ)
set_option maxRecDepth 100000 in
set_option maxHeartbeats 4000000 in
theorem wb_X11_odds_84 {X : XT} {Q : Int32 → wS → Prop}  (F : Fx X cX11_odds 10 RX11 wvX11_odds 5 126) (hret : Ri X 10 cX11_odds .int Q)  {K52 : Int32 → Int32 → Int32 → Int64 → Int32 → wS → Prop} (hK52 : ∀ (x1 : Int32) (x5 : Int32) (x6 : Int32) (x7 : Int64) (x9 : Int32) (σ : wS), K52 x1 x5 x6 x7 x9 σ → Wx X 10 σ 52 [(1, .int x1), (5, .int x5), (6, .int x6), (7, .long x7), (9, .int x9)] []) (x1 : Int32) (x5 : Int32) (x6 : Int32) (x7 : Int64) (x9 : Int32) (σ : wS) (h : b_X11_odds_84  K52 Q x1 x5 x6 x7 x9 σ) : Wx X 10 σ 84 [(1, .int x1), (5, .int x5), (6, .int x6), (7, .long x7), (9, .int x9)] [] := by
  unfold b_X11_odds_84 at h
  obtain ⟨y1, ey1⟩ : ∃ y : Int32, y = (x9 + (1 : Int32)) := ⟨_, rfl⟩
  replace h := h y1 ey1
  refine x_iinc (q := 4) (v := y1) (lv' := [(9, .int y1), (1, .int x1), (5, .int x5), (6, .int x6), (7, .long x7)]) F dX11_odds_84 rfl (by rw [ey1]; rfl) (by decide) rfl ?_
  refine x_goto (tgt := 52) F dX11_odds_87 (by decide) ?_
  refine x_sub (lv' := [(1, .int x1), (5, .int x5), (6, .int x6), (7, .long x7), (9, .int y1)]) [1, 2, 3, 4, 0] rfl ?_
  exact hK52 _ _ _ _ _ _ h
def l_X11_odds_52   (Q : Int32 → wS → Prop) : Nat → Int32 → Int32 → Int32 → Int64 → Int32 → wS → Prop
  | 0, _, _, _, _, _, _ => False
  | n + 1, x1, x5, x6, x7, x9, σ => (((1 : Int32) <<< (x5 &&& 31)) ≤ x9 → (Q (x7).toInt32 σ)) ∧ (¬ ((1 : Int32) <<< (x5 &&& 31)) ≤ x9 → (w_J6_bitCount_0f7a4 x9 σ (fun r2 s1 => (x6 < r2 → (b_X11_odds_84  (fun x1 x5 x6 x7 x9 σ => l_X11_odds_52   Q n x1 x5 x6 x7 x9 σ) Q x1 x5 x6 x7 x9 s1)) ∧ (¬ x6 < r2 → (w_X11_partsOf x1 x9 x5 s1 (fun r4 s3 => ∀ y5 : Int64, y5 = (x7 + r4) → (b_X11_odds_84  (fun x1 x5 x6 x7 x9 σ => l_X11_odds_52   Q n x1 x5 x6 x7 x9 σ) Q x1 x5 x6 y5 x9 s3)))))))
set_option maxRecDepth 100000 in
set_option maxHeartbeats 4000000 in
theorem wl_X11_odds_52 {X : XT} {Q : Int32 → wS → Prop}  (F : Fx X cX11_odds 10 RX11 wvX11_odds 5 126) (hret : Ri X 10 cX11_odds .int Q)    : ∀ (n : Nat) (x1 : Int32) (x5 : Int32) (x6 : Int32) (x7 : Int64) (x9 : Int32) (σ : wS), l_X11_odds_52   Q n x1 x5 x6 x7 x9 σ → Wx X 10 σ 52 [(1, .int x1), (5, .int x5), (6, .int x6), (7, .long x7), (9, .int x9)] [] := by
  intro n
  induction n with
  | zero =>
    intros
    contradiction
  | succ n ih =>
    intro x1 x5 x6 x7 x9 σ h
    simp only [l_X11_odds_52] at h
    refine x_iload F dX11_odds_52 4 rfl ?_
    refine x_iconst (1 : Int32) F dX11_odds_54 (by decide) ?_
    refine x_iload F dX11_odds_55 1 rfl ?_
    refine x_ishl F dX11_odds_57 ?_
    refine x_icmp_ge (tgt := 90) F dX11_odds_58 (by decide) (fun c => ?_) (fun c => ?_)
    · replace h := h.1 c
      refine x_lload F dX11_odds_90 3 rfl ?_
      refine x_l2i F dX11_odds_92 ?_
      exact hret _ _ _ _ h rfl dX11_odds_93
    · replace h := h.2 c
      refine x_iload F dX11_odds_61 4 rfl ?_
      refine x_callT_i F (c_J6_bitCount_0f7a4 (xl X) (xg X) (xA X) F.2.2.1  h) (bw_S bw_42_15 bw_42_16 bw_42_17 bw_42_18) rfl cd_J6_bitCount_0f7a4 (Nat.le_of_ble_eq_true rfl) (Nat.le_of_ble_eq_true rfl) rfl rfl (Nat.le_of_ble_eq_true rfl) dX11_odds_63 (fun r2 s1 h => ?_)
      refine x_iload F dX11_odds_66 2 rfl ?_
      refine x_icmp_gt (tgt := 84) F dX11_odds_68 (by decide) (fun c => ?_) (fun c => ?_)
      · replace h := h.1 c
        refine x_sub (lv' := [(1, .int x1), (5, .int x5), (6, .int x6), (7, .long x7), (9, .int x9)]) [0, 1, 2, 3, 4] rfl ?_
        exact wb_X11_odds_84 F hret  ih _ _ _ _ _ _ h
      · replace h := h.2 c
        refine x_lload F dX11_odds_71 3 rfl ?_
        refine x_iload_n F dX11_odds_73 rfl 0 rfl ?_
        refine x_iload F dX11_odds_74 4 rfl ?_
        refine x_iload F dX11_odds_76 1 rfl ?_
        refine x_callT_l F (c_X11_partsOf (xl X) (xg X) (xA X) F.2.2.1  h) (bw_S bw_50_7 bw_50_8 bw_1_2 bw_50_9) rfl cd_X11_partsOf (Nat.le_of_ble_eq_true rfl) (Nat.le_of_ble_eq_true rfl) rfl rfl (Nat.le_of_ble_eq_true rfl) dX11_odds_78 (fun r4 s3 h => ?_)
        refine x_ladd F dX11_odds_81 ?_
        refine x_topl (fun y5 ey5 => ?_)
        replace h := h y5 ey5
        refine x_lstore (lv' := [(7, .long y5), (1, .int x1), (5, .int x5), (6, .int x6), (9, .int x9)]) F dX11_odds_82 (by decide) rfl ?_
        refine x_sub (lv' := [(1, .int x1), (5, .int x5), (6, .int x6), (7, .long y5), (9, .int x9)]) [1, 2, 3, 0, 4] rfl ?_
        exact wb_X11_odds_84 F hret  ih _ _ _ _ _ _ h
def w_X11_odds  (p0 : Int32) (p1 : Int32) (p2 : Int32) (p3 : Int32) (p4 : Int32) (σ : wS) (Q : Int32 → wS → Prop) : Prop := w_X11_isGust p1 p2 p3 σ (fun r2 s1 => (r2 = 0 → (Q (-1 : Int32) s1)) ∧ (¬ r2 = 0 → (w_X11_isWithin p0 (0 : Int32) (100 : Int32) s1 (fun r4 s3 => (r4 = 0 → (Q (-1 : Int32) s3)) ∧ (¬ r4 = 0 → (w_X11_isWithin p4 (1 : Int32) (6 : Int32) s3 (fun r6 s5 => (¬ r6 = 0 → (w_X11_timesStood p1 p2 p3 p4 s5 (fun r8 s7 => (∃ m, l_X11_odds_52   Q m p0 p4 r8 (0 : Int64) (0 : Int32) s7)))) ∧ (r6 = 0 → (Q (-1 : Int32) s5)))))))))
set_option maxRecDepth 100000 in
set_option maxHeartbeats 4000000 in
theorem c_X11_odds (l : Launch) (g : wG) (A : Nat → Prop) (hA : adO g A)   {p0 : Int32} {p1 : Int32} {p2 : Int32} {p3 : Int32} {p4 : Int32} {σ : wS} {Q : Int32 → wS → Prop} (h : w_X11_odds  p0 p1 p2 p3 p4 σ Q) : Mi l yX11_odds wvX11_odds 5 126 g A [.ref (g.2.2 0), .int p0, .int p1, .int p2, .int p3, .int p4] σ Q := by
  refine mt_i (own := RX11) (lv := [(0, .ref (g.2.2 0)), (1, .int p0), (2, .int p1), (3, .int p2), (4, .int p3), (5, .int p4)]) (by decide) rfl rfl hA (Nat.le_of_ble_eq_true rfl) rfl ?_
  intro X hl hg hAA F hret
  subst hl hg hAA
  unfold w_X11_odds at h
  refine x_aload_n F dX11_odds_0 rfl 0 rfl ?_
  refine x_iload_n F dX11_odds_1 rfl 2 rfl ?_
  refine x_iload_n F dX11_odds_2 rfl 3 rfl ?_
  refine x_iload F dX11_odds_3 4 rfl ?_
  refine x_callV_i F (c_X11_isGust (xl X) (xg X) (xA X) F.2.2.1  h) (bw_V bw_44_2 bw_44_3 bw_44_4 bw_1_2 bw_44_5) rfl cd_X11_isGust (Nat.le_of_ble_eq_true rfl) (Nat.le_of_ble_eq_true rfl) (kd_w (by decide) kz_0) rfl (cl_11 kz_0) rfl rfl (Nat.le_of_ble_eq_true rfl) dX11_odds_5 (fun r2 s1 h => ?_)
  refine x_if_eq (tgt := 32) F dX11_odds_8 (by decide) (fun c => ?_) (fun c => ?_)
  · replace h := h.1 c
    refine x_iconst (-1 : Int32) F dX11_odds_32 (by decide) ?_
    exact hret _ _ _ _ h rfl dX11_odds_33
  · replace h := h.2 c
    refine x_iload_n F dX11_odds_11 rfl 1 rfl ?_
    refine x_iconst (0 : Int32) F dX11_odds_12 (by decide) ?_
    refine x_bipush (100 : Int32) F dX11_odds_13 (by decide) ?_
    refine x_callT_i F (c_X11_isWithin (xl X) (xg X) (xA X) F.2.2.1  h) (bw_S bw_26_5 bw_26_6 bw_1_2 bw_26_7) rfl cd_X11_isWithin (Nat.le_of_ble_eq_true rfl) (Nat.le_of_ble_eq_true rfl) rfl rfl (Nat.le_of_ble_eq_true rfl) dX11_odds_15 (fun r4 s3 h => ?_)
    refine x_if_eq (tgt := 32) F dX11_odds_18 (by decide) (fun c => ?_) (fun c => ?_)
    · replace h := h.1 c
      refine x_iconst (-1 : Int32) F dX11_odds_32 (by decide) ?_
      exact hret _ _ _ _ h rfl dX11_odds_33
    · replace h := h.2 c
      refine x_iload F dX11_odds_21 5 rfl ?_
      refine x_iconst (1 : Int32) F dX11_odds_23 (by decide) ?_
      refine x_bipush (6 : Int32) F dX11_odds_24 (by decide) ?_
      refine x_callT_i F (c_X11_isWithin (xl X) (xg X) (xA X) F.2.2.1  h) (bw_S bw_26_5 bw_26_6 bw_1_2 bw_26_7) rfl cd_X11_isWithin (Nat.le_of_ble_eq_true rfl) (Nat.le_of_ble_eq_true rfl) rfl rfl (Nat.le_of_ble_eq_true rfl) dX11_odds_26 (fun r6 s5 h => ?_)
      refine x_if_ne (tgt := 34) F dX11_odds_29 (by decide) (fun c => ?_) (fun c => ?_)
      · replace h := h.1 c
        refine x_aload_n F dX11_odds_34 rfl 0 rfl ?_
        refine x_iload_n F dX11_odds_35 rfl 2 rfl ?_
        refine x_iload_n F dX11_odds_36 rfl 3 rfl ?_
        refine x_iload F dX11_odds_37 4 rfl ?_
        refine x_iload F dX11_odds_39 5 rfl ?_
        refine x_callV_i F (c_X11_timesStood (xl X) (xg X) (xA X) F.2.2.1  h) (bw_V bw_44_7 bw_44_8 bw_44_9 bw_1_2 bw_44_10) rfl cd_X11_timesStood (Nat.le_of_ble_eq_true rfl) (Nat.le_of_ble_eq_true rfl) (kd_w (by decide) kz_0) rfl (cl_11 kz_0) rfl rfl (Nat.le_of_ble_eq_true rfl) dX11_odds_41 (fun r8 s7 h => ?_)
        refine x_istore (lv' := [(6, .int r8), (0, .ref (ad X 0)), (1, .int p0), (2, .int p1), (3, .int p2), (4, .int p3), (5, .int p4)]) F dX11_odds_44 (by decide) rfl ?_
        refine x_lconst (0 : Int64) F dX11_odds_46 (by decide) ?_
        refine x_lstore (lv' := [(7, .long (0 : Int64)), (6, .int r8), (0, .ref (ad X 0)), (1, .int p0), (2, .int p1), (3, .int p2), (4, .int p3), (5, .int p4)]) F dX11_odds_47 (by decide) rfl ?_
        refine x_iconst (0 : Int32) F dX11_odds_49 (by decide) ?_
        refine x_istore (lv' := [(9, .int (0 : Int32)), (7, .long (0 : Int64)), (6, .int r8), (0, .ref (ad X 0)), (1, .int p0), (2, .int p1), (3, .int p2), (4, .int p3), (5, .int p4)]) F dX11_odds_50 (by decide) rfl ?_
        refine x_sub (lv' := [(1, .int p0), (5, .int p4), (6, .int r8), (7, .long (0 : Int64)), (9, .int (0 : Int32))]) [4, 8, 2, 1, 0] rfl ?_
        obtain ⟨n2, h⟩ := h
        exact wl_X11_odds_52 F hret   n2 _ _ _ _ _ _ h
      · replace h := h.2 c
        refine x_iconst (-1 : Int32) F dX11_odds_32 (by decide) ?_
        exact hret _ _ _ _ h rfl dX11_odds_33
/-! X11_draw -/
abbrev wvX11_draw : List Cond := Cond.code yX11_draw cX11_draw 2 (some .int) :: wsL_law
theorem cd_X11_draw : okN yX11_draw RX11 1 := by unfold okN; decide +kernel
def w_X11_draw  (p0 : Int32) (σ : wS) (Q : Int32 → wS → Prop) : Prop := ∀ s1 : wS, s1 = upJ σ 0 17 (((σ.2 0 17) * (6364136223846793005 : Int64)) + (1442695040888963407 : Int64)) → ((p0 ≤ 0 → (Q (0 : Int32) s1)) ∧ (¬ p0 ≤ 0 → (¬ (p0).toInt64 = 0 ∧ (Q (((((s1.2 0 17)).toUInt64 >>> (((33 : Int32)).toInt64.toUInt64 &&& Int64.toUInt64 63)).toInt64 - (((s1.2 0 17)).toUInt64 >>> (((33 : Int32)).toInt64.toUInt64 &&& Int64.toUInt64 63)).toInt64 / (p0).toInt64 * (p0).toInt64)).toInt32 s1))))
set_option maxRecDepth 100000 in
set_option maxHeartbeats 4000000 in
theorem c_X11_draw (l : Launch) (g : wG) (A : Nat → Prop) (hA : adO g A)   {p0 : Int32} {σ : wS} {Q : Int32 → wS → Prop} (h : w_X11_draw  p0 σ Q) : Mi l yX11_draw wvX11_draw 0 0 g A [.ref (g.2.2 0), .int p0] σ Q := by
  refine mt_i (own := RX11) (lv := [(0, .ref (g.2.2 0)), (1, .int p0)]) (by decide) rfl rfl hA (Nat.le_of_ble_eq_true rfl) rfl ?_
  intro X hl hg hAA F hret
  subst hl hg hAA
  unfold w_X11_draw at h
  refine x_aload_n F dX11_draw_0 rfl 0 rfl ?_
  refine x_aload_n F dX11_draw_1 rfl 0 rfl ?_
  refine g_11_17 F kz_0 in_11 (mc bw_3_12) dX11_draw_2 ?_
  refine x_ldc2 F dX11_draw_5 (mc bw_52_4) ?_
  refine x_lmul F dX11_draw_8 ?_
  refine x_ldc2 F dX11_draw_9 (mc bw_52_5) ?_
  refine x_ladd F dX11_draw_12 ?_
  refine q_11_17 F kz_0 in_11 (mc bw_3_12) dX11_draw_13 ?_
  refine x_nmS (fun s1 es1 => ?_)
  replace h := h s1 es1
  refine x_iload_n F dX11_draw_16 rfl 1 rfl ?_
  refine x_if_le (tgt := 34) F dX11_draw_17 (by decide) (fun c => ?_) (fun c => ?_)
  · replace h := h.1 c
    refine x_iconst (0 : Int32) F dX11_draw_34 (by decide) ?_
    exact hret _ _ _ _ h rfl dX11_draw_35
  · replace h := h.2 c
    refine x_aload_n F dX11_draw_20 rfl 0 rfl ?_
    refine g_11_17 F kz_0 in_11 (mc bw_3_12) dX11_draw_21 ?_
    refine x_bipush (33 : Int32) F dX11_draw_24 (by decide) ?_
    refine x_lushr F dX11_draw_26 ?_
    refine x_iload_n F dX11_draw_27 rfl 1 rfl ?_
    refine x_i2l F dX11_draw_28 ?_
    obtain ⟨hj, h⟩ := h
    refine x_lrem F dX11_draw_29 hj ?_
    refine x_l2i F dX11_draw_30 ?_
    refine x_goto (tgt := 35) F dX11_draw_31 (by decide) ?_
    exact hret _ _ _ _ h rfl dX11_draw_35
/-! X11_drawAct -/
abbrev wvX11_drawAct : List Cond := Cond.code yX11_drawAct cX11_drawAct 5 none :: wsL_law
theorem cd_X11_drawAct : okN yX11_drawAct RX11 0 := by unfold okN; decide +kernel
def b_X11_drawAct_105   (Q : wS → Prop) (x2 : Int32) (z0 : Int32) (σ : wS) : Prop := w_X11_tryAct z0 x2 (0 : Int32) (0 : Int32) σ (fun r2 s1 => Q s1)
set_option maxRecDepth 100000 in
set_option maxHeartbeats 4000000 in
theorem wb_X11_drawAct_105 {X : XT} {Q : wS → Prop}  (F : Fx X cX11_drawAct 5 RX11 wvX11_drawAct 5 126) (hret : Rv X 5 cX11_drawAct Q)    (x2 : Int32) (z0 : Int32) (σ : wS) (h : b_X11_drawAct_105   Q x2 z0 σ) : Wx X 5 σ 105 [(2, .int x2)] [.int z0, .ref (ad X 0)] := by
  unfold b_X11_drawAct_105 at h
  refine x_iload_n F dX11_drawAct_105 rfl 0 rfl ?_
  refine x_iconst (0 : Int32) F dX11_drawAct_106 (by decide) ?_
  refine x_iconst (0 : Int32) F dX11_drawAct_107 (by decide) ?_
  refine x_callV_i F (c_X11_tryAct (xl X) (xg X) (xA X) F.2.2.1  h) (bw_V bw_32_19 bw_32_20 bw_32_21 bw_1_2 bw_32_22) rfl cd_X11_tryAct (Nat.le_of_ble_eq_true rfl) (Nat.le_of_ble_eq_true rfl) (kd_w (by decide) kz_0) rfl (cl_11 kz_0) rfl rfl (Nat.le_of_ble_eq_true rfl) dX11_drawAct_108 (fun r2 s1 h => ?_)
  refine x_pop F dX11_drawAct_111 rfl ?_
  exact hret _ _ _ h dX11_drawAct_112
def w_X11_drawAct   (σ : wS) (Q : wS → Prop) : Prop := w_X11_draw (8 : Int32) σ (fun r2 s1 => ((4 : Int32) < r2 → (w_X11_draw (s1.1 (mo (s1.1 0 2)) 6) s1 (fun r4 s3 => ((6 : Int32) < r2 → (w_X11_isFast r4 s3 (fun r6 s5 => (r6 = 0 → (b_X11_drawAct_105   Q r4 (3 : Int32) s5)) ∧ (¬ r6 = 0 → (b_X11_drawAct_105   Q r4 (2 : Int32) s5))))) ∧ (¬ (6 : Int32) < r2 → (w_X11_draw (7 : Int32) s3 (fun r8 s7 => w_X11_tryAct (1 : Int32) r4 (r8 - (3 : Int32)) (0 : Int32) s7 (fun r10 s9 => Q s9))))))) ∧ (¬ (4 : Int32) < r2 → (w_X11_draw (21 : Int32) s1 (fun r12 s11 => ∀ y13 : Int32, y13 = (r12 - (10 : Int32)) → (w_X11_draw (21 : Int32) s11 (fun r15 s14 => ∀ y16 : Int32, y16 = (r15 - (10 : Int32)) → (w_X11_draw (61 : Int32) s14 (fun r18 s17 => ∀ y19 : Int32, y19 = (r18 - (30 : Int32)) → (w_X11_tryAct (0 : Int32) y13 y16 y19 s17 (fun r21 s20 => Q s20))))))))))
set_option maxRecDepth 100000 in
set_option maxHeartbeats 4000000 in
theorem c_X11_drawAct (l : Launch) (g : wG) (A : Nat → Prop) (hA : adO g A)    {σ : wS} {Q : wS → Prop} (h : w_X11_drawAct   σ Q) : Mv l yX11_drawAct wvX11_drawAct 5 126 g A [.ref (g.2.2 0)] σ Q := by
  refine mt_v (own := RX11) (lv := [(0, .ref (g.2.2 0))]) (by decide) rfl rfl hA (Nat.le_of_ble_eq_true rfl) rfl ?_
  intro X hl hg hAA F hret
  subst hl hg hAA
  unfold w_X11_drawAct at h
  refine x_aload_n F dX11_drawAct_0 rfl 0 rfl ?_
  refine x_bipush (8 : Int32) F dX11_drawAct_1 (by decide) ?_
  refine x_callV_i F (c_X11_draw (xl X) (xg X) (xA X) F.2.2.1  h) (bw_V bw_52_0 bw_52_1 bw_52_2 bw_1_2 bw_52_3) rfl cd_X11_draw (Nat.le_of_ble_eq_true rfl) (Nat.le_of_ble_eq_true rfl) (kd_w (by decide) kz_0) rfl (cl_11 kz_0) rfl rfl (Nat.le_of_ble_eq_true rfl) dX11_drawAct_3 (fun r2 s1 h => ?_)
  refine x_istore_n (lv' := [(1, .int r2), (0, .ref (ad X 0))]) F dX11_drawAct_6 rfl (by decide) rfl ?_
  refine x_iload_n F dX11_drawAct_7 rfl 0 rfl ?_
  refine x_iconst (4 : Int32) F dX11_drawAct_8 (by decide) ?_
  refine x_icmp_gt (tgt := 54) F dX11_drawAct_9 (by decide) (fun c => ?_) (fun c => ?_)
  · replace h := h.1 c
    refine x_aload_n F dX11_drawAct_54 rfl 1 rfl ?_
    refine x_aload_n F dX11_drawAct_55 rfl 1 rfl ?_
    refine g_11_2 F kz_0 in_11 (mc bw_2_1) dX11_drawAct_56 ?_
    refine g_5_6 F (mo_kd _) in_5 (mc bw_19_2) dX11_drawAct_59 ?_
    refine x_callV_i F (c_X11_draw (xl X) (xg X) (xA X) F.2.2.1  h) (bw_V bw_52_0 bw_52_1 bw_52_2 bw_1_2 bw_52_3) rfl cd_X11_draw (Nat.le_of_ble_eq_true rfl) (Nat.le_of_ble_eq_true rfl) (kd_w (by decide) kz_0) rfl (cl_11 kz_0) rfl rfl (Nat.le_of_ble_eq_true rfl) dX11_drawAct_62 (fun r4 s3 h => ?_)
    refine x_istore_n (lv' := [(2, .int r4), (1, .int r2), (0, .ref (ad X 0))]) F dX11_drawAct_65 rfl (by decide) rfl ?_
    refine x_iload_n F dX11_drawAct_66 rfl 1 rfl ?_
    refine x_bipush (6 : Int32) F dX11_drawAct_67 (by decide) ?_
    refine x_icmp_gt (tgt := 91) F dX11_drawAct_69 (by decide) (fun c => ?_) (fun c => ?_)
    · replace h := h.1 c
      refine x_aload_n F dX11_drawAct_91 rfl 2 rfl ?_
      refine x_aload_n F dX11_drawAct_92 rfl 2 rfl ?_
      refine x_iload_n F dX11_drawAct_93 rfl 0 rfl ?_
      refine x_callV_i F (c_X11_isFast (xl X) (xg X) (xA X) F.2.2.1  h) (bw_V bw_28_12 bw_28_13 bw_28_14 bw_1_2 bw_28_15) rfl cd_X11_isFast (Nat.le_of_ble_eq_true rfl) (Nat.le_of_ble_eq_true rfl) (kd_w (by decide) kz_0) rfl (cl_11 kz_0) rfl rfl (Nat.le_of_ble_eq_true rfl) dX11_drawAct_94 (fun r6 s5 h => ?_)
      refine x_if_eq (tgt := 104) F dX11_drawAct_97 (by decide) (fun c => ?_) (fun c => ?_)
      · replace h := h.1 c
        refine x_iconst (3 : Int32) F dX11_drawAct_104 (by decide) ?_
        refine x_sub (lv' := [(2, .int r4)]) [0] rfl ?_
        exact wb_X11_drawAct_105 F hret   _ _ _ h
      · replace h := h.2 c
        refine x_iconst (2 : Int32) F dX11_drawAct_100 (by decide) ?_
        refine x_goto (tgt := 105) F dX11_drawAct_101 (by decide) ?_
        refine x_sub (lv' := [(2, .int r4)]) [0] rfl ?_
        exact wb_X11_drawAct_105 F hret   _ _ _ h
    · replace h := h.2 c
      refine x_aload_n F dX11_drawAct_72 rfl 2 rfl ?_
      refine x_iconst (1 : Int32) F dX11_drawAct_73 (by decide) ?_
      refine x_iload_n F dX11_drawAct_74 rfl 0 rfl ?_
      refine x_aload_n F dX11_drawAct_75 rfl 2 rfl ?_
      refine x_bipush (7 : Int32) F dX11_drawAct_76 (by decide) ?_
      refine x_callV_i F (c_X11_draw (xl X) (xg X) (xA X) F.2.2.1  h) (bw_V bw_52_0 bw_52_1 bw_52_2 bw_1_2 bw_52_3) rfl cd_X11_draw (Nat.le_of_ble_eq_true rfl) (Nat.le_of_ble_eq_true rfl) (kd_w (by decide) kz_0) rfl (cl_11 kz_0) rfl rfl (Nat.le_of_ble_eq_true rfl) dX11_drawAct_78 (fun r8 s7 h => ?_)
      refine x_iconst (3 : Int32) F dX11_drawAct_81 (by decide) ?_
      refine x_isub F dX11_drawAct_82 ?_
      refine x_iconst (0 : Int32) F dX11_drawAct_83 (by decide) ?_
      refine x_callV_i F (c_X11_tryAct (xl X) (xg X) (xA X) F.2.2.1  h) (bw_V bw_32_19 bw_32_20 bw_32_21 bw_1_2 bw_32_22) rfl cd_X11_tryAct (Nat.le_of_ble_eq_true rfl) (Nat.le_of_ble_eq_true rfl) (kd_w (by decide) kz_0) rfl (cl_11 kz_0) rfl rfl (Nat.le_of_ble_eq_true rfl) dX11_drawAct_84 (fun r10 s9 h => ?_)
      refine x_pop F dX11_drawAct_87 rfl ?_
      refine x_goto (tgt := 112) F dX11_drawAct_88 (by decide) ?_
      exact hret _ _ _ h dX11_drawAct_112
  · replace h := h.2 c
    refine x_aload_n F dX11_drawAct_12 rfl 1 rfl ?_
    refine x_bipush (21 : Int32) F dX11_drawAct_13 (by decide) ?_
    refine x_callV_i F (c_X11_draw (xl X) (xg X) (xA X) F.2.2.1  h) (bw_V bw_52_0 bw_52_1 bw_52_2 bw_1_2 bw_52_3) rfl cd_X11_draw (Nat.le_of_ble_eq_true rfl) (Nat.le_of_ble_eq_true rfl) (kd_w (by decide) kz_0) rfl (cl_11 kz_0) rfl rfl (Nat.le_of_ble_eq_true rfl) dX11_drawAct_15 (fun r12 s11 h => ?_)
    refine x_bipush (10 : Int32) F dX11_drawAct_18 (by decide) ?_
    refine x_isub F dX11_drawAct_20 ?_
    refine x_topi (fun y13 ey13 => ?_)
    replace h := h y13 ey13
    refine x_istore_n (lv' := [(2, .int y13), (1, .int r2), (0, .ref (ad X 0))]) F dX11_drawAct_21 rfl (by decide) rfl ?_
    refine x_aload_n F dX11_drawAct_22 rfl 2 rfl ?_
    refine x_bipush (21 : Int32) F dX11_drawAct_23 (by decide) ?_
    refine x_callV_i F (c_X11_draw (xl X) (xg X) (xA X) F.2.2.1  h) (bw_V bw_52_0 bw_52_1 bw_52_2 bw_1_2 bw_52_3) rfl cd_X11_draw (Nat.le_of_ble_eq_true rfl) (Nat.le_of_ble_eq_true rfl) (kd_w (by decide) kz_0) rfl (cl_11 kz_0) rfl rfl (Nat.le_of_ble_eq_true rfl) dX11_drawAct_25 (fun r15 s14 h => ?_)
    refine x_bipush (10 : Int32) F dX11_drawAct_28 (by decide) ?_
    refine x_isub F dX11_drawAct_30 ?_
    refine x_topi (fun y16 ey16 => ?_)
    replace h := h y16 ey16
    refine x_istore_n (lv' := [(3, .int y16), (2, .int y13), (1, .int r2), (0, .ref (ad X 0))]) F dX11_drawAct_31 rfl (by decide) rfl ?_
    refine x_aload_n F dX11_drawAct_32 rfl 3 rfl ?_
    refine x_bipush (61 : Int32) F dX11_drawAct_33 (by decide) ?_
    refine x_callV_i F (c_X11_draw (xl X) (xg X) (xA X) F.2.2.1  h) (bw_V bw_52_0 bw_52_1 bw_52_2 bw_1_2 bw_52_3) rfl cd_X11_draw (Nat.le_of_ble_eq_true rfl) (Nat.le_of_ble_eq_true rfl) (kd_w (by decide) kz_0) rfl (cl_11 kz_0) rfl rfl (Nat.le_of_ble_eq_true rfl) dX11_drawAct_35 (fun r18 s17 h => ?_)
    refine x_bipush (30 : Int32) F dX11_drawAct_38 (by decide) ?_
    refine x_isub F dX11_drawAct_40 ?_
    refine x_topi (fun y19 ey19 => ?_)
    replace h := h y19 ey19
    refine x_istore (lv' := [(4, .int y19), (3, .int y16), (2, .int y13), (1, .int r2), (0, .ref (ad X 0))]) F dX11_drawAct_41 (by decide) rfl ?_
    refine x_aload_n F dX11_drawAct_43 rfl 4 rfl ?_
    refine x_iconst (0 : Int32) F dX11_drawAct_44 (by decide) ?_
    refine x_iload_n F dX11_drawAct_45 rfl 2 rfl ?_
    refine x_iload_n F dX11_drawAct_46 rfl 1 rfl ?_
    refine x_iload F dX11_drawAct_47 0 rfl ?_
    refine x_callV_i F (c_X11_tryAct (xl X) (xg X) (xA X) F.2.2.1  h) (bw_V bw_32_19 bw_32_20 bw_32_21 bw_1_2 bw_32_22) rfl cd_X11_tryAct (Nat.le_of_ble_eq_true rfl) (Nat.le_of_ble_eq_true rfl) (kd_w (by decide) kz_0) rfl (cl_11 kz_0) rfl rfl (Nat.le_of_ble_eq_true rfl) dX11_drawAct_49 (fun r21 s20 h => ?_)
    refine x_pop F dX11_drawAct_52 rfl ?_
    exact hret _ _ _ h dX11_drawAct_53
/-! X11_years -/
abbrev wvX11_years : List Cond := Cond.code yX11_years cX11_years 5 (some .int) :: wsL_law
theorem cd_X11_years : okN yX11_years RX11 2 := by unfold okN; decide +kernel
def l_X11_years_27   (Q : Int32 → wS → Prop) : Nat → Int32 → Int32 → wS → Prop
  | 0, _, _, _ => False
  | n + 1, x1, x4, σ => (x1 ≤ x4 → (Q (σ.1 29 2) σ)) ∧ (¬ x1 ≤ x4 → (w_X11_drawAct  σ (fun s1 => ∀ y3 : Int32, y3 = (x4 + (1 : Int32)) → (l_X11_years_27   Q n x1 y3 s1))))
set_option maxRecDepth 100000 in
set_option maxHeartbeats 4000000 in
theorem wl_X11_years_27 {X : XT} {Q : Int32 → wS → Prop}  (F : Fx X cX11_years 5 RX11 wvX11_years 6 150) (hret : Ri X 5 cX11_years .int Q)    : ∀ (n : Nat) (x1 : Int32) (x4 : Int32) (σ : wS), l_X11_years_27   Q n x1 x4 σ → Wx X 5 σ 27 [(0, .ref (ad X 0)), (1, .int x1), (4, .int x4)] [] := by
  intro n
  induction n with
  | zero =>
    intros
    contradiction
  | succ n ih =>
    intro x1 x4 σ h
    simp only [l_X11_years_27] at h
    refine x_iload F dX11_years_27 2 rfl ?_
    refine x_iload_n F dX11_years_29 rfl 1 rfl ?_
    refine x_icmp_ge (tgt := 43) F dX11_years_30 (by decide) (fun c => ?_) (fun c => ?_)
    · replace h := h.1 c
      refine x_aload_n F dX11_years_43 rfl 0 rfl ?_
      refine g_11_6 F kz_0 in_11 (mc bw_2_9) dX11_years_44 ?_
      refine g_3_2 F kz_29 in_3 (mc bw_28_22) dX11_years_47 ?_
      exact hret _ _ _ _ h rfl dX11_years_50
    · replace h := h.2 c
      refine x_aload_n F dX11_years_33 rfl 0 rfl ?_
      refine x_callV_v F (c_X11_drawAct (xl X) (xg X) (xA X) F.2.2.1  h) (bw_V bw_51_20 bw_51_21 bw_51_22 bw_1_2 bw_51_23) rfl cd_X11_drawAct (Nat.le_of_ble_eq_true rfl) (Nat.le_of_ble_eq_true rfl) (kd_w (by decide) kz_0) rfl (cl_11 kz_0) rfl rfl (Nat.le_of_ble_eq_true rfl) dX11_years_34 (fun s1 h => ?_)
      obtain ⟨y3, ey3⟩ : ∃ y : Int32, y = (x4 + (1 : Int32)) := ⟨_, rfl⟩
      replace h := h y3 ey3
      refine x_iinc (q := 2) (v := y3) (lv' := [(4, .int y3), (0, .ref (ad X 0)), (1, .int x1)]) F dX11_years_37 rfl (by rw [ey3]; rfl) (by decide) rfl ?_
      refine x_goto (tgt := 27) F dX11_years_40 (by decide) ?_
      refine x_sub (lv' := [(0, .ref (ad X 0)), (1, .int x1), (4, .int y3)]) [1, 2, 0] rfl ?_
      exact ih _ _ _ h
def w_X11_years  (p0 : Int32) (p1 : Int64) (σ : wS) (Q : Int32 → wS → Prop) : Prop := w_X11_hasMooring  σ (fun r2 s1 => (r2 = 0 → (Q (-1 : Int32) s1)) ∧ (¬ r2 = 0 → (w_X11_isWithin p0 (1 : Int32) (40 : Int32) s1 (fun r4 s3 => (¬ r4 = 0 → (∀ s5 : wS, s5 = upJ s3 0 17 p1 → ((∃ m, l_X11_years_27   Q m p0 (0 : Int32) s5)))) ∧ (r4 = 0 → (Q (-1 : Int32) s3))))))
set_option maxRecDepth 100000 in
set_option maxHeartbeats 4000000 in
theorem c_X11_years (l : Launch) (g : wG) (A : Nat → Prop) (hA : adO g A)   {p0 : Int32} {p1 : Int64} {σ : wS} {Q : Int32 → wS → Prop} (h : w_X11_years  p0 p1 σ Q) : Mi l yX11_years wvX11_years 6 150 g A [.ref (g.2.2 0), .int p0, .long p1] σ Q := by
  refine mt_i (own := RX11) (lv := [(0, .ref (g.2.2 0)), (1, .int p0), (2, .long p1)]) (by decide) rfl rfl hA (Nat.le_of_ble_eq_true rfl) rfl ?_
  intro X hl hg hAA F hret
  subst hl hg hAA
  unfold w_X11_years at h
  refine x_aload_n F dX11_years_0 rfl 0 rfl ?_
  refine x_callV_i F (c_X11_hasMooring (xl X) (xg X) (xA X) F.2.2.1  h) (bw_V bw_26_1 bw_26_2 bw_26_3 bw_1_2 bw_26_4) rfl cd_X11_hasMooring (Nat.le_of_ble_eq_true rfl) (Nat.le_of_ble_eq_true rfl) (kd_w (by decide) kz_0) rfl (cl_11 kz_0) rfl rfl (Nat.le_of_ble_eq_true rfl) dX11_years_1 (fun r2 s1 h => ?_)
  refine x_if_eq (tgt := 17) F dX11_years_4 (by decide) (fun c => ?_) (fun c => ?_)
  · replace h := h.1 c
    refine x_iconst (-1 : Int32) F dX11_years_17 (by decide) ?_
    exact hret _ _ _ _ h rfl dX11_years_18
  · replace h := h.2 c
    refine x_iload_n F dX11_years_7 rfl 1 rfl ?_
    refine x_iconst (1 : Int32) F dX11_years_8 (by decide) ?_
    refine x_bipush (40 : Int32) F dX11_years_9 (by decide) ?_
    refine x_callT_i F (c_X11_isWithin (xl X) (xg X) (xA X) F.2.2.1  h) (bw_S bw_26_5 bw_26_6 bw_1_2 bw_26_7) rfl cd_X11_isWithin (Nat.le_of_ble_eq_true rfl) (Nat.le_of_ble_eq_true rfl) rfl rfl (Nat.le_of_ble_eq_true rfl) dX11_years_11 (fun r4 s3 h => ?_)
    refine x_if_ne (tgt := 19) F dX11_years_14 (by decide) (fun c => ?_) (fun c => ?_)
    · replace h := h.1 c
      refine x_aload_n F dX11_years_19 rfl 0 rfl ?_
      refine x_lload_n F dX11_years_20 rfl 2 rfl ?_
      refine q_11_17 F kz_0 in_11 (mc bw_3_12) dX11_years_21 ?_
      refine x_nmS (fun s5 es5 => ?_)
      replace h := h s5 es5
      refine x_iconst (0 : Int32) F dX11_years_24 (by decide) ?_
      refine x_istore (lv' := [(4, .int (0 : Int32)), (0, .ref (ad X 0)), (1, .int p0), (2, .long p1)]) F dX11_years_25 (by decide) rfl ?_
      refine x_sub (lv' := [(0, .ref (ad X 0)), (1, .int p0), (4, .int (0 : Int32))]) [1, 2, 0] rfl ?_
      obtain ⟨n2, h⟩ := h
      exact wl_X11_years_27 F hret   n2 _ _ _ h
    · replace h := h.2 c
      refine x_iconst (-1 : Int32) F dX11_years_17 (by decide) ?_
      exact hret _ _ _ _ h rfl dX11_years_18
/-! X11_image -/
abbrev wvX11_image : List Cond := Cond.code yX11_image cX11_image 3 (some .int) :: wsL_law
theorem cd_X11_image : okN yX11_image RX11 0 := by unfold okN; decide +kernel
def l_X11_image_24   (Q : Int32 → wS → Prop) : Nat → Int32 → Int32 → wS → Prop
  | 0, _, _, _ => False
  | n + 1, x1, x2, σ => (x1 ≤ x2 → (w_X3_copy 35 29 σ (fun s1 => ∀ s3 : wS, s3 = upI s1 35 7 x1 → (∀ s4 : wS, s4 = upI s3 0 16 (1 : Int32) → (Q (s4.1 35 2) s4))))) ∧ (¬ x1 ≤ x2 → (w_X4_lineAt (((σ.1 29 7) - x1) + x2) σ (fun r6 s5 => vp_in x2 60 ∧ (∀ s7 : wS, s7 = upI s5 55 (x2).toNatClampNeg r6 → (∀ y8 : Int32, y8 = (x2 + (1 : Int32)) → (l_X11_image_24   Q n x1 y8 s7))))))
set_option maxRecDepth 100000 in
set_option maxHeartbeats 4000000 in
theorem wl_X11_image_24 {X : XT} {Q : Int32 → wS → Prop}  (F : Fx X cX11_image 3 RX11 wvX11_image 2 61) (hret : Ri X 3 cX11_image .int Q)    : ∀ (n : Nat) (x1 : Int32) (x2 : Int32) (σ : wS), l_X11_image_24   Q n x1 x2 σ → Wx X 3 σ 24 [(0, .ref (ad X 0)), (1, .int x1), (2, .int x2)] [] := by
  intro n
  induction n with
  | zero =>
    intros
    contradiction
  | succ n ih =>
    intro x1 x2 σ h
    simp only [l_X11_image_24] at h
    refine x_iload_n F dX11_image_24 rfl 2 rfl ?_
    refine x_iload_n F dX11_image_25 rfl 1 rfl ?_
    refine x_icmp_ge (tgt := 59) F dX11_image_26 (by decide) (fun c => ?_) (fun c => ?_)
    · replace h := h.1 c
      refine x_aload_n F dX11_image_59 rfl 0 rfl ?_
      refine g_11_14 F kz_0 in_11 (mc bw_3_8) dX11_image_60 ?_
      refine x_aload_n F dX11_image_63 rfl 0 rfl ?_
      refine g_11_6 F kz_0 in_11 (mc bw_2_9) dX11_image_64 ?_
      refine x_callV_v F (c_X3_copy (xl X) (xg X) (xA X) F.2.2.1 kz_35 kz_29 h) (bw_V bw_22_1 bw_22_2 bw_22_3 bw_2_8 bw_22_4) rfl cd_X3_copy (Nat.le_of_ble_eq_true rfl) (Nat.le_of_ble_eq_true rfl) (kd_w (by decide) kz_35) rfl (cl_3 kz_35) rfl rfl (Nat.le_of_ble_eq_true rfl) dX11_image_67 (fun s1 h => ?_)
      refine x_aload_n F dX11_image_70 rfl 0 rfl ?_
      refine g_11_14 F kz_0 in_11 (mc bw_3_8) dX11_image_71 ?_
      refine x_iload_n F dX11_image_74 rfl 1 rfl ?_
      refine q_3_7 F kz_35 in_3 (mc bw_34_6) dX11_image_75 ?_
      refine x_nmS (fun s3 es3 => ?_)
      replace h := h s3 es3
      refine x_aload_n F dX11_image_78 rfl 0 rfl ?_
      refine x_iconst (1 : Int32) F dX11_image_79 (by decide) ?_
      refine q_11_16 F kz_0 (by decide) in_11 (mc bw_3_11) dX11_image_80 ?_
      refine x_nmS (fun s4 es4 => ?_)
      replace h := h s4 es4
      refine x_aload_n F dX11_image_83 rfl 0 rfl ?_
      refine g_11_14 F kz_0 in_11 (mc bw_3_8) dX11_image_84 ?_
      refine g_3_2 F kz_35 in_3 (mc bw_28_22) dX11_image_87 ?_
      exact hret _ _ _ _ h rfl dX11_image_90
    · replace h := h.2 c
      refine x_aload_n F dX11_image_29 rfl 0 rfl ?_
      refine g_11_15 F kz_0 in_11 (mc bw_3_10) dX11_image_30 ?_
      refine x_iload_n F dX11_image_33 rfl 2 rfl ?_
      refine x_aload_n F dX11_image_34 rfl 0 rfl ?_
      refine g_11_11 F kz_0 in_11 (mc bw_2_23) dX11_image_35 ?_
      refine x_aload_n F dX11_image_38 rfl 0 rfl ?_
      refine g_11_6 F kz_0 in_11 (mc bw_2_9) dX11_image_39 ?_
      refine g_3_7 F kz_29 in_3 (mc bw_34_6) dX11_image_42 ?_
      refine x_iload_n F dX11_image_45 rfl 1 rfl ?_
      refine x_isub F dX11_image_46 ?_
      refine x_iload_n F dX11_image_47 rfl 2 rfl ?_
      refine x_iadd F dX11_image_48 ?_
      refine x_callV_i F (c_X4_lineAt (xl X) (xg X) (xA X) F.2.2.1  h) (bw_V bw_54_5 bw_40_20 bw_40_21 bw_2_22 bw_40_22) rfl cd_X4_lineAt (Nat.le_of_ble_eq_true rfl) (Nat.le_of_ble_eq_true rfl) (kd_w (by decide) kz_48) rfl (cl_4 kz_48) rfl rfl (Nat.le_of_ble_eq_true rfl) dX11_image_49 (fun r6 s5 h => ?_)
      obtain ⟨hz, h⟩ := h
      refine x_iast F kz_55 nz_55 hz dX11_image_52 ?_
      refine x_nmS (fun s7 es7 => ?_)
      replace h := h s7 es7
      obtain ⟨y8, ey8⟩ : ∃ y : Int32, y = (x2 + (1 : Int32)) := ⟨_, rfl⟩
      replace h := h y8 ey8
      refine x_iinc (q := 2) (v := y8) (lv' := [(2, .int y8), (0, .ref (ad X 0)), (1, .int x1)]) F dX11_image_53 rfl (by rw [ey8]; rfl) (by decide) rfl ?_
      refine x_goto (tgt := 24) F dX11_image_56 (by decide) ?_
      refine x_sub (lv' := [(0, .ref (ad X 0)), (1, .int x1), (2, .int y8)]) [1, 2, 0] rfl ?_
      exact ih _ _ _ h
def w_X11_image   (σ : wS) (Q : Int32 → wS → Prop) : Prop := w_X11_hasMooring  σ (fun r2 s1 => (¬ r2 = 0 → (∀ y3 : Int32, y3 = (if (60 : Int32) < (s1.1 29 7) then (60 : Int32) else (s1.1 29 7)) → ((∃ m, l_X11_image_24   Q m y3 (0 : Int32) s1)))) ∧ (r2 = 0 → (Q (-1 : Int32) s1)))
set_option maxRecDepth 100000 in
set_option maxHeartbeats 4000000 in
theorem c_X11_image (l : Launch) (g : wG) (A : Nat → Prop) (hA : adO g A)    {σ : wS} {Q : Int32 → wS → Prop} (h : w_X11_image   σ Q) : Mi l yX11_image wvX11_image 2 61 g A [.ref (g.2.2 0)] σ Q := by
  refine mt_i (own := RX11) (lv := [(0, .ref (g.2.2 0))]) (by decide) rfl rfl hA (Nat.le_of_ble_eq_true rfl) rfl ?_
  intro X hl hg hAA F hret
  subst hl hg hAA
  unfold w_X11_image at h
  refine x_aload_n F dX11_image_0 rfl 0 rfl ?_
  refine x_callV_i F (c_X11_hasMooring (xl X) (xg X) (xA X) F.2.2.1  h) (bw_V bw_26_1 bw_26_2 bw_26_3 bw_1_2 bw_26_4) rfl cd_X11_hasMooring (Nat.le_of_ble_eq_true rfl) (Nat.le_of_ble_eq_true rfl) (kd_w (by decide) kz_0) rfl (cl_11 kz_0) rfl rfl (Nat.le_of_ble_eq_true rfl) dX11_image_1 (fun r2 s1 h => ?_)
  refine x_if_ne (tgt := 9) F dX11_image_4 (by decide) (fun c => ?_) (fun c => ?_)
  · replace h := h.1 c
    refine x_aload_n F dX11_image_9 rfl 0 rfl ?_
    refine g_11_6 F kz_0 in_11 (mc bw_2_9) dX11_image_10 ?_
    refine g_3_7 F kz_29 in_3 (mc bw_34_6) dX11_image_13 ?_
    refine x_bipush (60 : Int32) F dX11_image_16 (by decide) ?_
    refine x_min F (mc bw_40_14) (mc bw_34_20) (mc bw_29_6) (mc bw_34_21) (Nat.le_of_ble_eq_true rfl) (Nat.le_of_ble_eq_true rfl) dX11_image_18 ?_
    refine x_topi (fun y3 ey3 => ?_)
    replace h := h y3 ey3
    refine x_istore_n (lv' := [(1, .int y3), (0, .ref (ad X 0))]) F dX11_image_21 rfl (by decide) rfl ?_
    refine x_iconst (0 : Int32) F dX11_image_22 (by decide) ?_
    refine x_istore_n (lv' := [(2, .int (0 : Int32)), (1, .int y3), (0, .ref (ad X 0))]) F dX11_image_23 rfl (by decide) rfl ?_
    refine x_sub (lv' := [(0, .ref (ad X 0)), (1, .int y3), (2, .int (0 : Int32))]) [2, 1, 0] rfl ?_
    obtain ⟨n2, h⟩ := h
    exact wl_X11_image_24 F hret   n2 _ _ _ h
  · replace h := h.2 c
    refine x_iconst (-1 : Int32) F dX11_image_7 (by decide) ?_
    exact hret _ _ _ _ h rfl dX11_image_8
