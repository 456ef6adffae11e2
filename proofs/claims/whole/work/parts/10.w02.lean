/-! X5_measure -/
abbrev wvX5_measure : List Cond := Cond.code yX5_measure cX5_measure 4 none :: wsL_law
theorem cd_X5_measure : okN yX5_measure RX5 0 := by unfold okN; decide +kernel
def l_X5_measure_39 (i0 : Nat)  (Q : wS → Prop) : Nat → Int32 → wS → Prop
  | 0, _, _ => False
  | n + 1, x1, σ => ((σ.1 i0 6) ≤ x1 → (Q σ)) ∧ (¬ (σ.1 i0 6) ≤ x1 → (w_X5_itemOf i0 x1 (3 : Int32) σ (fun r2 s1 => w_X5_itemOf i0 x1 (4 : Int32) s1 (fun r4 s3 => vp_in ((3 : Int32) * x1) 24 ∧ (∀ s5 : wS, s5 = upI s3 (i0 + 3) (((3 : Int32) * x1)).toNatClampNeg r2 → (vp_in (((3 : Int32) * x1) + (1 : Int32)) 24 ∧ (∀ s6 : wS, s6 = upI s5 (i0 + 3) ((((3 : Int32) * x1) + (1 : Int32))).toNatClampNeg r4 → (w_X5_itemOf i0 x1 (1 : Int32) s6 (fun r8 s7 => w_X5_itemOf i0 x1 (2 : Int32) s7 (fun r10 s9 => vp_in (((3 : Int32) * x1) + (2 : Int32)) 24 ∧ (∀ s11 : wS, s11 = upI s9 (i0 + 3) ((((3 : Int32) * x1) + (2 : Int32))).toNatClampNeg ((r8 * r4) - (r10 * r2)) → (w_X5_itemOf i0 x1 (0 : Int32) s11 (fun r13 s12 => vp_in x1 8 ∧ (∀ s14 : wS, s14 = upI s12 (i0 + 4) (x1).toNatClampNeg r13 → (w_X5_itemOf i0 x1 (6 : Int32) s14 (fun r16 s15 => vp_in x1 8 ∧ (∀ s17 : wS, s17 = upI s15 (i0 + 5) (x1).toNatClampNeg r16 → (∀ y18 : Int32, y18 = (x1 + (1 : Int32)) → (l_X5_measure_39 i0  Q n y18 s17)))))))))))))))))))
set_option maxRecDepth 100000 in
set_option maxHeartbeats 4000000 in
theorem wl_X5_measure_39 {X : XT} {Q : wS → Prop} {i0 : Nat} (F : Fx X cX5_measure 4 RX5 wvX5_measure 1 22) (hret : Rv X 4 cX5_measure Q) (k_i0 : kd i0 = 5)   : ∀ (n : Nat) (x1 : Int32) (σ : wS), l_X5_measure_39 i0  Q n x1 σ → Wx X 4 σ 39 [(0, .ref (ad X i0)), (1, .int x1)] [] := by
  intro n
  induction n with
  | zero =>
    intros
    contradiction
  | succ n ih =>
    intro x1 σ h
    simp only [l_X5_measure_39] at h
    refine x_iload_n F dX5_measure_39 rfl 1 rfl ?_
    refine x_aload_n F dX5_measure_40 rfl 0 rfl ?_
    refine g_5_6 F k_i0 in_5 (mc bw_4_15) dX5_measure_41 ?_
    refine x_icmp_ge (tgt := 139) F dX5_measure_44 (by decide) (fun c => ?_) (fun c => ?_)
    · replace h := h.1 c
      exact hret _ _ _ h dX5_measure_139
    · replace h := h.2 c
      refine x_aload_n F dX5_measure_47 rfl 0 rfl ?_
      refine x_iload_n F dX5_measure_48 rfl 1 rfl ?_
      refine x_iconst (3 : Int32) F dX5_measure_49 (by decide) ?_
      refine x_callV_i F (c_X5_itemOf (xl X) (xg X) (xA X) F.2.2.1 k_i0 h) (bw_V bw_11_22 bw_11_23 bw_12_0 bw_2_0 bw_12_1) rfl cd_X5_itemOf (Nat.le_of_ble_eq_true rfl) (Nat.le_of_ble_eq_true rfl) (kd_w (by decide) k_i0) rfl (cl_5 k_i0) rfl rfl (Nat.le_of_ble_eq_true rfl) dX5_measure_50 (fun r2 s1 h => ?_)
      refine x_istore_n (lv' := [(2, .int r2), (0, .ref (ad X i0)), (1, .int x1)]) F dX5_measure_53 rfl (by decide) rfl ?_
      refine x_aload_n F dX5_measure_54 rfl 1 rfl ?_
      refine x_iload_n F dX5_measure_55 rfl 2 rfl ?_
      refine x_iconst (4 : Int32) F dX5_measure_56 (by decide) ?_
      refine x_callV_i F (c_X5_itemOf (xl X) (xg X) (xA X) F.2.2.1 k_i0 h) (bw_V bw_11_22 bw_11_23 bw_12_0 bw_2_0 bw_12_1) rfl cd_X5_itemOf (Nat.le_of_ble_eq_true rfl) (Nat.le_of_ble_eq_true rfl) (kd_w (by decide) k_i0) rfl (cl_5 k_i0) rfl rfl (Nat.le_of_ble_eq_true rfl) dX5_measure_57 (fun r4 s3 h => ?_)
      refine x_istore_n (lv' := [(3, .int r4), (2, .int r2), (0, .ref (ad X i0)), (1, .int x1)]) F dX5_measure_60 rfl (by decide) rfl ?_
      refine x_aload_n F dX5_measure_61 rfl 2 rfl ?_
      refine g_5_2 F k_i0 in_5 (mc bw_4_10) dX5_measure_62 ?_
      refine x_iconst (3 : Int32) F dX5_measure_65 (by decide) ?_
      refine x_iload_n F dX5_measure_66 rfl 3 rfl ?_
      refine x_imul F dX5_measure_67 ?_
      refine x_iload_n F dX5_measure_68 rfl 1 rfl ?_
      obtain ⟨hz, h⟩ := h
      refine x_iast F (ky_5_2 k_i0) (kn_5_2 k_i0) hz dX5_measure_69 ?_
      refine x_nmS (fun s5 es5 => ?_)
      replace h := h s5 es5
      refine x_aload_n F dX5_measure_70 rfl 2 rfl ?_
      refine g_5_2 F k_i0 in_5 (mc bw_4_10) dX5_measure_71 ?_
      refine x_iconst (3 : Int32) F dX5_measure_74 (by decide) ?_
      refine x_iload_n F dX5_measure_75 rfl 3 rfl ?_
      refine x_imul F dX5_measure_76 ?_
      refine x_iconst (1 : Int32) F dX5_measure_77 (by decide) ?_
      refine x_iadd F dX5_measure_78 ?_
      refine x_iload_n F dX5_measure_79 rfl 0 rfl ?_
      obtain ⟨hz, h⟩ := h
      refine x_iast F (ky_5_2 k_i0) (kn_5_2 k_i0) hz dX5_measure_80 ?_
      refine x_nmS (fun s6 es6 => ?_)
      replace h := h s6 es6
      refine x_aload_n F dX5_measure_81 rfl 2 rfl ?_
      refine g_5_2 F k_i0 in_5 (mc bw_4_10) dX5_measure_82 ?_
      refine x_iconst (3 : Int32) F dX5_measure_85 (by decide) ?_
      refine x_iload_n F dX5_measure_86 rfl 3 rfl ?_
      refine x_imul F dX5_measure_87 ?_
      refine x_iconst (2 : Int32) F dX5_measure_88 (by decide) ?_
      refine x_iadd F dX5_measure_89 ?_
      refine x_aload_n F dX5_measure_90 rfl 2 rfl ?_
      refine x_iload_n F dX5_measure_91 rfl 3 rfl ?_
      refine x_iconst (1 : Int32) F dX5_measure_92 (by decide) ?_
      refine x_callV_i F (c_X5_itemOf (xl X) (xg X) (xA X) F.2.2.1 k_i0 h) (bw_V bw_11_22 bw_11_23 bw_12_0 bw_2_0 bw_12_1) rfl cd_X5_itemOf (Nat.le_of_ble_eq_true rfl) (Nat.le_of_ble_eq_true rfl) (kd_w (by decide) k_i0) rfl (cl_5 k_i0) rfl rfl (Nat.le_of_ble_eq_true rfl) dX5_measure_93 (fun r8 s7 h => ?_)
      refine x_iload_n F dX5_measure_96 rfl 0 rfl ?_
      refine x_imul F dX5_measure_97 ?_
      refine x_aload_n F dX5_measure_98 rfl 2 rfl ?_
      refine x_iload_n F dX5_measure_99 rfl 3 rfl ?_
      refine x_iconst (2 : Int32) F dX5_measure_100 (by decide) ?_
      refine x_callV_i F (c_X5_itemOf (xl X) (xg X) (xA X) F.2.2.1 k_i0 h) (bw_V bw_11_22 bw_11_23 bw_12_0 bw_2_0 bw_12_1) rfl cd_X5_itemOf (Nat.le_of_ble_eq_true rfl) (Nat.le_of_ble_eq_true rfl) (kd_w (by decide) k_i0) rfl (cl_5 k_i0) rfl rfl (Nat.le_of_ble_eq_true rfl) dX5_measure_101 (fun r10 s9 h => ?_)
      refine x_iload_n F dX5_measure_104 rfl 1 rfl ?_
      refine x_imul F dX5_measure_105 ?_
      refine x_isub F dX5_measure_106 ?_
      obtain ⟨hz, h⟩ := h
      refine x_iast F (ky_5_2 k_i0) (kn_5_2 k_i0) hz dX5_measure_107 ?_
      refine x_nmS (fun s11 es11 => ?_)
      replace h := h s11 es11
      refine x_aload_n F dX5_measure_108 rfl 2 rfl ?_
      refine g_5_3 F k_i0 in_5 (mc bw_4_11) dX5_measure_109 ?_
      refine x_iload_n F dX5_measure_112 rfl 3 rfl ?_
      refine x_aload_n F dX5_measure_113 rfl 2 rfl ?_
      refine x_iload_n F dX5_measure_114 rfl 3 rfl ?_
      refine x_iconst (0 : Int32) F dX5_measure_115 (by decide) ?_
      refine x_callV_i F (c_X5_itemOf (xl X) (xg X) (xA X) F.2.2.1 k_i0 h) (bw_V bw_11_22 bw_11_23 bw_12_0 bw_2_0 bw_12_1) rfl cd_X5_itemOf (Nat.le_of_ble_eq_true rfl) (Nat.le_of_ble_eq_true rfl) (kd_w (by decide) k_i0) rfl (cl_5 k_i0) rfl rfl (Nat.le_of_ble_eq_true rfl) dX5_measure_116 (fun r13 s12 h => ?_)
      obtain ⟨hz, h⟩ := h
      refine x_iast F (ky_5_3 k_i0) (kn_5_3 k_i0) hz dX5_measure_119 ?_
      refine x_nmS (fun s14 es14 => ?_)
      replace h := h s14 es14
      refine x_aload_n F dX5_measure_120 rfl 2 rfl ?_
      refine g_5_4 F k_i0 in_5 (mc bw_4_12) dX5_measure_121 ?_
      refine x_iload_n F dX5_measure_124 rfl 3 rfl ?_
      refine x_aload_n F dX5_measure_125 rfl 2 rfl ?_
      refine x_iload_n F dX5_measure_126 rfl 3 rfl ?_
      refine x_bipush (6 : Int32) F dX5_measure_127 (by decide) ?_
      refine x_callV_i F (c_X5_itemOf (xl X) (xg X) (xA X) F.2.2.1 k_i0 h) (bw_V bw_11_22 bw_11_23 bw_12_0 bw_2_0 bw_12_1) rfl cd_X5_itemOf (Nat.le_of_ble_eq_true rfl) (Nat.le_of_ble_eq_true rfl) (kd_w (by decide) k_i0) rfl (cl_5 k_i0) rfl rfl (Nat.le_of_ble_eq_true rfl) dX5_measure_129 (fun r16 s15 h => ?_)
      obtain ⟨hz, h⟩ := h
      refine x_iast F (ky_5_4 k_i0) (kn_5_4 k_i0) hz dX5_measure_132 ?_
      refine x_nmS (fun s17 es17 => ?_)
      replace h := h s17 es17
      obtain ⟨y18, ey18⟩ : ∃ y : Int32, y = (x1 + (1 : Int32)) := ⟨_, rfl⟩
      replace h := h y18 ey18
      refine x_iinc (q := 3) (v := y18) (lv' := [(1, .int y18), (3, .int r4), (2, .int r2), (0, .ref (ad X i0))]) F dX5_measure_133 rfl (by rw [ey18]; rfl) (by decide) rfl ?_
      refine x_goto (tgt := 39) F dX5_measure_136 (by decide) ?_
      refine x_sub (lv' := [(0, .ref (ad X i0)), (1, .int y18)]) [3, 0] rfl ?_
      exact ih _ _ h
def b_X5_measure_30 (i0 : Nat) (K2 : Int32 → wS → Prop) (Q : wS → Prop) (x1 : Int32) (z0 : Int32) (z1 : Int32) (z2 : Nat) (σ : wS) : Prop := vp_in z1 (ln z2) ∧ (∀ s1 : wS, s1 = upI σ z2 (z1).toNatClampNeg (vp_nar .boolean z0) → (∀ y2 : Int32, y2 = (x1 + (1 : Int32)) → (K2 y2 s1)))
set_option maxRecDepth 100000 in
set_option maxHeartbeats 4000000 in
theorem wb_X5_measure_30 {X : XT} {Q : wS → Prop} {i0 : Nat} (F : Fx X cX5_measure 4 RX5 wvX5_measure 1 22) (hret : Rv X 4 cX5_measure Q) (k_i0 : kd i0 = 5) {K2 : Int32 → wS → Prop} (hK2 : ∀ (x1 : Int32) (σ : wS), K2 x1 σ → Wx X 4 σ 2 [(0, .ref (ad X i0)), (1, .int x1)] []) (x1 : Int32) (z0 : Int32) (z1 : Int32) (z2 : Nat) (k_z2 : kd z2 = 16) (σ : wS) (h : b_X5_measure_30 i0 K2 Q x1 z0 z1 z2 σ) : Wx X 4 σ 30 [(0, .ref (ad X i0)), (1, .int x1)] [.int z0, .int z1, .ref (ad X z2)] := by
  unfold b_X5_measure_30 at h
  obtain ⟨hz, h⟩ := h
  refine x_zast F k_z2 rfl hz dX5_measure_30 ?_
  refine x_nmS (fun s1 es1 => ?_)
  replace h := h s1 es1
  obtain ⟨y2, ey2⟩ : ∃ y : Int32, y = (x1 + (1 : Int32)) := ⟨_, rfl⟩
  replace h := h y2 ey2
  refine x_iinc (q := 1) (v := y2) (lv' := [(1, .int y2), (0, .ref (ad X i0))]) F dX5_measure_31 rfl (by rw [ey2]; rfl) (by decide) rfl ?_
  refine x_goto (tgt := 2) F dX5_measure_34 (by decide) ?_
  refine x_sub (lv' := [(0, .ref (ad X i0)), (1, .int y2)]) [1, 0] rfl ?_
  exact hK2 _ _ h
def l_X5_measure_2 (i0 : Nat)  (Q : wS → Prop) : Nat → Int32 → wS → Prop
  | 0, _, _ => False
  | n + 1, x1, σ => ((3 : Int32) ≤ x1 → ((∃ m, l_X5_measure_39 i0  Q m (0 : Int32) σ))) ∧ (¬ (3 : Int32) ≤ x1 → (((((σ.1 (i0 + 1) ((0 : Int32)).toNatClampNeg) >>> (x1 &&& 31)) &&& (1 : Int32)) = 0 → (b_X5_measure_30 i0 (fun x1 σ => l_X5_measure_2 i0  Q n x1 σ) Q x1 (0 : Int32) x1 (i0 + 6) σ)) ∧ (¬ (((σ.1 (i0 + 1) ((0 : Int32)).toNatClampNeg) >>> (x1 &&& 31)) &&& (1 : Int32)) = 0 → (b_X5_measure_30 i0 (fun x1 σ => l_X5_measure_2 i0  Q n x1 σ) Q x1 (1 : Int32) x1 (i0 + 6) σ))))
set_option maxRecDepth 100000 in
set_option maxHeartbeats 4000000 in
theorem wl_X5_measure_2 {X : XT} {Q : wS → Prop} {i0 : Nat} (F : Fx X cX5_measure 4 RX5 wvX5_measure 1 22) (hret : Rv X 4 cX5_measure Q) (k_i0 : kd i0 = 5)   : ∀ (n : Nat) (x1 : Int32) (σ : wS), l_X5_measure_2 i0  Q n x1 σ → Wx X 4 σ 2 [(0, .ref (ad X i0)), (1, .int x1)] [] := by
  intro n
  induction n with
  | zero =>
    intros
    contradiction
  | succ n ih =>
    intro x1 σ h
    simp only [l_X5_measure_2] at h
    refine x_iload_n F dX5_measure_2 rfl 1 rfl ?_
    refine x_iconst (3 : Int32) F dX5_measure_3 (by decide) ?_
    refine x_icmp_ge (tgt := 37) F dX5_measure_4 (by decide) (fun c => ?_) (fun c => ?_)
    · replace h := h.1 c
      refine x_iconst (0 : Int32) F dX5_measure_37 (by decide) ?_
      refine x_istore_n (lv' := [(1, .int (0 : Int32)), (0, .ref (ad X i0))]) F dX5_measure_38 rfl (by decide) rfl ?_
      refine x_sub (lv' := [(0, .ref (ad X i0)), (1, .int (0 : Int32))]) [1, 0] rfl ?_
      obtain ⟨n2, h⟩ := h
      exact wl_X5_measure_39 F hret k_i0  n2 _ _ h
    · replace h := h.2 c
      refine x_aload_n F dX5_measure_7 rfl 0 rfl ?_
      refine g_5_5 F k_i0 in_5 (mc bw_4_14) dX5_measure_8 ?_
      refine x_iload_n F dX5_measure_11 rfl 1 rfl ?_
      refine x_aload_n F dX5_measure_12 rfl 0 rfl ?_
      refine g_5_0 F k_i0 in_5 (mc bw_4_8) dX5_measure_13 ?_
      refine x_iconst (0 : Int32) F dX5_measure_16 (by decide) ?_
      refine x_iald F (ky_5_0 k_i0) (kn_5_0 k_i0) (by unfold vp_in; decide) dX5_measure_17 ?_
      refine x_iload_n F dX5_measure_18 rfl 1 rfl ?_
      refine x_ishr F dX5_measure_19 ?_
      refine x_iconst (1 : Int32) F dX5_measure_20 (by decide) ?_
      refine x_iand F dX5_measure_21 ?_
      refine x_if_eq (tgt := 29) F dX5_measure_22 (by decide) (fun c => ?_) (fun c => ?_)
      · replace h := h.1 c
        refine x_iconst (0 : Int32) F dX5_measure_29 (by decide) ?_
        refine x_sub (lv' := [(0, .ref (ad X i0)), (1, .int x1)]) [0, 1] rfl ?_
        exact wb_X5_measure_30 F hret k_i0 ih _ _ _ _ (ky_5_5 k_i0) _ h
      · replace h := h.2 c
        refine x_iconst (1 : Int32) F dX5_measure_25 (by decide) ?_
        refine x_goto (tgt := 30) F dX5_measure_26 (by decide) ?_
        refine x_sub (lv' := [(0, .ref (ad X i0)), (1, .int x1)]) [0, 1] rfl ?_
        exact wb_X5_measure_30 F hret k_i0 ih _ _ _ _ (ky_5_5 k_i0) _ h
def w_X5_measure (i0 : Nat)  (σ : wS) (Q : wS → Prop) : Prop := (∃ m, l_X5_measure_2 i0  Q m (0 : Int32) σ)
set_option maxRecDepth 100000 in
set_option maxHeartbeats 4000000 in
theorem c_X5_measure (l : Launch) (g : wG) (A : Nat → Prop) (hA : adO g A) {i0 : Nat} (k_i0 : kd i0 = 5)  {σ : wS} {Q : wS → Prop} (h : w_X5_measure i0  σ Q) : Mv l yX5_measure wvX5_measure 1 22 g A [.ref (g.2.2 i0)] σ Q := by
  refine mt_v (own := RX5) (lv := [(0, .ref (g.2.2 i0))]) (by decide) rfl rfl hA (Nat.le_of_ble_eq_true rfl) rfl ?_
  intro X hl hg hAA F hret
  subst hl hg hAA
  unfold w_X5_measure at h
  refine x_iconst (0 : Int32) F dX5_measure_0 (by decide) ?_
  refine x_istore_n (lv' := [(1, .int (0 : Int32)), (0, .ref (ad X i0))]) F dX5_measure_1 rfl (by decide) rfl ?_
  refine x_sub (lv' := [(0, .ref (ad X i0)), (1, .int (0 : Int32))]) [1, 0] rfl ?_
  obtain ⟨n2, h⟩ := h
  exact wl_X5_measure_2 F hret k_i0  n2 _ _ h
/-! X5_accordOf -/
abbrev wvX5_accordOf : List Cond := Cond.code yX5_accordOf cX5_accordOf 5 (some .int) :: wsL_law
theorem cd_X5_accordOf : okN yX5_accordOf RX5 2 := by unfold okN; decide +kernel
def b_X5_accordOf_47 (i0 : Nat) (K5 : Int32 → Int32 → Int32 → Int32 → wS → Prop) (Q : Int32 → wS → Prop) (x1 : Int32) (x2 : Int32) (x3 : Int32) (x4 : Int32) (σ : wS) : Prop := ∀ y1 : Int32, y1 = (x4 + (1 : Int32)) → (K5 x1 x2 x3 y1 σ)
set_option maxRecDepth 100000 in
set_option maxHeartbeats 4000000 in
theorem wb_X5_accordOf_47 {X : XT} {Q : Int32 → wS → Prop} {i0 : Nat} (F : Fx X cX5_accordOf 5 RX5 wvX5_accordOf 0 0) (hret : Ri X 5 cX5_accordOf .int Q) (k_i0 : kd i0 = 5) {K5 : Int32 → Int32 → Int32 → Int32 → wS → Prop} (hK5 : ∀ (x1 : Int32) (x2 : Int32) (x3 : Int32) (x4 : Int32) (σ : wS), K5 x1 x2 x3 x4 σ → Wx X 5 σ 5 [(0, .ref (ad X i0)), (1, .int x1), (2, .int x2), (3, .int x3), (4, .int x4)] []) (x1 : Int32) (x2 : Int32) (x3 : Int32) (x4 : Int32) (σ : wS) (h : b_X5_accordOf_47 i0 K5 Q x1 x2 x3 x4 σ) : Wx X 5 σ 47 [(0, .ref (ad X i0)), (1, .int x1), (2, .int x2), (3, .int x3), (4, .int x4)] [] := by
  unfold b_X5_accordOf_47 at h
  obtain ⟨y1, ey1⟩ : ∃ y : Int32, y = (x4 + (1 : Int32)) := ⟨_, rfl⟩
  replace h := h y1 ey1
  refine x_iinc (q := 4) (v := y1) (lv' := [(4, .int y1), (0, .ref (ad X i0)), (1, .int x1), (2, .int x2), (3, .int x3)]) F dX5_accordOf_47 rfl (by rw [ey1]; rfl) (by decide) rfl ?_
  refine x_goto (tgt := 5) F dX5_accordOf_50 (by decide) ?_
  refine x_sub (lv' := [(0, .ref (ad X i0)), (1, .int x1), (2, .int x2), (3, .int x3), (4, .int y1)]) [1, 2, 3, 4, 0] rfl ?_
  exact hK5 _ _ _ _ _ h
def l_X5_accordOf_5 (i0 : Nat)  (Q : Int32 → wS → Prop) : Nat → Int32 → Int32 → Int32 → Int32 → wS → Prop
  | 0, _, _, _, _, _ => False
  | n + 1, x1, x2, x3, x4, σ => ((3 : Int32) ≤ x4 → (Q x3 σ)) ∧ (¬ (3 : Int32) ≤ x4 → (vp_in x4 3 ∧ (((σ.1 (i0 + 6) (x4).toNatClampNeg) = 0 → (b_X5_accordOf_47 i0 (fun x1 x2 x3 x4 σ => l_X5_accordOf_5 i0  Q n x1 x2 x3 x4 σ) Q x1 x2 x3 x4 σ)) ∧ (¬ (σ.1 (i0 + 6) (x4).toNatClampNeg) = 0 → (vp_in (((3 : Int32) * x1) + x4) 24 ∧ (vp_in (((3 : Int32) * x2) + x4) 24 ∧ (∀ y1 : Int32, y1 = (x3 + ((σ.1 (i0 + 3) ((((3 : Int32) * x1) + x4)).toNatClampNeg) * (σ.1 (i0 + 3) ((((3 : Int32) * x2) + x4)).toNatClampNeg))) → (b_X5_accordOf_47 i0 (fun x1 x2 x3 x4 σ => l_X5_accordOf_5 i0  Q n x1 x2 x3 x4 σ) Q x1 x2 y1 x4 σ))))))))
set_option maxRecDepth 100000 in
set_option maxHeartbeats 4000000 in
theorem wl_X5_accordOf_5 {X : XT} {Q : Int32 → wS → Prop} {i0 : Nat} (F : Fx X cX5_accordOf 5 RX5 wvX5_accordOf 0 0) (hret : Ri X 5 cX5_accordOf .int Q) (k_i0 : kd i0 = 5)   : ∀ (n : Nat) (x1 : Int32) (x2 : Int32) (x3 : Int32) (x4 : Int32) (σ : wS), l_X5_accordOf_5 i0  Q n x1 x2 x3 x4 σ → Wx X 5 σ 5 [(0, .ref (ad X i0)), (1, .int x1), (2, .int x2), (3, .int x3), (4, .int x4)] [] := by
  intro n
  induction n with
  | zero =>
    intros
    contradiction
  | succ n ih =>
    intro x1 x2 x3 x4 σ h
    simp only [l_X5_accordOf_5] at h
    refine x_iload F dX5_accordOf_5 4 rfl ?_
    refine x_iconst (3 : Int32) F dX5_accordOf_7 (by decide) ?_
    refine x_icmp_ge (tgt := 53) F dX5_accordOf_8 (by decide) (fun c => ?_) (fun c => ?_)
    · replace h := h.1 c
      refine x_iload_n F dX5_accordOf_53 rfl 3 rfl ?_
      exact hret _ _ _ _ h rfl dX5_accordOf_54
    · replace h := h.2 c
      refine x_aload_n F dX5_accordOf_11 rfl 0 rfl ?_
      refine g_5_5 F k_i0 in_5 (mc bw_4_14) dX5_accordOf_12 ?_
      refine x_iload F dX5_accordOf_15 4 rfl ?_
      obtain ⟨hj, h⟩ := h
      refine x_zald F (ky_5_5 k_i0) (kn_5_5 k_i0) hj dX5_accordOf_17 ?_
      refine x_if_eq (tgt := 47) F dX5_accordOf_18 (by decide) (fun c => ?_) (fun c => ?_)
      · replace h := h.1 c
        refine x_sub (lv' := [(0, .ref (ad X i0)), (1, .int x1), (2, .int x2), (3, .int x3), (4, .int x4)]) [0, 1, 2, 3, 4] rfl ?_
        exact wb_X5_accordOf_47 F hret k_i0 ih _ _ _ _ _ h
      · replace h := h.2 c
        refine x_iload_n F dX5_accordOf_21 rfl 3 rfl ?_
        refine x_aload_n F dX5_accordOf_22 rfl 0 rfl ?_
        refine g_5_2 F k_i0 in_5 (mc bw_4_10) dX5_accordOf_23 ?_
        refine x_iconst (3 : Int32) F dX5_accordOf_26 (by decide) ?_
        refine x_iload_n F dX5_accordOf_27 rfl 1 rfl ?_
        refine x_imul F dX5_accordOf_28 ?_
        refine x_iload F dX5_accordOf_29 4 rfl ?_
        refine x_iadd F dX5_accordOf_31 ?_
        obtain ⟨hj, h⟩ := h
        refine x_iald F (ky_5_2 k_i0) (kn_5_2 k_i0) hj dX5_accordOf_32 ?_
        refine x_aload_n F dX5_accordOf_33 rfl 0 rfl ?_
        refine g_5_2 F k_i0 in_5 (mc bw_4_10) dX5_accordOf_34 ?_
        refine x_iconst (3 : Int32) F dX5_accordOf_37 (by decide) ?_
        refine x_iload_n F dX5_accordOf_38 rfl 2 rfl ?_
        refine x_imul F dX5_accordOf_39 ?_
        refine x_iload F dX5_accordOf_40 4 rfl ?_
        refine x_iadd F dX5_accordOf_42 ?_
        obtain ⟨hj, h⟩ := h
        refine x_iald F (ky_5_2 k_i0) (kn_5_2 k_i0) hj dX5_accordOf_43 ?_
        refine x_imul F dX5_accordOf_44 ?_
        refine x_iadd F dX5_accordOf_45 ?_
        refine x_topi (fun y1 ey1 => ?_)
        replace h := h y1 ey1
        refine x_istore_n (lv' := [(3, .int y1), (0, .ref (ad X i0)), (1, .int x1), (2, .int x2), (4, .int x4)]) F dX5_accordOf_46 rfl (by decide) rfl ?_
        refine x_sub (lv' := [(0, .ref (ad X i0)), (1, .int x1), (2, .int x2), (3, .int y1), (4, .int x4)]) [1, 2, 3, 0, 4] rfl ?_
        exact wb_X5_accordOf_47 F hret k_i0 ih _ _ _ _ _ h
def w_X5_accordOf (i0 : Nat) (p0 : Int32) (p1 : Int32) (σ : wS) (Q : Int32 → wS → Prop) : Prop := (∃ m, l_X5_accordOf_5 i0  Q m p0 p1 (0 : Int32) (0 : Int32) σ)
set_option maxRecDepth 100000 in
set_option maxHeartbeats 4000000 in
theorem c_X5_accordOf (l : Launch) (g : wG) (A : Nat → Prop) (hA : adO g A) {i0 : Nat} (k_i0 : kd i0 = 5) {p0 : Int32} {p1 : Int32} {σ : wS} {Q : Int32 → wS → Prop} (h : w_X5_accordOf i0 p0 p1 σ Q) : Mi l yX5_accordOf wvX5_accordOf 0 0 g A [.ref (g.2.2 i0), .int p0, .int p1] σ Q := by
  refine mt_i (own := RX5) (lv := [(0, .ref (g.2.2 i0)), (1, .int p0), (2, .int p1)]) (by decide) rfl rfl hA (Nat.le_of_ble_eq_true rfl) rfl ?_
  intro X hl hg hAA F hret
  subst hl hg hAA
  unfold w_X5_accordOf at h
  refine x_iconst (0 : Int32) F dX5_accordOf_0 (by decide) ?_
  refine x_istore_n (lv' := [(3, .int (0 : Int32)), (0, .ref (ad X i0)), (1, .int p0), (2, .int p1)]) F dX5_accordOf_1 rfl (by decide) rfl ?_
  refine x_iconst (0 : Int32) F dX5_accordOf_2 (by decide) ?_
  refine x_istore (lv' := [(4, .int (0 : Int32)), (3, .int (0 : Int32)), (0, .ref (ad X i0)), (1, .int p0), (2, .int p1)]) F dX5_accordOf_3 (by decide) rfl ?_
  refine x_sub (lv' := [(0, .ref (ad X i0)), (1, .int p0), (2, .int p1), (3, .int (0 : Int32)), (4, .int (0 : Int32))]) [2, 3, 4, 1, 0] rfl ?_
  obtain ⟨n2, h⟩ := h
  exact wl_X5_accordOf_5 F hret k_i0  n2 _ _ _ _ _ h
/-! X5_stiffnessOf -/
abbrev wvX5_stiffnessOf : List Cond := Cond.code yX5_stiffnessOf cX5_stiffnessOf 4 (some .int) :: wsL_law
theorem cd_X5_stiffnessOf : okN yX5_stiffnessOf RX5 1 := by unfold okN; decide +kernel
def b_X5_stiffnessOf_29 (i0 : Nat) (K4 : Int32 → Int32 → Int32 → wS → Prop) (Q : Int32 → wS → Prop) (x1 : Int32) (x2 : Int32) (x3 : Int32) (σ : wS) : Prop := ∀ y1 : Int32, y1 = (x3 + (1 : Int32)) → (K4 x1 x2 y1 σ)
set_option maxRecDepth 100000 in
set_option maxHeartbeats 4000000 in
theorem wb_X5_stiffnessOf_29 {X : XT} {Q : Int32 → wS → Prop} {i0 : Nat} (F : Fx X cX5_stiffnessOf 4 RX5 wvX5_stiffnessOf 0 0) (hret : Ri X 4 cX5_stiffnessOf .int Q) (k_i0 : kd i0 = 5) {K4 : Int32 → Int32 → Int32 → wS → Prop} (hK4 : ∀ (x1 : Int32) (x2 : Int32) (x3 : Int32) (σ : wS), K4 x1 x2 x3 σ → Wx X 4 σ 4 [(0, .ref (ad X i0)), (1, .int x1), (2, .int x2), (3, .int x3)] []) (x1 : Int32) (x2 : Int32) (x3 : Int32) (σ : wS) (h : b_X5_stiffnessOf_29 i0 K4 Q x1 x2 x3 σ) : Wx X 4 σ 29 [(0, .ref (ad X i0)), (1, .int x1), (2, .int x2), (3, .int x3)] [] := by
  unfold b_X5_stiffnessOf_29 at h
  obtain ⟨y1, ey1⟩ : ∃ y : Int32, y = (x3 + (1 : Int32)) := ⟨_, rfl⟩
  replace h := h y1 ey1
  refine x_iinc (q := 3) (v := y1) (lv' := [(3, .int y1), (0, .ref (ad X i0)), (1, .int x1), (2, .int x2)]) F dX5_stiffnessOf_29 rfl (by rw [ey1]; rfl) (by decide) rfl ?_
  refine x_goto (tgt := 4) F dX5_stiffnessOf_32 (by decide) ?_
  refine x_sub (lv' := [(0, .ref (ad X i0)), (1, .int x1), (2, .int x2), (3, .int y1)]) [1, 2, 3, 0] rfl ?_
  exact hK4 _ _ _ _ h
def l_X5_stiffnessOf_4 (i0 : Nat)  (Q : Int32 → wS → Prop) : Nat → Int32 → Int32 → Int32 → wS → Prop
  | 0, _, _, _, _ => False
  | n + 1, x1, x2, x3, σ => ((σ.1 i0 6) ≤ x3 → (Q x2 σ)) ∧ (¬ (σ.1 i0 6) ≤ x3 → ((((x1 >>> (x3 &&& 31)) &&& (1 : Int32)) = 0 → (b_X5_stiffnessOf_29 i0 (fun x1 x2 x3 σ => l_X5_stiffnessOf_4 i0  Q n x1 x2 x3 σ) Q x1 x2 x3 σ)) ∧ (¬ ((x1 >>> (x3 &&& 31)) &&& (1 : Int32)) = 0 → (vp_in x3 8 ∧ (∀ y1 : Int32, y1 = (x2 + (σ.1 (i0 + 4) (x3).toNatClampNeg)) → (b_X5_stiffnessOf_29 i0 (fun x1 x2 x3 σ => l_X5_stiffnessOf_4 i0  Q n x1 x2 x3 σ) Q x1 y1 x3 σ))))))
set_option maxRecDepth 100000 in
set_option maxHeartbeats 4000000 in
theorem wl_X5_stiffnessOf_4 {X : XT} {Q : Int32 → wS → Prop} {i0 : Nat} (F : Fx X cX5_stiffnessOf 4 RX5 wvX5_stiffnessOf 0 0) (hret : Ri X 4 cX5_stiffnessOf .int Q) (k_i0 : kd i0 = 5)   : ∀ (n : Nat) (x1 : Int32) (x2 : Int32) (x3 : Int32) (σ : wS), l_X5_stiffnessOf_4 i0  Q n x1 x2 x3 σ → Wx X 4 σ 4 [(0, .ref (ad X i0)), (1, .int x1), (2, .int x2), (3, .int x3)] [] := by
  intro n
  induction n with
  | zero =>
    intros
    contradiction
  | succ n ih =>
    intro x1 x2 x3 σ h
    simp only [l_X5_stiffnessOf_4] at h
    refine x_iload_n F dX5_stiffnessOf_4 rfl 3 rfl ?_
    refine x_aload_n F dX5_stiffnessOf_5 rfl 0 rfl ?_
    refine g_5_6 F k_i0 in_5 (mc bw_4_15) dX5_stiffnessOf_6 ?_
    refine x_icmp_ge (tgt := 35) F dX5_stiffnessOf_9 (by decide) (fun c => ?_) (fun c => ?_)
    · replace h := h.1 c
      refine x_iload_n F dX5_stiffnessOf_35 rfl 2 rfl ?_
      exact hret _ _ _ _ h rfl dX5_stiffnessOf_36
    · replace h := h.2 c
      refine x_iload_n F dX5_stiffnessOf_12 rfl 1 rfl ?_
      refine x_iload_n F dX5_stiffnessOf_13 rfl 3 rfl ?_
      refine x_ishr F dX5_stiffnessOf_14 ?_
      refine x_iconst (1 : Int32) F dX5_stiffnessOf_15 (by decide) ?_
      refine x_iand F dX5_stiffnessOf_16 ?_
      refine x_if_eq (tgt := 29) F dX5_stiffnessOf_17 (by decide) (fun c => ?_) (fun c => ?_)
      · replace h := h.1 c
        refine x_sub (lv' := [(0, .ref (ad X i0)), (1, .int x1), (2, .int x2), (3, .int x3)]) [0, 1, 2, 3] rfl ?_
        exact wb_X5_stiffnessOf_29 F hret k_i0 ih _ _ _ _ h
      · replace h := h.2 c
        refine x_iload_n F dX5_stiffnessOf_20 rfl 2 rfl ?_
        refine x_aload_n F dX5_stiffnessOf_21 rfl 0 rfl ?_
        refine g_5_3 F k_i0 in_5 (mc bw_4_11) dX5_stiffnessOf_22 ?_
        refine x_iload_n F dX5_stiffnessOf_25 rfl 3 rfl ?_
        obtain ⟨hj, h⟩ := h
        refine x_iald F (ky_5_3 k_i0) (kn_5_3 k_i0) hj dX5_stiffnessOf_26 ?_
        refine x_iadd F dX5_stiffnessOf_27 ?_
        refine x_topi (fun y1 ey1 => ?_)
        replace h := h y1 ey1
        refine x_istore_n (lv' := [(2, .int y1), (0, .ref (ad X i0)), (1, .int x1), (3, .int x3)]) F dX5_stiffnessOf_28 rfl (by decide) rfl ?_
        refine x_sub (lv' := [(0, .ref (ad X i0)), (1, .int x1), (2, .int y1), (3, .int x3)]) [1, 2, 0, 3] rfl ?_
        exact wb_X5_stiffnessOf_29 F hret k_i0 ih _ _ _ _ h
def w_X5_stiffnessOf (i0 : Nat) (p0 : Int32) (σ : wS) (Q : Int32 → wS → Prop) : Prop := (∃ m, l_X5_stiffnessOf_4 i0  Q m p0 (0 : Int32) (0 : Int32) σ)
set_option maxRecDepth 100000 in
set_option maxHeartbeats 4000000 in
theorem c_X5_stiffnessOf (l : Launch) (g : wG) (A : Nat → Prop) (hA : adO g A) {i0 : Nat} (k_i0 : kd i0 = 5) {p0 : Int32} {σ : wS} {Q : Int32 → wS → Prop} (h : w_X5_stiffnessOf i0 p0 σ Q) : Mi l yX5_stiffnessOf wvX5_stiffnessOf 0 0 g A [.ref (g.2.2 i0), .int p0] σ Q := by
  refine mt_i (own := RX5) (lv := [(0, .ref (g.2.2 i0)), (1, .int p0)]) (by decide) rfl rfl hA (Nat.le_of_ble_eq_true rfl) rfl ?_
  intro X hl hg hAA F hret
  subst hl hg hAA
  unfold w_X5_stiffnessOf at h
  refine x_iconst (0 : Int32) F dX5_stiffnessOf_0 (by decide) ?_
  refine x_istore_n (lv' := [(2, .int (0 : Int32)), (0, .ref (ad X i0)), (1, .int p0)]) F dX5_stiffnessOf_1 rfl (by decide) rfl ?_
  refine x_iconst (0 : Int32) F dX5_stiffnessOf_2 (by decide) ?_
  refine x_istore_n (lv' := [(3, .int (0 : Int32)), (2, .int (0 : Int32)), (0, .ref (ad X i0)), (1, .int p0)]) F dX5_stiffnessOf_3 rfl (by decide) rfl ?_
  refine x_sub (lv' := [(0, .ref (ad X i0)), (1, .int p0), (2, .int (0 : Int32)), (3, .int (0 : Int32))]) [2, 3, 1, 0] rfl ?_
  obtain ⟨n2, h⟩ := h
  exact wl_X5_stiffnessOf_4 F hret k_i0  n2 _ _ _ _ h
/-! X6_clear -/
abbrev wvX6_clear : List Cond := Cond.code yX6_clear cX6_clear 1 none :: wsL_law
theorem cd_X6_clear : okN yX6_clear RX6 0 := by unfold okN; decide +kernel
def w_X6_clear   (σ : wS) (Q : wS → Prop) : Prop := ∀ s1 : wS, s1 = upI σ 50 2 (0 : Int32) → (Q s1)
set_option maxRecDepth 100000 in
set_option maxHeartbeats 4000000 in
theorem c_X6_clear (l : Launch) (g : wG) (A : Nat → Prop) (hA : adO g A)    {σ : wS} {Q : wS → Prop} (h : w_X6_clear   σ Q) : Mv l yX6_clear wvX6_clear 0 0 g A [.ref (g.2.2 50)] σ Q := by
  refine mt_v (own := RX6) (lv := [(0, .ref (g.2.2 50))]) (by decide) rfl rfl hA (Nat.le_of_ble_eq_true rfl) rfl ?_
  intro X hl hg hAA F hret
  subst hl hg hAA
  unfold w_X6_clear at h
  refine x_aload_n F dX6_clear_0 rfl 0 rfl ?_
  refine x_iconst (0 : Int32) F dX6_clear_1 (by decide) ?_
  refine q_6_2 F kz_50 in_6 (mc bw_6_15) dX6_clear_2 ?_
  refine x_nmS (fun s1 es1 => ?_)
  replace h := h s1 es1
  exact hret _ _ _ h dX6_clear_5
/-! X6_push -/
abbrev wvX6_push : List Cond := Cond.code yX6_push cX6_push 2 none :: wsL_law
theorem cd_X6_push : okN yX6_push RX6 1 := by unfold okN; decide +kernel
def w_X6_push (p0 : Nat)  (σ : wS) (Q : wS → Prop) : Prop := vp_in (σ.1 50 1) 40 ∧ (w_X3_copy (56 + 3 * ((σ.1 50 1)).toNatClampNeg) p0 σ (fun s2 => ∀ s4 : wS, s4 = upI s2 50 1 (((s2.1 50 1) + (1 : Int32)) - ((s2.1 50 1) + (1 : Int32)) / (40 : Int32) * (40 : Int32)) → (∀ s5 : wS, s5 = upI s4 50 2 (if (40 : Int32) < ((s4.1 50 2) + (1 : Int32)) then (40 : Int32) else ((s4.1 50 2) + (1 : Int32))) → (Q s5))))
set_option maxRecDepth 100000 in
set_option maxHeartbeats 4000000 in
theorem c_X6_push (l : Launch) (g : wG) (A : Nat → Prop) (hA : adO g A) {p0 : Nat} (k_p0 : kd p0 = 3)  {σ : wS} {Q : wS → Prop} (h : w_X6_push p0  σ Q) : Mv l yX6_push wvX6_push 2 61 g A [.ref (g.2.2 50), .ref (g.2.2 p0)] σ Q := by
  refine mt_v (own := RX6) (lv := [(0, .ref (g.2.2 50)), (1, .ref (g.2.2 p0))]) (by decide) rfl rfl hA (Nat.le_of_ble_eq_true rfl) rfl ?_
  intro X hl hg hAA F hret
  subst hl hg hAA
  unfold w_X6_push at h
  refine x_aload_n F dX6_push_0 rfl 0 rfl ?_
  refine g_6_0 F kz_50 in_6 (mc bw_6_13) dX6_push_1 ?_
  refine x_aload_n F dX6_push_4 rfl 0 rfl ?_
  refine g_6_1 F kz_50 in_6 (mc bw_6_14) dX6_push_5 ?_
  obtain ⟨hj1, h⟩ := h
  refine x_aald17 F kz_51 nz_51 hj1 dX6_push_8 ?_
  refine x_aload_n F dX6_push_9 rfl 1 rfl ?_
  refine x_callV_v F (c_X3_copy (xl X) (xg X) (xA X) F.2.2.1 (kd_hold hj1) k_p0 h) (bw_V bw_34_22 bw_22_2 bw_22_3 bw_2_8 bw_22_4) rfl cd_X3_copy (Nat.le_of_ble_eq_true rfl) (Nat.le_of_ble_eq_true rfl) (kd_w (by decide) (kd_hold hj1)) rfl (cl_3 (kd_hold hj1)) rfl rfl (Nat.le_of_ble_eq_true rfl) dX6_push_10 (fun s2 h => ?_)
  refine x_aload_n F dX6_push_13 rfl 0 rfl ?_
  refine x_aload_n F dX6_push_14 rfl 0 rfl ?_
  refine g_6_1 F kz_50 in_6 (mc bw_6_14) dX6_push_15 ?_
  refine x_iconst (1 : Int32) F dX6_push_18 (by decide) ?_
  refine x_iadd F dX6_push_19 ?_
  refine x_bipush (40 : Int32) F dX6_push_20 (by decide) ?_
  refine x_irem F dX6_push_22 (by decide) ?_
  refine q_6_1 F kz_50 in_6 (mc bw_6_14) dX6_push_23 ?_
  refine x_nmS (fun s4 es4 => ?_)
  replace h := h s4 es4
  refine x_aload_n F dX6_push_26 rfl 0 rfl ?_
  refine x_aload_n F dX6_push_27 rfl 0 rfl ?_
  refine g_6_2 F kz_50 in_6 (mc bw_6_15) dX6_push_28 ?_
  refine x_iconst (1 : Int32) F dX6_push_31 (by decide) ?_
  refine x_iadd F dX6_push_32 ?_
  refine x_bipush (40 : Int32) F dX6_push_33 (by decide) ?_
  refine x_min F (mc bw_34_19) (mc bw_34_20) (mc bw_29_6) (mc bw_34_21) (Nat.le_of_ble_eq_true rfl) (Nat.le_of_ble_eq_true rfl) dX6_push_35 ?_
  refine q_6_2 F kz_50 in_6 (mc bw_6_15) dX6_push_38 ?_
  refine x_nmS (fun s5 es5 => ?_)
  replace h := h s5 es5
  exact hret _ _ _ h dX6_push_41
/-! X6_pop -/
abbrev wvX6_pop : List Cond := Cond.code yX6_pop cX6_pop 2 (some .boolean) :: wsL_law
theorem cd_X6_pop : okN yX6_pop RX6 1 := by unfold okN; decide +kernel
def w_X6_pop (p0 : Nat)  (σ : wS) (Q : Int32 → wS → Prop) : Prop := (¬ (σ.1 50 2) = 0 → (∀ s1 : wS, s1 = upI σ 50 1 ((((σ.1 50 1) + (40 : Int32)) - (1 : Int32)) - (((σ.1 50 1) + (40 : Int32)) - (1 : Int32)) / (40 : Int32) * (40 : Int32)) → (∀ s2 : wS, s2 = upI s1 50 2 ((s1.1 50 2) - (1 : Int32)) → (vp_in (s2.1 50 1) 40 ∧ (w_X3_copy p0 (56 + 3 * ((s2.1 50 1)).toNatClampNeg) s2 (fun s4 => Q (1 : Int32) s4)))))) ∧ ((σ.1 50 2) = 0 → (Q (0 : Int32) σ))
set_option maxRecDepth 100000 in
set_option maxHeartbeats 4000000 in
theorem c_X6_pop (l : Launch) (g : wG) (A : Nat → Prop) (hA : adO g A) {p0 : Nat} (k_p0 : kd p0 = 3)  {σ : wS} {Q : Int32 → wS → Prop} (h : w_X6_pop p0  σ Q) : Mi l yX6_pop wvX6_pop 2 61 g A [.ref (g.2.2 50), .ref (g.2.2 p0)] σ Q := by
  refine mt_i (own := RX6) (lv := [(0, .ref (g.2.2 50)), (1, .ref (g.2.2 p0))]) (by decide) rfl rfl hA (Nat.le_of_ble_eq_true rfl) rfl ?_
  intro X hl hg hAA F hret
  subst hl hg hAA
  unfold w_X6_pop at h
  refine x_aload_n F dX6_pop_0 rfl 0 rfl ?_
  refine g_6_2 F kz_50 in_6 (mc bw_6_15) dX6_pop_1 ?_
  refine x_if_ne (tgt := 9) F dX6_pop_4 (by decide) (fun c => ?_) (fun c => ?_)
  · replace h := h.1 c
    refine x_aload_n F dX6_pop_9 rfl 0 rfl ?_
    refine x_aload_n F dX6_pop_10 rfl 0 rfl ?_
    refine g_6_1 F kz_50 in_6 (mc bw_6_14) dX6_pop_11 ?_
    refine x_bipush (40 : Int32) F dX6_pop_14 (by decide) ?_
    refine x_iadd F dX6_pop_16 ?_
    refine x_iconst (1 : Int32) F dX6_pop_17 (by decide) ?_
    refine x_isub F dX6_pop_18 ?_
    refine x_bipush (40 : Int32) F dX6_pop_19 (by decide) ?_
    refine x_irem F dX6_pop_21 (by decide) ?_
    refine q_6_1 F kz_50 in_6 (mc bw_6_14) dX6_pop_22 ?_
    refine x_nmS (fun s1 es1 => ?_)
    replace h := h s1 es1
    refine x_aload_n F dX6_pop_25 rfl 0 rfl ?_
    refine x_dup F dX6_pop_26 rfl ?_
    refine g_6_2 F kz_50 in_6 (mc bw_6_15) dX6_pop_27 ?_
    refine x_iconst (1 : Int32) F dX6_pop_30 (by decide) ?_
    refine x_isub F dX6_pop_31 ?_
    refine q_6_2 F kz_50 in_6 (mc bw_6_15) dX6_pop_32 ?_
    refine x_nmS (fun s2 es2 => ?_)
    replace h := h s2 es2
    refine x_aload_n F dX6_pop_35 rfl 1 rfl ?_
    refine x_aload_n F dX6_pop_36 rfl 0 rfl ?_
    refine g_6_0 F kz_50 in_6 (mc bw_6_13) dX6_pop_37 ?_
    refine x_aload_n F dX6_pop_40 rfl 0 rfl ?_
    refine g_6_1 F kz_50 in_6 (mc bw_6_14) dX6_pop_41 ?_
    obtain ⟨hj3, h⟩ := h
    refine x_aald17 F kz_51 nz_51 hj3 dX6_pop_44 ?_
    refine x_callV_v F (c_X3_copy (xl X) (xg X) (xA X) F.2.2.1 k_p0 (kd_hold hj3) h) (bw_V bw_34_22 bw_22_2 bw_22_3 bw_2_8 bw_22_4) rfl cd_X3_copy (Nat.le_of_ble_eq_true rfl) (Nat.le_of_ble_eq_true rfl) (kd_w (by decide) k_p0) rfl (cl_3 k_p0) rfl rfl (Nat.le_of_ble_eq_true rfl) dX6_pop_45 (fun s4 h => ?_)
    refine x_iconst (1 : Int32) F dX6_pop_48 (by decide) ?_
    exact hret _ _ _ _ h (nar01 (by decide)) dX6_pop_49
  · replace h := h.2 c
    refine x_iconst (0 : Int32) F dX6_pop_7 (by decide) ?_
    exact hret _ _ _ _ h (nar01 (by decide)) dX6_pop_8
/-! X7_sign -/
abbrev wvX7_sign : List Cond := Cond.code yX7_sign cX7_sign 1 (some .int) :: wsL_law
theorem cd_X7_sign : okN yX7_sign RX7 0 := by unfold okN; decide +kernel
def w_X7_sign   (σ : wS) (Q : Int32 → wS → Prop) : Prop := ((σ.1 3 1) < 0 → (Q (-1 : Int32) σ)) ∧ (¬ (σ.1 3 1) < 0 → (((σ.1 1 1) ≤ (σ.1 3 1) → (Q (-1 : Int32) σ)) ∧ (¬ (σ.1 1 1) ≤ (σ.1 3 1) → (vp_in (σ.1 3 1) 240 ∧ (Q ((σ.1 2 ((σ.1 3 1)).toNatClampNeg) &&& (255 : Int32)) σ)))))
set_option maxRecDepth 100000 in
set_option maxHeartbeats 4000000 in
theorem c_X7_sign (l : Launch) (g : wG) (A : Nat → Prop) (hA : adO g A)    {σ : wS} {Q : Int32 → wS → Prop} (h : w_X7_sign   σ Q) : Mi l yX7_sign wvX7_sign 0 0 g A [.ref (g.2.2 3)] σ Q := by
  refine mt_i (own := RX7) (lv := [(0, .ref (g.2.2 3))]) (by decide) rfl rfl hA (Nat.le_of_ble_eq_true rfl) rfl ?_
  intro X hl hg hAA F hret
  subst hl hg hAA
  unfold w_X7_sign at h
  refine x_aload_n F dX7_sign_0 rfl 0 rfl ?_
  refine g_7_1 F kz_3 in_7 (mc bw_4_1) dX7_sign_1 ?_
  refine x_if_lt (tgt := 40) F dX7_sign_4 (by decide) (fun c => ?_) (fun c => ?_)
  · replace h := h.1 c
    refine x_iconst (-1 : Int32) F dX7_sign_40 (by decide) ?_
    exact hret _ _ _ _ h rfl dX7_sign_41
  · replace h := h.2 c
    refine x_aload_n F dX7_sign_7 rfl 0 rfl ?_
    refine g_7_1 F kz_3 in_7 (mc bw_4_1) dX7_sign_8 ?_
    refine x_aload_n F dX7_sign_11 rfl 0 rfl ?_
    refine g_7_0 F kz_3 in_7 (mc bw_4_4) dX7_sign_12 ?_
    refine g_10_1 F kz_1 in_10 (mc bw_10_17) dX7_sign_15 ?_
    refine x_icmp_ge (tgt := 40) F dX7_sign_18 (by decide) (fun c => ?_) (fun c => ?_)
    · replace h := h.1 c
      refine x_iconst (-1 : Int32) F dX7_sign_40 (by decide) ?_
      exact hret _ _ _ _ h rfl dX7_sign_41
    · replace h := h.2 c
      refine x_aload_n F dX7_sign_21 rfl 0 rfl ?_
      refine g_7_0 F kz_3 in_7 (mc bw_4_4) dX7_sign_22 ?_
      refine g_10_0 F kz_1 in_10 (mc bw_10_18) dX7_sign_25 ?_
      refine x_aload_n F dX7_sign_28 rfl 0 rfl ?_
      refine g_7_1 F kz_3 in_7 (mc bw_4_1) dX7_sign_29 ?_
      obtain ⟨hj, h⟩ := h
      refine x_bald F kz_2 nz_2 hj dX7_sign_32 ?_
      refine x_sipush (255 : Int32) F dX7_sign_33 (by decide) ?_
      refine x_iand F dX7_sign_36 ?_
      refine x_goto (tgt := 41) F dX7_sign_37 (by decide) ?_
      exact hret _ _ _ _ h rfl dX7_sign_41
/-! X7_skipBlanks -/
abbrev wvX7_skipBlanks : List Cond := Cond.code yX7_skipBlanks cX7_skipBlanks 1 none :: wsL_law
theorem cd_X7_skipBlanks : okN yX7_skipBlanks RX7 0 := by unfold okN; decide +kernel
def l_X7_skipBlanks_0   (Q : wS → Prop) : Nat → wS → Prop
  | 0, _ => False
  | n + 1, σ => ((σ.1 3 1) < 0 → (Q σ)) ∧ (¬ (σ.1 3 1) < 0 → (((σ.1 1 1) ≤ (σ.1 3 1) → (Q σ)) ∧ (¬ (σ.1 1 1) ≤ (σ.1 3 1) → (vp_in (σ.1 3 1) 240 ∧ ((¬ (σ.1 2 ((σ.1 3 1)).toNatClampNeg) = (32 : Int32) → (Q σ)) ∧ ((σ.1 2 ((σ.1 3 1)).toNatClampNeg) = (32 : Int32) → (∀ s1 : wS, s1 = upI σ 3 1 ((σ.1 3 1) + (1 : Int32)) → (l_X7_skipBlanks_0   Q n  s1))))))))
set_option maxRecDepth 100000 in
set_option maxHeartbeats 4000000 in
theorem wl_X7_skipBlanks_0 {X : XT} {Q : wS → Prop}  (F : Fx X cX7_skipBlanks 1 RX7 wvX7_skipBlanks 0 0) (hret : Rv X 1 cX7_skipBlanks Q)    : ∀ (n : Nat)  (σ : wS), l_X7_skipBlanks_0   Q n  σ → Wx X 1 σ 0 [(0, .ref (ad X 3))] [] := by
  intro n
  induction n with
  | zero =>
    intros
    contradiction
  | succ n ih =>
    intro  σ h
    simp only [l_X7_skipBlanks_0] at h
    refine x_aload_n F dX7_skipBlanks_0 rfl 0 rfl ?_
    refine g_7_1 F kz_3 in_7 (mc bw_4_1) dX7_skipBlanks_1 ?_
    refine x_if_lt (tgt := 51) F dX7_skipBlanks_4 (by decide) (fun c => ?_) (fun c => ?_)
    · replace h := h.1 c
      exact hret _ _ _ h dX7_skipBlanks_51
    · replace h := h.2 c
      refine x_aload_n F dX7_skipBlanks_7 rfl 0 rfl ?_
      refine g_7_1 F kz_3 in_7 (mc bw_4_1) dX7_skipBlanks_8 ?_
      refine x_aload_n F dX7_skipBlanks_11 rfl 0 rfl ?_
      refine g_7_0 F kz_3 in_7 (mc bw_4_4) dX7_skipBlanks_12 ?_
      refine g_10_1 F kz_1 in_10 (mc bw_10_17) dX7_skipBlanks_15 ?_
      refine x_icmp_ge (tgt := 51) F dX7_skipBlanks_18 (by decide) (fun c => ?_) (fun c => ?_)
      · replace h := h.1 c
        exact hret _ _ _ h dX7_skipBlanks_51
      · replace h := h.2 c
        refine x_aload_n F dX7_skipBlanks_21 rfl 0 rfl ?_
        refine g_7_0 F kz_3 in_7 (mc bw_4_4) dX7_skipBlanks_22 ?_
        refine g_10_0 F kz_1 in_10 (mc bw_10_18) dX7_skipBlanks_25 ?_
        refine x_aload_n F dX7_skipBlanks_28 rfl 0 rfl ?_
        refine g_7_1 F kz_3 in_7 (mc bw_4_1) dX7_skipBlanks_29 ?_
        obtain ⟨hj, h⟩ := h
        refine x_bald F kz_2 nz_2 hj dX7_skipBlanks_32 ?_
        refine x_bipush (32 : Int32) F dX7_skipBlanks_33 (by decide) ?_
        refine x_icmp_ne (tgt := 51) F dX7_skipBlanks_35 (by decide) (fun c => ?_) (fun c => ?_)
        · replace h := h.1 c
          exact hret _ _ _ h dX7_skipBlanks_51
        · replace h := h.2 c
          refine x_aload_n F dX7_skipBlanks_38 rfl 0 rfl ?_
          refine x_dup F dX7_skipBlanks_39 rfl ?_
          refine g_7_1 F kz_3 in_7 (mc bw_4_1) dX7_skipBlanks_40 ?_
          refine x_iconst (1 : Int32) F dX7_skipBlanks_43 (by decide) ?_
          refine x_iadd F dX7_skipBlanks_44 ?_
          refine q_7_1 F kz_3 in_7 (mc bw_4_1) dX7_skipBlanks_45 ?_
          refine x_nmS (fun s1 es1 => ?_)
          replace h := h s1 es1
          refine x_goto (tgt := 0) F dX7_skipBlanks_48 (by decide) ?_
          refine x_sub (lv' := [(0, .ref (ad X 3))]) [0] rfl ?_
          exact ih  _ h
def w_X7_skipBlanks   (σ : wS) (Q : wS → Prop) : Prop := (∃ m, l_X7_skipBlanks_0   Q m  σ)
set_option maxRecDepth 100000 in
set_option maxHeartbeats 4000000 in
theorem c_X7_skipBlanks (l : Launch) (g : wG) (A : Nat → Prop) (hA : adO g A)    {σ : wS} {Q : wS → Prop} (h : w_X7_skipBlanks   σ Q) : Mv l yX7_skipBlanks wvX7_skipBlanks 0 0 g A [.ref (g.2.2 3)] σ Q := by
  refine mt_v (own := RX7) (lv := [(0, .ref (g.2.2 3))]) (by decide) rfl rfl hA (Nat.le_of_ble_eq_true rfl) rfl ?_
  intro X hl hg hAA F hret
  subst hl hg hAA
  unfold w_X7_skipBlanks at h
  refine x_sub (lv' := [(0, .ref (ad X 3))]) [0] rfl ?_
  obtain ⟨n2, h⟩ := h
  exact wl_X7_skipBlanks_0 F hret   n2  _ h
/-! X7_readSign -/
abbrev wvX7_readSign : List Cond := Cond.code yX7_readSign cX7_readSign 2 (some .boolean) :: wsL_law
theorem cd_X7_readSign : okN yX7_readSign RX7 1 := by unfold okN; decide +kernel
def w_X7_readSign  (p0 : Int32) (σ : wS) (Q : Int32 → wS → Prop) : Prop := w_X7_skipBlanks  σ (fun s1 => w_X7_sign  s1 (fun r4 s3 => (r4 = p0 → (∀ s5 : wS, s5 = upI s3 3 1 ((s3.1 3 1) + (1 : Int32)) → (Q (1 : Int32) s5))) ∧ (¬ r4 = p0 → (Q (0 : Int32) s3))))
set_option maxRecDepth 100000 in
set_option maxHeartbeats 4000000 in
theorem c_X7_readSign (l : Launch) (g : wG) (A : Nat → Prop) (hA : adO g A)   {p0 : Int32} {σ : wS} {Q : Int32 → wS → Prop} (h : w_X7_readSign  p0 σ Q) : Mi l yX7_readSign wvX7_readSign 1 20 g A [.ref (g.2.2 3), .int p0] σ Q := by
  refine mt_i (own := RX7) (lv := [(0, .ref (g.2.2 3)), (1, .int p0)]) (by decide) rfl rfl hA (Nat.le_of_ble_eq_true rfl) rfl ?_
  intro X hl hg hAA F hret
  subst hl hg hAA
  unfold w_X7_readSign at h
  refine x_aload_n F dX7_readSign_0 rfl 0 rfl ?_
  refine x_callV_v F (c_X7_skipBlanks (xl X) (xg X) (xA X) F.2.2.1  h) (bw_V bw_10_13 bw_10_14 bw_10_15 bw_1_20 bw_10_16) rfl cd_X7_skipBlanks (Nat.le_of_ble_eq_true rfl) (Nat.le_of_ble_eq_true rfl) (kd_w (by decide) kz_3) rfl (cl_7 kz_3) rfl rfl (Nat.le_of_ble_eq_true rfl) dX7_readSign_1 (fun s1 h => ?_)
  refine x_aload_n F dX7_readSign_4 rfl 0 rfl ?_
  refine x_callV_i F (c_X7_sign (xl X) (xg X) (xA X) F.2.2.1  h) (bw_V bw_10_19 bw_10_20 bw_10_21 bw_1_20 bw_10_22) rfl cd_X7_sign (Nat.le_of_ble_eq_true rfl) (Nat.le_of_ble_eq_true rfl) (kd_w (by decide) kz_3) rfl (cl_7 kz_3) rfl rfl (Nat.le_of_ble_eq_true rfl) dX7_readSign_5 (fun r4 s3 h => ?_)
  refine x_iload_n F dX7_readSign_8 rfl 1 rfl ?_
  refine x_icmp_eq (tgt := 14) F dX7_readSign_9 (by decide) (fun c => ?_) (fun c => ?_)
  · replace h := h.1 c
    refine x_aload_n F dX7_readSign_14 rfl 0 rfl ?_
    refine x_dup F dX7_readSign_15 rfl ?_
    refine g_7_1 F kz_3 in_7 (mc bw_4_1) dX7_readSign_16 ?_
    refine x_iconst (1 : Int32) F dX7_readSign_19 (by decide) ?_
    refine x_iadd F dX7_readSign_20 ?_
    refine q_7_1 F kz_3 in_7 (mc bw_4_1) dX7_readSign_21 ?_
    refine x_nmS (fun s5 es5 => ?_)
    replace h := h s5 es5
    refine x_iconst (1 : Int32) F dX7_readSign_24 (by decide) ?_
    exact hret _ _ _ _ h (nar01 (by decide)) dX7_readSign_25
  · replace h := h.2 c
    refine x_iconst (0 : Int32) F dX7_readSign_12 (by decide) ?_
    exact hret _ _ _ _ h (nar01 (by decide)) dX7_readSign_13
/-! X7_readDigit -/
abbrev wvX7_readDigit : List Cond := Cond.code yX7_readDigit cX7_readDigit 2 (some .boolean) :: wsL_law
theorem cd_X7_readDigit : okN yX7_readDigit RX7 0 := by unfold okN; decide +kernel
def w_X7_readDigit   (σ : wS) (Q : Int32 → wS → Prop) : Prop := w_X7_skipBlanks  σ (fun s1 => w_X7_sign  s1 (fun r4 s3 => (r4 < (48 : Int32) → (Q (0 : Int32) s3)) ∧ (¬ r4 < (48 : Int32) → ((r4 ≤ (57 : Int32) → (∀ s5 : wS, s5 = upI s3 3 2 (r4 - (48 : Int32)) → (∀ s6 : wS, s6 = upI s5 3 1 ((s5.1 3 1) + (1 : Int32)) → (Q (1 : Int32) s6)))) ∧ (¬ r4 ≤ (57 : Int32) → (Q (0 : Int32) s3))))))
set_option maxRecDepth 100000 in
set_option maxHeartbeats 4000000 in
theorem c_X7_readDigit (l : Launch) (g : wG) (A : Nat → Prop) (hA : adO g A)    {σ : wS} {Q : Int32 → wS → Prop} (h : w_X7_readDigit   σ Q) : Mi l yX7_readDigit wvX7_readDigit 1 20 g A [.ref (g.2.2 3)] σ Q := by
  refine mt_i (own := RX7) (lv := [(0, .ref (g.2.2 3))]) (by decide) rfl rfl hA (Nat.le_of_ble_eq_true rfl) rfl ?_
  intro X hl hg hAA F hret
  subst hl hg hAA
  unfold w_X7_readDigit at h
  refine x_aload_n F dX7_readDigit_0 rfl 0 rfl ?_
  refine x_callV_v F (c_X7_skipBlanks (xl X) (xg X) (xA X) F.2.2.1  h) (bw_V bw_10_13 bw_10_14 bw_10_15 bw_1_20 bw_10_16) rfl cd_X7_skipBlanks (Nat.le_of_ble_eq_true rfl) (Nat.le_of_ble_eq_true rfl) (kd_w (by decide) kz_3) rfl (cl_7 kz_3) rfl rfl (Nat.le_of_ble_eq_true rfl) dX7_readDigit_1 (fun s1 h => ?_)
  refine x_aload_n F dX7_readDigit_4 rfl 0 rfl ?_
  refine x_callV_i F (c_X7_sign (xl X) (xg X) (xA X) F.2.2.1  h) (bw_V bw_10_19 bw_10_20 bw_10_21 bw_1_20 bw_10_22) rfl cd_X7_sign (Nat.le_of_ble_eq_true rfl) (Nat.le_of_ble_eq_true rfl) (kd_w (by decide) kz_3) rfl (cl_7 kz_3) rfl rfl (Nat.le_of_ble_eq_true rfl) dX7_readDigit_5 (fun r4 s3 h => ?_)
  refine x_istore_n (lv' := [(1, .int r4), (0, .ref (ad X 3))]) F dX7_readDigit_8 rfl (by decide) rfl ?_
  refine x_iload_n F dX7_readDigit_9 rfl 0 rfl ?_
  refine x_bipush (48 : Int32) F dX7_readDigit_10 (by decide) ?_
  refine x_icmp_lt (tgt := 21) F dX7_readDigit_12 (by decide) (fun c => ?_) (fun c => ?_)
  · replace h := h.1 c
    refine x_iconst (0 : Int32) F dX7_readDigit_21 (by decide) ?_
    exact hret _ _ _ _ h (nar01 (by decide)) dX7_readDigit_22
  · replace h := h.2 c
    refine x_iload_n F dX7_readDigit_15 rfl 0 rfl ?_
    refine x_bipush (57 : Int32) F dX7_readDigit_16 (by decide) ?_
    refine x_icmp_le (tgt := 23) F dX7_readDigit_18 (by decide) (fun c => ?_) (fun c => ?_)
    · replace h := h.1 c
      refine x_aload_n F dX7_readDigit_23 rfl 1 rfl ?_
      refine x_iload_n F dX7_readDigit_24 rfl 0 rfl ?_
      refine x_bipush (48 : Int32) F dX7_readDigit_25 (by decide) ?_
      refine x_isub F dX7_readDigit_27 ?_
      refine q_7_2 F kz_3 in_7 (mc bw_4_2) dX7_readDigit_28 ?_
      refine x_nmS (fun s5 es5 => ?_)
      replace h := h s5 es5
      refine x_aload_n F dX7_readDigit_31 rfl 1 rfl ?_
      refine x_dup F dX7_readDigit_32 rfl ?_
      refine g_7_1 F kz_3 in_7 (mc bw_4_1) dX7_readDigit_33 ?_
      refine x_iconst (1 : Int32) F dX7_readDigit_36 (by decide) ?_
      refine x_iadd F dX7_readDigit_37 ?_
      refine q_7_1 F kz_3 in_7 (mc bw_4_1) dX7_readDigit_38 ?_
      refine x_nmS (fun s6 es6 => ?_)
      replace h := h s6 es6
      refine x_iconst (1 : Int32) F dX7_readDigit_41 (by decide) ?_
      exact hret _ _ _ _ h (nar01 (by decide)) dX7_readDigit_42
    · replace h := h.2 c
      refine x_iconst (0 : Int32) F dX7_readDigit_21 (by decide) ?_
      exact hret _ _ _ _ h (nar01 (by decide)) dX7_readDigit_22
/-! X7_readNumber -/
abbrev wvX7_readNumber : List Cond := Cond.code yX7_readNumber cX7_readNumber 7 (some .boolean) :: wsL_law
theorem cd_X7_readNumber : okN yX7_readNumber RX7 2 := by unfold okN; decide +kernel
def b_X7_readNumber_151   (Q : Int32 → wS → Prop)  (σ : wS) : Prop := ∀ s1 : wS, s1 = upI σ 3 1 ((σ.1 3 1) - (1 : Int32)) → (Q (0 : Int32) s1)
set_option maxRecDepth 100000 in
set_option maxHeartbeats 4000000 in
theorem wb_X7_readNumber_151 {X : XT} {Q : Int32 → wS → Prop}  (F : Fx X cX7_readNumber 7 RX7 wvX7_readNumber 1 20) (hret : Ri X 7 cX7_readNumber .boolean Q)     (σ : wS) (h : b_X7_readNumber_151   Q  σ) : Wx X 7 σ 151 [(0, .ref (ad X 3))] [] := by
  unfold b_X7_readNumber_151 at h
  refine x_aload_n F dX7_readNumber_151 rfl 0 rfl ?_
  refine x_dup F dX7_readNumber_152 rfl ?_
  refine g_7_1 F kz_3 in_7 (mc bw_4_1) dX7_readNumber_153 ?_
  refine x_iconst (1 : Int32) F dX7_readNumber_156 (by decide) ?_
  refine x_isub F dX7_readNumber_157 ?_
  refine q_7_1 F kz_3 in_7 (mc bw_4_1) dX7_readNumber_158 ?_
  refine x_nmS (fun s1 es1 => ?_)
  replace h := h s1 es1
  refine x_iconst (0 : Int32) F dX7_readNumber_161 (by decide) ?_
  exact hret _ _ _ _ h (nar01 (by decide)) dX7_readNumber_162
def b_X7_readNumber_132   (Q : Int32 → wS → Prop) (x1 : Int32) (x2 : Int32) (z0 : Int32) (σ : wS) : Prop := ∀ s1 : wS, s1 = upI σ 3 2 z0 → (((s1.1 3 2) < x1 → (b_X7_readNumber_151   Q  s1)) ∧ (¬ (s1.1 3 2) < x1 → (((s1.1 3 2) ≤ x2 → (Q (1 : Int32) s1)) ∧ (¬ (s1.1 3 2) ≤ x2 → (b_X7_readNumber_151   Q  s1)))))
set_option maxRecDepth 100000 in
set_option maxHeartbeats 4000000 in
theorem wb_X7_readNumber_132 {X : XT} {Q : Int32 → wS → Prop}  (F : Fx X cX7_readNumber 7 RX7 wvX7_readNumber 1 20) (hret : Ri X 7 cX7_readNumber .boolean Q)    (x1 : Int32) (x2 : Int32) (z0 : Int32) (σ : wS) (h : b_X7_readNumber_132   Q x1 x2 z0 σ) : Wx X 7 σ 132 [(0, .ref (ad X 3)), (1, .int x1), (2, .int x2)] [.int z0, .ref (ad X 3)] := by
  unfold b_X7_readNumber_132 at h
  refine q_7_2 F kz_3 in_7 (mc bw_4_2) dX7_readNumber_132 ?_
  refine x_nmS (fun s1 es1 => ?_)
  replace h := h s1 es1
  refine x_aload_n F dX7_readNumber_135 rfl 0 rfl ?_
  refine g_7_2 F kz_3 in_7 (mc bw_4_2) dX7_readNumber_136 ?_
  refine x_iload_n F dX7_readNumber_139 rfl 1 rfl ?_
  refine x_icmp_lt (tgt := 151) F dX7_readNumber_140 (by decide) (fun c => ?_) (fun c => ?_)
  · replace h := h.1 c
    refine x_sub (lv' := [(0, .ref (ad X 3))]) [0] rfl ?_
    exact wb_X7_readNumber_151 F hret    _ h
  · replace h := h.2 c
    refine x_aload_n F dX7_readNumber_143 rfl 0 rfl ?_
    refine g_7_2 F kz_3 in_7 (mc bw_4_2) dX7_readNumber_144 ?_
    refine x_iload_n F dX7_readNumber_147 rfl 2 rfl ?_
    refine x_icmp_le (tgt := 163) F dX7_readNumber_148 (by decide) (fun c => ?_) (fun c => ?_)
    · replace h := h.1 c
      refine x_iconst (1 : Int32) F dX7_readNumber_163 (by decide) ?_
      exact hret _ _ _ _ h (nar01 (by decide)) dX7_readNumber_164
    · replace h := h.2 c
      refine x_sub (lv' := [(0, .ref (ad X 3))]) [0] rfl ?_
      exact wb_X7_readNumber_151 F hret    _ h
def b_X7_readNumber_118   (Q : Int32 → wS → Prop) (x1 : Int32) (x2 : Int32) (x4 : Int32) (x5 : Int32) (σ : wS) : Prop := (x4 = 0 → (b_X7_readNumber_132   Q x1 x2 x5 σ)) ∧ (¬ x4 = 0 → (b_X7_readNumber_132   Q x1 x2 (-x5) σ))
set_option maxRecDepth 100000 in
set_option maxHeartbeats 4000000 in
theorem wb_X7_readNumber_118 {X : XT} {Q : Int32 → wS → Prop}  (F : Fx X cX7_readNumber 7 RX7 wvX7_readNumber 1 20) (hret : Ri X 7 cX7_readNumber .boolean Q)    (x1 : Int32) (x2 : Int32) (x4 : Int32) (x5 : Int32) (σ : wS) (h : b_X7_readNumber_118   Q x1 x2 x4 x5 σ) : Wx X 7 σ 118 [(0, .ref (ad X 3)), (1, .int x1), (2, .int x2), (4, .int x4), (5, .int x5)] [] := by
  unfold b_X7_readNumber_118 at h
  refine x_aload_n F dX7_readNumber_118 rfl 0 rfl ?_
  refine x_iload F dX7_readNumber_119 3 rfl ?_
  refine x_if_eq (tgt := 130) F dX7_readNumber_121 (by decide) (fun c => ?_) (fun c => ?_)
  · replace h := h.1 c
    refine x_iload F dX7_readNumber_130 4 rfl ?_
    refine x_sub (lv' := [(0, .ref (ad X 3)), (1, .int x1), (2, .int x2)]) [0, 1, 2] rfl ?_
    exact wb_X7_readNumber_132 F hret   _ _ _ _ h
  · replace h := h.2 c
    refine x_iload F dX7_readNumber_124 4 rfl ?_
    refine x_ineg F dX7_readNumber_126 ?_
    refine x_goto (tgt := 132) F dX7_readNumber_127 (by decide) ?_
    refine x_sub (lv' := [(0, .ref (ad X 3)), (1, .int x1), (2, .int x2)]) [0, 1, 2] rfl ?_
    exact wb_X7_readNumber_132 F hret   _ _ _ _ h
def b_X7_readNumber_99   (Q : Int32 → wS → Prop) (x1 : Int32) (x2 : Int32) (x3 : Int32) (x4 : Int32) (x5 : Int32) (x6 : Int32) (σ : wS) : Prop := (x6 = 0 → (Q (0 : Int32) σ)) ∧ (¬ x6 = 0 → ((x3 < (48 : Int32) → (b_X7_readNumber_118   Q x1 x2 x4 x5 σ)) ∧ (¬ x3 < (48 : Int32) → (((57 : Int32) < x3 → (b_X7_readNumber_118   Q x1 x2 x4 x5 σ)) ∧ (¬ (57 : Int32) < x3 → (Q (0 : Int32) σ))))))
set_option maxRecDepth 100000 in
set_option maxHeartbeats 4000000 in
theorem wb_X7_readNumber_99 {X : XT} {Q : Int32 → wS → Prop}  (F : Fx X cX7_readNumber 7 RX7 wvX7_readNumber 1 20) (hret : Ri X 7 cX7_readNumber .boolean Q)    (x1 : Int32) (x2 : Int32) (x3 : Int32) (x4 : Int32) (x5 : Int32) (x6 : Int32) (σ : wS) (h : b_X7_readNumber_99   Q x1 x2 x3 x4 x5 x6 σ) : Wx X 7 σ 99 [(0, .ref (ad X 3)), (1, .int x1), (2, .int x2), (3, .int x3), (4, .int x4), (5, .int x5), (6, .int x6)] [] := by
  unfold b_X7_readNumber_99 at h
  refine x_iload F dX7_readNumber_99 6 rfl ?_
  refine x_if_eq (tgt := 116) F dX7_readNumber_101 (by decide) (fun c => ?_) (fun c => ?_)
  · replace h := h.1 c
    refine x_iconst (0 : Int32) F dX7_readNumber_116 (by decide) ?_
    exact hret _ _ _ _ h (nar01 (by decide)) dX7_readNumber_117
  · replace h := h.2 c
    refine x_iload_n F dX7_readNumber_104 rfl 3 rfl ?_
    refine x_bipush (48 : Int32) F dX7_readNumber_105 (by decide) ?_
    refine x_icmp_lt (tgt := 118) F dX7_readNumber_107 (by decide) (fun c => ?_) (fun c => ?_)
    · replace h := h.1 c
      refine x_sub (lv' := [(0, .ref (ad X 3)), (1, .int x1), (2, .int x2), (4, .int x4), (5, .int x5)]) [0, 1, 2, 4, 5] rfl ?_
      exact wb_X7_readNumber_118 F hret   _ _ _ _ _ h
    · replace h := h.2 c
      refine x_iload_n F dX7_readNumber_110 rfl 3 rfl ?_
      refine x_bipush (57 : Int32) F dX7_readNumber_111 (by decide) ?_
      refine x_icmp_gt (tgt := 118) F dX7_readNumber_113 (by decide) (fun c => ?_) (fun c => ?_)
      · replace h := h.1 c
        refine x_sub (lv' := [(0, .ref (ad X 3)), (1, .int x1), (2, .int x2), (4, .int x4), (5, .int x5)]) [0, 1, 2, 4, 5] rfl ?_
        exact wb_X7_readNumber_118 F hret   _ _ _ _ _ h
      · replace h := h.2 c
        refine x_iconst (0 : Int32) F dX7_readNumber_116 (by decide) ?_
        exact hret _ _ _ _ h (nar01 (by decide)) dX7_readNumber_117
def l_X7_readNumber_48   (Q : Int32 → wS → Prop) : Nat → Int32 → Int32 → Int32 → Int32 → Int32 → Int32 → wS → Prop
  | 0, _, _, _, _, _, _, _ => False
  | n + 1, x1, x2, x3, x4, x5, x6, σ => ((3 : Int32) ≤ x6 → (b_X7_readNumber_99   Q x1 x2 x3 x4 x5 x6 σ)) ∧ (¬ (3 : Int32) ≤ x6 → ((x3 < (48 : Int32) → (b_X7_readNumber_99   Q x1 x2 x3 x4 x5 x6 σ)) ∧ (¬ x3 < (48 : Int32) → (((57 : Int32) < x3 → (b_X7_readNumber_99   Q x1 x2 x3 x4 x5 x6 σ)) ∧ (¬ (57 : Int32) < x3 → (∀ y1 : Int32, y1 = ((((10 : Int32) * x5) + x3) - (48 : Int32)) → (∀ y2 : Int32, y2 = (x6 + (1 : Int32)) → (∀ s3 : wS, s3 = upI σ 3 1 ((σ.1 3 1) + (1 : Int32)) → (w_X7_sign  s3 (fun r5 s4 => l_X7_readNumber_48   Q n x1 x2 r5 x4 y1 y2 s4))))))))))
set_option maxRecDepth 100000 in
set_option maxHeartbeats 4000000 in
theorem wl_X7_readNumber_48 {X : XT} {Q : Int32 → wS → Prop}  (F : Fx X cX7_readNumber 7 RX7 wvX7_readNumber 1 20) (hret : Ri X 7 cX7_readNumber .boolean Q)    : ∀ (n : Nat) (x1 : Int32) (x2 : Int32) (x3 : Int32) (x4 : Int32) (x5 : Int32) (x6 : Int32) (σ : wS), l_X7_readNumber_48   Q n x1 x2 x3 x4 x5 x6 σ → Wx X 7 σ 48 [(0, .ref (ad X 3)), (1, .int x1), (2, .int x2), (3, .int x3), (4, .int x4), (5, .int x5), (6, .int x6)] [] := by
  intro n
  induction n with
  | zero =>
    intros
    contradiction
  | succ n ih =>
    intro x1 x2 x3 x4 x5 x6 σ h
    simp only [l_X7_readNumber_48] at h
    refine x_iload F dX7_readNumber_48 6 rfl ?_
    refine x_iconst (3 : Int32) F dX7_readNumber_50 (by decide) ?_
    refine x_icmp_ge (tgt := 99) F dX7_readNumber_51 (by decide) (fun c => ?_) (fun c => ?_)
    · replace h := h.1 c
      refine x_sub (lv' := [(0, .ref (ad X 3)), (1, .int x1), (2, .int x2), (3, .int x3), (4, .int x4), (5, .int x5), (6, .int x6)]) [0, 1, 2, 3, 4, 5, 6] rfl ?_
      exact wb_X7_readNumber_99 F hret   _ _ _ _ _ _ _ h
    · replace h := h.2 c
      refine x_iload_n F dX7_readNumber_54 rfl 3 rfl ?_
      refine x_bipush (48 : Int32) F dX7_readNumber_55 (by decide) ?_
      refine x_icmp_lt (tgt := 99) F dX7_readNumber_57 (by decide) (fun c => ?_) (fun c => ?_)
      · replace h := h.1 c
        refine x_sub (lv' := [(0, .ref (ad X 3)), (1, .int x1), (2, .int x2), (3, .int x3), (4, .int x4), (5, .int x5), (6, .int x6)]) [0, 1, 2, 3, 4, 5, 6] rfl ?_
        exact wb_X7_readNumber_99 F hret   _ _ _ _ _ _ _ h
      · replace h := h.2 c
        refine x_iload_n F dX7_readNumber_60 rfl 3 rfl ?_
        refine x_bipush (57 : Int32) F dX7_readNumber_61 (by decide) ?_
        refine x_icmp_gt (tgt := 99) F dX7_readNumber_63 (by decide) (fun c => ?_) (fun c => ?_)
        · replace h := h.1 c
          refine x_sub (lv' := [(0, .ref (ad X 3)), (1, .int x1), (2, .int x2), (3, .int x3), (4, .int x4), (5, .int x5), (6, .int x6)]) [0, 1, 2, 3, 4, 5, 6] rfl ?_
          exact wb_X7_readNumber_99 F hret   _ _ _ _ _ _ _ h
        · replace h := h.2 c
          refine x_bipush (10 : Int32) F dX7_readNumber_66 (by decide) ?_
          refine x_iload F dX7_readNumber_68 5 rfl ?_
          refine x_imul F dX7_readNumber_70 ?_
          refine x_iload_n F dX7_readNumber_71 rfl 3 rfl ?_
          refine x_iadd F dX7_readNumber_72 ?_
          refine x_bipush (48 : Int32) F dX7_readNumber_73 (by decide) ?_
          refine x_isub F dX7_readNumber_75 ?_
          refine x_topi (fun y1 ey1 => ?_)
          replace h := h y1 ey1
          refine x_istore (lv' := [(5, .int y1), (0, .ref (ad X 3)), (1, .int x1), (2, .int x2), (3, .int x3), (4, .int x4), (6, .int x6)]) F dX7_readNumber_76 (by decide) rfl ?_
          obtain ⟨y2, ey2⟩ : ∃ y : Int32, y = (x6 + (1 : Int32)) := ⟨_, rfl⟩
          replace h := h y2 ey2
          refine x_iinc (q := 6) (v := y2) (lv' := [(6, .int y2), (5, .int y1), (0, .ref (ad X 3)), (1, .int x1), (2, .int x2), (3, .int x3), (4, .int x4)]) F dX7_readNumber_78 rfl (by rw [ey2]; rfl) (by decide) rfl ?_
          refine x_aload_n F dX7_readNumber_81 rfl 2 rfl ?_
          refine x_dup F dX7_readNumber_82 rfl ?_
          refine g_7_1 F kz_3 in_7 (mc bw_4_1) dX7_readNumber_83 ?_
          refine x_iconst (1 : Int32) F dX7_readNumber_86 (by decide) ?_
          refine x_iadd F dX7_readNumber_87 ?_
          refine q_7_1 F kz_3 in_7 (mc bw_4_1) dX7_readNumber_88 ?_
          refine x_nmS (fun s3 es3 => ?_)
          replace h := h s3 es3
          refine x_aload_n F dX7_readNumber_91 rfl 2 rfl ?_
          refine x_callV_i F (c_X7_sign (xl X) (xg X) (xA X) F.2.2.1  h) (bw_V bw_10_19 bw_10_20 bw_10_21 bw_1_20 bw_10_22) rfl cd_X7_sign (Nat.le_of_ble_eq_true rfl) (Nat.le_of_ble_eq_true rfl) (kd_w (by decide) kz_3) rfl (cl_7 kz_3) rfl rfl (Nat.le_of_ble_eq_true rfl) dX7_readNumber_92 (fun r5 s4 h => ?_)
          refine x_istore_n (lv' := [(3, .int r5), (6, .int y2), (5, .int y1), (0, .ref (ad X 3)), (1, .int x1), (2, .int x2), (4, .int x4)]) F dX7_readNumber_95 rfl (by decide) rfl ?_
          refine x_goto (tgt := 48) F dX7_readNumber_96 (by decide) ?_
          refine x_sub (lv' := [(0, .ref (ad X 3)), (1, .int x1), (2, .int x2), (3, .int r5), (4, .int x4), (5, .int y1), (6, .int y2)]) [3, 4, 5, 0, 6, 2, 1] rfl ?_
          exact ih _ _ _ _ _ _ _ h
def b_X7_readNumber_42   (Q : Int32 → wS → Prop) (x1 : Int32) (x2 : Int32) (x3 : Int32) (x4 : Int32) (σ : wS) : Prop := (∃ m, l_X7_readNumber_48   Q m x1 x2 x3 x4 (0 : Int32) (0 : Int32) σ)
set_option maxRecDepth 100000 in
set_option maxHeartbeats 4000000 in
theorem wb_X7_readNumber_42 {X : XT} {Q : Int32 → wS → Prop}  (F : Fx X cX7_readNumber 7 RX7 wvX7_readNumber 1 20) (hret : Ri X 7 cX7_readNumber .boolean Q)    (x1 : Int32) (x2 : Int32) (x3 : Int32) (x4 : Int32) (σ : wS) (h : b_X7_readNumber_42   Q x1 x2 x3 x4 σ) : Wx X 7 σ 42 [(0, .ref (ad X 3)), (1, .int x1), (2, .int x2), (3, .int x3), (4, .int x4)] [] := by
  unfold b_X7_readNumber_42 at h
  refine x_iconst (0 : Int32) F dX7_readNumber_42 (by decide) ?_
  refine x_istore (lv' := [(5, .int (0 : Int32)), (0, .ref (ad X 3)), (1, .int x1), (2, .int x2), (3, .int x3), (4, .int x4)]) F dX7_readNumber_43 (by decide) rfl ?_
  refine x_iconst (0 : Int32) F dX7_readNumber_45 (by decide) ?_
  refine x_istore (lv' := [(6, .int (0 : Int32)), (5, .int (0 : Int32)), (0, .ref (ad X 3)), (1, .int x1), (2, .int x2), (3, .int x3), (4, .int x4)]) F dX7_readNumber_46 (by decide) rfl ?_
  refine x_sub (lv' := [(0, .ref (ad X 3)), (1, .int x1), (2, .int x2), (3, .int x3), (4, .int x4), (5, .int (0 : Int32)), (6, .int (0 : Int32))]) [2, 3, 4, 5, 6, 1, 0] rfl ?_
  obtain ⟨n2, h⟩ := h
  exact wl_X7_readNumber_48 F hret   n2 _ _ _ _ _ _ _ h
def b_X7_readNumber_20   (Q : Int32 → wS → Prop) (x1 : Int32) (x2 : Int32) (x3 : Int32) (z0 : Int32) (σ : wS) : Prop := (z0 = 0 → (b_X7_readNumber_42   Q x1 x2 x3 z0 σ)) ∧ (¬ z0 = 0 → (∀ s1 : wS, s1 = upI σ 3 1 ((σ.1 3 1) + (1 : Int32)) → (w_X7_sign  s1 (fun r3 s2 => b_X7_readNumber_42   Q x1 x2 r3 z0 s2))))
set_option maxRecDepth 100000 in
set_option maxHeartbeats 4000000 in
theorem wb_X7_readNumber_20 {X : XT} {Q : Int32 → wS → Prop}  (F : Fx X cX7_readNumber 7 RX7 wvX7_readNumber 1 20) (hret : Ri X 7 cX7_readNumber .boolean Q)    (x1 : Int32) (x2 : Int32) (x3 : Int32) (z0 : Int32) (σ : wS) (h : b_X7_readNumber_20   Q x1 x2 x3 z0 σ) : Wx X 7 σ 20 [(0, .ref (ad X 3)), (1, .int x1), (2, .int x2), (3, .int x3)] [.int z0] := by
  unfold b_X7_readNumber_20 at h
  refine x_istore (lv' := [(4, .int z0), (0, .ref (ad X 3)), (1, .int x1), (2, .int x2), (3, .int x3)]) F dX7_readNumber_20 (by decide) rfl ?_
  refine x_iload F dX7_readNumber_22 0 rfl ?_
  refine x_if_eq (tgt := 42) F dX7_readNumber_24 (by decide) (fun c => ?_) (fun c => ?_)
  · replace h := h.1 c
    refine x_sub (lv' := [(0, .ref (ad X 3)), (1, .int x1), (2, .int x2), (3, .int x3), (4, .int z0)]) [1, 2, 3, 4, 0] rfl ?_
    exact wb_X7_readNumber_42 F hret   _ _ _ _ _ h
  · replace h := h.2 c
    refine x_aload_n F dX7_readNumber_27 rfl 1 rfl ?_
    refine x_dup F dX7_readNumber_28 rfl ?_
    refine g_7_1 F kz_3 in_7 (mc bw_4_1) dX7_readNumber_29 ?_
    refine x_iconst (1 : Int32) F dX7_readNumber_32 (by decide) ?_
    refine x_iadd F dX7_readNumber_33 ?_
    refine q_7_1 F kz_3 in_7 (mc bw_4_1) dX7_readNumber_34 ?_
    refine x_nmS (fun s1 es1 => ?_)
    replace h := h s1 es1
    refine x_aload_n F dX7_readNumber_37 rfl 1 rfl ?_
    refine x_callV_i F (c_X7_sign (xl X) (xg X) (xA X) F.2.2.1  h) (bw_V bw_10_19 bw_10_20 bw_10_21 bw_1_20 bw_10_22) rfl cd_X7_sign (Nat.le_of_ble_eq_true rfl) (Nat.le_of_ble_eq_true rfl) (kd_w (by decide) kz_3) rfl (cl_7 kz_3) rfl rfl (Nat.le_of_ble_eq_true rfl) dX7_readNumber_38 (fun r3 s2 h => ?_)
    refine x_istore_n (lv' := [(3, .int r3), (4, .int z0), (0, .ref (ad X 3)), (1, .int x1), (2, .int x2)]) F dX7_readNumber_41 rfl (by decide) rfl ?_
    refine x_sub (lv' := [(0, .ref (ad X 3)), (1, .int x1), (2, .int x2), (3, .int r3), (4, .int z0)]) [2, 3, 4, 0, 1] rfl ?_
    exact wb_X7_readNumber_42 F hret   _ _ _ _ _ h
def w_X7_readNumber  (p0 : Int32) (p1 : Int32) (σ : wS) (Q : Int32 → wS → Prop) : Prop := w_X7_skipBlanks  σ (fun s1 => w_X7_sign  s1 (fun r4 s3 => (¬ r4 = (45 : Int32) → (b_X7_readNumber_20   Q p0 p1 r4 (0 : Int32) s3)) ∧ (r4 = (45 : Int32) → (b_X7_readNumber_20   Q p0 p1 r4 (1 : Int32) s3))))
set_option maxRecDepth 100000 in
set_option maxHeartbeats 4000000 in
theorem c_X7_readNumber (l : Launch) (g : wG) (A : Nat → Prop) (hA : adO g A)   {p0 : Int32} {p1 : Int32} {σ : wS} {Q : Int32 → wS → Prop} (h : w_X7_readNumber  p0 p1 σ Q) : Mi l yX7_readNumber wvX7_readNumber 1 20 g A [.ref (g.2.2 3), .int p0, .int p1] σ Q := by
  refine mt_i (own := RX7) (lv := [(0, .ref (g.2.2 3)), (1, .int p0), (2, .int p1)]) (by decide) rfl rfl hA (Nat.le_of_ble_eq_true rfl) rfl ?_
  intro X hl hg hAA F hret
  subst hl hg hAA
  unfold w_X7_readNumber at h
  refine x_aload_n F dX7_readNumber_0 rfl 0 rfl ?_
  refine x_callV_v F (c_X7_skipBlanks (xl X) (xg X) (xA X) F.2.2.1  h) (bw_V bw_10_13 bw_10_14 bw_10_15 bw_1_20 bw_10_16) rfl cd_X7_skipBlanks (Nat.le_of_ble_eq_true rfl) (Nat.le_of_ble_eq_true rfl) (kd_w (by decide) kz_3) rfl (cl_7 kz_3) rfl rfl (Nat.le_of_ble_eq_true rfl) dX7_readNumber_1 (fun s1 h => ?_)
  refine x_aload_n F dX7_readNumber_4 rfl 0 rfl ?_
  refine x_callV_i F (c_X7_sign (xl X) (xg X) (xA X) F.2.2.1  h) (bw_V bw_10_19 bw_10_20 bw_10_21 bw_1_20 bw_10_22) rfl cd_X7_sign (Nat.le_of_ble_eq_true rfl) (Nat.le_of_ble_eq_true rfl) (kd_w (by decide) kz_3) rfl (cl_7 kz_3) rfl rfl (Nat.le_of_ble_eq_true rfl) dX7_readNumber_5 (fun r4 s3 h => ?_)
  refine x_istore_n (lv' := [(3, .int r4), (0, .ref (ad X 3)), (1, .int p0), (2, .int p1)]) F dX7_readNumber_8 rfl (by decide) rfl ?_
  refine x_iload_n F dX7_readNumber_9 rfl 0 rfl ?_
  refine x_bipush (45 : Int32) F dX7_readNumber_10 (by decide) ?_
  refine x_icmp_ne (tgt := 19) F dX7_readNumber_12 (by decide) (fun c => ?_) (fun c => ?_)
  · replace h := h.1 c
    refine x_iconst (0 : Int32) F dX7_readNumber_19 (by decide) ?_
    refine x_sub (lv' := [(0, .ref (ad X 3)), (1, .int p0), (2, .int p1), (3, .int r4)]) [1, 2, 3, 0] rfl ?_
    exact wb_X7_readNumber_20 F hret   _ _ _ _ _ h
  · replace h := h.2 c
    refine x_iconst (1 : Int32) F dX7_readNumber_15 (by decide) ?_
    refine x_goto (tgt := 20) F dX7_readNumber_16 (by decide) ?_
    refine x_sub (lv' := [(0, .ref (ad X 3)), (1, .int p0), (2, .int p1), (3, .int r4)]) [1, 2, 3, 0] rfl ?_
    exact wb_X7_readNumber_20 F hret   _ _ _ _ _ h
/-! X7_indexIn -/
abbrev wvX7_indexIn : List Cond := Cond.code yX7_indexIn cX7_indexIn 3 (some .int) :: wsL_law
theorem cd_X7_indexIn : okN yX7_indexIn RX7 2 := by unfold okN; decide +kernel
def l_X7_indexIn_2 (p0 : Nat)  (Q : Int32 → wS → Prop) : Nat → Int32 → Int32 → wS → Prop
  | 0, _, _, _ => False
  | n + 1, x1, x2, σ => ((nI (ln p0)) ≤ x2 → (Q (-1 : Int32) σ)) ∧ (¬ (nI (ln p0)) ≤ x2 → (vp_in x2 (ln p0) ∧ ((¬ (stv p0 (x2).toNatClampNeg) = x1 → (∀ y1 : Int32, y1 = (x2 + (1 : Int32)) → (l_X7_indexIn_2 p0  Q n x1 y1 σ))) ∧ ((stv p0 (x2).toNatClampNeg) = x1 → (Q x2 σ)))))
set_option maxRecDepth 100000 in
set_option maxHeartbeats 4000000 in
theorem wl_X7_indexIn_2 {X : XT} {Q : Int32 → wS → Prop} {p0 : Nat} (F : Fx X cX7_indexIn 3 RX7 wvX7_indexIn 0 0) (hret : Ri X 3 cX7_indexIn .int Q) (k_p0 : kd p0 = 25)   : ∀ (n : Nat) (x1 : Int32) (x2 : Int32) (σ : wS), l_X7_indexIn_2 p0  Q n x1 x2 σ → Wx X 3 σ 2 [(0, .ref (ad X p0)), (1, .int x1), (2, .int x2)] [] := by
  intro n
  induction n with
  | zero =>
    intros
    contradiction
  | succ n ih =>
    intro x1 x2 σ h
    simp only [l_X7_indexIn_2] at h
    refine x_iload_n F dX7_indexIn_2 rfl 2 rfl ?_
    refine x_aload_n F dX7_indexIn_3 rfl 0 rfl ?_
    refine x_alenC F k_p0 rfl dX7_indexIn_4 ?_
    refine x_icmp_ge (tgt := 23) F dX7_indexIn_5 (by decide) (fun c => ?_) (fun c => ?_)
    · replace h := h.1 c
      refine x_iconst (-1 : Int32) F dX7_indexIn_23 (by decide) ?_
      exact hret _ _ _ _ h rfl dX7_indexIn_24
    · replace h := h.2 c
      refine x_aload_n F dX7_indexIn_8 rfl 0 rfl ?_
      refine x_iload_n F dX7_indexIn_9 rfl 2 rfl ?_
      obtain ⟨hj, h⟩ := h
      refine x_caldS F k_p0 rfl hj dX7_indexIn_10 ?_
      refine x_iload_n F dX7_indexIn_11 rfl 1 rfl ?_
      refine x_icmp_ne (tgt := 17) F dX7_indexIn_12 (by decide) (fun c => ?_) (fun c => ?_)
      · replace h := h.1 c
        obtain ⟨y1, ey1⟩ : ∃ y : Int32, y = (x2 + (1 : Int32)) := ⟨_, rfl⟩
        replace h := h y1 ey1
        refine x_iinc (q := 2) (v := y1) (lv' := [(2, .int y1), (0, .ref (ad X p0)), (1, .int x1)]) F dX7_indexIn_17 rfl (by rw [ey1]; rfl) (by decide) rfl ?_
        refine x_goto (tgt := 2) F dX7_indexIn_20 (by decide) ?_
        refine x_sub (lv' := [(0, .ref (ad X p0)), (1, .int x1), (2, .int y1)]) [1, 2, 0] rfl ?_
        exact ih _ _ _ h
      · replace h := h.2 c
        refine x_iload_n F dX7_indexIn_15 rfl 2 rfl ?_
        exact hret _ _ _ _ h rfl dX7_indexIn_16
def w_X7_indexIn (p0 : Nat) (p1 : Int32) (σ : wS) (Q : Int32 → wS → Prop) : Prop := (∃ m, l_X7_indexIn_2 p0  Q m p1 (0 : Int32) σ)
set_option maxRecDepth 100000 in
set_option maxHeartbeats 4000000 in
theorem c_X7_indexIn (l : Launch) (g : wG) (A : Nat → Prop) (hA : adO g A) {p0 : Nat} (k_p0 : kd p0 = 25) {p1 : Int32} {σ : wS} {Q : Int32 → wS → Prop} (h : w_X7_indexIn p0 p1 σ Q) : Mi l yX7_indexIn wvX7_indexIn 0 0 g A [.ref (g.2.2 p0), .int p1] σ Q := by
  refine mt_i (own := RX7) (lv := [(0, .ref (g.2.2 p0)), (1, .int p1)]) (by decide) rfl rfl hA (Nat.le_of_ble_eq_true rfl) rfl ?_
  intro X hl hg hAA F hret
  subst hl hg hAA
  unfold w_X7_indexIn at h
  refine x_iconst (0 : Int32) F dX7_indexIn_0 (by decide) ?_
  refine x_istore_n (lv' := [(2, .int (0 : Int32)), (0, .ref (ad X p0)), (1, .int p1)]) F dX7_indexIn_1 rfl (by decide) rfl ?_
  refine x_sub (lv' := [(0, .ref (ad X p0)), (1, .int p1), (2, .int (0 : Int32))]) [1, 2, 0] rfl ?_
  obtain ⟨n2, h⟩ := h
  exact wl_X7_indexIn_2 F hret k_p0  n2 _ _ _ h
/-! X7_readItems -/
abbrev wvX7_readItems : List Cond := Cond.code yX7_readItems cX7_readItems 10 (some .boolean) :: wsL_law
theorem cd_X7_readItems : okN yX7_readItems RX7 5 := by unfold okN; decide +kernel
def l_X7_readItems_6 (p0 : Nat) (p1 : Nat) (p2 : Nat) (p3 : Nat)  (Q : Int32 → wS → Prop) : Nat → Int32 → Int32 → Int32 → wS → Prop
  | 0, _, _, _, _ => False
  | n + 1, x5, x6, x7, σ => ((nI (ln p0)) < x7 → (Q (0 : Int32) σ)) ∧ (¬ (nI (ln p0)) < x7 → (w_X7_skipBlanks  σ (fun s1 => w_X7_sign  s1 (fun r4 s3 => (r4 = (-1 : Int32) → (Q (1 : Int32) s3)) ∧ (¬ r4 = (-1 : Int32) → ((¬ r4 = (59 : Int32) → (w_X7_indexIn p0 r4 s3 (fun r6 s5 => (r6 = (-1 : Int32) → (Q (0 : Int32) s5)) ∧ (¬ r6 = (-1 : Int32) → ((((x6 >>> (r6 &&& 31)) &&& (1 : Int32)) = 0 → (∀ s7 : wS, s7 = upI s5 3 1 ((s5.1 3 1) + (1 : Int32)) → (vp_in r6 (ln p1) ∧ (vp_in r6 (ln p2) ∧ (w_X7_readNumber (stv p1 (r6).toNatClampNeg) (stv p2 (r6).toNatClampNeg) s7 (fun r9 s8 => (¬ r9 = 0 → (∀ y10 : Int32, y10 = (x6 ||| ((1 : Int32) <<< (r6 &&& 31))) → (vp_in (x5 + r6) (ln p3) ∧ (∀ s11 : wS, s11 = upI s8 p3 ((x5 + r6)).toNatClampNeg (s8.1 3 2) → (∀ y12 : Int32, y12 = (x7 + (1 : Int32)) → (l_X7_readItems_6 p0 p1 p2 p3  Q n x5 y10 y12 s11)))))) ∧ (r9 = 0 → (Q (0 : Int32) s8)))))))) ∧ (¬ ((x6 >>> (r6 &&& 31)) &&& (1 : Int32)) = 0 → (Q (0 : Int32) s5))))))) ∧ (r4 = (59 : Int32) → (Q (1 : Int32) s3))))))))
set_option maxRecDepth 100000 in
set_option maxHeartbeats 4000000 in
theorem wl_X7_readItems_6 {X : XT} {Q : Int32 → wS → Prop} {p0 : Nat} {p1 : Nat} {p2 : Nat} {p3 : Nat} (F : Fx X cX7_readItems 10 RX7 wvX7_readItems 2 46) (hret : Ri X 10 cX7_readItems .boolean Q) (k_p0 : kd p0 = 25) (k_p1 : kd p1 = 24) (k_p2 : kd p2 = 24) (k_p3 : kd p3 = 14)   : ∀ (n : Nat) (x5 : Int32) (x6 : Int32) (x7 : Int32) (σ : wS), l_X7_readItems_6 p0 p1 p2 p3  Q n x5 x6 x7 σ → Wx X 10 σ 6 [(0, .ref (ad X 3)), (1, .ref (ad X p0)), (2, .ref (ad X p1)), (3, .ref (ad X p2)), (4, .ref (ad X p3)), (5, .int x5), (6, .int x6), (7, .int x7)] [] := by
  intro n
  induction n with
  | zero =>
    intros
    contradiction
  | succ n ih =>
    intro x5 x6 x7 σ h
    simp only [l_X7_readItems_6] at h
    refine x_iload F dX7_readItems_6 7 rfl ?_
    refine x_aload_n F dX7_readItems_8 rfl 1 rfl ?_
    refine x_alenC F k_p0 rfl dX7_readItems_9 ?_
    refine x_icmp_gt (tgt := 118) F dX7_readItems_10 (by decide) (fun c => ?_) (fun c => ?_)
    · replace h := h.1 c
      refine x_iconst (0 : Int32) F dX7_readItems_118 (by decide) ?_
      exact hret _ _ _ _ h (nar01 (by decide)) dX7_readItems_119
    · replace h := h.2 c
      refine x_aload_n F dX7_readItems_13 rfl 0 rfl ?_
      refine x_callV_v F (c_X7_skipBlanks (xl X) (xg X) (xA X) F.2.2.1  h) (bw_V bw_10_13 bw_10_14 bw_10_15 bw_1_20 bw_10_16) rfl cd_X7_skipBlanks (Nat.le_of_ble_eq_true rfl) (Nat.le_of_ble_eq_true rfl) (kd_w (by decide) kz_3) rfl (cl_7 kz_3) rfl rfl (Nat.le_of_ble_eq_true rfl) dX7_readItems_14 (fun s1 h => ?_)
      refine x_aload_n F dX7_readItems_17 rfl 0 rfl ?_
      refine x_callV_i F (c_X7_sign (xl X) (xg X) (xA X) F.2.2.1  h) (bw_V bw_10_19 bw_10_20 bw_10_21 bw_1_20 bw_10_22) rfl cd_X7_sign (Nat.le_of_ble_eq_true rfl) (Nat.le_of_ble_eq_true rfl) (kd_w (by decide) kz_3) rfl (cl_7 kz_3) rfl rfl (Nat.le_of_ble_eq_true rfl) dX7_readItems_18 (fun r4 s3 h => ?_)
      refine x_istore (lv' := [(8, .int r4), (0, .ref (ad X 3)), (1, .ref (ad X p0)), (2, .ref (ad X p1)), (3, .ref (ad X p2)), (4, .ref (ad X p3)), (5, .int x5), (6, .int x6), (7, .int x7)]) F dX7_readItems_21 (by decide) rfl ?_
      refine x_iload F dX7_readItems_23 0 rfl ?_
      refine x_iconst (-1 : Int32) F dX7_readItems_25 (by decide) ?_
      refine x_icmp_eq (tgt := 36) F dX7_readItems_26 (by decide) (fun c => ?_) (fun c => ?_)
      · replace h := h.1 c
        refine x_iconst (1 : Int32) F dX7_readItems_36 (by decide) ?_
        exact hret _ _ _ _ h (nar01 (by decide)) dX7_readItems_37
      · replace h := h.2 c
        refine x_iload F dX7_readItems_29 0 rfl ?_
        refine x_bipush (59 : Int32) F dX7_readItems_31 (by decide) ?_
        refine x_icmp_ne (tgt := 38) F dX7_readItems_33 (by decide) (fun c => ?_) (fun c => ?_)
        · replace h := h.1 c
          refine x_aload_n F dX7_readItems_38 rfl 2 rfl ?_
          refine x_iload F dX7_readItems_39 0 rfl ?_
          refine x_callT_i F (c_X7_indexIn (xl X) (xg X) (xA X) F.2.2.1 k_p0 h) (bw_S bw_11_3 bw_11_4 bw_1_20 bw_11_5) rfl cd_X7_indexIn (Nat.le_of_ble_eq_true rfl) (Nat.le_of_ble_eq_true rfl) rfl rfl (Nat.le_of_ble_eq_true rfl) dX7_readItems_41 (fun r6 s5 h => ?_)
          refine x_istore (lv' := [(9, .int r6), (8, .int r4), (0, .ref (ad X 3)), (1, .ref (ad X p0)), (2, .ref (ad X p1)), (3, .ref (ad X p2)), (4, .ref (ad X p3)), (5, .int x5), (6, .int x6), (7, .int x7)]) F dX7_readItems_44 (by decide) rfl ?_
          refine x_iload F dX7_readItems_46 0 rfl ?_
          refine x_iconst (-1 : Int32) F dX7_readItems_48 (by decide) ?_
          refine x_icmp_eq (tgt := 62) F dX7_readItems_49 (by decide) (fun c => ?_) (fun c => ?_)
          · replace h := h.1 c
            refine x_iconst (0 : Int32) F dX7_readItems_62 (by decide) ?_
            exact hret _ _ _ _ h (nar01 (by decide)) dX7_readItems_63
          · replace h := h.2 c
            refine x_iload F dX7_readItems_52 8 rfl ?_
            refine x_iload F dX7_readItems_54 0 rfl ?_
            refine x_ishr F dX7_readItems_56 ?_
            refine x_iconst (1 : Int32) F dX7_readItems_57 (by decide) ?_
            refine x_iand F dX7_readItems_58 ?_
            refine x_if_eq (tgt := 64) F dX7_readItems_59 (by decide) (fun c => ?_) (fun c => ?_)
            · replace h := h.1 c
              refine x_aload_n F dX7_readItems_64 rfl 2 rfl ?_
              refine x_dup F dX7_readItems_65 rfl ?_
              refine g_7_1 F kz_3 in_7 (mc bw_4_1) dX7_readItems_66 ?_
              refine x_iconst (1 : Int32) F dX7_readItems_69 (by decide) ?_
              refine x_iadd F dX7_readItems_70 ?_
              refine q_7_1 F kz_3 in_7 (mc bw_4_1) dX7_readItems_71 ?_
              refine x_nmS (fun s7 es7 => ?_)
              replace h := h s7 es7
              refine x_aload_n F dX7_readItems_74 rfl 2 rfl ?_
              refine x_aload_n F dX7_readItems_75 rfl 4 rfl ?_
              refine x_iload F dX7_readItems_76 0 rfl ?_
              obtain ⟨hj, h⟩ := h
              refine x_ialdS F k_p1 rfl hj dX7_readItems_78 ?_
              refine x_aload_n F dX7_readItems_79 rfl 5 rfl ?_
              refine x_iload F dX7_readItems_80 0 rfl ?_
              obtain ⟨hj, h⟩ := h
              refine x_ialdS F k_p2 rfl hj dX7_readItems_82 ?_
              refine x_callV_i F (c_X7_readNumber (xl X) (xg X) (xA X) F.2.2.1  h) (bw_V bw_11_6 bw_11_7 bw_11_8 bw_1_20 bw_11_9) rfl cd_X7_readNumber (Nat.le_of_ble_eq_true rfl) (Nat.le_of_ble_eq_true rfl) (kd_w (by decide) kz_3) rfl (cl_7 kz_3) rfl rfl (Nat.le_of_ble_eq_true rfl) dX7_readItems_83 (fun r9 s8 h => ?_)
              refine x_if_ne (tgt := 91) F dX7_readItems_86 (by decide) (fun c => ?_) (fun c => ?_)
              · replace h := h.1 c
                refine x_iload F dX7_readItems_91 8 rfl ?_
                refine x_iconst (1 : Int32) F dX7_readItems_93 (by decide) ?_
                refine x_iload F dX7_readItems_94 0 rfl ?_
                refine x_ishl F dX7_readItems_96 ?_
                refine x_ior F dX7_readItems_97 ?_
                refine x_topi (fun y10 ey10 => ?_)
                replace h := h y10 ey10
                refine x_istore (lv' := [(6, .int y10), (9, .int r6), (8, .int r4), (0, .ref (ad X 3)), (1, .ref (ad X p0)), (2, .ref (ad X p1)), (3, .ref (ad X p2)), (4, .ref (ad X p3)), (5, .int x5), (7, .int x7)]) F dX7_readItems_98 (by decide) rfl ?_
                refine x_aload F dX7_readItems_100 7 rfl ?_
                refine x_iload F dX7_readItems_102 8 rfl ?_
                refine x_iload F dX7_readItems_104 1 rfl ?_
                refine x_iadd F dX7_readItems_106 ?_
                refine x_aload_n F dX7_readItems_107 rfl 3 rfl ?_
                refine g_7_2 F kz_3 in_7 (mc bw_4_2) dX7_readItems_108 ?_
                obtain ⟨hz, h⟩ := h
                refine x_iast F k_p3 rfl hz dX7_readItems_111 ?_
                refine x_nmS (fun s11 es11 => ?_)
                replace h := h s11 es11
                obtain ⟨y12, ey12⟩ : ∃ y : Int32, y = (x7 + (1 : Int32)) := ⟨_, rfl⟩
                replace h := h y12 ey12
                refine x_iinc (q := 9) (v := y12) (lv' := [(7, .int y12), (6, .int y10), (9, .int r6), (8, .int r4), (0, .ref (ad X 3)), (1, .ref (ad X p0)), (2, .ref (ad X p1)), (3, .ref (ad X p2)), (4, .ref (ad X p3)), (5, .int x5)]) F dX7_readItems_112 rfl (by rw [ey12]; rfl) (by decide) rfl ?_
                refine x_goto (tgt := 6) F dX7_readItems_115 (by decide) ?_
                refine x_sub (lv' := [(0, .ref (ad X 3)), (1, .ref (ad X p0)), (2, .ref (ad X p1)), (3, .ref (ad X p2)), (4, .ref (ad X p3)), (5, .int x5), (6, .int y10), (7, .int y12)]) [4, 5, 6, 7, 8, 9, 1, 0] rfl ?_
                exact ih _ _ _ _ h
              · replace h := h.2 c
                refine x_iconst (0 : Int32) F dX7_readItems_89 (by decide) ?_
                exact hret _ _ _ _ h (nar01 (by decide)) dX7_readItems_90
            · replace h := h.2 c
              refine x_iconst (0 : Int32) F dX7_readItems_62 (by decide) ?_
              exact hret _ _ _ _ h (nar01 (by decide)) dX7_readItems_63
        · replace h := h.2 c
          refine x_iconst (1 : Int32) F dX7_readItems_36 (by decide) ?_
          exact hret _ _ _ _ h (nar01 (by decide)) dX7_readItems_37
def w_X7_readItems (p0 : Nat) (p1 : Nat) (p2 : Nat) (p3 : Nat) (p4 : Int32) (σ : wS) (Q : Int32 → wS → Prop) : Prop := (∃ m, l_X7_readItems_6 p0 p1 p2 p3  Q m p4 (0 : Int32) (0 : Int32) σ)
set_option maxRecDepth 100000 in
set_option maxHeartbeats 4000000 in
theorem c_X7_readItems (l : Launch) (g : wG) (A : Nat → Prop) (hA : adO g A) {p0 : Nat} {p1 : Nat} {p2 : Nat} {p3 : Nat} (k_p0 : kd p0 = 25) (k_p1 : kd p1 = 24) (k_p2 : kd p2 = 24) (k_p3 : kd p3 = 14) {p4 : Int32} {σ : wS} {Q : Int32 → wS → Prop} (h : w_X7_readItems p0 p1 p2 p3 p4 σ Q) : Mi l yX7_readItems wvX7_readItems 2 46 g A [.ref (g.2.2 3), .ref (g.2.2 p0), .ref (g.2.2 p1), .ref (g.2.2 p2), .ref (g.2.2 p3), .int p4] σ Q := by
  refine mt_i (own := RX7) (lv := [(0, .ref (g.2.2 3)), (1, .ref (g.2.2 p0)), (2, .ref (g.2.2 p1)), (3, .ref (g.2.2 p2)), (4, .ref (g.2.2 p3)), (5, .int p4)]) (by decide) rfl rfl hA (Nat.le_of_ble_eq_true rfl) rfl ?_
  intro X hl hg hAA F hret
  subst hl hg hAA
  unfold w_X7_readItems at h
  refine x_iconst (0 : Int32) F dX7_readItems_0 (by decide) ?_
  refine x_istore (lv' := [(6, .int (0 : Int32)), (0, .ref (ad X 3)), (1, .ref (ad X p0)), (2, .ref (ad X p1)), (3, .ref (ad X p2)), (4, .ref (ad X p3)), (5, .int p4)]) F dX7_readItems_1 (by decide) rfl ?_
  refine x_iconst (0 : Int32) F dX7_readItems_3 (by decide) ?_
  refine x_istore (lv' := [(7, .int (0 : Int32)), (6, .int (0 : Int32)), (0, .ref (ad X 3)), (1, .ref (ad X p0)), (2, .ref (ad X p1)), (3, .ref (ad X p2)), (4, .ref (ad X p3)), (5, .int p4)]) F dX7_readItems_4 (by decide) rfl ?_
  refine x_sub (lv' := [(0, .ref (ad X 3)), (1, .ref (ad X p0)), (2, .ref (ad X p1)), (3, .ref (ad X p2)), (4, .ref (ad X p3)), (5, .int p4), (6, .int (0 : Int32)), (7, .int (0 : Int32))]) [2, 3, 4, 5, 6, 7, 1, 0] rfl ?_
  obtain ⟨n2, h⟩ := h
  exact wl_X7_readItems_6 F hret k_p0 k_p1 k_p2 k_p3  n2 _ _ _ _ h
/-! X7_readClause -/
abbrev wvX7_readClause : List Cond := Cond.code yX7_readClause cX7_readClause 4 (some .boolean) :: wsL_law
theorem cd_X7_readClause : okN yX7_readClause RX7 1 := by unfold okN; decide +kernel
def b_X7_readClause_56 (p0 : Nat)  (Q : Int32 → wS → Prop) (x2 : Int32) (σ : wS) : Prop := (¬ x2 = (114 : Int32) → (Q (0 : Int32) σ)) ∧ (x2 = (114 : Int32) → (((8 : Int32) ≤ (σ.1 p0 6) → (Q (0 : Int32) σ)) ∧ (¬ (8 : Int32) ≤ (σ.1 p0 6) → (∀ s1 : wS, s1 = upI σ 3 1 ((σ.1 3 1) + (1 : Int32)) → (w_X5_addRope p0 s1 (fun r3 s2 => w_X7_readItems 202 203 204 (p0 + 2) r3 s2 (fun r5 s4 => (r5 = 0 ∨ r5 = 1) ∧ Q r5 s4)))))))
set_option maxRecDepth 100000 in
set_option maxHeartbeats 4000000 in
theorem wb_X7_readClause_56 {X : XT} {Q : Int32 → wS → Prop} {p0 : Nat} (F : Fx X cX7_readClause 4 RX7 wvX7_readClause 3 75) (hret : Ri X 4 cX7_readClause .boolean Q) (k_p0 : kd p0 = 5)   (x2 : Int32) (σ : wS) (h : b_X7_readClause_56 p0  Q x2 σ) : Wx X 4 σ 56 [(0, .ref (ad X 3)), (1, .ref (ad X p0)), (2, .int x2)] [] := by
  unfold b_X7_readClause_56 at h
  refine x_iload_n F dX7_readClause_56 rfl 2 rfl ?_
  refine x_bipush (114 : Int32) F dX7_readClause_57 (by decide) ?_
  refine x_icmp_ne (tgt := 105) F dX7_readClause_59 (by decide) (fun c => ?_) (fun c => ?_)
  · replace h := h.1 c
    refine x_iconst (0 : Int32) F dX7_readClause_105 (by decide) ?_
    exact hret _ _ _ _ h (nar01 (by decide)) dX7_readClause_106
  · replace h := h.2 c
    refine x_aload_n F dX7_readClause_62 rfl 1 rfl ?_
    refine g_5_6 F k_p0 in_5 (mc bw_10_11) dX7_readClause_63 ?_
    refine x_bipush (8 : Int32) F dX7_readClause_66 (by decide) ?_
    refine x_icmp_ge (tgt := 105) F dX7_readClause_68 (by decide) (fun c => ?_) (fun c => ?_)
    · replace h := h.1 c
      refine x_iconst (0 : Int32) F dX7_readClause_105 (by decide) ?_
      exact hret _ _ _ _ h (nar01 (by decide)) dX7_readClause_106
    · replace h := h.2 c
      refine x_aload_n F dX7_readClause_71 rfl 0 rfl ?_
      refine x_dup F dX7_readClause_72 rfl ?_
      refine g_7_1 F kz_3 in_7 (mc bw_4_1) dX7_readClause_73 ?_
      refine x_iconst (1 : Int32) F dX7_readClause_76 (by decide) ?_
      refine x_iadd F dX7_readClause_77 ?_
      refine q_7_1 F kz_3 in_7 (mc bw_4_1) dX7_readClause_78 ?_
      refine x_nmS (fun s1 es1 => ?_)
      replace h := h s1 es1
      refine x_aload_n F dX7_readClause_81 rfl 1 rfl ?_
      refine x_callV_i F (c_X5_addRope (xl X) (xg X) (xA X) F.2.2.1 k_p0 h) (bw_V bw_11_10 bw_11_11 bw_11_12 bw_2_0 bw_11_13) rfl cd_X5_addRope (Nat.le_of_ble_eq_true rfl) (Nat.le_of_ble_eq_true rfl) (kd_w (by decide) k_p0) rfl (cl_5 k_p0) rfl rfl (Nat.le_of_ble_eq_true rfl) dX7_readClause_82 (fun r3 s2 h => ?_)
      refine x_istore_n (lv' := [(3, .int r3), (0, .ref (ad X 3)), (1, .ref (ad X p0)), (2, .int x2)]) F dX7_readClause_85 rfl (by decide) rfl ?_
      refine x_aload_n F dX7_readClause_86 rfl 1 rfl ?_
      refine x_getsN (q := 2) F (by decide) (by decide) dX7_readClause_87 ?_
      refine x_getsN (q := 3) F (by decide) (by decide) dX7_readClause_90 ?_
      refine x_getsN (q := 4) F (by decide) (by decide) dX7_readClause_93 ?_
      refine x_aload_n F dX7_readClause_96 rfl 2 rfl ?_
      refine g_5_1 F k_p0 in_5 (mc bw_10_12) dX7_readClause_97 ?_
      refine x_iload_n F dX7_readClause_100 rfl 0 rfl ?_
      refine x_callV_i F (c_X7_readItems (xl X) (xg X) (xA X) F.2.2.1 kz_202 kz_203 kz_204 (ky_5_1 k_p0) h) (bw_V bw_10_23 bw_11_0 bw_11_1 bw_1_20 bw_11_2) rfl cd_X7_readItems (Nat.le_of_ble_eq_true rfl) (Nat.le_of_ble_eq_true rfl) (kd_w (by decide) kz_3) rfl (cl_7 kz_3) rfl rfl (Nat.le_of_ble_eq_true rfl) dX7_readClause_101 (fun r5 s4 h => ?_)
      obtain ⟨hz, h⟩ := h
      exact hret _ _ _ _ h (nar01 hz) dX7_readClause_104
def w_X7_readClause (p0 : Nat)  (σ : wS) (Q : Int32 → wS → Prop) : Prop := w_X7_skipBlanks  σ (fun s1 => w_X7_sign  s1 (fun r4 s3 => (¬ r4 = (115 : Int32) → (b_X7_readClause_56 p0  Q r4 s3)) ∧ (r4 = (115 : Int32) → ((¬ (s3.1 3 3) = 0 → (b_X7_readClause_56 p0  Q r4 s3)) ∧ ((s3.1 3 3) = 0 → (∀ s5 : wS, s5 = upI s3 3 1 ((s3.1 3 1) + (1 : Int32)) → (∀ s6 : wS, s6 = upI s5 3 3 (1 : Int32) → (w_X7_readItems 206 207 208 (p0 + 1) (0 : Int32) s6 (fun r8 s7 => (r8 = 0 ∨ r8 = 1) ∧ Q r8 s7)))))))))
set_option maxRecDepth 100000 in
set_option maxHeartbeats 4000000 in
theorem c_X7_readClause (l : Launch) (g : wG) (A : Nat → Prop) (hA : adO g A) {p0 : Nat} (k_p0 : kd p0 = 5)  {σ : wS} {Q : Int32 → wS → Prop} (h : w_X7_readClause p0  σ Q) : Mi l yX7_readClause wvX7_readClause 3 75 g A [.ref (g.2.2 3), .ref (g.2.2 p0)] σ Q := by
  refine mt_i (own := RX7) (lv := [(0, .ref (g.2.2 3)), (1, .ref (g.2.2 p0))]) (by decide) rfl rfl hA (Nat.le_of_ble_eq_true rfl) rfl ?_
  intro X hl hg hAA F hret
  subst hl hg hAA
  unfold w_X7_readClause at h
  refine x_aload_n F dX7_readClause_0 rfl 0 rfl ?_
  refine x_callV_v F (c_X7_skipBlanks (xl X) (xg X) (xA X) F.2.2.1  h) (bw_V bw_10_13 bw_10_14 bw_10_15 bw_1_20 bw_10_16) rfl cd_X7_skipBlanks (Nat.le_of_ble_eq_true rfl) (Nat.le_of_ble_eq_true rfl) (kd_w (by decide) kz_3) rfl (cl_7 kz_3) rfl rfl (Nat.le_of_ble_eq_true rfl) dX7_readClause_1 (fun s1 h => ?_)
  refine x_aload_n F dX7_readClause_4 rfl 0 rfl ?_
  refine x_callV_i F (c_X7_sign (xl X) (xg X) (xA X) F.2.2.1  h) (bw_V bw_10_19 bw_10_20 bw_10_21 bw_1_20 bw_10_22) rfl cd_X7_sign (Nat.le_of_ble_eq_true rfl) (Nat.le_of_ble_eq_true rfl) (kd_w (by decide) kz_3) rfl (cl_7 kz_3) rfl rfl (Nat.le_of_ble_eq_true rfl) dX7_readClause_5 (fun r4 s3 h => ?_)
  refine x_istore_n (lv' := [(2, .int r4), (0, .ref (ad X 3)), (1, .ref (ad X p0))]) F dX7_readClause_8 rfl (by decide) rfl ?_
  refine x_iload_n F dX7_readClause_9 rfl 0 rfl ?_
  refine x_bipush (115 : Int32) F dX7_readClause_10 (by decide) ?_
  refine x_icmp_ne (tgt := 56) F dX7_readClause_12 (by decide) (fun c => ?_) (fun c => ?_)
  · replace h := h.1 c
    refine x_sub (lv' := [(0, .ref (ad X 3)), (1, .ref (ad X p0)), (2, .int r4)]) [1, 2, 0] rfl ?_
    exact wb_X7_readClause_56 F hret k_p0  _ _ h
  · replace h := h.2 c
    refine x_aload_n F dX7_readClause_15 rfl 1 rfl ?_
    refine g_7_3 F kz_3 in_7 (mc bw_4_3) dX7_readClause_16 ?_
    refine x_if_ne (tgt := 56) F dX7_readClause_19 (by decide) (fun c => ?_) (fun c => ?_)
    · replace h := h.1 c
      refine x_sub (lv' := [(0, .ref (ad X 3)), (1, .ref (ad X p0)), (2, .int r4)]) [1, 2, 0] rfl ?_
      exact wb_X7_readClause_56 F hret k_p0  _ _ h
    · replace h := h.2 c
      refine x_aload_n F dX7_readClause_22 rfl 1 rfl ?_
      refine x_dup F dX7_readClause_23 rfl ?_
      refine g_7_1 F kz_3 in_7 (mc bw_4_1) dX7_readClause_24 ?_
      refine x_iconst (1 : Int32) F dX7_readClause_27 (by decide) ?_
      refine x_iadd F dX7_readClause_28 ?_
      refine q_7_1 F kz_3 in_7 (mc bw_4_1) dX7_readClause_29 ?_
      refine x_nmS (fun s5 es5 => ?_)
      replace h := h s5 es5
      refine x_aload_n F dX7_readClause_32 rfl 1 rfl ?_
      refine x_iconst (1 : Int32) F dX7_readClause_33 (by decide) ?_
      refine q_7_3 F kz_3 (by decide) in_7 (mc bw_4_3) dX7_readClause_34 ?_
      refine x_nmS (fun s6 es6 => ?_)
      replace h := h s6 es6
      refine x_aload_n F dX7_readClause_37 rfl 1 rfl ?_
      refine x_getsN (q := 6) F (by decide) (by decide) dX7_readClause_38 ?_
      refine x_getsN (q := 7) F (by decide) (by decide) dX7_readClause_41 ?_
      refine x_getsN (q := 8) F (by decide) (by decide) dX7_readClause_44 ?_
      refine x_aload_n F dX7_readClause_47 rfl 2 rfl ?_
      refine g_5_0 F k_p0 in_5 (mc bw_10_10) dX7_readClause_48 ?_
      refine x_iconst (0 : Int32) F dX7_readClause_51 (by decide) ?_
      refine x_callV_i F (c_X7_readItems (xl X) (xg X) (xA X) F.2.2.1 kz_206 kz_207 kz_208 (ky_5_0 k_p0) h) (bw_V bw_10_23 bw_11_0 bw_11_1 bw_1_20 bw_11_2) rfl cd_X7_readItems (Nat.le_of_ble_eq_true rfl) (Nat.le_of_ble_eq_true rfl) (kd_w (by decide) kz_3) rfl (cl_7 kz_3) rfl rfl (Nat.le_of_ble_eq_true rfl) dX7_readClause_52 (fun r8 s7 h => ?_)
      obtain ⟨hz, h⟩ := h
      exact hret _ _ _ _ h (nar01 hz) dX7_readClause_55
/-! X7_finish -/
abbrev wvX7_finish : List Cond := Cond.code yX7_finish cX7_finish 2 (some .int) :: wsL_law
theorem cd_X7_finish : okN yX7_finish RX7 1 := by unfold okN; decide +kernel
def w_X7_finish (p0 : Nat)  (σ : wS) (Q : Int32 → wS → Prop) : Prop := w_X5_isWhole p0 σ (fun r2 s1 => (¬ r2 = 0 → (w_X5_measure p0 s1 (fun s3 => Q (-1 : Int32) s3))) ∧ (r2 = 0 → (Q (s1.1 3 1) s1)))
set_option maxRecDepth 100000 in
set_option maxHeartbeats 4000000 in
theorem c_X7_finish (l : Launch) (g : wG) (A : Nat → Prop) (hA : adO g A) {p0 : Nat} (k_p0 : kd p0 = 5)  {σ : wS} {Q : Int32 → wS → Prop} (h : w_X7_finish p0  σ Q) : Mi l yX7_finish wvX7_finish 2 45 g A [.ref (g.2.2 3), .ref (g.2.2 p0)] σ Q := by
  refine mt_i (own := RX7) (lv := [(0, .ref (g.2.2 3)), (1, .ref (g.2.2 p0))]) (by decide) rfl rfl hA (Nat.le_of_ble_eq_true rfl) rfl ?_
  intro X hl hg hAA F hret
  subst hl hg hAA
  unfold w_X7_finish at h
  refine x_aload_n F dX7_finish_0 rfl 1 rfl ?_
  refine x_callV_i F (c_X5_isWhole (xl X) (xg X) (xA X) F.2.2.1 k_p0 h) (bw_V bw_11_18 bw_11_19 bw_11_20 bw_2_0 bw_11_21) rfl cd_X5_isWhole (Nat.le_of_ble_eq_true rfl) (Nat.le_of_ble_eq_true rfl) (kd_w (by decide) k_p0) rfl (cl_5 k_p0) rfl rfl (Nat.le_of_ble_eq_true rfl) dX7_finish_1 (fun r2 s1 h => ?_)
  refine x_if_ne (tgt := 12) F dX7_finish_4 (by decide) (fun c => ?_) (fun c => ?_)
  · replace h := h.1 c
    refine x_aload_n F dX7_finish_12 rfl 1 rfl ?_
    refine x_callV_v F (c_X5_measure (xl X) (xg X) (xA X) F.2.2.1 k_p0 h) (bw_V bw_12_2 bw_12_3 bw_12_4 bw_2_0 bw_12_5) rfl cd_X5_measure (Nat.le_of_ble_eq_true rfl) (Nat.le_of_ble_eq_true rfl) (kd_w (by decide) k_p0) rfl (cl_5 k_p0) rfl rfl (Nat.le_of_ble_eq_true rfl) dX7_finish_13 (fun s3 h => ?_)
    refine x_iconst (-1 : Int32) F dX7_finish_16 (by decide) ?_
    exact hret _ _ _ _ h rfl dX7_finish_17
  · replace h := h.2 c
    refine x_aload_n F dX7_finish_7 rfl 0 rfl ?_
    refine g_7_1 F kz_3 in_7 (mc bw_4_1) dX7_finish_8 ?_
    exact hret _ _ _ _ h rfl dX7_finish_11
/-! X7_readMooring -/
abbrev wvX7_readMooring : List Cond := Cond.code yX7_readMooring cX7_readMooring 3 (some .int) :: wsL_law
theorem cd_X7_readMooring : okN yX7_readMooring RX7 1 := by unfold okN; decide +kernel
def l_X7_readMooring_16 (p0 : Nat)  (Q : Int32 → wS → Prop) : Nat → Int32 → wS → Prop
  | 0, _, _ => False
  | n + 1, x2, σ => ((240 : Int32) ≤ x2 → (Q (σ.1 3 1) σ)) ∧ (¬ (240 : Int32) ≤ x2 → (w_X7_readClause p0 σ (fun r2 s1 => (¬ r2 = 0 → (w_X7_skipBlanks  s1 (fun s3 => w_X7_sign  s3 (fun r6 s5 => (¬ r6 = (-1 : Int32) → (∀ s7 : wS, s7 = upI s5 3 1 ((s5.1 3 1) + (1 : Int32)) → (∀ y8 : Int32, y8 = (x2 + (1 : Int32)) → (l_X7_readMooring_16 p0  Q n y8 s7)))) ∧ (r6 = (-1 : Int32) → (w_X7_finish p0 s5 (fun r10 s9 => Q r10 s9))))))) ∧ (r2 = 0 → (Q (s1.1 3 1) s1)))))
set_option maxRecDepth 100000 in
set_option maxHeartbeats 4000000 in
theorem wl_X7_readMooring_16 {X : XT} {Q : Int32 → wS → Prop} {p0 : Nat} (F : Fx X cX7_readMooring 3 RX7 wvX7_readMooring 4 98) (hret : Ri X 3 cX7_readMooring .int Q) (k_p0 : kd p0 = 5)   : ∀ (n : Nat) (x2 : Int32) (σ : wS), l_X7_readMooring_16 p0  Q n x2 σ → Wx X 3 σ 16 [(0, .ref (ad X 3)), (1, .ref (ad X p0)), (2, .int x2)] [] := by
  intro n
  induction n with
  | zero =>
    intros
    contradiction
  | succ n ih =>
    intro x2 σ h
    simp only [l_X7_readMooring_16] at h
    refine x_iload_n F dX7_readMooring_16 rfl 2 rfl ?_
    refine x_sipush (240 : Int32) F dX7_readMooring_17 (by decide) ?_
    refine x_icmp_ge (tgt := 70) F dX7_readMooring_20 (by decide) (fun c => ?_) (fun c => ?_)
    · replace h := h.1 c
      refine x_aload_n F dX7_readMooring_70 rfl 0 rfl ?_
      refine g_7_1 F kz_3 in_7 (mc bw_4_1) dX7_readMooring_71 ?_
      exact hret _ _ _ _ h rfl dX7_readMooring_74
    · replace h := h.2 c
      refine x_aload_n F dX7_readMooring_23 rfl 0 rfl ?_
      refine x_aload_n F dX7_readMooring_24 rfl 1 rfl ?_
      refine x_callV_i F (c_X7_readClause (xl X) (xg X) (xA X) F.2.2.1 k_p0 h) (bw_V bw_10_6 bw_10_7 bw_10_8 bw_1_20 bw_10_9) rfl cd_X7_readClause (Nat.le_of_ble_eq_true rfl) (Nat.le_of_ble_eq_true rfl) (kd_w (by decide) kz_3) rfl (cl_7 kz_3) rfl rfl (Nat.le_of_ble_eq_true rfl) dX7_readMooring_25 (fun r2 s1 h => ?_)
      refine x_if_ne (tgt := 36) F dX7_readMooring_28 (by decide) (fun c => ?_) (fun c => ?_)
      · replace h := h.1 c
        refine x_aload_n F dX7_readMooring_36 rfl 0 rfl ?_
        refine x_callV_v F (c_X7_skipBlanks (xl X) (xg X) (xA X) F.2.2.1  h) (bw_V bw_10_13 bw_10_14 bw_10_15 bw_1_20 bw_10_16) rfl cd_X7_skipBlanks (Nat.le_of_ble_eq_true rfl) (Nat.le_of_ble_eq_true rfl) (kd_w (by decide) kz_3) rfl (cl_7 kz_3) rfl rfl (Nat.le_of_ble_eq_true rfl) dX7_readMooring_37 (fun s3 h => ?_)
        refine x_aload_n F dX7_readMooring_40 rfl 0 rfl ?_
        refine x_callV_i F (c_X7_sign (xl X) (xg X) (xA X) F.2.2.1  h) (bw_V bw_10_19 bw_10_20 bw_10_21 bw_1_20 bw_10_22) rfl cd_X7_sign (Nat.le_of_ble_eq_true rfl) (Nat.le_of_ble_eq_true rfl) (kd_w (by decide) kz_3) rfl (cl_7 kz_3) rfl rfl (Nat.le_of_ble_eq_true rfl) dX7_readMooring_41 (fun r6 s5 h => ?_)
        refine x_iconst (-1 : Int32) F dX7_readMooring_44 (by decide) ?_
        refine x_icmp_ne (tgt := 54) F dX7_readMooring_45 (by decide) (fun c => ?_) (fun c => ?_)
        · replace h := h.1 c
          refine x_aload_n F dX7_readMooring_54 rfl 0 rfl ?_
          refine x_dup F dX7_readMooring_55 rfl ?_
          refine g_7_1 F kz_3 in_7 (mc bw_4_1) dX7_readMooring_56 ?_
          refine x_iconst (1 : Int32) F dX7_readMooring_59 (by decide) ?_
          refine x_iadd F dX7_readMooring_60 ?_
          refine q_7_1 F kz_3 in_7 (mc bw_4_1) dX7_readMooring_61 ?_
          refine x_nmS (fun s7 es7 => ?_)
          replace h := h s7 es7
          obtain ⟨y8, ey8⟩ : ∃ y : Int32, y = (x2 + (1 : Int32)) := ⟨_, rfl⟩
          replace h := h y8 ey8
          refine x_iinc (q := 2) (v := y8) (lv' := [(2, .int y8), (0, .ref (ad X 3)), (1, .ref (ad X p0))]) F dX7_readMooring_64 rfl (by rw [ey8]; rfl) (by decide) rfl ?_
          refine x_goto (tgt := 16) F dX7_readMooring_67 (by decide) ?_
          refine x_sub (lv' := [(0, .ref (ad X 3)), (1, .ref (ad X p0)), (2, .int y8)]) [1, 2, 0] rfl ?_
          exact ih _ _ h
        · replace h := h.2 c
          refine x_aload_n F dX7_readMooring_48 rfl 0 rfl ?_
          refine x_aload_n F dX7_readMooring_49 rfl 1 rfl ?_
          refine x_callV_i F (c_X7_finish (xl X) (xg X) (xA X) F.2.2.1 k_p0 h) (bw_V bw_11_14 bw_11_15 bw_11_16 bw_1_20 bw_11_17) rfl cd_X7_finish (Nat.le_of_ble_eq_true rfl) (Nat.le_of_ble_eq_true rfl) (kd_w (by decide) kz_3) rfl (cl_7 kz_3) rfl rfl (Nat.le_of_ble_eq_true rfl) dX7_readMooring_50 (fun r10 s9 h => ?_)
          exact hret _ _ _ _ h rfl dX7_readMooring_53
      · replace h := h.2 c
        refine x_aload_n F dX7_readMooring_31 rfl 0 rfl ?_
        refine g_7_1 F kz_3 in_7 (mc bw_4_1) dX7_readMooring_32 ?_
        exact hret _ _ _ _ h rfl dX7_readMooring_35
def w_X7_readMooring (p0 : Nat)  (σ : wS) (Q : Int32 → wS → Prop) : Prop := ∀ s1 : wS, s1 = upI σ 3 1 (0 : Int32) → (∀ s2 : wS, s2 = upI s1 3 3 (0 : Int32) → (w_X5_clear p0 s2 (fun s3 => (∃ m, l_X7_readMooring_16 p0  Q m (0 : Int32) s3))))
set_option maxRecDepth 100000 in
set_option maxHeartbeats 4000000 in
theorem c_X7_readMooring (l : Launch) (g : wG) (A : Nat → Prop) (hA : adO g A) {p0 : Nat} (k_p0 : kd p0 = 5)  {σ : wS} {Q : Int32 → wS → Prop} (h : w_X7_readMooring p0  σ Q) : Mi l yX7_readMooring wvX7_readMooring 4 98 g A [.ref (g.2.2 3), .ref (g.2.2 p0)] σ Q := by
  refine mt_i (own := RX7) (lv := [(0, .ref (g.2.2 3)), (1, .ref (g.2.2 p0))]) (by decide) rfl rfl hA (Nat.le_of_ble_eq_true rfl) rfl ?_
  intro X hl hg hAA F hret
  subst hl hg hAA
  unfold w_X7_readMooring at h
  refine x_aload_n F dX7_readMooring_0 rfl 0 rfl ?_
  refine x_iconst (0 : Int32) F dX7_readMooring_1 (by decide) ?_
  refine q_7_1 F kz_3 in_7 (mc bw_4_1) dX7_readMooring_2 ?_
  refine x_nmS (fun s1 es1 => ?_)
  replace h := h s1 es1
  refine x_aload_n F dX7_readMooring_5 rfl 0 rfl ?_
  refine x_iconst (0 : Int32) F dX7_readMooring_6 (by decide) ?_
  refine q_7_3 F kz_3 (by decide) in_7 (mc bw_4_3) dX7_readMooring_7 ?_
  refine x_nmS (fun s2 es2 => ?_)
  replace h := h s2 es2
  refine x_aload_n F dX7_readMooring_10 rfl 1 rfl ?_
  refine x_callV_v F (c_X5_clear (xl X) (xg X) (xA X) F.2.2.1 k_p0 h) (bw_V bw_9_22 bw_9_23 bw_10_0 bw_2_0 bw_10_1) rfl cd_X5_clear (Nat.le_of_ble_eq_true rfl) (Nat.le_of_ble_eq_true rfl) (kd_w (by decide) k_p0) rfl (cl_5 k_p0) rfl rfl (Nat.le_of_ble_eq_true rfl) dX7_readMooring_11 (fun s3 h => ?_)
  refine x_iconst (0 : Int32) F dX7_readMooring_14 (by decide) ?_
  refine x_istore_n (lv' := [(2, .int (0 : Int32)), (0, .ref (ad X 3)), (1, .ref (ad X p0))]) F dX7_readMooring_15 rfl (by decide) rfl ?_
  refine x_sub (lv' := [(0, .ref (ad X 3)), (1, .ref (ad X p0)), (2, .int (0 : Int32))]) [1, 2, 0] rfl ?_
  obtain ⟨n2, h⟩ := h
  exact wl_X7_readMooring_16 F hret k_p0  n2 _ _ h
/-! X9_put -/
abbrev wvX9_put : List Cond := Cond.code yX9_put cX9_put 4 none :: wsL_law
theorem cd_X9_put : okN yX9_put RX9 3 := by unfold okN; decide +kernel
def w_X9_put (i0 : Nat) (p0 : Int32) (p1 : Int32) (p2 : Int32) (σ : wS) (Q : wS → Prop) : Prop := vp_in (((4 : Int32) * p0) + p1) 64 ∧ (∀ s1 : wS, s1 = upI σ (i0 + 1) ((((4 : Int32) * p0) + p1)).toNatClampNeg p2 → (Q s1))
set_option maxRecDepth 100000 in
set_option maxHeartbeats 4000000 in
theorem c_X9_put (l : Launch) (g : wG) (A : Nat → Prop) (hA : adO g A) {i0 : Nat} (k_i0 : kd i0 = 9) {p0 : Int32} {p1 : Int32} {p2 : Int32} {σ : wS} {Q : wS → Prop} (h : w_X9_put i0 p0 p1 p2 σ Q) : Mv l yX9_put wvX9_put 0 0 g A [.ref (g.2.2 i0), .int p0, .int p1, .int p2] σ Q := by
  refine mt_v (own := RX9) (lv := [(0, .ref (g.2.2 i0)), (1, .int p0), (2, .int p1), (3, .int p2)]) (by decide) rfl rfl hA (Nat.le_of_ble_eq_true rfl) rfl ?_
  intro X hl hg hAA F hret
  subst hl hg hAA
  unfold w_X9_put at h
  refine x_aload_n F dX9_put_0 rfl 0 rfl ?_
  refine g_9_0 F k_i0 in_9 (mc bw_7_1) dX9_put_1 ?_
  refine x_iconst (4 : Int32) F dX9_put_4 (by decide) ?_
  refine x_iload_n F dX9_put_5 rfl 1 rfl ?_
  refine x_imul F dX9_put_6 ?_
  refine x_iload_n F dX9_put_7 rfl 2 rfl ?_
  refine x_iadd F dX9_put_8 ?_
  refine x_iload_n F dX9_put_9 rfl 3 rfl ?_
  obtain ⟨hz, h⟩ := h
  refine x_iast F (ky_9_0 k_i0) (kn_9_0 k_i0) hz dX9_put_10 ?_
  refine x_nmS (fun s1 es1 => ?_)
  replace h := h s1 es1
  exact hret _ _ _ h dX9_put_11
/-! X7_readGust -/
abbrev wvX7_readGust : List Cond := Cond.code yX7_readGust cX7_readGust 4 (some .boolean) :: wsL_law
theorem cd_X7_readGust : okN yX7_readGust RX7 2 := by unfold okN; decide +kernel
def b_X7_readGust_22 (p0 : Nat) (K2 : Int32 → Int32 → wS → Prop) (Q : Int32 → wS → Prop) (x2 : Int32) (x3 : Int32) (σ : wS) : Prop := vp_in x3 3 ∧ (vp_in x3 3 ∧ (w_X7_readNumber (-(stv 200 (x3).toNatClampNeg)) (stv 200 (x3).toNatClampNeg) σ (fun r2 s1 => (¬ r2 = 0 → (w_X9_put p0 x2 (x3 + (1 : Int32)) (s1.1 3 2) s1 (fun s3 => ∀ y5 : Int32, y5 = (x3 + (1 : Int32)) → (K2 x2 y5 s3)))) ∧ (r2 = 0 → (Q (0 : Int32) s1)))))
set_option maxRecDepth 100000 in
set_option maxHeartbeats 4000000 in
theorem wb_X7_readGust_22 {X : XT} {Q : Int32 → wS → Prop} {p0 : Nat} (F : Fx X cX7_readGust 4 RX7 wvX7_readGust 2 46) (hret : Ri X 4 cX7_readGust .boolean Q) (k_p0 : kd p0 = 9) {K2 : Int32 → Int32 → wS → Prop} (hK2 : ∀ (x2 : Int32) (x3 : Int32) (σ : wS), K2 x2 x3 σ → Wx X 4 σ 2 [(0, .ref (ad X 3)), (1, .ref (ad X p0)), (2, .int x2), (3, .int x3)] []) (x2 : Int32) (x3 : Int32) (σ : wS) (h : b_X7_readGust_22 p0 K2 Q x2 x3 σ) : Wx X 4 σ 22 [(0, .ref (ad X 3)), (1, .ref (ad X p0)), (2, .int x2), (3, .int x3)] [] := by
  unfold b_X7_readGust_22 at h
  refine x_aload_n F dX7_readGust_22 rfl 0 rfl ?_
  refine x_getsN (q := 0) F (by decide) (by decide) dX7_readGust_23 ?_
  refine x_iload_n F dX7_readGust_26 rfl 3 rfl ?_
  obtain ⟨hj, h⟩ := h
  refine x_ialdS F kz_200 nz_200 hj dX7_readGust_27 ?_
  refine x_ineg F dX7_readGust_28 ?_
  refine x_getsN (q := 0) F (by decide) (by decide) dX7_readGust_29 ?_
  refine x_iload_n F dX7_readGust_32 rfl 3 rfl ?_
  obtain ⟨hj, h⟩ := h
  refine x_ialdS F kz_200 nz_200 hj dX7_readGust_33 ?_
  refine x_callV_i F (c_X7_readNumber (xl X) (xg X) (xA X) F.2.2.1  h) (bw_V bw_11_6 bw_11_7 bw_11_8 bw_1_20 bw_11_9) rfl cd_X7_readNumber (Nat.le_of_ble_eq_true rfl) (Nat.le_of_ble_eq_true rfl) (kd_w (by decide) kz_3) rfl (cl_7 kz_3) rfl rfl (Nat.le_of_ble_eq_true rfl) dX7_readGust_34 (fun r2 s1 h => ?_)
  refine x_if_ne (tgt := 42) F dX7_readGust_37 (by decide) (fun c => ?_) (fun c => ?_)
  · replace h := h.1 c
    refine x_aload_n F dX7_readGust_42 rfl 1 rfl ?_
    refine x_iload_n F dX7_readGust_43 rfl 2 rfl ?_
    refine x_iload_n F dX7_readGust_44 rfl 3 rfl ?_
    refine x_iconst (1 : Int32) F dX7_readGust_45 (by decide) ?_
    refine x_iadd F dX7_readGust_46 ?_
    refine x_aload_n F dX7_readGust_47 rfl 0 rfl ?_
    refine g_7_2 F kz_3 in_7 (mc bw_4_2) dX7_readGust_48 ?_
    refine x_callV_v F (c_X9_put (xl X) (xg X) (xA X) F.2.2.1 k_p0 h) (bw_V bw_12_15 bw_12_16 bw_12_17 bw_3_14 bw_12_18) rfl cd_X9_put (Nat.le_of_ble_eq_true rfl) (Nat.le_of_ble_eq_true rfl) (kd_w (by decide) k_p0) rfl (cl_9 k_p0) rfl rfl (Nat.le_of_ble_eq_true rfl) dX7_readGust_51 (fun s3 h => ?_)
    obtain ⟨y5, ey5⟩ : ∃ y : Int32, y = (x3 + (1 : Int32)) := ⟨_, rfl⟩
    replace h := h y5 ey5
    refine x_iinc (q := 3) (v := y5) (lv' := [(3, .int y5), (0, .ref (ad X 3)), (1, .ref (ad X p0)), (2, .int x2)]) F dX7_readGust_54 rfl (by rw [ey5]; rfl) (by decide) rfl ?_
    refine x_goto (tgt := 2) F dX7_readGust_57 (by decide) ?_
    refine x_sub (lv' := [(0, .ref (ad X 3)), (1, .ref (ad X p0)), (2, .int x2), (3, .int y5)]) [1, 2, 3, 0] rfl ?_
    exact hK2 _ _ _ h
  · replace h := h.2 c
    refine x_iconst (0 : Int32) F dX7_readGust_40 (by decide) ?_
    exact hret _ _ _ _ h (nar01 (by decide)) dX7_readGust_41
def l_X7_readGust_2 (p0 : Nat)  (Q : Int32 → wS → Prop) : Nat → Int32 → Int32 → wS → Prop
  | 0, _, _, _ => False
  | n + 1, x2, x3, σ => ((3 : Int32) ≤ x3 → (Q (1 : Int32) σ)) ∧ (¬ (3 : Int32) ≤ x3 → ((x3 ≤ 0 → (b_X7_readGust_22 p0 (fun x2 x3 σ => l_X7_readGust_2 p0  Q n x2 x3 σ) Q x2 x3 σ)) ∧ (¬ x3 ≤ 0 → (w_X7_readSign (44 : Int32) σ (fun r2 s1 => (¬ r2 = 0 → (b_X7_readGust_22 p0 (fun x2 x3 σ => l_X7_readGust_2 p0  Q n x2 x3 σ) Q x2 x3 s1)) ∧ (r2 = 0 → (Q (0 : Int32) s1)))))))
set_option maxRecDepth 100000 in
set_option maxHeartbeats 4000000 in
theorem wl_X7_readGust_2 {X : XT} {Q : Int32 → wS → Prop} {p0 : Nat} (F : Fx X cX7_readGust 4 RX7 wvX7_readGust 2 46) (hret : Ri X 4 cX7_readGust .boolean Q) (k_p0 : kd p0 = 9)   : ∀ (n : Nat) (x2 : Int32) (x3 : Int32) (σ : wS), l_X7_readGust_2 p0  Q n x2 x3 σ → Wx X 4 σ 2 [(0, .ref (ad X 3)), (1, .ref (ad X p0)), (2, .int x2), (3, .int x3)] [] := by
  intro n
  induction n with
  | zero =>
    intros
    contradiction
  | succ n ih =>
    intro x2 x3 σ h
    simp only [l_X7_readGust_2] at h
    refine x_iload_n F dX7_readGust_2 rfl 3 rfl ?_
    refine x_iconst (3 : Int32) F dX7_readGust_3 (by decide) ?_
    refine x_icmp_ge (tgt := 60) F dX7_readGust_4 (by decide) (fun c => ?_) (fun c => ?_)
    · replace h := h.1 c
      refine x_iconst (1 : Int32) F dX7_readGust_60 (by decide) ?_
      exact hret _ _ _ _ h (nar01 (by decide)) dX7_readGust_61
    · replace h := h.2 c
      refine x_iload_n F dX7_readGust_7 rfl 3 rfl ?_
      refine x_if_le (tgt := 22) F dX7_readGust_8 (by decide) (fun c => ?_) (fun c => ?_)
      · replace h := h.1 c
        refine x_sub (lv' := [(0, .ref (ad X 3)), (1, .ref (ad X p0)), (2, .int x2), (3, .int x3)]) [0, 1, 2, 3] rfl ?_
        exact wb_X7_readGust_22 F hret k_p0 ih _ _ _ h
      · replace h := h.2 c
        refine x_aload_n F dX7_readGust_11 rfl 0 rfl ?_
        refine x_bipush (44 : Int32) F dX7_readGust_12 (by decide) ?_
        refine x_callV_i F (c_X7_readSign (xl X) (xg X) (xA X) F.2.2.1  h) (bw_V bw_12_23 bw_13_0 bw_13_1 bw_1_20 bw_13_2) rfl cd_X7_readSign (Nat.le_of_ble_eq_true rfl) (Nat.le_of_ble_eq_true rfl) (kd_w (by decide) kz_3) rfl (cl_7 kz_3) rfl rfl (Nat.le_of_ble_eq_true rfl) dX7_readGust_14 (fun r2 s1 h => ?_)
        refine x_if_ne (tgt := 22) F dX7_readGust_17 (by decide) (fun c => ?_) (fun c => ?_)
        · replace h := h.1 c
          refine x_sub (lv' := [(0, .ref (ad X 3)), (1, .ref (ad X p0)), (2, .int x2), (3, .int x3)]) [0, 1, 2, 3] rfl ?_
          exact wb_X7_readGust_22 F hret k_p0 ih _ _ _ h
        · replace h := h.2 c
          refine x_iconst (0 : Int32) F dX7_readGust_20 (by decide) ?_
          exact hret _ _ _ _ h (nar01 (by decide)) dX7_readGust_21
def w_X7_readGust (p0 : Nat) (p1 : Int32) (σ : wS) (Q : Int32 → wS → Prop) : Prop := (∃ m, l_X7_readGust_2 p0  Q m p1 (0 : Int32) σ)
set_option maxRecDepth 100000 in
set_option maxHeartbeats 4000000 in
theorem c_X7_readGust (l : Launch) (g : wG) (A : Nat → Prop) (hA : adO g A) {p0 : Nat} (k_p0 : kd p0 = 9) {p1 : Int32} {σ : wS} {Q : Int32 → wS → Prop} (h : w_X7_readGust p0 p1 σ Q) : Mi l yX7_readGust wvX7_readGust 2 46 g A [.ref (g.2.2 3), .ref (g.2.2 p0), .int p1] σ Q := by
  refine mt_i (own := RX7) (lv := [(0, .ref (g.2.2 3)), (1, .ref (g.2.2 p0)), (2, .int p1)]) (by decide) rfl rfl hA (Nat.le_of_ble_eq_true rfl) rfl ?_
  intro X hl hg hAA F hret
  subst hl hg hAA
  unfold w_X7_readGust at h
  refine x_iconst (0 : Int32) F dX7_readGust_0 (by decide) ?_
  refine x_istore_n (lv' := [(3, .int (0 : Int32)), (0, .ref (ad X 3)), (1, .ref (ad X p0)), (2, .int p1)]) F dX7_readGust_1 rfl (by decide) rfl ?_
  refine x_sub (lv' := [(0, .ref (ad X 3)), (1, .ref (ad X p0)), (2, .int p1), (3, .int (0 : Int32))]) [1, 2, 3, 0] rfl ?_
  obtain ⟨n2, h⟩ := h
  exact wl_X7_readGust_2 F hret k_p0  n2 _ _ _ h
/-! X7_readStep -/
abbrev wvX7_readStep : List Cond := Cond.code yX7_readStep cX7_readStep 4 (some .boolean) :: wsL_law
theorem cd_X7_readStep : okN yX7_readStep RX7 2 := by unfold okN; decide +kernel
def b_X7_readStep_89 (p0 : Nat)  (Q : Int32 → wS → Prop) (x2 : Int32) (x3 : Int32) (z0 : Int32) (z1 : Int32) (z2 : Int32) (z3 : Nat) (σ : wS) : Prop := w_X9_put z3 z2 z1 z0 σ (fun s1 => w_X7_readDigit  s1 (fun r4 s3 => (¬ r4 = 0 → (w_X9_put p0 x2 (1 : Int32) (s3.1 3 2) s3 (fun s5 => (x3 = (104 : Int32) → (w_X7_readSign (58 : Int32) s5 (fun r8 s7 => (r8 = 0 → (Q (0 : Int32) s7)) ∧ (¬ r8 = 0 → (w_X7_readNumber (-9 : Int32) (9 : Int32) s7 (fun r10 s9 => (¬ r10 = 0 → (w_X9_put p0 x2 (2 : Int32) (s9.1 3 2) s9 (fun s11 => Q (1 : Int32) s11))) ∧ (r10 = 0 → (Q (0 : Int32) s9)))))))) ∧ (¬ x3 = (104 : Int32) → (Q (1 : Int32) s5))))) ∧ (r4 = 0 → (Q (0 : Int32) s3))))
set_option maxRecDepth 100000 in
set_option maxHeartbeats 4000000 in
theorem wb_X7_readStep_89 {X : XT} {Q : Int32 → wS → Prop} {p0 : Nat} (F : Fx X cX7_readStep 4 RX7 wvX7_readStep 3 69) (hret : Ri X 4 cX7_readStep .boolean Q) (k_p0 : kd p0 = 9)   (x2 : Int32) (x3 : Int32) (z0 : Int32) (z1 : Int32) (z2 : Int32) (z3 : Nat) (k_z3 : kd z3 = 9) (σ : wS) (h : b_X7_readStep_89 p0  Q x2 x3 z0 z1 z2 z3 σ) : Wx X 4 σ 89 [(0, .ref (ad X 3)), (1, .ref (ad X p0)), (2, .int x2), (3, .int x3)] [.int z0, .int z1, .int z2, .ref (ad X z3)] := by
  unfold b_X7_readStep_89 at h
  refine x_callV_v F (c_X9_put (xl X) (xg X) (xA X) F.2.2.1 k_z3 h) (bw_V bw_12_15 bw_12_16 bw_12_17 bw_3_14 bw_12_18) rfl cd_X9_put (Nat.le_of_ble_eq_true rfl) (Nat.le_of_ble_eq_true rfl) (kd_w (by decide) k_z3) rfl (cl_9 k_z3) rfl rfl (Nat.le_of_ble_eq_true rfl) dX7_readStep_89 (fun s1 h => ?_)
  refine x_aload_n F dX7_readStep_92 rfl 0 rfl ?_
  refine x_callV_i F (c_X7_readDigit (xl X) (xg X) (xA X) F.2.2.1  h) (bw_V bw_13_3 bw_13_4 bw_13_5 bw_1_20 bw_13_6) rfl cd_X7_readDigit (Nat.le_of_ble_eq_true rfl) (Nat.le_of_ble_eq_true rfl) (kd_w (by decide) kz_3) rfl (cl_7 kz_3) rfl rfl (Nat.le_of_ble_eq_true rfl) dX7_readStep_93 (fun r4 s3 h => ?_)
  refine x_if_ne (tgt := 101) F dX7_readStep_96 (by decide) (fun c => ?_) (fun c => ?_)
  · replace h := h.1 c
    refine x_aload_n F dX7_readStep_101 rfl 1 rfl ?_
    refine x_iload_n F dX7_readStep_102 rfl 2 rfl ?_
    refine x_iconst (1 : Int32) F dX7_readStep_103 (by decide) ?_
    refine x_aload_n F dX7_readStep_104 rfl 0 rfl ?_
    refine g_7_2 F kz_3 in_7 (mc bw_4_2) dX7_readStep_105 ?_
    refine x_callV_v F (c_X9_put (xl X) (xg X) (xA X) F.2.2.1 k_p0 h) (bw_V bw_12_15 bw_12_16 bw_12_17 bw_3_14 bw_12_18) rfl cd_X9_put (Nat.le_of_ble_eq_true rfl) (Nat.le_of_ble_eq_true rfl) (kd_w (by decide) k_p0) rfl (cl_9 k_p0) rfl rfl (Nat.le_of_ble_eq_true rfl) dX7_readStep_108 (fun s5 h => ?_)
    refine x_iload_n F dX7_readStep_111 rfl 3 rfl ?_
    refine x_bipush (104 : Int32) F dX7_readStep_112 (by decide) ?_
    refine x_icmp_eq (tgt := 119) F dX7_readStep_114 (by decide) (fun c => ?_) (fun c => ?_)
    · replace h := h.1 c
      refine x_aload_n F dX7_readStep_119 rfl 0 rfl ?_
      refine x_bipush (58 : Int32) F dX7_readStep_120 (by decide) ?_
      refine x_callV_i F (c_X7_readSign (xl X) (xg X) (xA X) F.2.2.1  h) (bw_V bw_12_23 bw_13_0 bw_13_1 bw_1_20 bw_13_2) rfl cd_X7_readSign (Nat.le_of_ble_eq_true rfl) (Nat.le_of_ble_eq_true rfl) (kd_w (by decide) kz_3) rfl (cl_7 kz_3) rfl rfl (Nat.le_of_ble_eq_true rfl) dX7_readStep_122 (fun r8 s7 h => ?_)
      refine x_if_eq (tgt := 139) F dX7_readStep_125 (by decide) (fun c => ?_) (fun c => ?_)
      · replace h := h.1 c
        refine x_iconst (0 : Int32) F dX7_readStep_139 (by decide) ?_
        exact hret _ _ _ _ h (nar01 (by decide)) dX7_readStep_140
      · replace h := h.2 c
        refine x_aload_n F dX7_readStep_128 rfl 0 rfl ?_
        refine x_bipush (-9 : Int32) F dX7_readStep_129 (by decide) ?_
        refine x_bipush (9 : Int32) F dX7_readStep_131 (by decide) ?_
        refine x_callV_i F (c_X7_readNumber (xl X) (xg X) (xA X) F.2.2.1  h) (bw_V bw_11_6 bw_11_7 bw_11_8 bw_1_20 bw_11_9) rfl cd_X7_readNumber (Nat.le_of_ble_eq_true rfl) (Nat.le_of_ble_eq_true rfl) (kd_w (by decide) kz_3) rfl (cl_7 kz_3) rfl rfl (Nat.le_of_ble_eq_true rfl) dX7_readStep_133 (fun r10 s9 h => ?_)
        refine x_if_ne (tgt := 141) F dX7_readStep_136 (by decide) (fun c => ?_) (fun c => ?_)
        · replace h := h.1 c
          refine x_aload_n F dX7_readStep_141 rfl 1 rfl ?_
          refine x_iload_n F dX7_readStep_142 rfl 2 rfl ?_
          refine x_iconst (2 : Int32) F dX7_readStep_143 (by decide) ?_
          refine x_aload_n F dX7_readStep_144 rfl 0 rfl ?_
          refine g_7_2 F kz_3 in_7 (mc bw_4_2) dX7_readStep_145 ?_
          refine x_callV_v F (c_X9_put (xl X) (xg X) (xA X) F.2.2.1 k_p0 h) (bw_V bw_12_15 bw_12_16 bw_12_17 bw_3_14 bw_12_18) rfl cd_X9_put (Nat.le_of_ble_eq_true rfl) (Nat.le_of_ble_eq_true rfl) (kd_w (by decide) k_p0) rfl (cl_9 k_p0) rfl rfl (Nat.le_of_ble_eq_true rfl) dX7_readStep_148 (fun s11 h => ?_)
          refine x_iconst (1 : Int32) F dX7_readStep_151 (by decide) ?_
          exact hret _ _ _ _ h (nar01 (by decide)) dX7_readStep_152
        · replace h := h.2 c
          refine x_iconst (0 : Int32) F dX7_readStep_139 (by decide) ?_
          exact hret _ _ _ _ h (nar01 (by decide)) dX7_readStep_140
    · replace h := h.2 c
      refine x_iconst (1 : Int32) F dX7_readStep_117 (by decide) ?_
      exact hret _ _ _ _ h (nar01 (by decide)) dX7_readStep_118
  · replace h := h.2 c
    refine x_iconst (0 : Int32) F dX7_readStep_99 (by decide) ?_
    exact hret _ _ _ _ h (nar01 (by decide)) dX7_readStep_100
def b_X7_readStep_35 (p0 : Nat)  (Q : Int32 → wS → Prop) (x2 : Int32) (x3 : Int32) (σ : wS) : Prop := ∀ s1 : wS, s1 = upI σ 3 1 ((σ.1 3 1) + (1 : Int32)) → ((¬ x3 = (119 : Int32) → ((¬ x3 = (104 : Int32) → ((¬ x3 = (99 : Int32) → (b_X7_readStep_89 p0  Q x2 x3 (3 : Int32) (0 : Int32) x2 p0 s1)) ∧ (x3 = (99 : Int32) → (b_X7_readStep_89 p0  Q x2 x3 (2 : Int32) (0 : Int32) x2 p0 s1)))) ∧ (x3 = (104 : Int32) → (b_X7_readStep_89 p0  Q x2 x3 (1 : Int32) (0 : Int32) x2 p0 s1)))) ∧ (x3 = (119 : Int32) → (w_X9_put p0 x2 (0 : Int32) (0 : Int32) s1 (fun s2 => w_X7_readGust p0 x2 s2 (fun r5 s4 => (r5 = 0 ∨ r5 = 1) ∧ Q r5 s4)))))
set_option maxRecDepth 100000 in
set_option maxHeartbeats 4000000 in
theorem wb_X7_readStep_35 {X : XT} {Q : Int32 → wS → Prop} {p0 : Nat} (F : Fx X cX7_readStep 4 RX7 wvX7_readStep 3 69) (hret : Ri X 4 cX7_readStep .boolean Q) (k_p0 : kd p0 = 9)   (x2 : Int32) (x3 : Int32) (σ : wS) (h : b_X7_readStep_35 p0  Q x2 x3 σ) : Wx X 4 σ 35 [(0, .ref (ad X 3)), (1, .ref (ad X p0)), (2, .int x2), (3, .int x3)] [] := by
  unfold b_X7_readStep_35 at h
  refine x_aload_n F dX7_readStep_35 rfl 0 rfl ?_
  refine x_dup F dX7_readStep_36 rfl ?_
  refine g_7_1 F kz_3 in_7 (mc bw_4_1) dX7_readStep_37 ?_
  refine x_iconst (1 : Int32) F dX7_readStep_40 (by decide) ?_
  refine x_iadd F dX7_readStep_41 ?_
  refine q_7_1 F kz_3 in_7 (mc bw_4_1) dX7_readStep_42 ?_
  refine x_nmS (fun s1 es1 => ?_)
  replace h := h s1 es1
  refine x_iload_n F dX7_readStep_45 rfl 3 rfl ?_
  refine x_bipush (119 : Int32) F dX7_readStep_46 (by decide) ?_
  refine x_icmp_ne (tgt := 65) F dX7_readStep_48 (by decide) (fun c => ?_) (fun c => ?_)
  · replace h := h.1 c
    refine x_aload_n F dX7_readStep_65 rfl 1 rfl ?_
    refine x_iload_n F dX7_readStep_66 rfl 2 rfl ?_
    refine x_iconst (0 : Int32) F dX7_readStep_67 (by decide) ?_
    refine x_iload_n F dX7_readStep_68 rfl 3 rfl ?_
    refine x_bipush (104 : Int32) F dX7_readStep_69 (by decide) ?_
    refine x_icmp_ne (tgt := 78) F dX7_readStep_71 (by decide) (fun c => ?_) (fun c => ?_)
    · replace h := h.1 c
      refine x_iload_n F dX7_readStep_78 rfl 3 rfl ?_
      refine x_bipush (99 : Int32) F dX7_readStep_79 (by decide) ?_
      refine x_icmp_ne (tgt := 88) F dX7_readStep_81 (by decide) (fun c => ?_) (fun c => ?_)
      · replace h := h.1 c
        refine x_iconst (3 : Int32) F dX7_readStep_88 (by decide) ?_
        refine x_sub (lv' := [(0, .ref (ad X 3)), (1, .ref (ad X p0)), (2, .int x2), (3, .int x3)]) [0, 1, 2, 3] rfl ?_
        exact wb_X7_readStep_89 F hret k_p0  _ _ _ _ _ _ k_p0 _ h
      · replace h := h.2 c
        refine x_iconst (2 : Int32) F dX7_readStep_84 (by decide) ?_
        refine x_goto (tgt := 89) F dX7_readStep_85 (by decide) ?_
        refine x_sub (lv' := [(0, .ref (ad X 3)), (1, .ref (ad X p0)), (2, .int x2), (3, .int x3)]) [0, 1, 2, 3] rfl ?_
        exact wb_X7_readStep_89 F hret k_p0  _ _ _ _ _ _ k_p0 _ h
    · replace h := h.2 c
      refine x_iconst (1 : Int32) F dX7_readStep_74 (by decide) ?_
      refine x_goto (tgt := 89) F dX7_readStep_75 (by decide) ?_
      refine x_sub (lv' := [(0, .ref (ad X 3)), (1, .ref (ad X p0)), (2, .int x2), (3, .int x3)]) [0, 1, 2, 3] rfl ?_
      exact wb_X7_readStep_89 F hret k_p0  _ _ _ _ _ _ k_p0 _ h
  · replace h := h.2 c
    refine x_aload_n F dX7_readStep_51 rfl 1 rfl ?_
    refine x_iload_n F dX7_readStep_52 rfl 2 rfl ?_
    refine x_iconst (0 : Int32) F dX7_readStep_53 (by decide) ?_
    refine x_iconst (0 : Int32) F dX7_readStep_54 (by decide) ?_
    refine x_callV_v F (c_X9_put (xl X) (xg X) (xA X) F.2.2.1 k_p0 h) (bw_V bw_12_15 bw_12_16 bw_12_17 bw_3_14 bw_12_18) rfl cd_X9_put (Nat.le_of_ble_eq_true rfl) (Nat.le_of_ble_eq_true rfl) (kd_w (by decide) k_p0) rfl (cl_9 k_p0) rfl rfl (Nat.le_of_ble_eq_true rfl) dX7_readStep_55 (fun s2 h => ?_)
    refine x_aload_n F dX7_readStep_58 rfl 0 rfl ?_
    refine x_aload_n F dX7_readStep_59 rfl 1 rfl ?_
    refine x_iload_n F dX7_readStep_60 rfl 2 rfl ?_
    refine x_callV_i F (c_X7_readGust (xl X) (xg X) (xA X) F.2.2.1 k_p0 h) (bw_V bw_12_19 bw_12_20 bw_12_21 bw_1_20 bw_12_22) rfl cd_X7_readGust (Nat.le_of_ble_eq_true rfl) (Nat.le_of_ble_eq_true rfl) (kd_w (by decide) kz_3) rfl (cl_7 kz_3) rfl rfl (Nat.le_of_ble_eq_true rfl) dX7_readStep_61 (fun r5 s4 h => ?_)
    obtain ⟨hz, h⟩ := h
    exact hret _ _ _ _ h (nar01 hz) dX7_readStep_64
def w_X7_readStep (p0 : Nat) (p1 : Int32) (σ : wS) (Q : Int32 → wS → Prop) : Prop := w_X7_skipBlanks  σ (fun s1 => w_X7_sign  s1 (fun r4 s3 => (r4 = (119 : Int32) → (b_X7_readStep_35 p0  Q p1 r4 s3)) ∧ (¬ r4 = (119 : Int32) → ((r4 = (104 : Int32) → (b_X7_readStep_35 p0  Q p1 r4 s3)) ∧ (¬ r4 = (104 : Int32) → ((r4 = (99 : Int32) → (b_X7_readStep_35 p0  Q p1 r4 s3)) ∧ (¬ r4 = (99 : Int32) → ((r4 = (110 : Int32) → (b_X7_readStep_35 p0  Q p1 r4 s3)) ∧ (¬ r4 = (110 : Int32) → (Q (0 : Int32) s3))))))))))
set_option maxRecDepth 100000 in
set_option maxHeartbeats 4000000 in
theorem c_X7_readStep (l : Launch) (g : wG) (A : Nat → Prop) (hA : adO g A) {p0 : Nat} (k_p0 : kd p0 = 9) {p1 : Int32} {σ : wS} {Q : Int32 → wS → Prop} (h : w_X7_readStep p0 p1 σ Q) : Mi l yX7_readStep wvX7_readStep 3 69 g A [.ref (g.2.2 3), .ref (g.2.2 p0), .int p1] σ Q := by
  refine mt_i (own := RX7) (lv := [(0, .ref (g.2.2 3)), (1, .ref (g.2.2 p0)), (2, .int p1)]) (by decide) rfl rfl hA (Nat.le_of_ble_eq_true rfl) rfl ?_
  intro X hl hg hAA F hret
  subst hl hg hAA
  unfold w_X7_readStep at h
  refine x_aload_n F dX7_readStep_0 rfl 0 rfl ?_
  refine x_callV_v F (c_X7_skipBlanks (xl X) (xg X) (xA X) F.2.2.1  h) (bw_V bw_10_13 bw_10_14 bw_10_15 bw_1_20 bw_10_16) rfl cd_X7_skipBlanks (Nat.le_of_ble_eq_true rfl) (Nat.le_of_ble_eq_true rfl) (kd_w (by decide) kz_3) rfl (cl_7 kz_3) rfl rfl (Nat.le_of_ble_eq_true rfl) dX7_readStep_1 (fun s1 h => ?_)
  refine x_aload_n F dX7_readStep_4 rfl 0 rfl ?_
  refine x_callV_i F (c_X7_sign (xl X) (xg X) (xA X) F.2.2.1  h) (bw_V bw_10_19 bw_10_20 bw_10_21 bw_1_20 bw_10_22) rfl cd_X7_sign (Nat.le_of_ble_eq_true rfl) (Nat.le_of_ble_eq_true rfl) (kd_w (by decide) kz_3) rfl (cl_7 kz_3) rfl rfl (Nat.le_of_ble_eq_true rfl) dX7_readStep_5 (fun r4 s3 h => ?_)
  refine x_istore_n (lv' := [(3, .int r4), (0, .ref (ad X 3)), (1, .ref (ad X p0)), (2, .int p1)]) F dX7_readStep_8 rfl (by decide) rfl ?_
  refine x_iload_n F dX7_readStep_9 rfl 0 rfl ?_
  refine x_bipush (119 : Int32) F dX7_readStep_10 (by decide) ?_
  refine x_icmp_eq (tgt := 35) F dX7_readStep_12 (by decide) (fun c => ?_) (fun c => ?_)
  · replace h := h.1 c
    refine x_sub (lv' := [(0, .ref (ad X 3)), (1, .ref (ad X p0)), (2, .int p1), (3, .int r4)]) [1, 2, 3, 0] rfl ?_
    exact wb_X7_readStep_35 F hret k_p0  _ _ _ h
  · replace h := h.2 c
    refine x_iload_n F dX7_readStep_15 rfl 0 rfl ?_
    refine x_bipush (104 : Int32) F dX7_readStep_16 (by decide) ?_
    refine x_icmp_eq (tgt := 35) F dX7_readStep_18 (by decide) (fun c => ?_) (fun c => ?_)
    · replace h := h.1 c
      refine x_sub (lv' := [(0, .ref (ad X 3)), (1, .ref (ad X p0)), (2, .int p1), (3, .int r4)]) [1, 2, 3, 0] rfl ?_
      exact wb_X7_readStep_35 F hret k_p0  _ _ _ h
    · replace h := h.2 c
      refine x_iload_n F dX7_readStep_21 rfl 0 rfl ?_
      refine x_bipush (99 : Int32) F dX7_readStep_22 (by decide) ?_
      refine x_icmp_eq (tgt := 35) F dX7_readStep_24 (by decide) (fun c => ?_) (fun c => ?_)
      · replace h := h.1 c
        refine x_sub (lv' := [(0, .ref (ad X 3)), (1, .ref (ad X p0)), (2, .int p1), (3, .int r4)]) [1, 2, 3, 0] rfl ?_
        exact wb_X7_readStep_35 F hret k_p0  _ _ _ h
      · replace h := h.2 c
        refine x_iload_n F dX7_readStep_27 rfl 0 rfl ?_
        refine x_bipush (110 : Int32) F dX7_readStep_28 (by decide) ?_
        refine x_icmp_eq (tgt := 35) F dX7_readStep_30 (by decide) (fun c => ?_) (fun c => ?_)
        · replace h := h.1 c
          refine x_sub (lv' := [(0, .ref (ad X 3)), (1, .ref (ad X p0)), (2, .int p1), (3, .int r4)]) [1, 2, 3, 0] rfl ?_
          exact wb_X7_readStep_35 F hret k_p0  _ _ _ h
        · replace h := h.2 c
          refine x_iconst (0 : Int32) F dX7_readStep_33 (by decide) ?_
          exact hret _ _ _ _ h (nar01 (by decide)) dX7_readStep_34
