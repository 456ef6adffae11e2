/-! X12_isWind -/
abbrev wvX12_isWind : List Cond := Cond.code yX12_isWind cX12_isWind 4 (some .boolean) :: wsL_law
theorem cd_X12_isWind : okN yX12_isWind RX12 3 := by unfold okN; decide +kernel
def b_X12_isWind_29   (Q : Int32 → wS → Prop)  (σ : wS) : Prop := Q (1 : Int32) σ
set_option maxRecDepth 100000 in
set_option maxHeartbeats 4000000 in
theorem wb_X12_isWind_29 {X : XT} {Q : Int32 → wS → Prop}  (F : Fx X cX12_isWind 4 RX12 wvX12_isWind 2 48) (hret : Ri X 4 cX12_isWind .boolean Q)     (σ : wS) (h : b_X12_isWind_29   Q  σ) : Wx X 4 σ 29 [] [] := by
  unfold b_X12_isWind_29 at h
  refine x_iconst (1 : Int32) F dX12_isWind_29 (by decide) ?_
  refine x_goto (tgt := 34) F dX12_isWind_30 (by decide) ?_
  exact hret _ _ _ _ h (nar01 (by decide)) dX12_isWind_34
def w_X12_isWind  (p0 : Int32) (p1 : Int32) (p2 : Int32) (σ : wS) (Q : Int32 → wS → Prop) : Prop := ((σ.1 176 14) ≤ 0 → (Q (0 : Int32) σ)) ∧ (¬ (σ.1 176 14) ≤ 0 → (w_X12_isGust p0 p1 p2 σ (fun r2 s1 => (r2 = 0 → (Q (0 : Int32) s1)) ∧ (¬ r2 = 0 → ((¬ p0 = 0 → (b_X12_isWind_29   Q  s1)) ∧ (p0 = 0 → ((¬ p1 = 0 → (b_X12_isWind_29   Q  s1)) ∧ (p1 = 0 → ((p2 = 0 → (Q (0 : Int32) s1)) ∧ (¬ p2 = 0 → (b_X12_isWind_29   Q  s1)))))))))))
set_option maxRecDepth 100000 in
set_option maxHeartbeats 4000000 in
theorem c_X12_isWind (l : Launch) (g : wG) (A : Nat → Prop) (hA : adO g A)   {p0 : Int32} {p1 : Int32} {p2 : Int32} {σ : wS} {Q : Int32 → wS → Prop} (h : w_X12_isWind  p0 p1 p2 σ Q) : Mi l yX12_isWind wvX12_isWind 2 48 g A [.ref (g.2.2 176), .int p0, .int p1, .int p2] σ Q := by
  refine mt_i (own := RX12) (lv := [(0, .ref (g.2.2 176)), (1, .int p0), (2, .int p1), (3, .int p2)]) (by decide) rfl rfl hA (Nat.le_of_ble_eq_true rfl) rfl ?_
  intro X hl hg hAA F hret
  subst hl hg hAA
  unfold w_X12_isWind at h
  refine x_aload_n F dX12_isWind_0 rfl 0 rfl ?_
  refine g_12_14 F kz_176 in_12 (mc bw_22_18) dX12_isWind_1 ?_
  refine x_if_le (tgt := 33) F dX12_isWind_4 (by decide) (fun c => ?_) (fun c => ?_)
  · replace h := h.1 c
    refine x_iconst (0 : Int32) F dX12_isWind_33 (by decide) ?_
    exact hret _ _ _ _ h (nar01 (by decide)) dX12_isWind_34
  · replace h := h.2 c
    refine x_aload_n F dX12_isWind_7 rfl 0 rfl ?_
    refine x_iload_n F dX12_isWind_8 rfl 1 rfl ?_
    refine x_iload_n F dX12_isWind_9 rfl 2 rfl ?_
    refine x_iload_n F dX12_isWind_10 rfl 3 rfl ?_
    refine x_callV_i F (c_X12_isGust (xl X) (xg X) (xA X) F.2.2.1  h) (bw_V bw_36_17 bw_36_18 bw_36_19 bw_1_5 bw_36_20) rfl cd_X12_isGust (Nat.le_of_ble_eq_true rfl) (Nat.le_of_ble_eq_true rfl) (kd_w (by decide) kz_176) rfl (cl_12 kz_176) rfl rfl (Nat.le_of_ble_eq_true rfl) dX12_isWind_11 (fun r2 s1 h => ?_)
    refine x_if_eq (tgt := 33) F dX12_isWind_14 (by decide) (fun c => ?_) (fun c => ?_)
    · replace h := h.1 c
      refine x_iconst (0 : Int32) F dX12_isWind_33 (by decide) ?_
      exact hret _ _ _ _ h (nar01 (by decide)) dX12_isWind_34
    · replace h := h.2 c
      refine x_iload_n F dX12_isWind_17 rfl 1 rfl ?_
      refine x_if_ne (tgt := 29) F dX12_isWind_18 (by decide) (fun c => ?_) (fun c => ?_)
      · replace h := h.1 c
        refine x_sub (lv' := []) [] rfl ?_
        exact wb_X12_isWind_29 F hret    _ h
      · replace h := h.2 c
        refine x_iload_n F dX12_isWind_21 rfl 2 rfl ?_
        refine x_if_ne (tgt := 29) F dX12_isWind_22 (by decide) (fun c => ?_) (fun c => ?_)
        · replace h := h.1 c
          refine x_sub (lv' := []) [] rfl ?_
          exact wb_X12_isWind_29 F hret    _ h
        · replace h := h.2 c
          refine x_iload_n F dX12_isWind_25 rfl 3 rfl ?_
          refine x_if_eq (tgt := 33) F dX12_isWind_26 (by decide) (fun c => ?_) (fun c => ?_)
          · replace h := h.1 c
            refine x_iconst (0 : Int32) F dX12_isWind_33 (by decide) ?_
            exact hret _ _ _ _ h (nar01 (by decide)) dX12_isWind_34
          · replace h := h.2 c
            refine x_sub (lv' := []) [] rfl ?_
            exact wb_X12_isWind_29 F hret    _ h
/-! X12_stand -/
abbrev wvX12_stand : List Cond := Cond.code yX12_stand cX12_stand 6 (some .int) :: wsL_law
theorem cd_X12_stand : okN yX12_stand RX12 4 := by unfold okN; decide +kernel
def l_X12_stand_45   (Q : Int32 → wS → Prop) : Nat → Int32 → Int32 → Int32 → Int32 → Int32 → wS → Prop
  | 0, _, _, _, _, _, _ => False
  | n + 1, x1, x2, x3, x4, x5, σ => ((60 : Int32) ≤ x5 → ((¬ x4 = 0 → (Q (-1 : Int32) σ)) ∧ (x4 = 0 → (Q x5 σ)))) ∧ (¬ (60 : Int32) ≤ x5 → (w_X12_does 189 (0 : Int32) x1 x2 x3 σ (fun r2 s1 => (r2 = (-1 : Int32) → (((s1.1 176 32) ≤ 0 → (∀ y3 : Int32, y3 = (x5 + (1 : Int32)) → (l_X12_stand_45   Q n x1 x2 x3 x4 y3 s1))) ∧ (¬ (s1.1 176 32) ≤ 0 → ((¬ x4 = 0 → (Q (s1.1 196 ((0 : Int32)).toNatClampNeg) s1)) ∧ (x4 = 0 → (Q x5 s1)))))) ∧ (¬ r2 = (-1 : Int32) → ((¬ x4 = 0 → (Q (-1 : Int32) s1)) ∧ (x4 = 0 → (Q x5 s1)))))))
set_option maxRecDepth 100000 in
set_option maxHeartbeats 4000000 in
theorem wl_X12_stand_45 {X : XT} {Q : Int32 → wS → Prop}  (F : Fx X cX12_stand 6 RX12 wvX12_stand 6 151) (hret : Ri X 6 cX12_stand .int Q)    : ∀ (n : Nat) (x1 : Int32) (x2 : Int32) (x3 : Int32) (x4 : Int32) (x5 : Int32) (σ : wS), l_X12_stand_45   Q n x1 x2 x3 x4 x5 σ → Wx X 6 σ 45 [(0, .ref (ad X 176)), (1, .int x1), (2, .int x2), (3, .int x3), (4, .int x4), (5, .int x5)] [] := by
  intro n
  induction n with
  | zero =>
    intros
    contradiction
  | succ n ih =>
    intro x1 x2 x3 x4 x5 σ h
    simp only [l_X12_stand_45] at h
    refine x_iload F dX12_stand_45 5 rfl ?_
    refine x_bipush (60 : Int32) F dX12_stand_47 (by decide) ?_
    refine x_icmp_ge (tgt := 110) F dX12_stand_49 (by decide) (fun c => ?_) (fun c => ?_)
    · replace h := h.1 c
      refine x_iload F dX12_stand_110 4 rfl ?_
      refine x_if_ne (tgt := 120) F dX12_stand_112 (by decide) (fun c => ?_) (fun c => ?_)
      · replace h := h.1 c
        refine x_iconst (-1 : Int32) F dX12_stand_120 (by decide) ?_
        exact hret _ _ _ _ h rfl dX12_stand_121
      · replace h := h.2 c
        refine x_iload F dX12_stand_115 5 rfl ?_
        refine x_goto (tgt := 121) F dX12_stand_117 (by decide) ?_
        exact hret _ _ _ _ h rfl dX12_stand_121
    · replace h := h.2 c
      refine x_aload_n F dX12_stand_52 rfl 0 rfl ?_
      refine x_aload_n F dX12_stand_53 rfl 0 rfl ?_
      refine g_12_20 F kz_176 in_12 (mc bw_7_19) dX12_stand_54 ?_
      refine x_iconst (0 : Int32) F dX12_stand_57 (by decide) ?_
      refine x_iload_n F dX12_stand_58 rfl 1 rfl ?_
      refine x_iload_n F dX12_stand_59 rfl 2 rfl ?_
      refine x_iload_n F dX12_stand_60 rfl 3 rfl ?_
      refine x_callV_i F (c_X12_does (xl X) (xg X) (xA X) F.2.2.1 kz_189 h) (bw_V bw_36_2 bw_36_3 bw_36_4 bw_1_5 bw_36_5) rfl cd_X12_does (Nat.le_of_ble_eq_true rfl) (Nat.le_of_ble_eq_true rfl) (kd_w (by decide) kz_176) rfl (cl_12 kz_176) rfl rfl (Nat.le_of_ble_eq_true rfl) dX12_stand_61 (fun r2 s1 h => ?_)
      refine x_iconst (-1 : Int32) F dX12_stand_64 (by decide) ?_
      refine x_icmp_eq (tgt := 80) F dX12_stand_65 (by decide) (fun c => ?_) (fun c => ?_)
      · replace h := h.1 c
        refine x_aload_n F dX12_stand_80 rfl 0 rfl ?_
        refine g_12_32 F kz_176 in_12 (mc bw_23_9) dX12_stand_81 ?_
        refine x_if_le (tgt := 104) F dX12_stand_84 (by decide) (fun c => ?_) (fun c => ?_)
        · replace h := h.1 c
          obtain ⟨y3, ey3⟩ : ∃ y : Int32, y = (x5 + (1 : Int32)) := ⟨_, rfl⟩
          replace h := h y3 ey3
          refine x_iinc (q := 5) (v := y3) (lv' := [(5, .int y3), (0, .ref (ad X 176)), (1, .int x1), (2, .int x2), (3, .int x3), (4, .int x4)]) F dX12_stand_104 rfl (by rw [ey3]; rfl) (by decide) rfl ?_
          refine x_goto (tgt := 45) F dX12_stand_107 (by decide) ?_
          refine x_sub (lv' := [(0, .ref (ad X 176)), (1, .int x1), (2, .int x2), (3, .int x3), (4, .int x4), (5, .int y3)]) [1, 2, 3, 4, 5, 0] rfl ?_
          exact ih _ _ _ _ _ _ h
        · replace h := h.2 c
          refine x_iload F dX12_stand_87 4 rfl ?_
          refine x_if_ne (tgt := 97) F dX12_stand_89 (by decide) (fun c => ?_) (fun c => ?_)
          · replace h := h.1 c
            refine x_aload_n F dX12_stand_97 rfl 0 rfl ?_
            refine g_12_31 F kz_176 in_12 (mc bw_8_2) dX12_stand_98 ?_
            refine x_iconst (0 : Int32) F dX12_stand_101 (by decide) ?_
            refine x_iald F kz_196 nz_196 (by unfold vp_in; decide) dX12_stand_102 ?_
            exact hret _ _ _ _ h rfl dX12_stand_103
          · replace h := h.2 c
            refine x_iload F dX12_stand_92 5 rfl ?_
            refine x_goto (tgt := 103) F dX12_stand_94 (by decide) ?_
            exact hret _ _ _ _ h rfl dX12_stand_103
      · replace h := h.2 c
        refine x_iload F dX12_stand_68 4 rfl ?_
        refine x_if_ne (tgt := 78) F dX12_stand_70 (by decide) (fun c => ?_) (fun c => ?_)
        · replace h := h.1 c
          refine x_iconst (-1 : Int32) F dX12_stand_78 (by decide) ?_
          exact hret _ _ _ _ h rfl dX12_stand_79
        · replace h := h.2 c
          refine x_iload F dX12_stand_73 5 rfl ?_
          refine x_goto (tgt := 79) F dX12_stand_75 (by decide) ?_
          exact hret _ _ _ _ h rfl dX12_stand_79
def w_X12_stand  (p0 : Int32) (p1 : Int32) (p2 : Int32) (p3 : Int32) (σ : wS) (Q : Int32 → wS → Prop) : Prop := ∀ s1 : wS, s1 = upI σ 176 0 (0 : Int32) → (w_X12_isWind p0 p1 p2 s1 (fun r3 s2 => (r3 = 0 → (Q (-1000000 : Int32) s2)) ∧ (¬ r3 = 0 → (w_X12_isIn (p3).toInt64 (0 : Int64) (1 : Int64) s2 (fun r5 s4 => (¬ r5 = 0 → (w_X12_copyRow 188 189 (0 : Int32) (0 : Int32) s4 (fun s6 => (∃ m, l_X12_stand_45   Q m p0 p1 p2 p3 (0 : Int32) s6)))) ∧ (r5 = 0 → (Q (-1000000 : Int32) s4)))))))
set_option maxRecDepth 100000 in
set_option maxHeartbeats 4000000 in
theorem c_X12_stand (l : Launch) (g : wG) (A : Nat → Prop) (hA : adO g A)   {p0 : Int32} {p1 : Int32} {p2 : Int32} {p3 : Int32} {σ : wS} {Q : Int32 → wS → Prop} (h : w_X12_stand  p0 p1 p2 p3 σ Q) : Mi l yX12_stand wvX12_stand 6 151 g A [.ref (g.2.2 176), .int p0, .int p1, .int p2, .int p3] σ Q := by
  refine mt_i (own := RX12) (lv := [(0, .ref (g.2.2 176)), (1, .int p0), (2, .int p1), (3, .int p2), (4, .int p3)]) (by decide) rfl rfl hA (Nat.le_of_ble_eq_true rfl) rfl ?_
  intro X hl hg hAA F hret
  subst hl hg hAA
  unfold w_X12_stand at h
  refine x_aload_n F dX12_stand_0 rfl 0 rfl ?_
  refine x_iconst (0 : Int32) F dX12_stand_1 (by decide) ?_
  refine q_12_0 F kz_176 in_12 (mc bw_8_21) dX12_stand_2 ?_
  refine x_nmS (fun s1 es1 => ?_)
  replace h := h s1 es1
  refine x_aload_n F dX12_stand_5 rfl 0 rfl ?_
  refine x_iload_n F dX12_stand_6 rfl 1 rfl ?_
  refine x_iload_n F dX12_stand_7 rfl 2 rfl ?_
  refine x_iload_n F dX12_stand_8 rfl 3 rfl ?_
  refine x_callV_i F (c_X12_isWind (xl X) (xg X) (xA X) F.2.2.1  h) (bw_V bw_44_19 bw_44_20 bw_44_21 bw_1_5 bw_44_22) rfl cd_X12_isWind (Nat.le_of_ble_eq_true rfl) (Nat.le_of_ble_eq_true rfl) (kd_w (by decide) kz_176) rfl (cl_12 kz_176) rfl rfl (Nat.le_of_ble_eq_true rfl) dX12_stand_9 (fun r3 s2 h => ?_)
  refine x_if_eq (tgt := 26) F dX12_stand_12 (by decide) (fun c => ?_) (fun c => ?_)
  · replace h := h.1 c
    refine x_ldc F dX12_stand_26 (mc bw_18_9) ?_
    exact hret _ _ _ _ h rfl dX12_stand_28
  · replace h := h.2 c
    refine x_iload F dX12_stand_15 4 rfl ?_
    refine x_i2l F dX12_stand_17 ?_
    refine x_lconst (0 : Int64) F dX12_stand_18 (by decide) ?_
    refine x_lconst (1 : Int64) F dX12_stand_19 (by decide) ?_
    refine x_callT_i F (c_X12_isIn (xl X) (xg X) (xA X) F.2.2.1  h) (bw_S bw_13_13 bw_13_14 bw_1_5 bw_13_15) rfl cd_X12_isIn (Nat.le_of_ble_eq_true rfl) (Nat.le_of_ble_eq_true rfl) rfl rfl (Nat.le_of_ble_eq_true rfl) dX12_stand_20 (fun r5 s4 h => ?_)
    refine x_if_ne (tgt := 29) F dX12_stand_23 (by decide) (fun c => ?_) (fun c => ?_)
    · replace h := h.1 c
      refine x_aload_n F dX12_stand_29 rfl 0 rfl ?_
      refine g_12_19 F kz_176 in_12 (mc bw_7_18) dX12_stand_30 ?_
      refine x_iconst (0 : Int32) F dX12_stand_33 (by decide) ?_
      refine x_aload_n F dX12_stand_34 rfl 0 rfl ?_
      refine g_12_20 F kz_176 in_12 (mc bw_7_19) dX12_stand_35 ?_
      refine x_iconst (0 : Int32) F dX12_stand_38 (by decide) ?_
      refine x_callT_v F (c_X12_copyRow (xl X) (xg X) (xA X) F.2.2.1 kz_188 kz_189 h) (bw_S bw_25_14 bw_25_15 bw_1_5 bw_25_16) rfl cd_X12_copyRow (Nat.le_of_ble_eq_true rfl) (Nat.le_of_ble_eq_true rfl) rfl rfl (Nat.le_of_ble_eq_true rfl) dX12_stand_39 (fun s6 h => ?_)
      refine x_iconst (0 : Int32) F dX12_stand_42 (by decide) ?_
      refine x_istore (lv' := [(5, .int (0 : Int32)), (0, .ref (ad X 176)), (1, .int p0), (2, .int p1), (3, .int p2), (4, .int p3)]) F dX12_stand_43 (by decide) rfl ?_
      refine x_sub (lv' := [(0, .ref (ad X 176)), (1, .int p0), (2, .int p1), (3, .int p2), (4, .int p3), (5, .int (0 : Int32))]) [1, 2, 3, 4, 5, 0] rfl ?_
      obtain ⟨n2, h⟩ := h
      exact wl_X12_stand_45 F hret   n2 _ _ _ _ _ _ h
    · replace h := h.2 c
      refine x_ldc F dX12_stand_26 (mc bw_18_9) ?_
      exact hret _ _ _ _ h rfl dX12_stand_28
/-! X12_fall -/
abbrev wvX12_fall : List Cond := Cond.code yX12_fall cX12_fall 8 (some .int) :: wsL_law
theorem cd_X12_fall : okN yX12_fall RX12 5 := by unfold okN; decide +kernel
def l_X12_fall_53   (Q : Int32 → wS → Prop) : Nat → Int32 → Int32 → Int32 → Int32 → Int32 → Int32 → Int32 → wS → Prop
  | 0, _, _, _, _, _, _, _, _ => False
  | n + 1, x1, x2, x3, x4, x5, x6, x7, σ => ((60 : Int32) < x7 → (Q (-1000000 : Int32) σ)) ∧ (¬ (60 : Int32) < x7 → (w_X12_does 189 (0 : Int32) x1 x2 x3 σ (fun r2 s1 => (r2 = (-1 : Int32) → (((x6 + (s1.1 176 32)) ≤ x4 → (∀ y3 : Int32, y3 = (x6 + (s1.1 176 32)) → (∀ y4 : Int32, y4 = (x7 + (1 : Int32)) → (l_X12_fall_53   Q n x1 x2 x3 x4 x5 y3 y4 s1)))) ∧ (¬ (x6 + (s1.1 176 32)) ≤ x4 → ((¬ x5 = 0 → (Q x7 s1)) ∧ (x5 = 0 → (vp_in (x4 - x6) 8 ∧ (Q (s1.1 196 ((x4 - x6)).toNatClampNeg) s1))))))) ∧ (¬ r2 = (-1 : Int32) → (Q (-1000000 : Int32) s1)))))
set_option maxRecDepth 100000 in
set_option maxHeartbeats 4000000 in
theorem wl_X12_fall_53 {X : XT} {Q : Int32 → wS → Prop}  (F : Fx X cX12_fall 8 RX12 wvX12_fall 6 151) (hret : Ri X 8 cX12_fall .int Q)    : ∀ (n : Nat) (x1 : Int32) (x2 : Int32) (x3 : Int32) (x4 : Int32) (x5 : Int32) (x6 : Int32) (x7 : Int32) (σ : wS), l_X12_fall_53   Q n x1 x2 x3 x4 x5 x6 x7 σ → Wx X 8 σ 53 [(0, .ref (ad X 176)), (1, .int x1), (2, .int x2), (3, .int x3), (4, .int x4), (5, .int x5), (6, .int x6), (7, .int x7)] [] := by
  intro n
  induction n with
  | zero =>
    intros
    contradiction
  | succ n ih =>
    intro x1 x2 x3 x4 x5 x6 x7 σ h
    simp only [l_X12_fall_53] at h
    refine x_iload F dX12_fall_53 7 rfl ?_
    refine x_bipush (60 : Int32) F dX12_fall_55 (by decide) ?_
    refine x_icmp_gt (tgt := 127) F dX12_fall_57 (by decide) (fun c => ?_) (fun c => ?_)
    · replace h := h.1 c
      refine x_ldc F dX12_fall_127 (mc bw_18_9) ?_
      exact hret _ _ _ _ h rfl dX12_fall_129
    · replace h := h.2 c
      refine x_aload_n F dX12_fall_60 rfl 0 rfl ?_
      refine x_aload_n F dX12_fall_61 rfl 0 rfl ?_
      refine g_12_20 F kz_176 in_12 (mc bw_7_19) dX12_fall_62 ?_
      refine x_iconst (0 : Int32) F dX12_fall_65 (by decide) ?_
      refine x_iload_n F dX12_fall_66 rfl 1 rfl ?_
      refine x_iload_n F dX12_fall_67 rfl 2 rfl ?_
      refine x_iload_n F dX12_fall_68 rfl 3 rfl ?_
      refine x_callV_i F (c_X12_does (xl X) (xg X) (xA X) F.2.2.1 kz_189 h) (bw_V bw_36_2 bw_36_3 bw_36_4 bw_1_5 bw_36_5) rfl cd_X12_does (Nat.le_of_ble_eq_true rfl) (Nat.le_of_ble_eq_true rfl) (kd_w (by decide) kz_176) rfl (cl_12 kz_176) rfl rfl (Nat.le_of_ble_eq_true rfl) dX12_fall_69 (fun r2 s1 h => ?_)
      refine x_iconst (-1 : Int32) F dX12_fall_72 (by decide) ?_
      refine x_icmp_eq (tgt := 79) F dX12_fall_73 (by decide) (fun c => ?_) (fun c => ?_)
      · replace h := h.1 c
        refine x_iload F dX12_fall_79 4 rfl ?_
        refine x_iload F dX12_fall_81 6 rfl ?_
        refine x_aload_n F dX12_fall_83 rfl 0 rfl ?_
        refine g_12_32 F kz_176 in_12 (mc bw_23_9) dX12_fall_84 ?_
        refine x_iadd F dX12_fall_87 ?_
        refine x_icmp_ge (tgt := 112) F dX12_fall_88 (by decide) (fun c => ?_) (fun c => ?_)
        · replace h := h.1 c
          refine x_iload F dX12_fall_112 6 rfl ?_
          refine x_aload_n F dX12_fall_114 rfl 0 rfl ?_
          refine g_12_32 F kz_176 in_12 (mc bw_23_9) dX12_fall_115 ?_
          refine x_iadd F dX12_fall_118 ?_
          refine x_topi (fun y3 ey3 => ?_)
          replace h := h y3 ey3
          refine x_istore (lv' := [(6, .int y3), (0, .ref (ad X 176)), (1, .int x1), (2, .int x2), (3, .int x3), (4, .int x4), (5, .int x5), (7, .int x7)]) F dX12_fall_119 (by decide) rfl ?_
          obtain ⟨y4, ey4⟩ : ∃ y : Int32, y = (x7 + (1 : Int32)) := ⟨_, rfl⟩
          replace h := h y4 ey4
          refine x_iinc (q := 7) (v := y4) (lv' := [(7, .int y4), (6, .int y3), (0, .ref (ad X 176)), (1, .int x1), (2, .int x2), (3, .int x3), (4, .int x4), (5, .int x5)]) F dX12_fall_121 rfl (by rw [ey4]; rfl) (by decide) rfl ?_
          refine x_goto (tgt := 53) F dX12_fall_124 (by decide) ?_
          refine x_sub (lv' := [(0, .ref (ad X 176)), (1, .int x1), (2, .int x2), (3, .int x3), (4, .int x4), (5, .int x5), (6, .int y3), (7, .int y4)]) [2, 3, 4, 5, 6, 7, 1, 0] rfl ?_
          exact ih _ _ _ _ _ _ _ _ h
        · replace h := h.2 c
          refine x_iload F dX12_fall_91 5 rfl ?_
          refine x_if_ne (tgt := 109) F dX12_fall_93 (by decide) (fun c => ?_) (fun c => ?_)
          · replace h := h.1 c
            refine x_iload F dX12_fall_109 7 rfl ?_
            exact hret _ _ _ _ h rfl dX12_fall_111
          · replace h := h.2 c
            refine x_aload_n F dX12_fall_96 rfl 0 rfl ?_
            refine g_12_31 F kz_176 in_12 (mc bw_8_2) dX12_fall_97 ?_
            refine x_iload F dX12_fall_100 4 rfl ?_
            refine x_iload F dX12_fall_102 6 rfl ?_
            refine x_isub F dX12_fall_104 ?_
            obtain ⟨hj, h⟩ := h
            refine x_iald F kz_196 nz_196 hj dX12_fall_105 ?_
            refine x_goto (tgt := 111) F dX12_fall_106 (by decide) ?_
            exact hret _ _ _ _ h rfl dX12_fall_111
      · replace h := h.2 c
        refine x_ldc F dX12_fall_76 (mc bw_18_9) ?_
        exact hret _ _ _ _ h rfl dX12_fall_78
def w_X12_fall  (p0 : Int32) (p1 : Int32) (p2 : Int32) (p3 : Int32) (p4 : Int32) (σ : wS) (Q : Int32 → wS → Prop) : Prop := ∀ s1 : wS, s1 = upI σ 176 0 (0 : Int32) → (w_X12_isWind p0 p1 p2 s1 (fun r3 s2 => (r3 = 0 → (Q (-1000000 : Int32) s2)) ∧ (¬ r3 = 0 → ((p3 < 0 → (Q (-1000000 : Int32) s2)) ∧ (¬ p3 < 0 → (w_X12_isIn (p4).toInt64 (0 : Int64) (1 : Int64) s2 (fun r5 s4 => (¬ r5 = 0 → (w_X12_copyRow 188 189 (0 : Int32) (0 : Int32) s4 (fun s6 => (∃ m, l_X12_fall_53   Q m p0 p1 p2 p3 p4 (0 : Int32) (1 : Int32) s6)))) ∧ (r5 = 0 → (Q (-1000000 : Int32) s4)))))))))
set_option maxRecDepth 100000 in
set_option maxHeartbeats 4000000 in
theorem c_X12_fall (l : Launch) (g : wG) (A : Nat → Prop) (hA : adO g A)   {p0 : Int32} {p1 : Int32} {p2 : Int32} {p3 : Int32} {p4 : Int32} {σ : wS} {Q : Int32 → wS → Prop} (h : w_X12_fall  p0 p1 p2 p3 p4 σ Q) : Mi l yX12_fall wvX12_fall 6 151 g A [.ref (g.2.2 176), .int p0, .int p1, .int p2, .int p3, .int p4] σ Q := by
  refine mt_i (own := RX12) (lv := [(0, .ref (g.2.2 176)), (1, .int p0), (2, .int p1), (3, .int p2), (4, .int p3), (5, .int p4)]) (by decide) rfl rfl hA (Nat.le_of_ble_eq_true rfl) rfl ?_
  intro X hl hg hAA F hret
  subst hl hg hAA
  unfold w_X12_fall at h
  refine x_aload_n F dX12_fall_0 rfl 0 rfl ?_
  refine x_iconst (0 : Int32) F dX12_fall_1 (by decide) ?_
  refine q_12_0 F kz_176 in_12 (mc bw_8_21) dX12_fall_2 ?_
  refine x_nmS (fun s1 es1 => ?_)
  replace h := h s1 es1
  refine x_aload_n F dX12_fall_5 rfl 0 rfl ?_
  refine x_iload_n F dX12_fall_6 rfl 1 rfl ?_
  refine x_iload_n F dX12_fall_7 rfl 2 rfl ?_
  refine x_iload_n F dX12_fall_8 rfl 3 rfl ?_
  refine x_callV_i F (c_X12_isWind (xl X) (xg X) (xA X) F.2.2.1  h) (bw_V bw_44_19 bw_44_20 bw_44_21 bw_1_5 bw_44_22) rfl cd_X12_isWind (Nat.le_of_ble_eq_true rfl) (Nat.le_of_ble_eq_true rfl) (kd_w (by decide) kz_176) rfl (cl_12 kz_176) rfl rfl (Nat.le_of_ble_eq_true rfl) dX12_fall_9 (fun r3 s2 h => ?_)
  refine x_if_eq (tgt := 31) F dX12_fall_12 (by decide) (fun c => ?_) (fun c => ?_)
  · replace h := h.1 c
    refine x_ldc F dX12_fall_31 (mc bw_18_9) ?_
    exact hret _ _ _ _ h rfl dX12_fall_33
  · replace h := h.2 c
    refine x_iload F dX12_fall_15 4 rfl ?_
    refine x_if_lt (tgt := 31) F dX12_fall_17 (by decide) (fun c => ?_) (fun c => ?_)
    · replace h := h.1 c
      refine x_ldc F dX12_fall_31 (mc bw_18_9) ?_
      exact hret _ _ _ _ h rfl dX12_fall_33
    · replace h := h.2 c
      refine x_iload F dX12_fall_20 5 rfl ?_
      refine x_i2l F dX12_fall_22 ?_
      refine x_lconst (0 : Int64) F dX12_fall_23 (by decide) ?_
      refine x_lconst (1 : Int64) F dX12_fall_24 (by decide) ?_
      refine x_callT_i F (c_X12_isIn (xl X) (xg X) (xA X) F.2.2.1  h) (bw_S bw_13_13 bw_13_14 bw_1_5 bw_13_15) rfl cd_X12_isIn (Nat.le_of_ble_eq_true rfl) (Nat.le_of_ble_eq_true rfl) rfl rfl (Nat.le_of_ble_eq_true rfl) dX12_fall_25 (fun r5 s4 h => ?_)
      refine x_if_ne (tgt := 34) F dX12_fall_28 (by decide) (fun c => ?_) (fun c => ?_)
      · replace h := h.1 c
        refine x_aload_n F dX12_fall_34 rfl 0 rfl ?_
        refine g_12_19 F kz_176 in_12 (mc bw_7_18) dX12_fall_35 ?_
        refine x_iconst (0 : Int32) F dX12_fall_38 (by decide) ?_
        refine x_aload_n F dX12_fall_39 rfl 0 rfl ?_
        refine g_12_20 F kz_176 in_12 (mc bw_7_19) dX12_fall_40 ?_
        refine x_iconst (0 : Int32) F dX12_fall_43 (by decide) ?_
        refine x_callT_v F (c_X12_copyRow (xl X) (xg X) (xA X) F.2.2.1 kz_188 kz_189 h) (bw_S bw_25_14 bw_25_15 bw_1_5 bw_25_16) rfl cd_X12_copyRow (Nat.le_of_ble_eq_true rfl) (Nat.le_of_ble_eq_true rfl) rfl rfl (Nat.le_of_ble_eq_true rfl) dX12_fall_44 (fun s6 h => ?_)
        refine x_iconst (0 : Int32) F dX12_fall_47 (by decide) ?_
        refine x_istore (lv' := [(6, .int (0 : Int32)), (0, .ref (ad X 176)), (1, .int p0), (2, .int p1), (3, .int p2), (4, .int p3), (5, .int p4)]) F dX12_fall_48 (by decide) rfl ?_
        refine x_iconst (1 : Int32) F dX12_fall_50 (by decide) ?_
        refine x_istore (lv' := [(7, .int (1 : Int32)), (6, .int (0 : Int32)), (0, .ref (ad X 176)), (1, .int p0), (2, .int p1), (3, .int p2), (4, .int p3), (5, .int p4)]) F dX12_fall_51 (by decide) rfl ?_
        refine x_sub (lv' := [(0, .ref (ad X 176)), (1, .int p0), (2, .int p1), (3, .int p2), (4, .int p3), (5, .int p4), (6, .int (0 : Int32)), (7, .int (1 : Int32))]) [2, 3, 4, 5, 6, 7, 1, 0] rfl ?_
        obtain ⟨n2, h⟩ := h
        exact wl_X12_fall_53 F hret   n2 _ _ _ _ _ _ _ _ h
      · replace h := h.2 c
        refine x_ldc F dX12_fall_31 (mc bw_18_9) ?_
        exact hret _ _ _ _ h rfl dX12_fall_33
/-! X12_ease -/
abbrev wvX12_ease : List Cond := Cond.code yX12_ease cX12_ease 3 (some .int) :: wsL_law
theorem cd_X12_ease : okN yX12_ease RX12 1 := by unfold okN; decide +kernel
def l_X12_ease_43   (Q : Int32 → wS → Prop) : Nat → Int32 → Int32 → wS → Prop
  | 0, _, _, _ => False
  | n + 1, x1, x2, σ => ((60 : Int32) < x2 → (Q (-1 : Int32) σ)) ∧ (¬ (60 : Int32) < x2 → (vp_in ((8 : Int32) + x1) 202 ∧ ((¬ (σ.1 189 (((8 : Int32) + x1)).toNatClampNeg) = (1 : Int32) → ((x2 = (60 : Int32) → (Q (-1 : Int32) σ)) ∧ (¬ x2 = (60 : Int32) → (w_X12_does 189 (1 : Int32) x1 (-1 : Int32) (0 : Int32) σ (fun r2 s1 => (¬ r2 = (-1 : Int32) → (Q (-1 : Int32) s1)) ∧ (r2 = (-1 : Int32) → (((s1.1 176 32) ≤ 0 → (∀ y3 : Int32, y3 = (x2 + (1 : Int32)) → (l_X12_ease_43   Q n x1 y3 s1))) ∧ (¬ (s1.1 176 32) ≤ 0 → (Q (-1 : Int32) s1))))))))) ∧ ((σ.1 189 (((8 : Int32) + x1)).toNatClampNeg) = (1 : Int32) → (Q x2 σ)))))
set_option maxRecDepth 100000 in
set_option maxHeartbeats 4000000 in
theorem wl_X12_ease_43 {X : XT} {Q : Int32 → wS → Prop}  (F : Fx X cX12_ease 3 RX12 wvX12_ease 6 151) (hret : Ri X 3 cX12_ease .int Q)    : ∀ (n : Nat) (x1 : Int32) (x2 : Int32) (σ : wS), l_X12_ease_43   Q n x1 x2 σ → Wx X 3 σ 43 [(0, .ref (ad X 176)), (1, .int x1), (2, .int x2)] [] := by
  intro n
  induction n with
  | zero =>
    intros
    contradiction
  | succ n ih =>
    intro x1 x2 σ h
    simp only [l_X12_ease_43] at h
    refine x_iload_n F dX12_ease_43 rfl 2 rfl ?_
    refine x_bipush (60 : Int32) F dX12_ease_44 (by decide) ?_
    refine x_icmp_gt (tgt := 101) F dX12_ease_46 (by decide) (fun c => ?_) (fun c => ?_)
    · replace h := h.1 c
      refine x_iconst (-1 : Int32) F dX12_ease_101 (by decide) ?_
      exact hret _ _ _ _ h rfl dX12_ease_102
    · replace h := h.2 c
      refine x_aload_n F dX12_ease_49 rfl 0 rfl ?_
      refine g_12_20 F kz_176 in_12 (mc bw_7_19) dX12_ease_50 ?_
      refine x_bipush (8 : Int32) F dX12_ease_53 (by decide) ?_
      refine x_iload_n F dX12_ease_55 rfl 1 rfl ?_
      refine x_iadd F dX12_ease_56 ?_
      obtain ⟨hj, h⟩ := h
      refine x_iald F kz_189 nz_189 hj dX12_ease_57 ?_
      refine x_iconst (1 : Int32) F dX12_ease_58 (by decide) ?_
      refine x_icmp_ne (tgt := 64) F dX12_ease_59 (by decide) (fun c => ?_) (fun c => ?_)
      · replace h := h.1 c
        refine x_iload_n F dX12_ease_64 rfl 2 rfl ?_
        refine x_bipush (60 : Int32) F dX12_ease_65 (by decide) ?_
        refine x_icmp_eq (tgt := 93) F dX12_ease_67 (by decide) (fun c => ?_) (fun c => ?_)
        · replace h := h.1 c
          refine x_iconst (-1 : Int32) F dX12_ease_93 (by decide) ?_
          exact hret _ _ _ _ h rfl dX12_ease_94
        · replace h := h.2 c
          refine x_aload_n F dX12_ease_70 rfl 0 rfl ?_
          refine x_aload_n F dX12_ease_71 rfl 0 rfl ?_
          refine g_12_20 F kz_176 in_12 (mc bw_7_19) dX12_ease_72 ?_
          refine x_iconst (1 : Int32) F dX12_ease_75 (by decide) ?_
          refine x_iload_n F dX12_ease_76 rfl 1 rfl ?_
          refine x_iconst (-1 : Int32) F dX12_ease_77 (by decide) ?_
          refine x_iconst (0 : Int32) F dX12_ease_78 (by decide) ?_
          refine x_callV_i F (c_X12_does (xl X) (xg X) (xA X) F.2.2.1 kz_189 h) (bw_V bw_36_2 bw_36_3 bw_36_4 bw_1_5 bw_36_5) rfl cd_X12_does (Nat.le_of_ble_eq_true rfl) (Nat.le_of_ble_eq_true rfl) (kd_w (by decide) kz_176) rfl (cl_12 kz_176) rfl rfl (Nat.le_of_ble_eq_true rfl) dX12_ease_79 (fun r2 s1 h => ?_)
          refine x_iconst (-1 : Int32) F dX12_ease_82 (by decide) ?_
          refine x_icmp_ne (tgt := 93) F dX12_ease_83 (by decide) (fun c => ?_) (fun c => ?_)
          · replace h := h.1 c
            refine x_iconst (-1 : Int32) F dX12_ease_93 (by decide) ?_
            exact hret _ _ _ _ h rfl dX12_ease_94
          · replace h := h.2 c
            refine x_aload_n F dX12_ease_86 rfl 0 rfl ?_
            refine g_12_32 F kz_176 in_12 (mc bw_23_9) dX12_ease_87 ?_
            refine x_if_le (tgt := 95) F dX12_ease_90 (by decide) (fun c => ?_) (fun c => ?_)
            · replace h := h.1 c
              obtain ⟨y3, ey3⟩ : ∃ y : Int32, y = (x2 + (1 : Int32)) := ⟨_, rfl⟩
              replace h := h y3 ey3
              refine x_iinc (q := 2) (v := y3) (lv' := [(2, .int y3), (0, .ref (ad X 176)), (1, .int x1)]) F dX12_ease_95 rfl (by rw [ey3]; rfl) (by decide) rfl ?_
              refine x_goto (tgt := 43) F dX12_ease_98 (by decide) ?_
              refine x_sub (lv' := [(0, .ref (ad X 176)), (1, .int x1), (2, .int y3)]) [1, 2, 0] rfl ?_
              exact ih _ _ _ h
            · replace h := h.2 c
              refine x_iconst (-1 : Int32) F dX12_ease_93 (by decide) ?_
              exact hret _ _ _ _ h rfl dX12_ease_94
      · replace h := h.2 c
        refine x_iload_n F dX12_ease_62 rfl 2 rfl ?_
        exact hret _ _ _ _ h rfl dX12_ease_63
def w_X12_ease  (p0 : Int32) (σ : wS) (Q : Int32 → wS → Prop) : Prop := ∀ s1 : wS, s1 = upI σ 176 0 (0 : Int32) → (w_X12_isRope p0 s1 (fun r3 s2 => (r3 = 0 → (Q (-1 : Int32) s2)) ∧ (¬ r3 = 0 → (vp_in ((8 : Int32) + p0) 202 ∧ (((s2.1 188 (((8 : Int32) + p0)).toNatClampNeg) < (2 : Int32) → (w_X12_copyRow 188 189 (0 : Int32) (0 : Int32) s2 (fun s4 => (∃ m, l_X12_ease_43   Q m p0 (0 : Int32) s4)))) ∧ (¬ (s2.1 188 (((8 : Int32) + p0)).toNatClampNeg) < (2 : Int32) → (Q (-1 : Int32) s2)))))))
set_option maxRecDepth 100000 in
set_option maxHeartbeats 4000000 in
theorem c_X12_ease (l : Launch) (g : wG) (A : Nat → Prop) (hA : adO g A)   {p0 : Int32} {σ : wS} {Q : Int32 → wS → Prop} (h : w_X12_ease  p0 σ Q) : Mi l yX12_ease wvX12_ease 6 151 g A [.ref (g.2.2 176), .int p0] σ Q := by
  refine mt_i (own := RX12) (lv := [(0, .ref (g.2.2 176)), (1, .int p0)]) (by decide) rfl rfl hA (Nat.le_of_ble_eq_true rfl) rfl ?_
  intro X hl hg hAA F hret
  subst hl hg hAA
  unfold w_X12_ease at h
  refine x_aload_n F dX12_ease_0 rfl 0 rfl ?_
  refine x_iconst (0 : Int32) F dX12_ease_1 (by decide) ?_
  refine q_12_0 F kz_176 in_12 (mc bw_8_21) dX12_ease_2 ?_
  refine x_nmS (fun s1 es1 => ?_)
  replace h := h s1 es1
  refine x_aload_n F dX12_ease_5 rfl 0 rfl ?_
  refine x_iload_n F dX12_ease_6 rfl 1 rfl ?_
  refine x_callV_i F (c_X12_isRope (xl X) (xg X) (xA X) F.2.2.1  h) (bw_V bw_27_21 bw_27_22 bw_27_23 bw_1_5 bw_28_0) rfl cd_X12_isRope (Nat.le_of_ble_eq_true rfl) (Nat.le_of_ble_eq_true rfl) (kd_w (by decide) kz_176) rfl (cl_12 kz_176) rfl rfl (Nat.le_of_ble_eq_true rfl) dX12_ease_7 (fun r3 s2 h => ?_)
  refine x_if_eq (tgt := 26) F dX12_ease_10 (by decide) (fun c => ?_) (fun c => ?_)
  · replace h := h.1 c
    refine x_iconst (-1 : Int32) F dX12_ease_26 (by decide) ?_
    exact hret _ _ _ _ h rfl dX12_ease_27
  · replace h := h.2 c
    refine x_aload_n F dX12_ease_13 rfl 0 rfl ?_
    refine g_12_19 F kz_176 in_12 (mc bw_7_18) dX12_ease_14 ?_
    refine x_bipush (8 : Int32) F dX12_ease_17 (by decide) ?_
    refine x_iload_n F dX12_ease_19 rfl 1 rfl ?_
    refine x_iadd F dX12_ease_20 ?_
    obtain ⟨hj, h⟩ := h
    refine x_iald F kz_188 nz_188 hj dX12_ease_21 ?_
    refine x_iconst (2 : Int32) F dX12_ease_22 (by decide) ?_
    refine x_icmp_lt (tgt := 28) F dX12_ease_23 (by decide) (fun c => ?_) (fun c => ?_)
    · replace h := h.1 c
      refine x_aload_n F dX12_ease_28 rfl 0 rfl ?_
      refine g_12_19 F kz_176 in_12 (mc bw_7_18) dX12_ease_29 ?_
      refine x_iconst (0 : Int32) F dX12_ease_32 (by decide) ?_
      refine x_aload_n F dX12_ease_33 rfl 0 rfl ?_
      refine g_12_20 F kz_176 in_12 (mc bw_7_19) dX12_ease_34 ?_
      refine x_iconst (0 : Int32) F dX12_ease_37 (by decide) ?_
      refine x_callT_v F (c_X12_copyRow (xl X) (xg X) (xA X) F.2.2.1 kz_188 kz_189 h) (bw_S bw_25_14 bw_25_15 bw_1_5 bw_25_16) rfl cd_X12_copyRow (Nat.le_of_ble_eq_true rfl) (Nat.le_of_ble_eq_true rfl) rfl rfl (Nat.le_of_ble_eq_true rfl) dX12_ease_38 (fun s4 h => ?_)
      refine x_iconst (0 : Int32) F dX12_ease_41 (by decide) ?_
      refine x_istore_n (lv' := [(2, .int (0 : Int32)), (0, .ref (ad X 176)), (1, .int p0)]) F dX12_ease_42 rfl (by decide) rfl ?_
      refine x_sub (lv' := [(0, .ref (ad X 176)), (1, .int p0), (2, .int (0 : Int32))]) [1, 2, 0] rfl ?_
      obtain ⟨n2, h⟩ := h
      exact wl_X12_ease_43 F hret   n2 _ _ _ h
    · replace h := h.2 c
      refine x_iconst (-1 : Int32) F dX12_ease_26 (by decide) ?_
      exact hret _ _ _ _ h rfl dX12_ease_27
/-! X12_range -/
abbrev wvX12_range : List Cond := Cond.code yX12_range cX12_range 6 (some .int) :: wsL_law
theorem cd_X12_range : okN yX12_range RX12 2 := by unfold okN; decide +kernel
def b_X12_range_111  (K66 : Int32 → Int32 → Int32 → Int32 → wS → Prop) (Q : Int32 → wS → Prop) (x1 : Int32) (x3 : Int32) (x4 : Int32) (x5 : Int32) (z0 : Int32) (z1 : Int32) (z2 : Int32) (z3 : Int32) (σ : wS) : Prop := w_X12_does 189 z3 z2 z1 z0 σ (fun r2 s1 => (¬ r2 = (-1 : Int32) → (Q x5 s1)) ∧ (r2 = (-1 : Int32) → ((0 < (s1.1 176 32) → (Q x5 s1)) ∧ (¬ 0 < (s1.1 176 32) → (w_X12_those 189 (s1.1 176 14) (0 : Int32) s1 (fun r4 s3 => (r4 = x3 → (∀ y5 : Int32, y5 = (x5 + (1 : Int32)) → (K66 x1 x3 x4 y5 s3))) ∧ (¬ r4 = x3 → (Q x5 s3))))))))
set_option maxRecDepth 100000 in
set_option maxHeartbeats 4000000 in
theorem wb_X12_range_111 {X : XT} {Q : Int32 → wS → Prop}  (F : Fx X cX12_range 6 RX12 wvX12_range 6 151) (hret : Ri X 6 cX12_range .int Q)  {K66 : Int32 → Int32 → Int32 → Int32 → wS → Prop} (hK66 : ∀ (x1 : Int32) (x3 : Int32) (x4 : Int32) (x5 : Int32) (σ : wS), K66 x1 x3 x4 x5 σ → Wx X 6 σ 66 [(0, .ref (ad X 176)), (1, .int x1), (3, .int x3), (4, .int x4), (5, .int x5)] []) (x1 : Int32) (x3 : Int32) (x4 : Int32) (x5 : Int32) (z0 : Int32) (z1 : Int32) (z2 : Int32) (z3 : Int32) (σ : wS) (h : b_X12_range_111  K66 Q x1 x3 x4 x5 z0 z1 z2 z3 σ) : Wx X 6 σ 111 [(0, .ref (ad X 176)), (1, .int x1), (3, .int x3), (4, .int x4), (5, .int x5)] [.int z0, .int z1, .int z2, .int z3, .ref (ad X 189), .ref (ad X 176)] := by
  unfold b_X12_range_111 at h
  refine x_callV_i F (c_X12_does (xl X) (xg X) (xA X) F.2.2.1 kz_189 h) (bw_V bw_36_2 bw_36_3 bw_36_4 bw_1_5 bw_36_5) rfl cd_X12_does (Nat.le_of_ble_eq_true rfl) (Nat.le_of_ble_eq_true rfl) (kd_w (by decide) kz_176) rfl (cl_12 kz_176) rfl rfl (Nat.le_of_ble_eq_true rfl) dX12_range_111 (fun r2 s1 h => ?_)
  refine x_iconst (-1 : Int32) F dX12_range_114 (by decide) ?_
  refine x_icmp_ne (tgt := 141) F dX12_range_115 (by decide) (fun c => ?_) (fun c => ?_)
  · replace h := h.1 c
    refine x_iload F dX12_range_141 4 rfl ?_
    exact hret _ _ _ _ h rfl dX12_range_143
  · replace h := h.2 c
    refine x_aload_n F dX12_range_118 rfl 0 rfl ?_
    refine g_12_32 F kz_176 in_12 (mc bw_23_9) dX12_range_119 ?_
    refine x_if_gt (tgt := 141) F dX12_range_122 (by decide) (fun c => ?_) (fun c => ?_)
    · replace h := h.1 c
      refine x_iload F dX12_range_141 4 rfl ?_
      exact hret _ _ _ _ h rfl dX12_range_143
    · replace h := h.2 c
      refine x_aload_n F dX12_range_125 rfl 0 rfl ?_
      refine g_12_20 F kz_176 in_12 (mc bw_7_19) dX12_range_126 ?_
      refine x_aload_n F dX12_range_129 rfl 0 rfl ?_
      refine g_12_14 F kz_176 in_12 (mc bw_22_18) dX12_range_130 ?_
      refine x_iconst (0 : Int32) F dX12_range_133 (by decide) ?_
      refine x_callT_i F (c_X12_those (xl X) (xg X) (xA X) F.2.2.1 kz_189 h) (bw_S bw_23_11 bw_23_12 bw_1_5 bw_23_13) rfl cd_X12_those (Nat.le_of_ble_eq_true rfl) (Nat.le_of_ble_eq_true rfl) rfl rfl (Nat.le_of_ble_eq_true rfl) dX12_range_134 (fun r4 s3 h => ?_)
      refine x_iload_n F dX12_range_137 rfl 2 rfl ?_
      refine x_icmp_eq (tgt := 144) F dX12_range_138 (by decide) (fun c => ?_) (fun c => ?_)
      · replace h := h.1 c
        obtain ⟨y5, ey5⟩ : ∃ y : Int32, y = (x5 + (1 : Int32)) := ⟨_, rfl⟩
        replace h := h y5 ey5
        refine x_iinc (q := 4) (v := y5) (lv' := [(5, .int y5), (0, .ref (ad X 176)), (1, .int x1), (3, .int x3), (4, .int x4)]) F dX12_range_144 rfl (by rw [ey5]; rfl) (by decide) rfl ?_
        refine x_goto (tgt := 66) F dX12_range_147 (by decide) ?_
        refine x_sub (lv' := [(0, .ref (ad X 176)), (1, .int x1), (3, .int x3), (4, .int x4), (5, .int y5)]) [1, 2, 3, 4, 0] rfl ?_
        exact hK66 _ _ _ _ _ h
      · replace h := h.2 c
        refine x_iload F dX12_range_141 4 rfl ?_
        exact hret _ _ _ _ h rfl dX12_range_143
def b_X12_range_100  (K66 : Int32 → Int32 → Int32 → Int32 → wS → Prop) (Q : Int32 → wS → Prop) (x1 : Int32) (x3 : Int32) (x4 : Int32) (x5 : Int32) (z0 : Int32) (z1 : Int32) (z2 : Int32) (σ : wS) : Prop := (¬ x1 = (2 : Int32) → (b_X12_range_111  K66 Q x1 x3 x4 x5 (0 : Int32) z0 z1 z2 σ)) ∧ (x1 = (2 : Int32) → (b_X12_range_111  K66 Q x1 x3 x4 x5 x4 z0 z1 z2 σ))
set_option maxRecDepth 100000 in
set_option maxHeartbeats 4000000 in
theorem wb_X12_range_100 {X : XT} {Q : Int32 → wS → Prop}  (F : Fx X cX12_range 6 RX12 wvX12_range 6 151) (hret : Ri X 6 cX12_range .int Q)  {K66 : Int32 → Int32 → Int32 → Int32 → wS → Prop} (hK66 : ∀ (x1 : Int32) (x3 : Int32) (x4 : Int32) (x5 : Int32) (σ : wS), K66 x1 x3 x4 x5 σ → Wx X 6 σ 66 [(0, .ref (ad X 176)), (1, .int x1), (3, .int x3), (4, .int x4), (5, .int x5)] []) (x1 : Int32) (x3 : Int32) (x4 : Int32) (x5 : Int32) (z0 : Int32) (z1 : Int32) (z2 : Int32) (σ : wS) (h : b_X12_range_100  K66 Q x1 x3 x4 x5 z0 z1 z2 σ) : Wx X 6 σ 100 [(0, .ref (ad X 176)), (1, .int x1), (3, .int x3), (4, .int x4), (5, .int x5)] [.int z0, .int z1, .int z2, .ref (ad X 189), .ref (ad X 176)] := by
  unfold b_X12_range_100 at h
  refine x_iload_n F dX12_range_100 rfl 1 rfl ?_
  refine x_iconst (2 : Int32) F dX12_range_101 (by decide) ?_
  refine x_icmp_ne (tgt := 110) F dX12_range_102 (by decide) (fun c => ?_) (fun c => ?_)
  · replace h := h.1 c
    refine x_iconst (0 : Int32) F dX12_range_110 (by decide) ?_
    refine x_sub (lv' := [(0, .ref (ad X 176)), (1, .int x1), (3, .int x3), (4, .int x4), (5, .int x5)]) [0, 1, 2, 3, 4] rfl ?_
    exact wb_X12_range_111 F hret  hK66 _ _ _ _ _ _ _ _ _ h
  · replace h := h.2 c
    refine x_iload F dX12_range_105 3 rfl ?_
    refine x_goto (tgt := 111) F dX12_range_107 (by decide) ?_
    refine x_sub (lv' := [(0, .ref (ad X 176)), (1, .int x1), (3, .int x3), (4, .int x4), (5, .int x5)]) [0, 1, 2, 3, 4] rfl ?_
    exact wb_X12_range_111 F hret  hK66 _ _ _ _ _ _ _ _ _ h
def b_X12_range_89  (K66 : Int32 → Int32 → Int32 → Int32 → wS → Prop) (Q : Int32 → wS → Prop) (x1 : Int32) (x3 : Int32) (x4 : Int32) (x5 : Int32) (z0 : Int32) (z1 : Int32) (σ : wS) : Prop := (¬ x1 = (1 : Int32) → (b_X12_range_100  K66 Q x1 x3 x4 x5 (0 : Int32) z0 z1 σ)) ∧ (x1 = (1 : Int32) → (b_X12_range_100  K66 Q x1 x3 x4 x5 x4 z0 z1 σ))
set_option maxRecDepth 100000 in
set_option maxHeartbeats 4000000 in
theorem wb_X12_range_89 {X : XT} {Q : Int32 → wS → Prop}  (F : Fx X cX12_range 6 RX12 wvX12_range 6 151) (hret : Ri X 6 cX12_range .int Q)  {K66 : Int32 → Int32 → Int32 → Int32 → wS → Prop} (hK66 : ∀ (x1 : Int32) (x3 : Int32) (x4 : Int32) (x5 : Int32) (σ : wS), K66 x1 x3 x4 x5 σ → Wx X 6 σ 66 [(0, .ref (ad X 176)), (1, .int x1), (3, .int x3), (4, .int x4), (5, .int x5)] []) (x1 : Int32) (x3 : Int32) (x4 : Int32) (x5 : Int32) (z0 : Int32) (z1 : Int32) (σ : wS) (h : b_X12_range_89  K66 Q x1 x3 x4 x5 z0 z1 σ) : Wx X 6 σ 89 [(0, .ref (ad X 176)), (1, .int x1), (3, .int x3), (4, .int x4), (5, .int x5)] [.int z0, .int z1, .ref (ad X 189), .ref (ad X 176)] := by
  unfold b_X12_range_89 at h
  refine x_iload_n F dX12_range_89 rfl 1 rfl ?_
  refine x_iconst (1 : Int32) F dX12_range_90 (by decide) ?_
  refine x_icmp_ne (tgt := 99) F dX12_range_91 (by decide) (fun c => ?_) (fun c => ?_)
  · replace h := h.1 c
    refine x_iconst (0 : Int32) F dX12_range_99 (by decide) ?_
    refine x_sub (lv' := [(0, .ref (ad X 176)), (1, .int x1), (3, .int x3), (4, .int x4), (5, .int x5)]) [0, 1, 2, 3, 4] rfl ?_
    exact wb_X12_range_100 F hret  hK66 _ _ _ _ _ _ _ _ h
  · replace h := h.2 c
    refine x_iload F dX12_range_94 3 rfl ?_
    refine x_goto (tgt := 100) F dX12_range_96 (by decide) ?_
    refine x_sub (lv' := [(0, .ref (ad X 176)), (1, .int x1), (3, .int x3), (4, .int x4), (5, .int x5)]) [0, 1, 2, 3, 4] rfl ?_
    exact wb_X12_range_100 F hret  hK66 _ _ _ _ _ _ _ _ h
def l_X12_range_66   (Q : Int32 → wS → Prop) : Nat → Int32 → Int32 → Int32 → Int32 → wS → Prop
  | 0, _, _, _, _, _ => False
  | n + 1, x1, x3, x4, x5, σ => ((60 : Int32) ≤ x5 → (Q x5 σ)) ∧ (¬ (60 : Int32) ≤ x5 → ((¬ x1 = 0 → (b_X12_range_89  (fun x1 x3 x4 x5 σ => l_X12_range_66   Q n x1 x3 x4 x5 σ) Q x1 x3 x4 x5 (0 : Int32) (0 : Int32) σ)) ∧ (x1 = 0 → (b_X12_range_89  (fun x1 x3 x4 x5 σ => l_X12_range_66   Q n x1 x3 x4 x5 σ) Q x1 x3 x4 x5 x4 (0 : Int32) σ))))
set_option maxRecDepth 100000 in
set_option maxHeartbeats 4000000 in
theorem wl_X12_range_66 {X : XT} {Q : Int32 → wS → Prop}  (F : Fx X cX12_range 6 RX12 wvX12_range 6 151) (hret : Ri X 6 cX12_range .int Q)    : ∀ (n : Nat) (x1 : Int32) (x3 : Int32) (x4 : Int32) (x5 : Int32) (σ : wS), l_X12_range_66   Q n x1 x3 x4 x5 σ → Wx X 6 σ 66 [(0, .ref (ad X 176)), (1, .int x1), (3, .int x3), (4, .int x4), (5, .int x5)] [] := by
  intro n
  induction n with
  | zero =>
    intros
    contradiction
  | succ n ih =>
    intro x1 x3 x4 x5 σ h
    simp only [l_X12_range_66] at h
    refine x_iload F dX12_range_66 4 rfl ?_
    refine x_bipush (60 : Int32) F dX12_range_68 (by decide) ?_
    refine x_icmp_ge (tgt := 150) F dX12_range_70 (by decide) (fun c => ?_) (fun c => ?_)
    · replace h := h.1 c
      refine x_iload F dX12_range_150 4 rfl ?_
      exact hret _ _ _ _ h rfl dX12_range_152
    · replace h := h.2 c
      refine x_aload_n F dX12_range_73 rfl 0 rfl ?_
      refine x_aload_n F dX12_range_74 rfl 0 rfl ?_
      refine g_12_20 F kz_176 in_12 (mc bw_7_19) dX12_range_75 ?_
      refine x_iconst (0 : Int32) F dX12_range_78 (by decide) ?_
      refine x_iload_n F dX12_range_79 rfl 1 rfl ?_
      refine x_if_ne (tgt := 88) F dX12_range_80 (by decide) (fun c => ?_) (fun c => ?_)
      · replace h := h.1 c
        refine x_iconst (0 : Int32) F dX12_range_88 (by decide) ?_
        refine x_sub (lv' := [(0, .ref (ad X 176)), (1, .int x1), (3, .int x3), (4, .int x4), (5, .int x5)]) [0, 1, 2, 3, 4] rfl ?_
        exact wb_X12_range_89 F hret  ih _ _ _ _ _ _ _ h
      · replace h := h.2 c
        refine x_iload F dX12_range_83 3 rfl ?_
        refine x_goto (tgt := 89) F dX12_range_85 (by decide) ?_
        refine x_sub (lv' := [(0, .ref (ad X 176)), (1, .int x1), (3, .int x3), (4, .int x4), (5, .int x5)]) [0, 1, 2, 3, 4] rfl ?_
        exact wb_X12_range_89 F hret  ih _ _ _ _ _ _ _ h
def b_X12_range_61   (Q : Int32 → wS → Prop) (x1 : Int32) (x3 : Int32) (z0 : Int32) (σ : wS) : Prop := (∃ m, l_X12_range_66   Q m x1 x3 z0 (0 : Int32) σ)
set_option maxRecDepth 100000 in
set_option maxHeartbeats 4000000 in
theorem wb_X12_range_61 {X : XT} {Q : Int32 → wS → Prop}  (F : Fx X cX12_range 6 RX12 wvX12_range 6 151) (hret : Ri X 6 cX12_range .int Q)    (x1 : Int32) (x3 : Int32) (z0 : Int32) (σ : wS) (h : b_X12_range_61   Q x1 x3 z0 σ) : Wx X 6 σ 61 [(0, .ref (ad X 176)), (1, .int x1), (3, .int x3)] [.int z0] := by
  unfold b_X12_range_61 at h
  refine x_istore (lv' := [(4, .int z0), (0, .ref (ad X 176)), (1, .int x1), (3, .int x3)]) F dX12_range_61 (by decide) rfl ?_
  refine x_iconst (0 : Int32) F dX12_range_63 (by decide) ?_
  refine x_istore (lv' := [(5, .int (0 : Int32)), (4, .int z0), (0, .ref (ad X 176)), (1, .int x1), (3, .int x3)]) F dX12_range_64 (by decide) rfl ?_
  refine x_sub (lv' := [(0, .ref (ad X 176)), (1, .int x1), (3, .int x3), (4, .int z0), (5, .int (0 : Int32))]) [2, 3, 4, 1, 0] rfl ?_
  obtain ⟨n2, h⟩ := h
  exact wl_X12_range_66 F hret   n2 _ _ _ _ _ h
def w_X12_range  (p0 : Int32) (p1 : Int32) (σ : wS) (Q : Int32 → wS → Prop) : Prop := ∀ s1 : wS, s1 = upI σ 176 0 (0 : Int32) → (((s1.1 176 14) = 0 → (Q (-1 : Int32) s1)) ∧ (¬ (s1.1 176 14) = 0 → (w_X12_isIn (p0).toInt64 (0 : Int64) (2 : Int64) s1 (fun r3 s2 => (¬ r3 = 0 → (w_X12_copyRow 188 189 (0 : Int32) (0 : Int32) s2 (fun s4 => w_X12_those 188 (s4.1 176 14) (0 : Int32) s4 (fun r7 s6 => (p1 = 0 → (b_X12_range_61   Q p0 r7 (-1 : Int32) s6)) ∧ (¬ p1 = 0 → (b_X12_range_61   Q p0 r7 (1 : Int32) s6)))))) ∧ (r3 = 0 → (Q (-1 : Int32) s2))))))
set_option maxRecDepth 100000 in
set_option maxHeartbeats 4000000 in
theorem c_X12_range (l : Launch) (g : wG) (A : Nat → Prop) (hA : adO g A)   {p0 : Int32} {p1 : Int32} {σ : wS} {Q : Int32 → wS → Prop} (h : w_X12_range  p0 p1 σ Q) : Mi l yX12_range wvX12_range 6 151 g A [.ref (g.2.2 176), .int p0, .int p1] σ Q := by
  refine mt_i (own := RX12) (lv := [(0, .ref (g.2.2 176)), (1, .int p0), (2, .int p1)]) (by decide) rfl rfl hA (Nat.le_of_ble_eq_true rfl) rfl ?_
  intro X hl hg hAA F hret
  subst hl hg hAA
  unfold w_X12_range at h
  refine x_aload_n F dX12_range_0 rfl 0 rfl ?_
  refine x_iconst (0 : Int32) F dX12_range_1 (by decide) ?_
  refine q_12_0 F kz_176 in_12 (mc bw_8_21) dX12_range_2 ?_
  refine x_nmS (fun s1 es1 => ?_)
  replace h := h s1 es1
  refine x_aload_n F dX12_range_5 rfl 0 rfl ?_
  refine g_12_14 F kz_176 in_12 (mc bw_22_18) dX12_range_6 ?_
  refine x_if_eq (tgt := 24) F dX12_range_9 (by decide) (fun c => ?_) (fun c => ?_)
  · replace h := h.1 c
    refine x_iconst (-1 : Int32) F dX12_range_24 (by decide) ?_
    exact hret _ _ _ _ h rfl dX12_range_25
  · replace h := h.2 c
    refine x_iload_n F dX12_range_12 rfl 1 rfl ?_
    refine x_i2l F dX12_range_13 ?_
    refine x_lconst (0 : Int64) F dX12_range_14 (by decide) ?_
    refine x_ldc2 F dX12_range_15 (mc bw_30_18) ?_
    refine x_callT_i F (c_X12_isIn (xl X) (xg X) (xA X) F.2.2.1  h) (bw_S bw_13_13 bw_13_14 bw_1_5 bw_13_15) rfl cd_X12_isIn (Nat.le_of_ble_eq_true rfl) (Nat.le_of_ble_eq_true rfl) rfl rfl (Nat.le_of_ble_eq_true rfl) dX12_range_18 (fun r3 s2 h => ?_)
    refine x_if_ne (tgt := 26) F dX12_range_21 (by decide) (fun c => ?_) (fun c => ?_)
    · replace h := h.1 c
      refine x_aload_n F dX12_range_26 rfl 0 rfl ?_
      refine g_12_19 F kz_176 in_12 (mc bw_7_18) dX12_range_27 ?_
      refine x_iconst (0 : Int32) F dX12_range_30 (by decide) ?_
      refine x_aload_n F dX12_range_31 rfl 0 rfl ?_
      refine g_12_20 F kz_176 in_12 (mc bw_7_19) dX12_range_32 ?_
      refine x_iconst (0 : Int32) F dX12_range_35 (by decide) ?_
      refine x_callT_v F (c_X12_copyRow (xl X) (xg X) (xA X) F.2.2.1 kz_188 kz_189 h) (bw_S bw_25_14 bw_25_15 bw_1_5 bw_25_16) rfl cd_X12_copyRow (Nat.le_of_ble_eq_true rfl) (Nat.le_of_ble_eq_true rfl) rfl rfl (Nat.le_of_ble_eq_true rfl) dX12_range_36 (fun s4 h => ?_)
      refine x_aload_n F dX12_range_39 rfl 0 rfl ?_
      refine g_12_19 F kz_176 in_12 (mc bw_7_18) dX12_range_40 ?_
      refine x_aload_n F dX12_range_43 rfl 0 rfl ?_
      refine g_12_14 F kz_176 in_12 (mc bw_22_18) dX12_range_44 ?_
      refine x_iconst (0 : Int32) F dX12_range_47 (by decide) ?_
      refine x_callT_i F (c_X12_those (xl X) (xg X) (xA X) F.2.2.1 kz_188 h) (bw_S bw_23_11 bw_23_12 bw_1_5 bw_23_13) rfl cd_X12_those (Nat.le_of_ble_eq_true rfl) (Nat.le_of_ble_eq_true rfl) rfl rfl (Nat.le_of_ble_eq_true rfl) dX12_range_48 (fun r7 s6 h => ?_)
      refine x_istore_n (lv' := [(3, .int r7), (0, .ref (ad X 176)), (1, .int p0), (2, .int p1)]) F dX12_range_51 rfl (by decide) rfl ?_
      refine x_iload_n F dX12_range_52 rfl 3 rfl ?_
      refine x_if_eq (tgt := 60) F dX12_range_53 (by decide) (fun c => ?_) (fun c => ?_)
      · replace h := h.1 c
        refine x_iconst (-1 : Int32) F dX12_range_60 (by decide) ?_
        refine x_sub (lv' := [(0, .ref (ad X 176)), (1, .int p0), (3, .int r7)]) [1, 2, 0] rfl ?_
        exact wb_X12_range_61 F hret   _ _ _ _ h
      · replace h := h.2 c
        refine x_iconst (1 : Int32) F dX12_range_56 (by decide) ?_
        refine x_goto (tgt := 61) F dX12_range_57 (by decide) ?_
        refine x_sub (lv' := [(0, .ref (ad X 176)), (1, .int p0), (3, .int r7)]) [1, 2, 0] rfl ?_
        exact wb_X12_range_61 F hret   _ _ _ _ h
    · replace h := h.2 c
      refine x_iconst (-1 : Int32) F dX12_range_24 (by decide) ?_
      exact hret _ _ _ _ h rfl dX12_range_25
/-! X12_stood -/
abbrev wvX12_stood : List Cond := Cond.code yX12_stood cX12_stood 6 (some .int) :: wsL_law
theorem cd_X12_stood : okN yX12_stood RX12 4 := by unfold okN; decide +kernel
def l_X12_stood_16   (Q : Int32 → wS → Prop) : Nat → Int32 → Int32 → Int32 → Int32 → Int32 → wS → Prop
  | 0, _, _, _, _, _, _ => False
  | n + 1, x1, x2, x3, x4, x5, σ => (x4 ≤ x5 → (Q x5 σ)) ∧ (¬ x4 ≤ x5 → (w_X12_does 189 (0 : Int32) x1 x2 x3 σ (fun r2 s1 => (¬ r2 = (-1 : Int32) → (Q x5 s1)) ∧ (r2 = (-1 : Int32) → ((¬ (s1.1 176 32) = 0 → (Q x5 s1)) ∧ ((s1.1 176 32) = 0 → (∀ y3 : Int32, y3 = (x5 + (1 : Int32)) → (l_X12_stood_16   Q n x1 x2 x3 x4 y3 s1))))))))
set_option maxRecDepth 100000 in
set_option maxHeartbeats 4000000 in
theorem wl_X12_stood_16 {X : XT} {Q : Int32 → wS → Prop}  (F : Fx X cX12_stood 6 RX12 wvX12_stood 6 151) (hret : Ri X 6 cX12_stood .int Q)    : ∀ (n : Nat) (x1 : Int32) (x2 : Int32) (x3 : Int32) (x4 : Int32) (x5 : Int32) (σ : wS), l_X12_stood_16   Q n x1 x2 x3 x4 x5 σ → Wx X 6 σ 16 [(0, .ref (ad X 176)), (1, .int x1), (2, .int x2), (3, .int x3), (4, .int x4), (5, .int x5)] [] := by
  intro n
  induction n with
  | zero =>
    intros
    contradiction
  | succ n ih =>
    intro x1 x2 x3 x4 x5 σ h
    simp only [l_X12_stood_16] at h
    refine x_iload F dX12_stood_16 5 rfl ?_
    refine x_iload F dX12_stood_18 4 rfl ?_
    refine x_icmp_ge (tgt := 52) F dX12_stood_20 (by decide) (fun c => ?_) (fun c => ?_)
    · replace h := h.1 c
      refine x_iload F dX12_stood_52 5 rfl ?_
      exact hret _ _ _ _ h rfl dX12_stood_54
    · replace h := h.2 c
      refine x_aload_n F dX12_stood_23 rfl 0 rfl ?_
      refine x_aload_n F dX12_stood_24 rfl 0 rfl ?_
      refine g_12_20 F kz_176 in_12 (mc bw_7_19) dX12_stood_25 ?_
      refine x_iconst (0 : Int32) F dX12_stood_28 (by decide) ?_
      refine x_iload_n F dX12_stood_29 rfl 1 rfl ?_
      refine x_iload_n F dX12_stood_30 rfl 2 rfl ?_
      refine x_iload_n F dX12_stood_31 rfl 3 rfl ?_
      refine x_callV_i F (c_X12_does (xl X) (xg X) (xA X) F.2.2.1 kz_189 h) (bw_V bw_36_2 bw_36_3 bw_36_4 bw_1_5 bw_36_5) rfl cd_X12_does (Nat.le_of_ble_eq_true rfl) (Nat.le_of_ble_eq_true rfl) (kd_w (by decide) kz_176) rfl (cl_12 kz_176) rfl rfl (Nat.le_of_ble_eq_true rfl) dX12_stood_32 (fun r2 s1 h => ?_)
      refine x_iconst (-1 : Int32) F dX12_stood_35 (by decide) ?_
      refine x_icmp_ne (tgt := 52) F dX12_stood_36 (by decide) (fun c => ?_) (fun c => ?_)
      · replace h := h.1 c
        refine x_iload F dX12_stood_52 5 rfl ?_
        exact hret _ _ _ _ h rfl dX12_stood_54
      · replace h := h.2 c
        refine x_aload_n F dX12_stood_39 rfl 0 rfl ?_
        refine g_12_32 F kz_176 in_12 (mc bw_23_9) dX12_stood_40 ?_
        refine x_if_ne (tgt := 52) F dX12_stood_43 (by decide) (fun c => ?_) (fun c => ?_)
        · replace h := h.1 c
          refine x_iload F dX12_stood_52 5 rfl ?_
          exact hret _ _ _ _ h rfl dX12_stood_54
        · replace h := h.2 c
          obtain ⟨y3, ey3⟩ : ∃ y : Int32, y = (x5 + (1 : Int32)) := ⟨_, rfl⟩
          replace h := h y3 ey3
          refine x_iinc (q := 5) (v := y3) (lv' := [(5, .int y3), (0, .ref (ad X 176)), (1, .int x1), (2, .int x2), (3, .int x3), (4, .int x4)]) F dX12_stood_46 rfl (by rw [ey3]; rfl) (by decide) rfl ?_
          refine x_goto (tgt := 16) F dX12_stood_49 (by decide) ?_
          refine x_sub (lv' := [(0, .ref (ad X 176)), (1, .int x1), (2, .int x2), (3, .int x3), (4, .int x4), (5, .int y3)]) [1, 2, 3, 4, 5, 0] rfl ?_
          exact ih _ _ _ _ _ _ h
def w_X12_stood  (p0 : Int32) (p1 : Int32) (p2 : Int32) (p3 : Int32) (σ : wS) (Q : Int32 → wS → Prop) : Prop := w_X12_copyRow 188 189 (0 : Int32) (0 : Int32) σ (fun s1 => (∃ m, l_X12_stood_16   Q m p0 p1 p2 p3 (0 : Int32) s1))
set_option maxRecDepth 100000 in
set_option maxHeartbeats 4000000 in
theorem c_X12_stood (l : Launch) (g : wG) (A : Nat → Prop) (hA : adO g A)   {p0 : Int32} {p1 : Int32} {p2 : Int32} {p3 : Int32} {σ : wS} {Q : Int32 → wS → Prop} (h : w_X12_stood  p0 p1 p2 p3 σ Q) : Mi l yX12_stood wvX12_stood 6 151 g A [.ref (g.2.2 176), .int p0, .int p1, .int p2, .int p3] σ Q := by
  refine mt_i (own := RX12) (lv := [(0, .ref (g.2.2 176)), (1, .int p0), (2, .int p1), (3, .int p2), (4, .int p3)]) (by decide) rfl rfl hA (Nat.le_of_ble_eq_true rfl) rfl ?_
  intro X hl hg hAA F hret
  subst hl hg hAA
  unfold w_X12_stood at h
  refine x_aload_n F dX12_stood_0 rfl 0 rfl ?_
  refine g_12_19 F kz_176 in_12 (mc bw_7_18) dX12_stood_1 ?_
  refine x_iconst (0 : Int32) F dX12_stood_4 (by decide) ?_
  refine x_aload_n F dX12_stood_5 rfl 0 rfl ?_
  refine g_12_20 F kz_176 in_12 (mc bw_7_19) dX12_stood_6 ?_
  refine x_iconst (0 : Int32) F dX12_stood_9 (by decide) ?_
  refine x_callT_v F (c_X12_copyRow (xl X) (xg X) (xA X) F.2.2.1 kz_188 kz_189 h) (bw_S bw_25_14 bw_25_15 bw_1_5 bw_25_16) rfl cd_X12_copyRow (Nat.le_of_ble_eq_true rfl) (Nat.le_of_ble_eq_true rfl) rfl rfl (Nat.le_of_ble_eq_true rfl) dX12_stood_10 (fun s1 h => ?_)
  refine x_iconst (0 : Int32) F dX12_stood_13 (by decide) ?_
  refine x_istore (lv' := [(5, .int (0 : Int32)), (0, .ref (ad X 176)), (1, .int p0), (2, .int p1), (3, .int p2), (4, .int p3)]) F dX12_stood_14 (by decide) rfl ?_
  refine x_sub (lv' := [(0, .ref (ad X 176)), (1, .int p0), (2, .int p1), (3, .int p2), (4, .int p3), (5, .int (0 : Int32))]) [1, 2, 3, 4, 5, 0] rfl ?_
  obtain ⟨n2, h⟩ := h
  exact wl_X12_stood_16 F hret   n2 _ _ _ _ _ _ h
/-! X12_odds -/
abbrev wvX12_odds : List Cond := Cond.code yX12_odds cX12_odds 14 (some .int) :: wsL_law
theorem cd_X12_odds : okN yX12_odds RX12 5 := by unfold okN; decide +kernel
def b_X12_odds_145  (K61 : Int32 → Int32 → Int32 → Int32 → Int32 → wS → Prop) (Q : Int32 → wS → Prop) (x1 : Int32) (x5 : Int32) (x6 : Int32) (x7 : Int32) (x8 : Int32) (σ : wS) : Prop := ∀ y1 : Int32, y1 = (x8 + (1 : Int32)) → (K61 x1 x5 x6 x7 y1 σ)
set_option maxRecDepth 100000 in
set_option maxHeartbeats 4000000 in
theorem wb_X12_odds_145 {X : XT} {Q : Int32 → wS → Prop}  (F : Fx X cX12_odds 14 RX12 wvX12_odds 7 176) (hret : Ri X 14 cX12_odds .int Q)  {K61 : Int32 → Int32 → Int32 → Int32 → Int32 → wS → Prop} (hK61 : ∀ (x1 : Int32) (x5 : Int32) (x6 : Int32) (x7 : Int32) (x8 : Int32) (σ : wS), K61 x1 x5 x6 x7 x8 σ → Wx X 14 σ 61 [(1, .int x1), (5, .int x5), (6, .int x6), (7, .int x7), (8, .int x8)] []) (x1 : Int32) (x5 : Int32) (x6 : Int32) (x7 : Int32) (x8 : Int32) (σ : wS) (h : b_X12_odds_145  K61 Q x1 x5 x6 x7 x8 σ) : Wx X 14 σ 145 [(1, .int x1), (5, .int x5), (6, .int x6), (7, .int x7), (8, .int x8)] [] := by
  unfold b_X12_odds_145 at h
  obtain ⟨y1, ey1⟩ : ∃ y : Int32, y = (x8 + (1 : Int32)) := ⟨_, rfl⟩
  replace h := h y1 ey1
  refine x_iinc (q := 4) (v := y1) (lv' := [(8, .int y1), (1, .int x1), (5, .int x5), (6, .int x6), (7, .int x7)]) F dX12_odds_145 rfl (by rw [ey1]; rfl) (by decide) rfl ?_
  refine x_goto (tgt := 61) F dX12_odds_148 (by decide) ?_
  refine x_sub (lv' := [(1, .int x1), (5, .int x5), (6, .int x6), (7, .int x7), (8, .int y1)]) [1, 2, 3, 4, 0] rfl ?_
  exact hK61 _ _ _ _ _ _ h
def b_X12_odds_129  (K61 : Int32 → Int32 → Int32 → Int32 → Int32 → wS → Prop) (K91 : Int32 → Int32 → Int32 → Int32 → Int32 → Int64 → Int32 → wS → Prop) (Q : Int32 → wS → Prop) (x1 : Int32) (x5 : Int32) (x6 : Int32) (x7 : Int32) (x8 : Int32) (x11 : Int32) (z0 : Int64) (σ : wS) : Prop := ∀ y1 : Int32, y1 = (x11 + (1 : Int32)) → (K91 x1 x5 x6 x7 x8 z0 y1 σ)
set_option maxRecDepth 100000 in
set_option maxHeartbeats 4000000 in
theorem wb_X12_odds_129 {X : XT} {Q : Int32 → wS → Prop}  (F : Fx X cX12_odds 14 RX12 wvX12_odds 7 176) (hret : Ri X 14 cX12_odds .int Q)  {K61 : Int32 → Int32 → Int32 → Int32 → Int32 → wS → Prop} {K91 : Int32 → Int32 → Int32 → Int32 → Int32 → Int64 → Int32 → wS → Prop} (hK61 : ∀ (x1 : Int32) (x5 : Int32) (x6 : Int32) (x7 : Int32) (x8 : Int32) (σ : wS), K61 x1 x5 x6 x7 x8 σ → Wx X 14 σ 61 [(1, .int x1), (5, .int x5), (6, .int x6), (7, .int x7), (8, .int x8)] []) (hK91 : ∀ (x1 : Int32) (x5 : Int32) (x6 : Int32) (x7 : Int32) (x8 : Int32) (x9 : Int64) (x11 : Int32) (σ : wS), K91 x1 x5 x6 x7 x8 x9 x11 σ → Wx X 14 σ 91 [(1, .int x1), (5, .int x5), (6, .int x6), (7, .int x7), (8, .int x8), (9, .long x9), (11, .int x11)] []) (x1 : Int32) (x5 : Int32) (x6 : Int32) (x7 : Int32) (x8 : Int32) (x11 : Int32) (z0 : Int64) (σ : wS) (h : b_X12_odds_129  K61 K91 Q x1 x5 x6 x7 x8 x11 z0 σ) : Wx X 14 σ 129 [(1, .int x1), (5, .int x5), (6, .int x6), (7, .int x7), (8, .int x8), (11, .int x11)] [.long z0] := by
  unfold b_X12_odds_129 at h
  refine x_lstore (lv' := [(9, .long z0), (1, .int x1), (5, .int x5), (6, .int x6), (7, .int x7), (8, .int x8), (11, .int x11)]) F dX12_odds_129 (by decide) rfl ?_
  obtain ⟨y1, ey1⟩ : ∃ y : Int32, y = (x11 + (1 : Int32)) := ⟨_, rfl⟩
  replace h := h y1 ey1
  refine x_iinc (q := 6) (v := y1) (lv' := [(11, .int y1), (9, .long z0), (1, .int x1), (5, .int x5), (6, .int x6), (7, .int x7), (8, .int x8)]) F dX12_odds_131 rfl (by rw [ey1]; rfl) (by decide) rfl ?_
  refine x_goto (tgt := 91) F dX12_odds_134 (by decide) ?_
  refine x_sub (lv' := [(1, .int x1), (5, .int x5), (6, .int x6), (7, .int x7), (8, .int x8), (9, .long z0), (11, .int y1)]) [2, 3, 4, 5, 6, 1, 0] rfl ?_
  exact hK91 _ _ _ _ _ _ _ _ h
def l_X12_odds_91  (K61 : Int32 → Int32 → Int32 → Int32 → Int32 → wS → Prop) (Q : Int32 → wS → Prop) : Nat → Int32 → Int32 → Int32 → Int32 → Int32 → Int64 → Int32 → wS → Prop
  | 0, _, _, _, _, _, _, _, _ => False
  | n + 1, x1, x5, x6, x7, x8, x9, x11, σ => (x5 ≤ x11 → (∀ y1 : Int32, y1 = (x7 + (x9).toInt32) → (b_X12_odds_145  K61 Q x1 x5 x6 y1 x8 σ))) ∧ (¬ x5 ≤ x11 → (∀ y2 : Int64, y2 = ((x9 * (x1).toInt64) / (100 : Int64)) → (w_X12_has x8 x11 σ (fun r4 s3 => (r4 = 0 → (b_X12_odds_129  K61 (fun x1 x5 x6 x7 x8 x9 x11 σ => l_X12_odds_91  K61 Q n x1 x5 x6 x7 x8 x9 x11 σ) Q x1 x5 x6 x7 x8 x11 (x9 - y2) s3)) ∧ (¬ r4 = 0 → (b_X12_odds_129  K61 (fun x1 x5 x6 x7 x8 x9 x11 σ => l_X12_odds_91  K61 Q n x1 x5 x6 x7 x8 x9 x11 σ) Q x1 x5 x6 x7 x8 x11 y2 s3))))))
set_option maxRecDepth 100000 in
set_option maxHeartbeats 4000000 in
theorem wl_X12_odds_91 {X : XT} {Q : Int32 → wS → Prop}  (F : Fx X cX12_odds 14 RX12 wvX12_odds 7 176) (hret : Ri X 14 cX12_odds .int Q)  {K61 : Int32 → Int32 → Int32 → Int32 → Int32 → wS → Prop} (hK61 : ∀ (x1 : Int32) (x5 : Int32) (x6 : Int32) (x7 : Int32) (x8 : Int32) (σ : wS), K61 x1 x5 x6 x7 x8 σ → Wx X 14 σ 61 [(1, .int x1), (5, .int x5), (6, .int x6), (7, .int x7), (8, .int x8)] []) : ∀ (n : Nat) (x1 : Int32) (x5 : Int32) (x6 : Int32) (x7 : Int32) (x8 : Int32) (x9 : Int64) (x11 : Int32) (σ : wS), l_X12_odds_91  K61 Q n x1 x5 x6 x7 x8 x9 x11 σ → Wx X 14 σ 91 [(1, .int x1), (5, .int x5), (6, .int x6), (7, .int x7), (8, .int x8), (9, .long x9), (11, .int x11)] [] := by
  intro n
  induction n with
  | zero =>
    intros
    contradiction
  | succ n ih =>
    intro x1 x5 x6 x7 x8 x9 x11 σ h
    simp only [l_X12_odds_91] at h
    refine x_iload F dX12_odds_91 6 rfl ?_
    refine x_iload F dX12_odds_93 1 rfl ?_
    refine x_icmp_ge (tgt := 137) F dX12_odds_95 (by decide) (fun c => ?_) (fun c => ?_)
    · replace h := h.1 c
      refine x_iload F dX12_odds_137 3 rfl ?_
      refine x_lload F dX12_odds_139 5 rfl ?_
      refine x_l2i F dX12_odds_141 ?_
      refine x_iadd F dX12_odds_142 ?_
      refine x_topi (fun y1 ey1 => ?_)
      replace h := h y1 ey1
      refine x_istore (lv' := [(7, .int y1), (1, .int x1), (5, .int x5), (6, .int x6), (8, .int x8), (9, .long x9), (11, .int x11)]) F dX12_odds_143 (by decide) rfl ?_
      refine x_sub (lv' := [(1, .int x1), (5, .int x5), (6, .int x6), (7, .int y1), (8, .int x8)]) [1, 2, 3, 0, 4] rfl ?_
      exact wb_X12_odds_145 F hret  hK61 _ _ _ _ _ _ h
    · replace h := h.2 c
      refine x_lload F dX12_odds_98 5 rfl ?_
      refine x_iload_n F dX12_odds_100 rfl 0 rfl ?_
      refine x_i2l F dX12_odds_101 ?_
      refine x_lmul F dX12_odds_102 ?_
      refine x_ldc2 F dX12_odds_103 (mc bw_50_16) ?_
      refine x_ldiv F dX12_odds_106 (by decide) ?_
      refine x_topl (fun y2 ey2 => ?_)
      replace h := h y2 ey2
      refine x_lstore (lv' := [(12, .long y2), (1, .int x1), (5, .int x5), (6, .int x6), (7, .int x7), (8, .int x8), (9, .long x9), (11, .int x11)]) F dX12_odds_107 (by decide) rfl ?_
      refine x_iload F dX12_odds_109 5 rfl ?_
      refine x_iload F dX12_odds_111 7 rfl ?_
      refine x_callT_i F (c_X12_has (xl X) (xg X) (xA X) F.2.2.1  h) (bw_S bw_16_18 bw_16_19 bw_1_5 bw_16_20) rfl cd_X12_has (Nat.le_of_ble_eq_true rfl) (Nat.le_of_ble_eq_true rfl) rfl rfl (Nat.le_of_ble_eq_true rfl) dX12_odds_113 (fun r4 s3 h => ?_)
      refine x_if_eq (tgt := 124) F dX12_odds_116 (by decide) (fun c => ?_) (fun c => ?_)
      · replace h := h.1 c
        refine x_lload F dX12_odds_124 6 rfl ?_
        refine x_lload F dX12_odds_126 0 rfl ?_
        refine x_lsub F dX12_odds_128 ?_
        refine x_sub (lv' := [(1, .int x1), (5, .int x5), (6, .int x6), (7, .int x7), (8, .int x8), (11, .int x11)]) [1, 2, 3, 4, 5, 7] rfl ?_
        exact wb_X12_odds_129 F hret  hK61 ih _ _ _ _ _ _ _ _ h
      · replace h := h.2 c
        refine x_lload F dX12_odds_119 0 rfl ?_
        refine x_goto (tgt := 129) F dX12_odds_121 (by decide) ?_
        refine x_sub (lv' := [(1, .int x1), (5, .int x5), (6, .int x6), (7, .int x7), (8, .int x8), (11, .int x11)]) [1, 2, 3, 4, 5, 7] rfl ?_
        exact wb_X12_odds_129 F hret  hK61 ih _ _ _ _ _ _ _ _ h
def l_X12_odds_61   (Q : Int32 → wS → Prop) : Nat → Int32 → Int32 → Int32 → Int32 → Int32 → wS → Prop
  | 0, _, _, _, _, _, _ => False
  | n + 1, x1, x5, x6, x7, x8, σ => (((1 : Int32) <<< (x5 &&& 31)) ≤ x8 → (Q x7 σ)) ∧ (¬ ((1 : Int32) <<< (x5 &&& 31)) ≤ x8 → (w_X12_size x8 σ (fun r2 s1 => (r2 ≤ x6 → ((∃ m, l_X12_odds_91  (fun x1 x5 x6 x7 x8 σ => l_X12_odds_61   Q n x1 x5 x6 x7 x8 σ) Q m x1 x5 x6 x7 x8 (1000000000 : Int64) (0 : Int32) s1))) ∧ (¬ r2 ≤ x6 → (b_X12_odds_145  (fun x1 x5 x6 x7 x8 σ => l_X12_odds_61   Q n x1 x5 x6 x7 x8 σ) Q x1 x5 x6 x7 x8 s1)))))
set_option maxRecDepth 100000 in
set_option maxHeartbeats 4000000 in
theorem wl_X12_odds_61 {X : XT} {Q : Int32 → wS → Prop}  (F : Fx X cX12_odds 14 RX12 wvX12_odds 7 176) (hret : Ri X 14 cX12_odds .int Q)    : ∀ (n : Nat) (x1 : Int32) (x5 : Int32) (x6 : Int32) (x7 : Int32) (x8 : Int32) (σ : wS), l_X12_odds_61   Q n x1 x5 x6 x7 x8 σ → Wx X 14 σ 61 [(1, .int x1), (5, .int x5), (6, .int x6), (7, .int x7), (8, .int x8)] [] := by
  intro n
  induction n with
  | zero =>
    intros
    contradiction
  | succ n ih =>
    intro x1 x5 x6 x7 x8 σ h
    simp only [l_X12_odds_61] at h
    refine x_iload F dX12_odds_61 4 rfl ?_
    refine x_iconst (1 : Int32) F dX12_odds_63 (by decide) ?_
    refine x_iload F dX12_odds_64 1 rfl ?_
    refine x_ishl F dX12_odds_66 ?_
    refine x_icmp_ge (tgt := 151) F dX12_odds_67 (by decide) (fun c => ?_) (fun c => ?_)
    · replace h := h.1 c
      refine x_iload F dX12_odds_151 3 rfl ?_
      exact hret _ _ _ _ h rfl dX12_odds_153
    · replace h := h.2 c
      refine x_iload F dX12_odds_70 4 rfl ?_
      refine x_callT_i F (c_X12_size (xl X) (xg X) (xA X) F.2.2.1  h) (bw_S bw_43_11 bw_43_12 bw_1_5 bw_43_13) rfl cd_X12_size (Nat.le_of_ble_eq_true rfl) (Nat.le_of_ble_eq_true rfl) rfl rfl (Nat.le_of_ble_eq_true rfl) dX12_odds_72 (fun r2 s1 h => ?_)
      refine x_iload F dX12_odds_75 2 rfl ?_
      refine x_icmp_le (tgt := 83) F dX12_odds_77 (by decide) (fun c => ?_) (fun c => ?_)
      · replace h := h.1 c
        refine x_ldc2 F dX12_odds_83 (mc bw_50_18) ?_
        refine x_lstore (lv' := [(9, .long (1000000000 : Int64)), (1, .int x1), (5, .int x5), (6, .int x6), (7, .int x7), (8, .int x8)]) F dX12_odds_86 (by decide) rfl ?_
        refine x_iconst (0 : Int32) F dX12_odds_88 (by decide) ?_
        refine x_istore (lv' := [(11, .int (0 : Int32)), (9, .long (1000000000 : Int64)), (1, .int x1), (5, .int x5), (6, .int x6), (7, .int x7), (8, .int x8)]) F dX12_odds_89 (by decide) rfl ?_
        refine x_sub (lv' := [(1, .int x1), (5, .int x5), (6, .int x6), (7, .int x7), (8, .int x8), (9, .long (1000000000 : Int64)), (11, .int (0 : Int32))]) [2, 3, 4, 5, 6, 1, 0] rfl ?_
        obtain ⟨n2, h⟩ := h
        exact wl_X12_odds_91 F hret  ih n2 _ _ _ _ _ _ _ _ h
      · replace h := h.2 c
        refine x_goto (tgt := 145) F dX12_odds_80 (by decide) ?_
        refine x_sub (lv' := [(1, .int x1), (5, .int x5), (6, .int x6), (7, .int x7), (8, .int x8)]) [0, 1, 2, 3, 4] rfl ?_
        exact wb_X12_odds_145 F hret  ih _ _ _ _ _ _ h
def w_X12_odds  (p0 : Int32) (p1 : Int32) (p2 : Int32) (p3 : Int32) (p4 : Int32) (σ : wS) (Q : Int32 → wS → Prop) : Prop := ∀ s1 : wS, s1 = upI σ 176 0 (0 : Int32) → (w_X12_isIn (p0).toInt64 (0 : Int64) (100 : Int64) s1 (fun r3 s2 => (r3 = 0 → (Q (-1 : Int32) s2)) ∧ (¬ r3 = 0 → (w_X12_isWind p1 p2 p3 s2 (fun r5 s4 => (r5 = 0 → (Q (-1 : Int32) s4)) ∧ (¬ r5 = 0 → (w_X12_isIn (p4).toInt64 (1 : Int64) (6 : Int64) s4 (fun r7 s6 => (¬ r7 = 0 → (w_X12_stood p1 p2 p3 p4 s6 (fun r9 s8 => (∃ m, l_X12_odds_61   Q m p0 p4 r9 (0 : Int32) (0 : Int32) s8)))) ∧ (r7 = 0 → (Q (-1 : Int32) s6))))))))))
set_option maxRecDepth 100000 in
set_option maxHeartbeats 4000000 in
theorem c_X12_odds (l : Launch) (g : wG) (A : Nat → Prop) (hA : adO g A)   {p0 : Int32} {p1 : Int32} {p2 : Int32} {p3 : Int32} {p4 : Int32} {σ : wS} {Q : Int32 → wS → Prop} (h : w_X12_odds  p0 p1 p2 p3 p4 σ Q) : Mi l yX12_odds wvX12_odds 7 176 g A [.ref (g.2.2 176), .int p0, .int p1, .int p2, .int p3, .int p4] σ Q := by
  refine mt_i (own := RX12) (lv := [(0, .ref (g.2.2 176)), (1, .int p0), (2, .int p1), (3, .int p2), (4, .int p3), (5, .int p4)]) (by decide) rfl rfl hA (Nat.le_of_ble_eq_true rfl) rfl ?_
  intro X hl hg hAA F hret
  subst hl hg hAA
  unfold w_X12_odds at h
  refine x_aload_n F dX12_odds_0 rfl 0 rfl ?_
  refine x_iconst (0 : Int32) F dX12_odds_1 (by decide) ?_
  refine q_12_0 F kz_176 in_12 (mc bw_8_21) dX12_odds_2 ?_
  refine x_nmS (fun s1 es1 => ?_)
  replace h := h s1 es1
  refine x_iload_n F dX12_odds_5 rfl 1 rfl ?_
  refine x_i2l F dX12_odds_6 ?_
  refine x_lconst (0 : Int64) F dX12_odds_7 (by decide) ?_
  refine x_ldc2 F dX12_odds_8 (mc bw_50_16) ?_
  refine x_callT_i F (c_X12_isIn (xl X) (xg X) (xA X) F.2.2.1  h) (bw_S bw_13_13 bw_13_14 bw_1_5 bw_13_15) rfl cd_X12_isIn (Nat.le_of_ble_eq_true rfl) (Nat.le_of_ble_eq_true rfl) rfl rfl (Nat.le_of_ble_eq_true rfl) dX12_odds_11 (fun r3 s2 h => ?_)
  refine x_if_eq (tgt := 41) F dX12_odds_14 (by decide) (fun c => ?_) (fun c => ?_)
  · replace h := h.1 c
    refine x_iconst (-1 : Int32) F dX12_odds_41 (by decide) ?_
    exact hret _ _ _ _ h rfl dX12_odds_42
  · replace h := h.2 c
    refine x_aload_n F dX12_odds_17 rfl 0 rfl ?_
    refine x_iload_n F dX12_odds_18 rfl 2 rfl ?_
    refine x_iload_n F dX12_odds_19 rfl 3 rfl ?_
    refine x_iload F dX12_odds_20 4 rfl ?_
    refine x_callV_i F (c_X12_isWind (xl X) (xg X) (xA X) F.2.2.1  h) (bw_V bw_44_19 bw_44_20 bw_44_21 bw_1_5 bw_44_22) rfl cd_X12_isWind (Nat.le_of_ble_eq_true rfl) (Nat.le_of_ble_eq_true rfl) (kd_w (by decide) kz_176) rfl (cl_12 kz_176) rfl rfl (Nat.le_of_ble_eq_true rfl) dX12_odds_22 (fun r5 s4 h => ?_)
    refine x_if_eq (tgt := 41) F dX12_odds_25 (by decide) (fun c => ?_) (fun c => ?_)
    · replace h := h.1 c
      refine x_iconst (-1 : Int32) F dX12_odds_41 (by decide) ?_
      exact hret _ _ _ _ h rfl dX12_odds_42
    · replace h := h.2 c
      refine x_iload F dX12_odds_28 5 rfl ?_
      refine x_i2l F dX12_odds_30 ?_
      refine x_lconst (1 : Int64) F dX12_odds_31 (by decide) ?_
      refine x_ldc2 F dX12_odds_32 (mc bw_50_17) ?_
      refine x_callT_i F (c_X12_isIn (xl X) (xg X) (xA X) F.2.2.1  h) (bw_S bw_13_13 bw_13_14 bw_1_5 bw_13_15) rfl cd_X12_isIn (Nat.le_of_ble_eq_true rfl) (Nat.le_of_ble_eq_true rfl) rfl rfl (Nat.le_of_ble_eq_true rfl) dX12_odds_35 (fun r7 s6 h => ?_)
      refine x_if_ne (tgt := 43) F dX12_odds_38 (by decide) (fun c => ?_) (fun c => ?_)
      · replace h := h.1 c
        refine x_aload_n F dX12_odds_43 rfl 0 rfl ?_
        refine x_iload_n F dX12_odds_44 rfl 2 rfl ?_
        refine x_iload_n F dX12_odds_45 rfl 3 rfl ?_
        refine x_iload F dX12_odds_46 4 rfl ?_
        refine x_iload F dX12_odds_48 5 rfl ?_
        refine x_callV_i F (c_X12_stood (xl X) (xg X) (xA X) F.2.2.1  h) (bw_V bw_50_19 bw_50_20 bw_50_21 bw_1_5 bw_50_22) rfl cd_X12_stood (Nat.le_of_ble_eq_true rfl) (Nat.le_of_ble_eq_true rfl) (kd_w (by decide) kz_176) rfl (cl_12 kz_176) rfl rfl (Nat.le_of_ble_eq_true rfl) dX12_odds_50 (fun r9 s8 h => ?_)
        refine x_istore (lv' := [(6, .int r9), (0, .ref (ad X 176)), (1, .int p0), (2, .int p1), (3, .int p2), (4, .int p3), (5, .int p4)]) F dX12_odds_53 (by decide) rfl ?_
        refine x_iconst (0 : Int32) F dX12_odds_55 (by decide) ?_
        refine x_istore (lv' := [(7, .int (0 : Int32)), (6, .int r9), (0, .ref (ad X 176)), (1, .int p0), (2, .int p1), (3, .int p2), (4, .int p3), (5, .int p4)]) F dX12_odds_56 (by decide) rfl ?_
        refine x_iconst (0 : Int32) F dX12_odds_58 (by decide) ?_
        refine x_istore (lv' := [(8, .int (0 : Int32)), (7, .int (0 : Int32)), (6, .int r9), (0, .ref (ad X 176)), (1, .int p0), (2, .int p1), (3, .int p2), (4, .int p3), (5, .int p4)]) F dX12_odds_59 (by decide) rfl ?_
        refine x_sub (lv' := [(1, .int p0), (5, .int p4), (6, .int r9), (7, .int (0 : Int32)), (8, .int (0 : Int32))]) [4, 8, 2, 1, 0] rfl ?_
        obtain ⟨n2, h⟩ := h
        exact wl_X12_odds_61 F hret   n2 _ _ _ _ _ _ h
      · replace h := h.2 c
        refine x_iconst (-1 : Int32) F dX12_odds_41 (by decide) ?_
        exact hret _ _ _ _ h rfl dX12_odds_42
/-! X12_turnsOne -/
abbrev wvX12_turnsOne : List Cond := Cond.code yX12_turnsOne cX12_turnsOne 8 none :: wsL_law
theorem cd_X12_turnsOne : okN yX12_turnsOne RX12 2 := by unfold okN; decide +kernel
def b_X12_turnsOne_118   (Q : wS → Prop) (x1 : Int32) (x2 : Int32) (x4 : Int64) (x6 : Int64) (σ : wS) : Prop := ∀ s1 : wS, s1 = upJ σ 176 39 x4 → (∀ s2 : wS, s2 = upJ s1 176 40 x6 → (∀ s3 : wS, s3 = upI s2 176 41 x1 → (∀ s4 : wS, s4 = upI s3 176 42 x2 → (Q s4))))
set_option maxRecDepth 100000 in
set_option maxHeartbeats 4000000 in
theorem wb_X12_turnsOne_118 {X : XT} {Q : wS → Prop}  (F : Fx X cX12_turnsOne 8 RX12 wvX12_turnsOne 6 151) (hret : Rv X 8 cX12_turnsOne Q)    (x1 : Int32) (x2 : Int32) (x4 : Int64) (x6 : Int64) (σ : wS) (h : b_X12_turnsOne_118   Q x1 x2 x4 x6 σ) : Wx X 8 σ 118 [(0, .ref (ad X 176)), (1, .int x1), (2, .int x2), (4, .long x4), (6, .long x6)] [] := by
  unfold b_X12_turnsOne_118 at h
  refine x_aload_n F dX12_turnsOne_118 rfl 0 rfl ?_
  refine x_lload F dX12_turnsOne_119 3 rfl ?_
  refine q_12_39 F kz_176 in_12 (mc bw_48_4) dX12_turnsOne_121 ?_
  refine x_nmS (fun s1 es1 => ?_)
  replace h := h s1 es1
  refine x_aload_n F dX12_turnsOne_124 rfl 0 rfl ?_
  refine x_lload F dX12_turnsOne_125 4 rfl ?_
  refine q_12_40 F kz_176 in_12 (mc bw_48_5) dX12_turnsOne_127 ?_
  refine x_nmS (fun s2 es2 => ?_)
  replace h := h s2 es2
  refine x_aload_n F dX12_turnsOne_130 rfl 0 rfl ?_
  refine x_iload_n F dX12_turnsOne_131 rfl 1 rfl ?_
  refine q_12_41 F kz_176 in_12 (mc bw_48_2) dX12_turnsOne_132 ?_
  refine x_nmS (fun s3 es3 => ?_)
  replace h := h s3 es3
  refine x_aload_n F dX12_turnsOne_135 rfl 0 rfl ?_
  refine x_iload_n F dX12_turnsOne_136 rfl 2 rfl ?_
  refine q_12_42 F kz_176 in_12 (mc bw_48_3) dX12_turnsOne_137 ?_
  refine x_nmS (fun s4 es4 => ?_)
  replace h := h s4 es4
  exact hret _ _ _ h dX12_turnsOne_140
def w_X12_turnsOne  (p0 : Int32) (p1 : Int32) (σ : wS) (Q : wS → Prop) : Prop := w_X12_copyRow 188 189 (0 : Int32) (0 : Int32) σ (fun s1 => w_X12_does 189 (1 : Int32) p0 p1 (0 : Int32) s1 (fun r4 s3 => (¬ r4 = (-1 : Int32) → (Q s3)) ∧ (r4 = (-1 : Int32) → (((s3.1 176 32) ≤ 0 → (w_X12_asks 189 s3 (fun s5 => w_X12_those 189 (s5.1 176 14) (0 : Int32) s5 (fun r8 s7 => w_X12_worstOf 189 r8 (0 : Int32) s7 (fun r10 s9 => w_X12_pullOf 189 r10 s9 (fun r12 s11 => w_X12_strength r10 s11 (fun r14 s13 => ∀ y15 : Int64, y15 = ((s11.2 176 29) * (r14).toInt64) → (((s13.1 176 41) = (-1 : Int32) → (b_X12_turnsOne_118   Q p0 p1 r12 y15 s13)) ∧ (¬ (s13.1 176 41) = (-1 : Int32) → (w_X12_isLess r12 y15 (s13.2 176 39) (s13.2 176 40) s13 (fun r17 s16 => (¬ r17 = 0 → (b_X12_turnsOne_118   Q p0 p1 r12 y15 s16)) ∧ (r17 = 0 → (Q s16))))))))))))) ∧ (¬ (s3.1 176 32) ≤ 0 → (Q s3))))))
set_option maxRecDepth 100000 in
set_option maxHeartbeats 4000000 in
theorem c_X12_turnsOne (l : Launch) (g : wG) (A : Nat → Prop) (hA : adO g A)   {p0 : Int32} {p1 : Int32} {σ : wS} {Q : wS → Prop} (h : w_X12_turnsOne  p0 p1 σ Q) : Mv l yX12_turnsOne wvX12_turnsOne 6 151 g A [.ref (g.2.2 176), .int p0, .int p1] σ Q := by
  refine mt_v (own := RX12) (lv := [(0, .ref (g.2.2 176)), (1, .int p0), (2, .int p1)]) (by decide) rfl rfl hA (Nat.le_of_ble_eq_true rfl) rfl ?_
  intro X hl hg hAA F hret
  subst hl hg hAA
  unfold w_X12_turnsOne at h
  refine x_aload_n F dX12_turnsOne_0 rfl 0 rfl ?_
  refine g_12_19 F kz_176 in_12 (mc bw_7_18) dX12_turnsOne_1 ?_
  refine x_iconst (0 : Int32) F dX12_turnsOne_4 (by decide) ?_
  refine x_aload_n F dX12_turnsOne_5 rfl 0 rfl ?_
  refine g_12_20 F kz_176 in_12 (mc bw_7_19) dX12_turnsOne_6 ?_
  refine x_iconst (0 : Int32) F dX12_turnsOne_9 (by decide) ?_
  refine x_callT_v F (c_X12_copyRow (xl X) (xg X) (xA X) F.2.2.1 kz_188 kz_189 h) (bw_S bw_25_14 bw_25_15 bw_1_5 bw_25_16) rfl cd_X12_copyRow (Nat.le_of_ble_eq_true rfl) (Nat.le_of_ble_eq_true rfl) rfl rfl (Nat.le_of_ble_eq_true rfl) dX12_turnsOne_10 (fun s1 h => ?_)
  refine x_aload_n F dX12_turnsOne_13 rfl 0 rfl ?_
  refine x_aload_n F dX12_turnsOne_14 rfl 0 rfl ?_
  refine g_12_20 F kz_176 in_12 (mc bw_7_19) dX12_turnsOne_15 ?_
  refine x_iconst (1 : Int32) F dX12_turnsOne_18 (by decide) ?_
  refine x_iload_n F dX12_turnsOne_19 rfl 1 rfl ?_
  refine x_iload_n F dX12_turnsOne_20 rfl 2 rfl ?_
  refine x_iconst (0 : Int32) F dX12_turnsOne_21 (by decide) ?_
  refine x_callV_i F (c_X12_does (xl X) (xg X) (xA X) F.2.2.1 kz_189 h) (bw_V bw_36_2 bw_36_3 bw_36_4 bw_1_5 bw_36_5) rfl cd_X12_does (Nat.le_of_ble_eq_true rfl) (Nat.le_of_ble_eq_true rfl) (kd_w (by decide) kz_176) rfl (cl_12 kz_176) rfl rfl (Nat.le_of_ble_eq_true rfl) dX12_turnsOne_22 (fun r4 s3 h => ?_)
  refine x_iconst (-1 : Int32) F dX12_turnsOne_25 (by decide) ?_
  refine x_icmp_ne (tgt := 36) F dX12_turnsOne_26 (by decide) (fun c => ?_) (fun c => ?_)
  · replace h := h.1 c
    exact hret _ _ _ h dX12_turnsOne_36
  · replace h := h.2 c
    refine x_aload_n F dX12_turnsOne_29 rfl 0 rfl ?_
    refine g_12_32 F kz_176 in_12 (mc bw_23_9) dX12_turnsOne_30 ?_
    refine x_if_le (tgt := 37) F dX12_turnsOne_33 (by decide) (fun c => ?_) (fun c => ?_)
    · replace h := h.1 c
      refine x_aload_n F dX12_turnsOne_37 rfl 0 rfl ?_
      refine x_aload_n F dX12_turnsOne_38 rfl 0 rfl ?_
      refine g_12_20 F kz_176 in_12 (mc bw_7_19) dX12_turnsOne_39 ?_
      refine x_callV_v F (c_X12_asks (xl X) (xg X) (xA X) F.2.2.1 kz_189 h) (bw_V bw_29_20 bw_29_21 bw_29_22 bw_1_5 bw_29_23) rfl cd_X12_asks (Nat.le_of_ble_eq_true rfl) (Nat.le_of_ble_eq_true rfl) (kd_w (by decide) kz_176) rfl (cl_12 kz_176) rfl rfl (Nat.le_of_ble_eq_true rfl) dX12_turnsOne_42 (fun s5 h => ?_)
      refine x_aload_n F dX12_turnsOne_45 rfl 0 rfl ?_
      refine x_aload_n F dX12_turnsOne_46 rfl 0 rfl ?_
      refine g_12_20 F kz_176 in_12 (mc bw_7_19) dX12_turnsOne_47 ?_
      refine x_aload_n F dX12_turnsOne_50 rfl 0 rfl ?_
      refine g_12_20 F kz_176 in_12 (mc bw_7_19) dX12_turnsOne_51 ?_
      refine x_aload_n F dX12_turnsOne_54 rfl 0 rfl ?_
      refine g_12_14 F kz_176 in_12 (mc bw_22_18) dX12_turnsOne_55 ?_
      refine x_iconst (0 : Int32) F dX12_turnsOne_58 (by decide) ?_
      refine x_callT_i F (c_X12_those (xl X) (xg X) (xA X) F.2.2.1 kz_189 h) (bw_S bw_23_11 bw_23_12 bw_1_5 bw_23_13) rfl cd_X12_those (Nat.le_of_ble_eq_true rfl) (Nat.le_of_ble_eq_true rfl) rfl rfl (Nat.le_of_ble_eq_true rfl) dX12_turnsOne_59 (fun r8 s7 h => ?_)
      refine x_iconst (0 : Int32) F dX12_turnsOne_62 (by decide) ?_
      refine x_callV_i F (c_X12_worstOf (xl X) (xg X) (xA X) F.2.2.1 kz_189 h) (bw_V bw_25_6 bw_25_7 bw_25_8 bw_1_5 bw_25_9) rfl cd_X12_worstOf (Nat.le_of_ble_eq_true rfl) (Nat.le_of_ble_eq_true rfl) (kd_w (by decide) kz_176) rfl (cl_12 kz_176) rfl rfl (Nat.le_of_ble_eq_true rfl) dX12_turnsOne_63 (fun r10 s9 h => ?_)
      refine x_istore_n (lv' := [(3, .int r10), (0, .ref (ad X 176)), (1, .int p0), (2, .int p1)]) F dX12_turnsOne_66 rfl (by decide) rfl ?_
      refine x_aload_n F dX12_turnsOne_67 rfl 1 rfl ?_
      refine x_aload_n F dX12_turnsOne_68 rfl 1 rfl ?_
      refine g_12_20 F kz_176 in_12 (mc bw_7_19) dX12_turnsOne_69 ?_
      refine x_iload_n F dX12_turnsOne_72 rfl 0 rfl ?_
      refine x_callV_l F (c_X12_pullOf (xl X) (xg X) (xA X) F.2.2.1 kz_189 h) (bw_V bw_24_22 bw_24_23 bw_25_0 bw_1_5 bw_25_1) rfl cd_X12_pullOf (Nat.le_of_ble_eq_true rfl) (Nat.le_of_ble_eq_true rfl) (kd_w (by decide) kz_176) rfl (cl_12 kz_176) rfl rfl (Nat.le_of_ble_eq_true rfl) dX12_turnsOne_73 (fun r12 s11 h => ?_)
      refine x_lstore (lv' := [(4, .long r12), (3, .int r10), (0, .ref (ad X 176)), (1, .int p0), (2, .int p1)]) F dX12_turnsOne_76 (by decide) rfl ?_
      refine x_aload_n F dX12_turnsOne_78 rfl 2 rfl ?_
      refine g_12_29 F kz_176 in_12 (mc bw_23_10) dX12_turnsOne_79 ?_
      refine x_aload_n F dX12_turnsOne_82 rfl 2 rfl ?_
      refine x_iload_n F dX12_turnsOne_83 rfl 1 rfl ?_
      refine x_callV_i F (c_X12_strength (xl X) (xg X) (xA X) F.2.2.1  h) (bw_V bw_25_10 bw_25_11 bw_25_12 bw_1_5 bw_25_13) rfl cd_X12_strength (Nat.le_of_ble_eq_true rfl) (Nat.le_of_ble_eq_true rfl) (kd_w (by decide) kz_176) rfl (cl_12 kz_176) rfl rfl (Nat.le_of_ble_eq_true rfl) dX12_turnsOne_84 (fun r14 s13 h => ?_)
      refine x_i2l F dX12_turnsOne_87 ?_
      refine x_lmul F dX12_turnsOne_88 ?_
      refine x_topl (fun y15 ey15 => ?_)
      replace h := h y15 ey15
      refine x_lstore (lv' := [(6, .long y15), (4, .long r12), (3, .int r10), (0, .ref (ad X 176)), (1, .int p0), (2, .int p1)]) F dX12_turnsOne_89 (by decide) rfl ?_
      refine x_aload_n F dX12_turnsOne_91 rfl 3 rfl ?_
      refine g_12_41 F kz_176 in_12 (mc bw_48_2) dX12_turnsOne_92 ?_
      refine x_iconst (-1 : Int32) F dX12_turnsOne_95 (by decide) ?_
      refine x_icmp_eq (tgt := 118) F dX12_turnsOne_96 (by decide) (fun c => ?_) (fun c => ?_)
      · replace h := h.1 c
        refine x_sub (lv' := [(0, .ref (ad X 176)), (1, .int p0), (2, .int p1), (4, .long r12), (6, .long y15)]) [3, 4, 5, 1, 0] rfl ?_
        exact wb_X12_turnsOne_118 F hret   _ _ _ _ _ h
      · replace h := h.2 c
        refine x_lload F dX12_turnsOne_99 1 rfl ?_
        refine x_lload F dX12_turnsOne_101 0 rfl ?_
        refine x_aload_n F dX12_turnsOne_103 rfl 3 rfl ?_
        refine g_12_39 F kz_176 in_12 (mc bw_48_4) dX12_turnsOne_104 ?_
        refine x_aload_n F dX12_turnsOne_107 rfl 3 rfl ?_
        refine g_12_40 F kz_176 in_12 (mc bw_48_5) dX12_turnsOne_108 ?_
        refine x_callT_i F (c_X12_isLess (xl X) (xg X) (xA X) F.2.2.1  h) (bw_S bw_48_10 bw_48_11 bw_1_5 bw_48_12) rfl cd_X12_isLess (Nat.le_of_ble_eq_true rfl) (Nat.le_of_ble_eq_true rfl) rfl rfl (Nat.le_of_ble_eq_true rfl) dX12_turnsOne_111 (fun r17 s16 h => ?_)
        refine x_if_ne (tgt := 118) F dX12_turnsOne_114 (by decide) (fun c => ?_) (fun c => ?_)
        · replace h := h.1 c
          refine x_sub (lv' := [(0, .ref (ad X 176)), (1, .int p0), (2, .int p1), (4, .long r12), (6, .long y15)]) [3, 4, 5, 1, 0] rfl ?_
          exact wb_X12_turnsOne_118 F hret   _ _ _ _ _ h
        · replace h := h.2 c
          exact hret _ _ _ h dX12_turnsOne_117
    · replace h := h.2 c
      exact hret _ _ _ h dX12_turnsOne_36
/-! X12_trim -/
abbrev wvX12_trim : List Cond := Cond.code yX12_trim cX12_trim 5 (some .long) :: wsL_law
theorem cd_X12_trim : okN yX12_trim RX12 2 := by unfold okN; decide +kernel
def b_X12_trim_92  (K62 : Int32 → Int32 → Int32 → wS → Prop) (K74 : Int32 → Int32 → Int32 → Int32 → wS → Prop) (Q : Int64 → wS → Prop) (x1 : Int32) (x2 : Int32) (x3 : Int32) (x4 : Int32) (σ : wS) : Prop := ∀ y1 : Int32, y1 = (x4 + (1 : Int32)) → (K74 x1 x2 x3 y1 σ)
set_option maxRecDepth 100000 in
set_option maxHeartbeats 4000000 in
theorem wb_X12_trim_92 {X : XT} {Q : Int64 → wS → Prop}  (F : Fx X cX12_trim 5 RX12 wvX12_trim 7 178) (hret : Rl X 5 cX12_trim Q)  {K62 : Int32 → Int32 → Int32 → wS → Prop} {K74 : Int32 → Int32 → Int32 → Int32 → wS → Prop} (hK62 : ∀ (x1 : Int32) (x2 : Int32) (x3 : Int32) (σ : wS), K62 x1 x2 x3 σ → Wx X 5 σ 62 [(0, .ref (ad X 176)), (1, .int x1), (2, .int x2), (3, .int x3)] []) (hK74 : ∀ (x1 : Int32) (x2 : Int32) (x3 : Int32) (x4 : Int32) (σ : wS), K74 x1 x2 x3 x4 σ → Wx X 5 σ 74 [(0, .ref (ad X 176)), (1, .int x1), (2, .int x2), (3, .int x3), (4, .int x4)] []) (x1 : Int32) (x2 : Int32) (x3 : Int32) (x4 : Int32) (σ : wS) (h : b_X12_trim_92  K62 K74 Q x1 x2 x3 x4 σ) : Wx X 5 σ 92 [(0, .ref (ad X 176)), (1, .int x1), (2, .int x2), (3, .int x3), (4, .int x4)] [] := by
  unfold b_X12_trim_92 at h
  obtain ⟨y1, ey1⟩ : ∃ y : Int32, y = (x4 + (1 : Int32)) := ⟨_, rfl⟩
  replace h := h y1 ey1
  refine x_iinc (q := 4) (v := y1) (lv' := [(4, .int y1), (0, .ref (ad X 176)), (1, .int x1), (2, .int x2), (3, .int x3)]) F dX12_trim_92 rfl (by rw [ey1]; rfl) (by decide) rfl ?_
  refine x_goto (tgt := 74) F dX12_trim_95 (by decide) ?_
  refine x_sub (lv' := [(0, .ref (ad X 176)), (1, .int x1), (2, .int x2), (3, .int x3), (4, .int y1)]) [1, 2, 3, 4, 0] rfl ?_
  exact hK74 _ _ _ _ _ h
def l_X12_trim_74  (K62 : Int32 → Int32 → Int32 → wS → Prop) (Q : Int64 → wS → Prop) : Nat → Int32 → Int32 → Int32 → Int32 → wS → Prop
  | 0, _, _, _, _, _ => False
  | n + 1, x1, x2, x3, x4, σ => (x1 < x4 → (∀ y1 : Int32, y1 = (x3 + (1 : Int32)) → (K62 x1 x2 y1 σ))) ∧ (¬ x1 < x4 → ((x4 = 0 → (b_X12_trim_92  K62 (fun x1 x2 x3 x4 σ => l_X12_trim_74  K62 Q n x1 x2 x3 x4 σ) Q x1 x2 x3 x4 σ)) ∧ (¬ x4 = 0 → (w_X12_turnsOne x3 x4 σ (fun s2 => b_X12_trim_92  K62 (fun x1 x2 x3 x4 σ => l_X12_trim_74  K62 Q n x1 x2 x3 x4 σ) Q x1 x2 x3 x4 s2)))))
set_option maxRecDepth 100000 in
set_option maxHeartbeats 4000000 in
theorem wl_X12_trim_74 {X : XT} {Q : Int64 → wS → Prop}  (F : Fx X cX12_trim 5 RX12 wvX12_trim 7 178) (hret : Rl X 5 cX12_trim Q)  {K62 : Int32 → Int32 → Int32 → wS → Prop} (hK62 : ∀ (x1 : Int32) (x2 : Int32) (x3 : Int32) (σ : wS), K62 x1 x2 x3 σ → Wx X 5 σ 62 [(0, .ref (ad X 176)), (1, .int x1), (2, .int x2), (3, .int x3)] []) : ∀ (n : Nat) (x1 : Int32) (x2 : Int32) (x3 : Int32) (x4 : Int32) (σ : wS), l_X12_trim_74  K62 Q n x1 x2 x3 x4 σ → Wx X 5 σ 74 [(0, .ref (ad X 176)), (1, .int x1), (2, .int x2), (3, .int x3), (4, .int x4)] [] := by
  intro n
  induction n with
  | zero =>
    intros
    contradiction
  | succ n ih =>
    intro x1 x2 x3 x4 σ h
    simp only [l_X12_trim_74] at h
    refine x_iload F dX12_trim_74 4 rfl ?_
    refine x_iload_n F dX12_trim_76 rfl 1 rfl ?_
    refine x_icmp_gt (tgt := 98) F dX12_trim_77 (by decide) (fun c => ?_) (fun c => ?_)
    · replace h := h.1 c
      obtain ⟨y1, ey1⟩ : ∃ y : Int32, y = (x3 + (1 : Int32)) := ⟨_, rfl⟩
      replace h := h y1 ey1
      refine x_iinc (q := 3) (v := y1) (lv' := [(3, .int y1), (0, .ref (ad X 176)), (1, .int x1), (2, .int x2), (4, .int x4)]) F dX12_trim_98 rfl (by rw [ey1]; rfl) (by decide) rfl ?_
      refine x_goto (tgt := 62) F dX12_trim_101 (by decide) ?_
      refine x_sub (lv' := [(0, .ref (ad X 176)), (1, .int x1), (2, .int x2), (3, .int y1)]) [1, 2, 3, 0] rfl ?_
      exact hK62 _ _ _ _ h
    · replace h := h.2 c
      refine x_iload F dX12_trim_80 4 rfl ?_
      refine x_if_eq (tgt := 92) F dX12_trim_82 (by decide) (fun c => ?_) (fun c => ?_)
      · replace h := h.1 c
        refine x_sub (lv' := [(0, .ref (ad X 176)), (1, .int x1), (2, .int x2), (3, .int x3), (4, .int x4)]) [0, 1, 2, 3, 4] rfl ?_
        exact wb_X12_trim_92 F hret  hK62 ih _ _ _ _ _ h
      · replace h := h.2 c
        refine x_aload_n F dX12_trim_85 rfl 0 rfl ?_
        refine x_iload_n F dX12_trim_86 rfl 3 rfl ?_
        refine x_iload F dX12_trim_87 4 rfl ?_
        refine x_callV_v F (c_X12_turnsOne (xl X) (xg X) (xA X) F.2.2.1  h) (bw_V bw_48_6 bw_48_7 bw_48_8 bw_1_5 bw_48_9) rfl cd_X12_turnsOne (Nat.le_of_ble_eq_true rfl) (Nat.le_of_ble_eq_true rfl) (kd_w (by decide) kz_176) rfl (cl_12 kz_176) rfl rfl (Nat.le_of_ble_eq_true rfl) dX12_trim_89 (fun s2 h => ?_)
        refine x_sub (lv' := [(0, .ref (ad X 176)), (1, .int x1), (2, .int x2), (3, .int x3), (4, .int x4)]) [0, 1, 2, 3, 4] rfl ?_
        exact wb_X12_trim_92 F hret  hK62 ih _ _ _ _ _ h
def l_X12_trim_62   (Q : Int64 → wS → Prop) : Nat → Int32 → Int32 → Int32 → wS → Prop
  | 0, _, _, _, _ => False
  | n + 1, x1, x2, x3, σ => ((σ.1 176 14) ≤ x3 → (((2 : Int32) ≤ x2 → (w_X12_told (σ.2 176 39) (σ.2 176 40) (x2 - (2 : Int32)) σ (fun r2 s1 => Q r2 s1))) ∧ (¬ (2 : Int32) ≤ x2 → ((¬ x2 = 0 → (Q ((σ.1 176 42)).toInt64 σ)) ∧ (x2 = 0 → (Q ((σ.1 176 41)).toInt64 σ)))))) ∧ (¬ (σ.1 176 14) ≤ x3 → (∀ y3 : Int32, y3 = (-x1) → ((∃ m, l_X12_trim_74  (fun x1 x2 x3 σ => l_X12_trim_62   Q n x1 x2 x3 σ) Q m x1 x2 x3 y3 σ))))
set_option maxRecDepth 100000 in
set_option maxHeartbeats 4000000 in
theorem wl_X12_trim_62 {X : XT} {Q : Int64 → wS → Prop}  (F : Fx X cX12_trim 5 RX12 wvX12_trim 7 178) (hret : Rl X 5 cX12_trim Q)    : ∀ (n : Nat) (x1 : Int32) (x2 : Int32) (x3 : Int32) (σ : wS), l_X12_trim_62   Q n x1 x2 x3 σ → Wx X 5 σ 62 [(0, .ref (ad X 176)), (1, .int x1), (2, .int x2), (3, .int x3)] [] := by
  intro n
  induction n with
  | zero =>
    intros
    contradiction
  | succ n ih =>
    intro x1 x2 x3 σ h
    simp only [l_X12_trim_62] at h
    refine x_iload_n F dX12_trim_62 rfl 3 rfl ?_
    refine x_aload_n F dX12_trim_63 rfl 0 rfl ?_
    refine g_12_14 F kz_176 in_12 (mc bw_22_18) dX12_trim_64 ?_
    refine x_icmp_ge (tgt := 104) F dX12_trim_67 (by decide) (fun c => ?_) (fun c => ?_)
    · replace h := h.1 c
      refine x_iload_n F dX12_trim_104 rfl 2 rfl ?_
      refine x_iconst (2 : Int32) F dX12_trim_105 (by decide) ?_
      refine x_icmp_ge (tgt := 127) F dX12_trim_106 (by decide) (fun c => ?_) (fun c => ?_)
      · replace h := h.1 c
        refine x_aload_n F dX12_trim_127 rfl 0 rfl ?_
        refine g_12_39 F kz_176 in_12 (mc bw_48_4) dX12_trim_128 ?_
        refine x_aload_n F dX12_trim_131 rfl 0 rfl ?_
        refine g_12_40 F kz_176 in_12 (mc bw_48_5) dX12_trim_132 ?_
        refine x_iload_n F dX12_trim_135 rfl 2 rfl ?_
        refine x_iconst (2 : Int32) F dX12_trim_136 (by decide) ?_
        refine x_isub F dX12_trim_137 ?_
        refine x_callT_l F (c_X12_told (xl X) (xg X) (xA X) F.2.2.1  h) (bw_S bw_30_0 bw_30_1 bw_1_5 bw_30_2) rfl cd_X12_told (Nat.le_of_ble_eq_true rfl) (Nat.le_of_ble_eq_true rfl) rfl rfl (Nat.le_of_ble_eq_true rfl) dX12_trim_138 (fun r2 s1 h => ?_)
        exact hret _ _ _ _ h dX12_trim_141
      · replace h := h.2 c
        refine x_iload_n F dX12_trim_109 rfl 2 rfl ?_
        refine x_if_ne (tgt := 121) F dX12_trim_110 (by decide) (fun c => ?_) (fun c => ?_)
        · replace h := h.1 c
          refine x_aload_n F dX12_trim_121 rfl 0 rfl ?_
          refine g_12_42 F kz_176 in_12 (mc bw_48_3) dX12_trim_122 ?_
          refine x_i2l F dX12_trim_125 ?_
          exact hret _ _ _ _ h dX12_trim_126
        · replace h := h.2 c
          refine x_aload_n F dX12_trim_113 rfl 0 rfl ?_
          refine g_12_41 F kz_176 in_12 (mc bw_48_2) dX12_trim_114 ?_
          refine x_i2l F dX12_trim_117 ?_
          refine x_goto (tgt := 126) F dX12_trim_118 (by decide) ?_
          exact hret _ _ _ _ h dX12_trim_126
    · replace h := h.2 c
      refine x_iload_n F dX12_trim_70 rfl 1 rfl ?_
      refine x_ineg F dX12_trim_71 ?_
      refine x_topi (fun y3 ey3 => ?_)
      replace h := h y3 ey3
      refine x_istore (lv' := [(4, .int y3), (0, .ref (ad X 176)), (1, .int x1), (2, .int x2), (3, .int x3)]) F dX12_trim_72 (by decide) rfl ?_
      refine x_sub (lv' := [(0, .ref (ad X 176)), (1, .int x1), (2, .int x2), (3, .int x3), (4, .int y3)]) [1, 2, 3, 4, 0] rfl ?_
      obtain ⟨n2, h⟩ := h
      exact wl_X12_trim_74 F hret  ih n2 _ _ _ _ _ h
def w_X12_trim  (p0 : Int32) (p1 : Int32) (σ : wS) (Q : Int64 → wS → Prop) : Prop := ∀ s1 : wS, s1 = upI σ 176 0 (0 : Int32) → (((s1.1 176 14) = 0 → (Q (-1000000 : Int64) s1)) ∧ (¬ (s1.1 176 14) = 0 → (w_X12_isIn (p0).toInt64 (1 : Int64) (3 : Int64) s1 (fun r3 s2 => (r3 = 0 → (Q (-1000000 : Int64) s2)) ∧ (¬ r3 = 0 → (w_X12_isIn (p1).toInt64 (0 : Int64) (3 : Int64) s2 (fun r5 s4 => (¬ r5 = 0 → (∀ s6 : wS, s6 = upI s4 176 41 (-1 : Int32) → (∀ s7 : wS, s7 = upI s6 176 42 (0 : Int32) → (∀ s8 : wS, s8 = upJ s7 176 39 (0 : Int64) → (∀ s9 : wS, s9 = upJ s8 176 40 (1 : Int64) → ((∃ m, l_X12_trim_62   Q m p0 p1 (0 : Int32) s9))))))) ∧ (r5 = 0 → (Q (-1000000 : Int64) s4)))))))))
set_option maxRecDepth 100000 in
set_option maxHeartbeats 4000000 in
theorem c_X12_trim (l : Launch) (g : wG) (A : Nat → Prop) (hA : adO g A)   {p0 : Int32} {p1 : Int32} {σ : wS} {Q : Int64 → wS → Prop} (h : w_X12_trim  p0 p1 σ Q) : Ml l yX12_trim wvX12_trim 7 178 g A [.ref (g.2.2 176), .int p0, .int p1] σ Q := by
  refine mt_l (own := RX12) (lv := [(0, .ref (g.2.2 176)), (1, .int p0), (2, .int p1)]) (by decide) rfl rfl hA (Nat.le_of_ble_eq_true rfl) rfl ?_
  intro X hl hg hAA F hret
  subst hl hg hAA
  unfold w_X12_trim at h
  refine x_aload_n F dX12_trim_0 rfl 0 rfl ?_
  refine x_iconst (0 : Int32) F dX12_trim_1 (by decide) ?_
  refine q_12_0 F kz_176 in_12 (mc bw_8_21) dX12_trim_2 ?_
  refine x_nmS (fun s1 es1 => ?_)
  replace h := h s1 es1
  refine x_aload_n F dX12_trim_5 rfl 0 rfl ?_
  refine g_12_14 F kz_176 in_12 (mc bw_22_18) dX12_trim_6 ?_
  refine x_if_eq (tgt := 36) F dX12_trim_9 (by decide) (fun c => ?_) (fun c => ?_)
  · replace h := h.1 c
    refine x_ldc2 F dX12_trim_36 (mc bw_29_19) ?_
    exact hret _ _ _ _ h dX12_trim_39
  · replace h := h.2 c
    refine x_iload_n F dX12_trim_12 rfl 1 rfl ?_
    refine x_i2l F dX12_trim_13 ?_
    refine x_lconst (1 : Int64) F dX12_trim_14 (by decide) ?_
    refine x_ldc2 F dX12_trim_15 (mc bw_42_1) ?_
    refine x_callT_i F (c_X12_isIn (xl X) (xg X) (xA X) F.2.2.1  h) (bw_S bw_13_13 bw_13_14 bw_1_5 bw_13_15) rfl cd_X12_isIn (Nat.le_of_ble_eq_true rfl) (Nat.le_of_ble_eq_true rfl) rfl rfl (Nat.le_of_ble_eq_true rfl) dX12_trim_18 (fun r3 s2 h => ?_)
    refine x_if_eq (tgt := 36) F dX12_trim_21 (by decide) (fun c => ?_) (fun c => ?_)
    · replace h := h.1 c
      refine x_ldc2 F dX12_trim_36 (mc bw_29_19) ?_
      exact hret _ _ _ _ h dX12_trim_39
    · replace h := h.2 c
      refine x_iload_n F dX12_trim_24 rfl 2 rfl ?_
      refine x_i2l F dX12_trim_25 ?_
      refine x_lconst (0 : Int64) F dX12_trim_26 (by decide) ?_
      refine x_ldc2 F dX12_trim_27 (mc bw_42_1) ?_
      refine x_callT_i F (c_X12_isIn (xl X) (xg X) (xA X) F.2.2.1  h) (bw_S bw_13_13 bw_13_14 bw_1_5 bw_13_15) rfl cd_X12_isIn (Nat.le_of_ble_eq_true rfl) (Nat.le_of_ble_eq_true rfl) rfl rfl (Nat.le_of_ble_eq_true rfl) dX12_trim_30 (fun r5 s4 h => ?_)
      refine x_if_ne (tgt := 40) F dX12_trim_33 (by decide) (fun c => ?_) (fun c => ?_)
      · replace h := h.1 c
        refine x_aload_n F dX12_trim_40 rfl 0 rfl ?_
        refine x_iconst (-1 : Int32) F dX12_trim_41 (by decide) ?_
        refine q_12_41 F kz_176 in_12 (mc bw_48_2) dX12_trim_42 ?_
        refine x_nmS (fun s6 es6 => ?_)
        replace h := h s6 es6
        refine x_aload_n F dX12_trim_45 rfl 0 rfl ?_
        refine x_iconst (0 : Int32) F dX12_trim_46 (by decide) ?_
        refine q_12_42 F kz_176 in_12 (mc bw_48_3) dX12_trim_47 ?_
        refine x_nmS (fun s7 es7 => ?_)
        replace h := h s7 es7
        refine x_aload_n F dX12_trim_50 rfl 0 rfl ?_
        refine x_lconst (0 : Int64) F dX12_trim_51 (by decide) ?_
        refine q_12_39 F kz_176 in_12 (mc bw_48_4) dX12_trim_52 ?_
        refine x_nmS (fun s8 es8 => ?_)
        replace h := h s8 es8
        refine x_aload_n F dX12_trim_55 rfl 0 rfl ?_
        refine x_lconst (1 : Int64) F dX12_trim_56 (by decide) ?_
        refine q_12_40 F kz_176 in_12 (mc bw_48_5) dX12_trim_57 ?_
        refine x_nmS (fun s9 es9 => ?_)
        replace h := h s9 es9
        refine x_iconst (0 : Int32) F dX12_trim_60 (by decide) ?_
        refine x_istore_n (lv' := [(3, .int (0 : Int32)), (0, .ref (ad X 176)), (1, .int p0), (2, .int p1)]) F dX12_trim_61 rfl (by decide) rfl ?_
        refine x_sub (lv' := [(0, .ref (ad X 176)), (1, .int p0), (2, .int p1), (3, .int (0 : Int32))]) [1, 2, 3, 0] rfl ?_
        obtain ⟨n2, h⟩ := h
        exact wl_X12_trim_62 F hret   n2 _ _ _ _ h
      · replace h := h.2 c
        refine x_ldc2 F dX12_trim_36 (mc bw_29_19) ?_
        exact hret _ _ _ _ h dX12_trim_39
/-! X12_would -/
abbrev wvX12_would : List Cond := Cond.code yX12_would cX12_would 3 (some .boolean) :: wsL_law
theorem cd_X12_would : okN yX12_would RX12 1 := by unfold okN; decide +kernel
def b_X12_would_58  (K15 : Int32 → Int32 → wS → Prop) (Q : Int32 → wS → Prop) (x1 : Int32) (x2 : Int32) (σ : wS) : Prop := ∀ y1 : Int32, y1 = (x2 + (1 : Int32)) → (K15 x1 y1 σ)
set_option maxRecDepth 100000 in
set_option maxHeartbeats 4000000 in
theorem wb_X12_would_58 {X : XT} {Q : Int32 → wS → Prop}  (F : Fx X cX12_would 3 RX12 wvX12_would 5 125) (hret : Ri X 3 cX12_would .boolean Q)  {K15 : Int32 → Int32 → wS → Prop} (hK15 : ∀ (x1 : Int32) (x2 : Int32) (σ : wS), K15 x1 x2 σ → Wx X 3 σ 15 [(0, .ref (ad X 176)), (1, .int x1), (2, .int x2)] []) (x1 : Int32) (x2 : Int32) (σ : wS) (h : b_X12_would_58  K15 Q x1 x2 σ) : Wx X 3 σ 58 [(0, .ref (ad X 176)), (1, .int x1), (2, .int x2)] [] := by
  unfold b_X12_would_58 at h
  obtain ⟨y1, ey1⟩ : ∃ y : Int32, y = (x2 + (1 : Int32)) := ⟨_, rfl⟩
  replace h := h y1 ey1
  refine x_iinc (q := 2) (v := y1) (lv' := [(2, .int y1), (0, .ref (ad X 176)), (1, .int x1)]) F dX12_would_58 rfl (by rw [ey1]; rfl) (by decide) rfl ?_
  refine x_goto (tgt := 15) F dX12_would_61 (by decide) ?_
  refine x_sub (lv' := [(0, .ref (ad X 176)), (1, .int x1), (2, .int y1)]) [1, 2, 0] rfl ?_
  exact hK15 _ _ _ h
def b_X12_would_57  (K15 : Int32 → Int32 → wS → Prop) (Q : Int32 → wS → Prop) (x1 : Int32) (x2 : Int32) (z0 : Int32) (z1 : Int32) (σ : wS) : Prop := vp_in z1 202 ∧ (∀ s1 : wS, s1 = upI σ 189 (z1).toNatClampNeg z0 → (b_X12_would_58  K15 Q x1 x2 s1))
set_option maxRecDepth 100000 in
set_option maxHeartbeats 4000000 in
theorem wb_X12_would_57 {X : XT} {Q : Int32 → wS → Prop}  (F : Fx X cX12_would 3 RX12 wvX12_would 5 125) (hret : Ri X 3 cX12_would .boolean Q)  {K15 : Int32 → Int32 → wS → Prop} (hK15 : ∀ (x1 : Int32) (x2 : Int32) (σ : wS), K15 x1 x2 σ → Wx X 3 σ 15 [(0, .ref (ad X 176)), (1, .int x1), (2, .int x2)] []) (x1 : Int32) (x2 : Int32) (z0 : Int32) (z1 : Int32) (σ : wS) (h : b_X12_would_57  K15 Q x1 x2 z0 z1 σ) : Wx X 3 σ 57 [(0, .ref (ad X 176)), (1, .int x1), (2, .int x2)] [.int z0, .int z1, .ref (ad X 189)] := by
  unfold b_X12_would_57 at h
  obtain ⟨hz, h⟩ := h
  refine x_iast F kz_189 nz_189 hz dX12_would_57 ?_
  refine x_nmS (fun s1 es1 => ?_)
  replace h := h s1 es1
  refine x_sub (lv' := [(0, .ref (ad X 176)), (1, .int x1), (2, .int x2)]) [0, 1, 2] rfl ?_
  exact wb_X12_would_58 F hret  hK15 _ _ _ h
def l_X12_would_15   (Q : Int32 → wS → Prop) : Nat → Int32 → Int32 → wS → Prop
  | 0, _, _, _ => False
  | n + 1, x1, x2, σ => ((σ.1 176 14) ≤ x2 → (w_X12_settles 189 σ (fun r2 s1 => (¬ r2 = (-1 : Int32) → (Q (0 : Int32) s1)) ∧ (r2 = (-1 : Int32) → ((¬ (s1.1 176 32) = 0 → (Q (0 : Int32) s1)) ∧ ((s1.1 176 32) = 0 → (Q (1 : Int32) s1))))))) ∧ (¬ (σ.1 176 14) ≤ x2 → (vp_in ((8 : Int32) + x2) 202 ∧ (((2 : Int32) ≤ (σ.1 189 (((8 : Int32) + x2)).toNatClampNeg) → (b_X12_would_58  (fun x1 x2 σ => l_X12_would_15   Q n x1 x2 σ) Q x1 x2 σ)) ∧ (¬ (2 : Int32) ≤ (σ.1 189 (((8 : Int32) + x2)).toNatClampNeg) → (w_X12_has x1 x2 σ (fun r4 s3 => (r4 = 0 → (b_X12_would_57  (fun x1 x2 σ => l_X12_would_15   Q n x1 x2 σ) Q x1 x2 (3 : Int32) ((8 : Int32) + x2) s3)) ∧ (¬ r4 = 0 → (b_X12_would_57  (fun x1 x2 σ => l_X12_would_15   Q n x1 x2 σ) Q x1 x2 (0 : Int32) ((8 : Int32) + x2) s3))))))))
set_option maxRecDepth 100000 in
set_option maxHeartbeats 4000000 in
theorem wl_X12_would_15 {X : XT} {Q : Int32 → wS → Prop}  (F : Fx X cX12_would 3 RX12 wvX12_would 5 125) (hret : Ri X 3 cX12_would .boolean Q)    : ∀ (n : Nat) (x1 : Int32) (x2 : Int32) (σ : wS), l_X12_would_15   Q n x1 x2 σ → Wx X 3 σ 15 [(0, .ref (ad X 176)), (1, .int x1), (2, .int x2)] [] := by
  intro n
  induction n with
  | zero =>
    intros
    contradiction
  | succ n ih =>
    intro x1 x2 σ h
    simp only [l_X12_would_15] at h
    refine x_iload_n F dX12_would_15 rfl 2 rfl ?_
    refine x_aload_n F dX12_would_16 rfl 0 rfl ?_
    refine g_12_14 F kz_176 in_12 (mc bw_22_18) dX12_would_17 ?_
    refine x_icmp_ge (tgt := 64) F dX12_would_20 (by decide) (fun c => ?_) (fun c => ?_)
    · replace h := h.1 c
      refine x_aload_n F dX12_would_64 rfl 0 rfl ?_
      refine x_aload_n F dX12_would_65 rfl 0 rfl ?_
      refine g_12_20 F kz_176 in_12 (mc bw_7_19) dX12_would_66 ?_
      refine x_callV_i F (c_X12_settles (xl X) (xg X) (xA X) F.2.2.1 kz_189 h) (bw_V bw_23_5 bw_23_6 bw_23_7 bw_1_5 bw_23_8) rfl cd_X12_settles (Nat.le_of_ble_eq_true rfl) (Nat.le_of_ble_eq_true rfl) (kd_w (by decide) kz_176) rfl (cl_12 kz_176) rfl rfl (Nat.le_of_ble_eq_true rfl) dX12_would_69 (fun r2 s1 h => ?_)
      refine x_iconst (-1 : Int32) F dX12_would_72 (by decide) ?_
      refine x_icmp_ne (tgt := 87) F dX12_would_73 (by decide) (fun c => ?_) (fun c => ?_)
      · replace h := h.1 c
        refine x_iconst (0 : Int32) F dX12_would_87 (by decide) ?_
        exact hret _ _ _ _ h (nar01 (by decide)) dX12_would_88
      · replace h := h.2 c
        refine x_aload_n F dX12_would_76 rfl 0 rfl ?_
        refine g_12_32 F kz_176 in_12 (mc bw_23_9) dX12_would_77 ?_
        refine x_if_ne (tgt := 87) F dX12_would_80 (by decide) (fun c => ?_) (fun c => ?_)
        · replace h := h.1 c
          refine x_iconst (0 : Int32) F dX12_would_87 (by decide) ?_
          exact hret _ _ _ _ h (nar01 (by decide)) dX12_would_88
        · replace h := h.2 c
          refine x_iconst (1 : Int32) F dX12_would_83 (by decide) ?_
          refine x_goto (tgt := 88) F dX12_would_84 (by decide) ?_
          exact hret _ _ _ _ h (nar01 (by decide)) dX12_would_88
    · replace h := h.2 c
      refine x_aload_n F dX12_would_23 rfl 0 rfl ?_
      refine g_12_20 F kz_176 in_12 (mc bw_7_19) dX12_would_24 ?_
      refine x_bipush (8 : Int32) F dX12_would_27 (by decide) ?_
      refine x_iload_n F dX12_would_29 rfl 2 rfl ?_
      refine x_iadd F dX12_would_30 ?_
      obtain ⟨hj, h⟩ := h
      refine x_iald F kz_189 nz_189 hj dX12_would_31 ?_
      refine x_iconst (2 : Int32) F dX12_would_32 (by decide) ?_
      refine x_icmp_ge (tgt := 58) F dX12_would_33 (by decide) (fun c => ?_) (fun c => ?_)
      · replace h := h.1 c
        refine x_sub (lv' := [(0, .ref (ad X 176)), (1, .int x1), (2, .int x2)]) [0, 1, 2] rfl ?_
        exact wb_X12_would_58 F hret  ih _ _ _ h
      · replace h := h.2 c
        refine x_aload_n F dX12_would_36 rfl 0 rfl ?_
        refine g_12_20 F kz_176 in_12 (mc bw_7_19) dX12_would_37 ?_
        refine x_bipush (8 : Int32) F dX12_would_40 (by decide) ?_
        refine x_iload_n F dX12_would_42 rfl 2 rfl ?_
        refine x_iadd F dX12_would_43 ?_
        refine x_iload_n F dX12_would_44 rfl 1 rfl ?_
        refine x_iload_n F dX12_would_45 rfl 2 rfl ?_
        refine x_callT_i F (c_X12_has (xl X) (xg X) (xA X) F.2.2.1  h) (bw_S bw_16_18 bw_16_19 bw_1_5 bw_16_20) rfl cd_X12_has (Nat.le_of_ble_eq_true rfl) (Nat.le_of_ble_eq_true rfl) rfl rfl (Nat.le_of_ble_eq_true rfl) dX12_would_46 (fun r4 s3 h => ?_)
        refine x_if_eq (tgt := 56) F dX12_would_49 (by decide) (fun c => ?_) (fun c => ?_)
        · replace h := h.1 c
          refine x_iconst (3 : Int32) F dX12_would_56 (by decide) ?_
          refine x_sub (lv' := [(0, .ref (ad X 176)), (1, .int x1), (2, .int x2)]) [0, 1, 2] rfl ?_
          exact wb_X12_would_57 F hret  ih _ _ _ _ _ h
        · replace h := h.2 c
          refine x_iconst (0 : Int32) F dX12_would_52 (by decide) ?_
          refine x_goto (tgt := 57) F dX12_would_53 (by decide) ?_
          refine x_sub (lv' := [(0, .ref (ad X 176)), (1, .int x1), (2, .int x2)]) [0, 1, 2] rfl ?_
          exact wb_X12_would_57 F hret  ih _ _ _ _ _ h
def w_X12_would  (p0 : Int32) (σ : wS) (Q : Int32 → wS → Prop) : Prop := w_X12_copyRow 188 189 (0 : Int32) (0 : Int32) σ (fun s1 => (∃ m, l_X12_would_15   Q m p0 (0 : Int32) s1))
set_option maxRecDepth 100000 in
set_option maxHeartbeats 4000000 in
theorem c_X12_would (l : Launch) (g : wG) (A : Nat → Prop) (hA : adO g A)   {p0 : Int32} {σ : wS} {Q : Int32 → wS → Prop} (h : w_X12_would  p0 σ Q) : Mi l yX12_would wvX12_would 5 125 g A [.ref (g.2.2 176), .int p0] σ Q := by
  refine mt_i (own := RX12) (lv := [(0, .ref (g.2.2 176)), (1, .int p0)]) (by decide) rfl rfl hA (Nat.le_of_ble_eq_true rfl) rfl ?_
  intro X hl hg hAA F hret
  subst hl hg hAA
  unfold w_X12_would at h
  refine x_aload_n F dX12_would_0 rfl 0 rfl ?_
  refine g_12_19 F kz_176 in_12 (mc bw_7_18) dX12_would_1 ?_
  refine x_iconst (0 : Int32) F dX12_would_4 (by decide) ?_
  refine x_aload_n F dX12_would_5 rfl 0 rfl ?_
  refine g_12_20 F kz_176 in_12 (mc bw_7_19) dX12_would_6 ?_
  refine x_iconst (0 : Int32) F dX12_would_9 (by decide) ?_
  refine x_callT_v F (c_X12_copyRow (xl X) (xg X) (xA X) F.2.2.1 kz_188 kz_189 h) (bw_S bw_25_14 bw_25_15 bw_1_5 bw_25_16) rfl cd_X12_copyRow (Nat.le_of_ble_eq_true rfl) (Nat.le_of_ble_eq_true rfl) rfl rfl (Nat.le_of_ble_eq_true rfl) dX12_would_10 (fun s1 h => ?_)
  refine x_iconst (0 : Int32) F dX12_would_13 (by decide) ?_
  refine x_istore_n (lv' := [(2, .int (0 : Int32)), (0, .ref (ad X 176)), (1, .int p0)]) F dX12_would_14 rfl (by decide) rfl ?_
  refine x_sub (lv' := [(0, .ref (ad X 176)), (1, .int p0), (2, .int (0 : Int32))]) [1, 2, 0] rfl ?_
  obtain ⟨n2, h⟩ := h
  exact wl_X12_would_15 F hret   n2 _ _ _ h
/-! X12_fewest -/
abbrev wvX12_fewest : List Cond := Cond.code yX12_fewest cX12_fewest 5 (some .int) :: wsL_law
theorem cd_X12_fewest : okN yX12_fewest RX12 1 := by unfold okN; decide +kernel
def b_X12_fewest_106  (K55 : Int32 → Int32 → Int32 → Int32 → wS → Prop) (Q : Int32 → wS → Prop) (x1 : Int32) (x2 : Int32) (x3 : Int32) (x4 : Int32) (σ : wS) : Prop := ∀ y1 : Int32, y1 = (x4 + (1 : Int32)) → (K55 x1 x2 x3 y1 σ)
set_option maxRecDepth 100000 in
set_option maxHeartbeats 4000000 in
theorem wb_X12_fewest_106 {X : XT} {Q : Int32 → wS → Prop}  (F : Fx X cX12_fewest 5 RX12 wvX12_fewest 6 147) (hret : Ri X 5 cX12_fewest .int Q)  {K55 : Int32 → Int32 → Int32 → Int32 → wS → Prop} (hK55 : ∀ (x1 : Int32) (x2 : Int32) (x3 : Int32) (x4 : Int32) (σ : wS), K55 x1 x2 x3 x4 σ → Wx X 5 σ 55 [(0, .ref (ad X 176)), (1, .int x1), (2, .int x2), (3, .int x3), (4, .int x4)] []) (x1 : Int32) (x2 : Int32) (x3 : Int32) (x4 : Int32) (σ : wS) (h : b_X12_fewest_106  K55 Q x1 x2 x3 x4 σ) : Wx X 5 σ 106 [(0, .ref (ad X 176)), (1, .int x1), (2, .int x2), (3, .int x3), (4, .int x4)] [] := by
  unfold b_X12_fewest_106 at h
  obtain ⟨y1, ey1⟩ : ∃ y : Int32, y = (x4 + (1 : Int32)) := ⟨_, rfl⟩
  replace h := h y1 ey1
  refine x_iinc (q := 4) (v := y1) (lv' := [(4, .int y1), (0, .ref (ad X 176)), (1, .int x1), (2, .int x2), (3, .int x3)]) F dX12_fewest_106 rfl (by rw [ey1]; rfl) (by decide) rfl ?_
  refine x_goto (tgt := 55) F dX12_fewest_109 (by decide) ?_
  refine x_sub (lv' := [(0, .ref (ad X 176)), (1, .int x1), (2, .int x2), (3, .int x3), (4, .int y1)]) [1, 2, 3, 4, 0] rfl ?_
  exact hK55 _ _ _ _ _ h
def b_X12_fewest_94  (K55 : Int32 → Int32 → Int32 → Int32 → wS → Prop) (Q : Int32 → wS → Prop) (x1 : Int32) (x2 : Int32) (x3 : Int32) (x4 : Int32) (σ : wS) : Prop := w_X12_would x4 σ (fun r2 s1 => (r2 = 0 → (b_X12_fewest_106  K55 Q x1 x2 x3 x4 s1)) ∧ (¬ r2 = 0 → (b_X12_fewest_106  K55 Q x1 x2 x4 x4 s1)))
set_option maxRecDepth 100000 in
set_option maxHeartbeats 4000000 in
theorem wb_X12_fewest_94 {X : XT} {Q : Int32 → wS → Prop}  (F : Fx X cX12_fewest 5 RX12 wvX12_fewest 6 147) (hret : Ri X 5 cX12_fewest .int Q)  {K55 : Int32 → Int32 → Int32 → Int32 → wS → Prop} (hK55 : ∀ (x1 : Int32) (x2 : Int32) (x3 : Int32) (x4 : Int32) (σ : wS), K55 x1 x2 x3 x4 σ → Wx X 5 σ 55 [(0, .ref (ad X 176)), (1, .int x1), (2, .int x2), (3, .int x3), (4, .int x4)] []) (x1 : Int32) (x2 : Int32) (x3 : Int32) (x4 : Int32) (σ : wS) (h : b_X12_fewest_94  K55 Q x1 x2 x3 x4 σ) : Wx X 5 σ 94 [(0, .ref (ad X 176)), (1, .int x1), (2, .int x2), (3, .int x3), (4, .int x4)] [] := by
  unfold b_X12_fewest_94 at h
  refine x_aload_n F dX12_fewest_94 rfl 0 rfl ?_
  refine x_iload F dX12_fewest_95 4 rfl ?_
  refine x_callV_i F (c_X12_would (xl X) (xg X) (xA X) F.2.2.1  h) (bw_V bw_49_3 bw_49_4 bw_49_5 bw_1_5 bw_49_6) rfl cd_X12_would (Nat.le_of_ble_eq_true rfl) (Nat.le_of_ble_eq_true rfl) (kd_w (by decide) kz_176) rfl (cl_12 kz_176) rfl rfl (Nat.le_of_ble_eq_true rfl) dX12_fewest_97 (fun r2 s1 h => ?_)
  refine x_if_eq (tgt := 106) F dX12_fewest_100 (by decide) (fun c => ?_) (fun c => ?_)
  · replace h := h.1 c
    refine x_sub (lv' := [(0, .ref (ad X 176)), (1, .int x1), (2, .int x2), (3, .int x3), (4, .int x4)]) [0, 1, 2, 3, 4] rfl ?_
    exact wb_X12_fewest_106 F hret  hK55 _ _ _ _ _ h
  · replace h := h.2 c
    refine x_iload F dX12_fewest_103 4 rfl ?_
    refine x_istore_n (lv' := [(3, .int x4), (0, .ref (ad X 176)), (1, .int x1), (2, .int x2), (4, .int x4)]) F dX12_fewest_105 rfl (by decide) rfl ?_
    refine x_sub (lv' := [(0, .ref (ad X 176)), (1, .int x1), (2, .int x2), (3, .int x4), (4, .int x4)]) [1, 2, 3, 0, 4] rfl ?_
    exact wb_X12_fewest_106 F hret  hK55 _ _ _ _ _ h
def l_X12_fewest_55   (Q : Int32 → wS → Prop) : Nat → Int32 → Int32 → Int32 → Int32 → wS → Prop
  | 0, _, _, _, _, _ => False
  | n + 1, x1, x2, x3, x4, σ => (((1 : Int32) <<< ((σ.1 176 14) &&& 31)) ≤ x4 → ((¬ x3 = 0 → ((¬ x1 = 0 → (Q x3 σ)) ∧ (x1 = 0 → (w_X12_size x3 σ (fun r2 s1 => Q r2 s1))))) ∧ (x3 = 0 → (Q (-1 : Int32) σ)))) ∧ (¬ ((1 : Int32) <<< ((σ.1 176 14) &&& 31)) ≤ x4 → ((¬ (x4 &&& (x2 ^^^ (-1 : Int32))) = 0 → (b_X12_fewest_106  (fun x1 x2 x3 x4 σ => l_X12_fewest_55   Q n x1 x2 x3 x4 σ) Q x1 x2 x3 x4 σ)) ∧ ((x4 &&& (x2 ^^^ (-1 : Int32))) = 0 → ((x3 = 0 → (b_X12_fewest_94  (fun x1 x2 x3 x4 σ => l_X12_fewest_55   Q n x1 x2 x3 x4 σ) Q x1 x2 x3 x4 σ)) ∧ (¬ x3 = 0 → (w_X12_size x4 σ (fun r4 s3 => w_X12_size x3 s3 (fun r6 s5 => (r4 < r6 → (b_X12_fewest_94  (fun x1 x2 x3 x4 σ => l_X12_fewest_55   Q n x1 x2 x3 x4 σ) Q x1 x2 x3 x4 s5)) ∧ (¬ r4 < r6 → (b_X12_fewest_106  (fun x1 x2 x3 x4 σ => l_X12_fewest_55   Q n x1 x2 x3 x4 σ) Q x1 x2 x3 x4 s5))))))))))
set_option maxRecDepth 100000 in
set_option maxHeartbeats 4000000 in
theorem wl_X12_fewest_55 {X : XT} {Q : Int32 → wS → Prop}  (F : Fx X cX12_fewest 5 RX12 wvX12_fewest 6 147) (hret : Ri X 5 cX12_fewest .int Q)    : ∀ (n : Nat) (x1 : Int32) (x2 : Int32) (x3 : Int32) (x4 : Int32) (σ : wS), l_X12_fewest_55   Q n x1 x2 x3 x4 σ → Wx X 5 σ 55 [(0, .ref (ad X 176)), (1, .int x1), (2, .int x2), (3, .int x3), (4, .int x4)] [] := by
  intro n
  induction n with
  | zero =>
    intros
    contradiction
  | succ n ih =>
    intro x1 x2 x3 x4 σ h
    simp only [l_X12_fewest_55] at h
    refine x_iload F dX12_fewest_55 4 rfl ?_
    refine x_iconst (1 : Int32) F dX12_fewest_57 (by decide) ?_
    refine x_aload_n F dX12_fewest_58 rfl 0 rfl ?_
    refine g_12_14 F kz_176 in_12 (mc bw_22_18) dX12_fewest_59 ?_
    refine x_ishl F dX12_fewest_62 ?_
    refine x_icmp_ge (tgt := 112) F dX12_fewest_63 (by decide) (fun c => ?_) (fun c => ?_)
    · replace h := h.1 c
      refine x_iload_n F dX12_fewest_112 rfl 3 rfl ?_
      refine x_if_ne (tgt := 118) F dX12_fewest_113 (by decide) (fun c => ?_) (fun c => ?_)
      · replace h := h.1 c
        refine x_iload_n F dX12_fewest_118 rfl 1 rfl ?_
        refine x_if_ne (tgt := 129) F dX12_fewest_119 (by decide) (fun c => ?_) (fun c => ?_)
        · replace h := h.1 c
          refine x_iload_n F dX12_fewest_129 rfl 3 rfl ?_
          exact hret _ _ _ _ h rfl dX12_fewest_130
        · replace h := h.2 c
          refine x_iload_n F dX12_fewest_122 rfl 3 rfl ?_
          refine x_callT_i F (c_X12_size (xl X) (xg X) (xA X) F.2.2.1  h) (bw_S bw_43_11 bw_43_12 bw_1_5 bw_43_13) rfl cd_X12_size (Nat.le_of_ble_eq_true rfl) (Nat.le_of_ble_eq_true rfl) rfl rfl (Nat.le_of_ble_eq_true rfl) dX12_fewest_123 (fun r2 s1 h => ?_)
          refine x_goto (tgt := 130) F dX12_fewest_126 (by decide) ?_
          exact hret _ _ _ _ h rfl dX12_fewest_130
      · replace h := h.2 c
        refine x_iconst (-1 : Int32) F dX12_fewest_116 (by decide) ?_
        exact hret _ _ _ _ h rfl dX12_fewest_117
    · replace h := h.2 c
      refine x_iload F dX12_fewest_66 4 rfl ?_
      refine x_iload_n F dX12_fewest_68 rfl 2 rfl ?_
      refine x_iconst (-1 : Int32) F dX12_fewest_69 (by decide) ?_
      refine x_ixor F dX12_fewest_70 ?_
      refine x_iand F dX12_fewest_71 ?_
      refine x_if_ne (tgt := 106) F dX12_fewest_72 (by decide) (fun c => ?_) (fun c => ?_)
      · replace h := h.1 c
        refine x_sub (lv' := [(0, .ref (ad X 176)), (1, .int x1), (2, .int x2), (3, .int x3), (4, .int x4)]) [0, 1, 2, 3, 4] rfl ?_
        exact wb_X12_fewest_106 F hret  ih _ _ _ _ _ h
      · replace h := h.2 c
        refine x_iload_n F dX12_fewest_75 rfl 3 rfl ?_
        refine x_if_eq (tgt := 94) F dX12_fewest_76 (by decide) (fun c => ?_) (fun c => ?_)
        · replace h := h.1 c
          refine x_sub (lv' := [(0, .ref (ad X 176)), (1, .int x1), (2, .int x2), (3, .int x3), (4, .int x4)]) [0, 1, 2, 3, 4] rfl ?_
          exact wb_X12_fewest_94 F hret  ih _ _ _ _ _ h
        · replace h := h.2 c
          refine x_iload F dX12_fewest_79 4 rfl ?_
          refine x_callT_i F (c_X12_size (xl X) (xg X) (xA X) F.2.2.1  h) (bw_S bw_43_11 bw_43_12 bw_1_5 bw_43_13) rfl cd_X12_size (Nat.le_of_ble_eq_true rfl) (Nat.le_of_ble_eq_true rfl) rfl rfl (Nat.le_of_ble_eq_true rfl) dX12_fewest_81 (fun r4 s3 h => ?_)
          refine x_iload_n F dX12_fewest_84 rfl 3 rfl ?_
          refine x_callT_i F (c_X12_size (xl X) (xg X) (xA X) F.2.2.1  h) (bw_S bw_43_11 bw_43_12 bw_1_5 bw_43_13) rfl cd_X12_size (Nat.le_of_ble_eq_true rfl) (Nat.le_of_ble_eq_true rfl) rfl rfl (Nat.le_of_ble_eq_true rfl) dX12_fewest_85 (fun r6 s5 h => ?_)
          refine x_icmp_lt (tgt := 94) F dX12_fewest_88 (by decide) (fun c => ?_) (fun c => ?_)
          · replace h := h.1 c
            refine x_sub (lv' := [(0, .ref (ad X 176)), (1, .int x1), (2, .int x2), (3, .int x3), (4, .int x4)]) [0, 1, 2, 3, 4] rfl ?_
            exact wb_X12_fewest_94 F hret  ih _ _ _ _ _ h
          · replace h := h.2 c
            refine x_goto (tgt := 106) F dX12_fewest_91 (by decide) ?_
            refine x_sub (lv' := [(0, .ref (ad X 176)), (1, .int x1), (2, .int x2), (3, .int x3), (4, .int x4)]) [0, 1, 2, 3, 4] rfl ?_
            exact wb_X12_fewest_106 F hret  ih _ _ _ _ _ h
def w_X12_fewest  (p0 : Int32) (σ : wS) (Q : Int32 → wS → Prop) : Prop := ∀ s1 : wS, s1 = upI σ 176 0 (0 : Int32) → (((s1.1 176 14) = 0 → (Q (-1 : Int32) s1)) ∧ (¬ (s1.1 176 14) = 0 → (w_X12_isIn (p0).toInt64 (0 : Int64) (1 : Int64) s1 (fun r3 s2 => (¬ r3 = 0 → (w_X12_those 188 (s2.1 176 14) (0 : Int32) s2 (fun r5 s4 => w_X12_those 188 (s4.1 176 14) (1 : Int32) s4 (fun r7 s6 => ∀ y8 : Int32, y8 = (r5 ||| r7) → ((∃ m, l_X12_fewest_55   Q m p0 y8 (0 : Int32) (1 : Int32) s6)))))) ∧ (r3 = 0 → (Q (-1 : Int32) s2))))))
set_option maxRecDepth 100000 in
set_option maxHeartbeats 4000000 in
theorem c_X12_fewest (l : Launch) (g : wG) (A : Nat → Prop) (hA : adO g A)   {p0 : Int32} {σ : wS} {Q : Int32 → wS → Prop} (h : w_X12_fewest  p0 σ Q) : Mi l yX12_fewest wvX12_fewest 6 147 g A [.ref (g.2.2 176), .int p0] σ Q := by
  refine mt_i (own := RX12) (lv := [(0, .ref (g.2.2 176)), (1, .int p0)]) (by decide) rfl rfl hA (Nat.le_of_ble_eq_true rfl) rfl ?_
  intro X hl hg hAA F hret
  subst hl hg hAA
  unfold w_X12_fewest at h
  refine x_aload_n F dX12_fewest_0 rfl 0 rfl ?_
  refine x_iconst (0 : Int32) F dX12_fewest_1 (by decide) ?_
  refine q_12_0 F kz_176 in_12 (mc bw_8_21) dX12_fewest_2 ?_
  refine x_nmS (fun s1 es1 => ?_)
  replace h := h s1 es1
  refine x_aload_n F dX12_fewest_5 rfl 0 rfl ?_
  refine g_12_14 F kz_176 in_12 (mc bw_22_18) dX12_fewest_6 ?_
  refine x_if_eq (tgt := 22) F dX12_fewest_9 (by decide) (fun c => ?_) (fun c => ?_)
  · replace h := h.1 c
    refine x_iconst (-1 : Int32) F dX12_fewest_22 (by decide) ?_
    exact hret _ _ _ _ h rfl dX12_fewest_23
  · replace h := h.2 c
    refine x_iload_n F dX12_fewest_12 rfl 1 rfl ?_
    refine x_i2l F dX12_fewest_13 ?_
    refine x_lconst (0 : Int64) F dX12_fewest_14 (by decide) ?_
    refine x_lconst (1 : Int64) F dX12_fewest_15 (by decide) ?_
    refine x_callT_i F (c_X12_isIn (xl X) (xg X) (xA X) F.2.2.1  h) (bw_S bw_13_13 bw_13_14 bw_1_5 bw_13_15) rfl cd_X12_isIn (Nat.le_of_ble_eq_true rfl) (Nat.le_of_ble_eq_true rfl) rfl rfl (Nat.le_of_ble_eq_true rfl) dX12_fewest_16 (fun r3 s2 h => ?_)
    refine x_if_ne (tgt := 24) F dX12_fewest_19 (by decide) (fun c => ?_) (fun c => ?_)
    · replace h := h.1 c
      refine x_aload_n F dX12_fewest_24 rfl 0 rfl ?_
      refine g_12_19 F kz_176 in_12 (mc bw_7_18) dX12_fewest_25 ?_
      refine x_aload_n F dX12_fewest_28 rfl 0 rfl ?_
      refine g_12_14 F kz_176 in_12 (mc bw_22_18) dX12_fewest_29 ?_
      refine x_iconst (0 : Int32) F dX12_fewest_32 (by decide) ?_
      refine x_callT_i F (c_X12_those (xl X) (xg X) (xA X) F.2.2.1 kz_188 h) (bw_S bw_23_11 bw_23_12 bw_1_5 bw_23_13) rfl cd_X12_those (Nat.le_of_ble_eq_true rfl) (Nat.le_of_ble_eq_true rfl) rfl rfl (Nat.le_of_ble_eq_true rfl) dX12_fewest_33 (fun r5 s4 h => ?_)
      refine x_aload_n F dX12_fewest_36 rfl 0 rfl ?_
      refine g_12_19 F kz_176 in_12 (mc bw_7_18) dX12_fewest_37 ?_
      refine x_aload_n F dX12_fewest_40 rfl 0 rfl ?_
      refine g_12_14 F kz_176 in_12 (mc bw_22_18) dX12_fewest_41 ?_
      refine x_iconst (1 : Int32) F dX12_fewest_44 (by decide) ?_
      refine x_callT_i F (c_X12_those (xl X) (xg X) (xA X) F.2.2.1 kz_188 h) (bw_S bw_23_11 bw_23_12 bw_1_5 bw_23_13) rfl cd_X12_those (Nat.le_of_ble_eq_true rfl) (Nat.le_of_ble_eq_true rfl) rfl rfl (Nat.le_of_ble_eq_true rfl) dX12_fewest_45 (fun r7 s6 h => ?_)
      refine x_ior F dX12_fewest_48 ?_
      refine x_topi (fun y8 ey8 => ?_)
      replace h := h y8 ey8
      refine x_istore_n (lv' := [(2, .int y8), (0, .ref (ad X 176)), (1, .int p0)]) F dX12_fewest_49 rfl (by decide) rfl ?_
      refine x_iconst (0 : Int32) F dX12_fewest_50 (by decide) ?_
      refine x_istore_n (lv' := [(3, .int (0 : Int32)), (2, .int y8), (0, .ref (ad X 176)), (1, .int p0)]) F dX12_fewest_51 rfl (by decide) rfl ?_
      refine x_iconst (1 : Int32) F dX12_fewest_52 (by decide) ?_
      refine x_istore (lv' := [(4, .int (1 : Int32)), (3, .int (0 : Int32)), (2, .int y8), (0, .ref (ad X 176)), (1, .int p0)]) F dX12_fewest_53 (by decide) rfl ?_
      refine x_sub (lv' := [(0, .ref (ad X 176)), (1, .int p0), (2, .int y8), (3, .int (0 : Int32)), (4, .int (1 : Int32))]) [3, 4, 2, 1, 0] rfl ?_
      obtain ⟨n2, h⟩ := h
      exact wl_X12_fewest_55 F hret   n2 _ _ _ _ _ h
    · replace h := h.2 c
      refine x_iconst (-1 : Int32) F dX12_fewest_22 (by decide) ?_
      exact hret _ _ _ _ h rfl dX12_fewest_23
/-! X12_without -/
abbrev wvX12_without : List Cond := Cond.code yX12_without cX12_without 3 (some .int) :: wsL_law
theorem cd_X12_without : okN yX12_without RX12 2 := by unfold okN; decide +kernel
def w_X12_without  (p0 : Int32) (p1 : Int32) (σ : wS) (Q : Int32 → wS → Prop) : Prop := ∀ s1 : wS, s1 = upI σ 176 0 (0 : Int32) → (w_X12_isRope p0 s1 (fun r3 s2 => (r3 = 0 → (Q (-1 : Int32) s2)) ∧ (¬ r3 = 0 → (vp_in ((8 : Int32) + p0) 202 ∧ (((2 : Int32) ≤ (s2.1 188 (((8 : Int32) + p0)).toNatClampNeg) → (Q (-1 : Int32) s2)) ∧ (¬ (2 : Int32) ≤ (s2.1 188 (((8 : Int32) + p0)).toNatClampNeg) → (w_X12_isIn (p1).toInt64 (0 : Int64) (1 : Int64) s2 (fun r5 s4 => (¬ r5 = 0 → (w_X12_copyRow 188 189 (0 : Int32) (0 : Int32) s4 (fun s6 => w_X12_does 189 (2 : Int32) p0 (0 : Int32) (0 : Int32) s6 (fun r9 s8 => (r9 = (-1 : Int32) → ((¬ p1 = 0 → (w_X12_brokenBits  s8 (fun r11 s10 => Q r11 s10))) ∧ (p1 = 0 → (w_X12_those 189 (s8.1 176 14) (0 : Int32) s8 (fun r13 s12 => Q r13 s12))))) ∧ (¬ r9 = (-1 : Int32) → (Q (-1 : Int32) s8)))))) ∧ (r5 = 0 → (Q (-1 : Int32) s4))))))))))
set_option maxRecDepth 100000 in
set_option maxHeartbeats 4000000 in
theorem c_X12_without (l : Launch) (g : wG) (A : Nat → Prop) (hA : adO g A)   {p0 : Int32} {p1 : Int32} {σ : wS} {Q : Int32 → wS → Prop} (h : w_X12_without  p0 p1 σ Q) : Mi l yX12_without wvX12_without 6 151 g A [.ref (g.2.2 176), .int p0, .int p1] σ Q := by
  refine mt_i (own := RX12) (lv := [(0, .ref (g.2.2 176)), (1, .int p0), (2, .int p1)]) (by decide) rfl rfl hA (Nat.le_of_ble_eq_true rfl) rfl ?_
  intro X hl hg hAA F hret
  subst hl hg hAA
  unfold w_X12_without at h
  refine x_aload_n F dX12_without_0 rfl 0 rfl ?_
  refine x_iconst (0 : Int32) F dX12_without_1 (by decide) ?_
  refine q_12_0 F kz_176 in_12 (mc bw_8_21) dX12_without_2 ?_
  refine x_nmS (fun s1 es1 => ?_)
  replace h := h s1 es1
  refine x_aload_n F dX12_without_5 rfl 0 rfl ?_
  refine x_iload_n F dX12_without_6 rfl 1 rfl ?_
  refine x_callV_i F (c_X12_isRope (xl X) (xg X) (xA X) F.2.2.1  h) (bw_V bw_27_21 bw_27_22 bw_27_23 bw_1_5 bw_28_0) rfl cd_X12_isRope (Nat.le_of_ble_eq_true rfl) (Nat.le_of_ble_eq_true rfl) (kd_w (by decide) kz_176) rfl (cl_12 kz_176) rfl rfl (Nat.le_of_ble_eq_true rfl) dX12_without_7 (fun r3 s2 h => ?_)
  refine x_if_eq (tgt := 36) F dX12_without_10 (by decide) (fun c => ?_) (fun c => ?_)
  · replace h := h.1 c
    refine x_iconst (-1 : Int32) F dX12_without_36 (by decide) ?_
    exact hret _ _ _ _ h rfl dX12_without_37
  · replace h := h.2 c
    refine x_aload_n F dX12_without_13 rfl 0 rfl ?_
    refine g_12_19 F kz_176 in_12 (mc bw_7_18) dX12_without_14 ?_
    refine x_bipush (8 : Int32) F dX12_without_17 (by decide) ?_
    refine x_iload_n F dX12_without_19 rfl 1 rfl ?_
    refine x_iadd F dX12_without_20 ?_
    obtain ⟨hj, h⟩ := h
    refine x_iald F kz_188 nz_188 hj dX12_without_21 ?_
    refine x_iconst (2 : Int32) F dX12_without_22 (by decide) ?_
    refine x_icmp_ge (tgt := 36) F dX12_without_23 (by decide) (fun c => ?_) (fun c => ?_)
    · replace h := h.1 c
      refine x_iconst (-1 : Int32) F dX12_without_36 (by decide) ?_
      exact hret _ _ _ _ h rfl dX12_without_37
    · replace h := h.2 c
      refine x_iload_n F dX12_without_26 rfl 2 rfl ?_
      refine x_i2l F dX12_without_27 ?_
      refine x_lconst (0 : Int64) F dX12_without_28 (by decide) ?_
      refine x_lconst (1 : Int64) F dX12_without_29 (by decide) ?_
      refine x_callT_i F (c_X12_isIn (xl X) (xg X) (xA X) F.2.2.1  h) (bw_S bw_13_13 bw_13_14 bw_1_5 bw_13_15) rfl cd_X12_isIn (Nat.le_of_ble_eq_true rfl) (Nat.le_of_ble_eq_true rfl) rfl rfl (Nat.le_of_ble_eq_true rfl) dX12_without_30 (fun r5 s4 h => ?_)
      refine x_if_ne (tgt := 38) F dX12_without_33 (by decide) (fun c => ?_) (fun c => ?_)
      · replace h := h.1 c
        refine x_aload_n F dX12_without_38 rfl 0 rfl ?_
        refine g_12_19 F kz_176 in_12 (mc bw_7_18) dX12_without_39 ?_
        refine x_iconst (0 : Int32) F dX12_without_42 (by decide) ?_
        refine x_aload_n F dX12_without_43 rfl 0 rfl ?_
        refine g_12_20 F kz_176 in_12 (mc bw_7_19) dX12_without_44 ?_
        refine x_iconst (0 : Int32) F dX12_without_47 (by decide) ?_
        refine x_callT_v F (c_X12_copyRow (xl X) (xg X) (xA X) F.2.2.1 kz_188 kz_189 h) (bw_S bw_25_14 bw_25_15 bw_1_5 bw_25_16) rfl cd_X12_copyRow (Nat.le_of_ble_eq_true rfl) (Nat.le_of_ble_eq_true rfl) rfl rfl (Nat.le_of_ble_eq_true rfl) dX12_without_48 (fun s6 h => ?_)
        refine x_aload_n F dX12_without_51 rfl 0 rfl ?_
        refine x_aload_n F dX12_without_52 rfl 0 rfl ?_
        refine g_12_20 F kz_176 in_12 (mc bw_7_19) dX12_without_53 ?_
        refine x_iconst (2 : Int32) F dX12_without_56 (by decide) ?_
        refine x_iload_n F dX12_without_57 rfl 1 rfl ?_
        refine x_iconst (0 : Int32) F dX12_without_58 (by decide) ?_
        refine x_iconst (0 : Int32) F dX12_without_59 (by decide) ?_
        refine x_callV_i F (c_X12_does (xl X) (xg X) (xA X) F.2.2.1 kz_189 h) (bw_V bw_36_2 bw_36_3 bw_36_4 bw_1_5 bw_36_5) rfl cd_X12_does (Nat.le_of_ble_eq_true rfl) (Nat.le_of_ble_eq_true rfl) (kd_w (by decide) kz_176) rfl (cl_12 kz_176) rfl rfl (Nat.le_of_ble_eq_true rfl) dX12_without_60 (fun r9 s8 h => ?_)
        refine x_iconst (-1 : Int32) F dX12_without_63 (by decide) ?_
        refine x_icmp_eq (tgt := 69) F dX12_without_64 (by decide) (fun c => ?_) (fun c => ?_)
        · replace h := h.1 c
          refine x_iload_n F dX12_without_69 rfl 2 rfl ?_
          refine x_if_ne (tgt := 88) F dX12_without_70 (by decide) (fun c => ?_) (fun c => ?_)
          · replace h := h.1 c
            refine x_aload_n F dX12_without_88 rfl 0 rfl ?_
            refine x_callV_i F (c_X12_brokenBits (xl X) (xg X) (xA X) F.2.2.1  h) (bw_V bw_37_3 bw_37_4 bw_37_5 bw_1_5 bw_37_6) rfl cd_X12_brokenBits (Nat.le_of_ble_eq_true rfl) (Nat.le_of_ble_eq_true rfl) (kd_w (by decide) kz_176) rfl (cl_12 kz_176) rfl rfl (Nat.le_of_ble_eq_true rfl) dX12_without_89 (fun r11 s10 h => ?_)
            exact hret _ _ _ _ h rfl dX12_without_92
          · replace h := h.2 c
            refine x_aload_n F dX12_without_73 rfl 0 rfl ?_
            refine g_12_20 F kz_176 in_12 (mc bw_7_19) dX12_without_74 ?_
            refine x_aload_n F dX12_without_77 rfl 0 rfl ?_
            refine g_12_14 F kz_176 in_12 (mc bw_22_18) dX12_without_78 ?_
            refine x_iconst (0 : Int32) F dX12_without_81 (by decide) ?_
            refine x_callT_i F (c_X12_those (xl X) (xg X) (xA X) F.2.2.1 kz_189 h) (bw_S bw_23_11 bw_23_12 bw_1_5 bw_23_13) rfl cd_X12_those (Nat.le_of_ble_eq_true rfl) (Nat.le_of_ble_eq_true rfl) rfl rfl (Nat.le_of_ble_eq_true rfl) dX12_without_82 (fun r13 s12 h => ?_)
            refine x_goto (tgt := 92) F dX12_without_85 (by decide) ?_
            exact hret _ _ _ _ h rfl dX12_without_92
        · replace h := h.2 c
          refine x_iconst (-1 : Int32) F dX12_without_67 (by decide) ?_
          exact hret _ _ _ _ h rfl dX12_without_68
      · replace h := h.2 c
        refine x_iconst (-1 : Int32) F dX12_without_36 (by decide) ?_
        exact hret _ _ _ _ h rfl dX12_without_37
