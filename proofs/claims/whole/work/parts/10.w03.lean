/-! X7_readScript -/
abbrev wvX7_readScript : List Cond := Cond.code yX7_readScript cX7_readScript 3 (some .int) :: wsL_law
theorem cd_X7_readScript : okN yX7_readScript RX7 1 := by unfold okN; decide +kernel
def b_X7_readScript_68 (p0 : Nat)  (Q : Int32 → wS → Prop)  (σ : wS) : Prop := Q (σ.1 3 1) σ
set_option maxRecDepth 100000 in
set_option maxHeartbeats 4000000 in
theorem wb_X7_readScript_68 {X : XT} {Q : Int32 → wS → Prop} {p0 : Nat} (F : Fx X cX7_readScript 3 RX7 wvX7_readScript 4 92) (hret : Ri X 3 cX7_readScript .int Q) (k_p0 : kd p0 = 9)    (σ : wS) (h : b_X7_readScript_68 p0  Q  σ) : Wx X 3 σ 68 [(0, .ref (ad X 3))] [] := by
  unfold b_X7_readScript_68 at h
  refine x_aload_n F dX7_readScript_68 rfl 0 rfl ?_
  refine g_7_1 F kz_3 in_7 (mc bw_4_1) dX7_readScript_69 ?_
  exact hret _ _ _ _ h rfl dX7_readScript_72
def l_X7_readScript_12 (p0 : Nat)  (Q : Int32 → wS → Prop) : Nat → Int32 → wS → Prop
  | 0, _, _ => False
  | n + 1, x2, σ => ((16 : Int32) ≤ x2 → (Q (σ.1 3 1) σ)) ∧ (¬ (16 : Int32) ≤ x2 → (w_X7_readStep p0 x2 σ (fun r2 s1 => (¬ r2 = 0 → (∀ s3 : wS, s3 = upI s1 p0 1 (x2 + (1 : Int32)) → (w_X7_skipBlanks  s3 (fun s4 => w_X7_sign  s4 (fun r7 s6 => (¬ r7 = (-1 : Int32) → (w_X7_sign  s6 (fun r9 s8 => (¬ r9 = (59 : Int32) → (b_X7_readScript_68 p0  Q  s8)) ∧ (r9 = (59 : Int32) → ((¬ x2 = (15 : Int32) → (∀ s10 : wS, s10 = upI s8 3 1 ((s8.1 3 1) + (1 : Int32)) → (∀ y11 : Int32, y11 = (x2 + (1 : Int32)) → (l_X7_readScript_12 p0  Q n y11 s10)))) ∧ (x2 = (15 : Int32) → (b_X7_readScript_68 p0  Q  s8))))))) ∧ (r7 = (-1 : Int32) → (Q (-1 : Int32) s6))))))) ∧ (r2 = 0 → (Q (s1.1 3 1) s1)))))
set_option maxRecDepth 100000 in
set_option maxHeartbeats 4000000 in
theorem wl_X7_readScript_12 {X : XT} {Q : Int32 → wS → Prop} {p0 : Nat} (F : Fx X cX7_readScript 3 RX7 wvX7_readScript 4 92) (hret : Ri X 3 cX7_readScript .int Q) (k_p0 : kd p0 = 9)   : ∀ (n : Nat) (x2 : Int32) (σ : wS), l_X7_readScript_12 p0  Q n x2 σ → Wx X 3 σ 12 [(0, .ref (ad X 3)), (1, .ref (ad X p0)), (2, .int x2)] [] := by
  intro n
  induction n with
  | zero =>
    intros
    contradiction
  | succ n ih =>
    intro x2 σ h
    simp only [l_X7_readScript_12] at h
    refine x_iload_n F dX7_readScript_12 rfl 2 rfl ?_
    refine x_bipush (16 : Int32) F dX7_readScript_13 (by decide) ?_
    refine x_icmp_ge (tgt := 89) F dX7_readScript_15 (by decide) (fun c => ?_) (fun c => ?_)
    · replace h := h.1 c
      refine x_aload_n F dX7_readScript_89 rfl 0 rfl ?_
      refine g_7_1 F kz_3 in_7 (mc bw_4_1) dX7_readScript_90 ?_
      exact hret _ _ _ _ h rfl dX7_readScript_93
    · replace h := h.2 c
      refine x_aload_n F dX7_readScript_18 rfl 0 rfl ?_
      refine x_aload_n F dX7_readScript_19 rfl 1 rfl ?_
      refine x_iload_n F dX7_readScript_20 rfl 2 rfl ?_
      refine x_callV_i F (c_X7_readStep (xl X) (xg X) (xA X) F.2.2.1 k_p0 h) (bw_V bw_12_11 bw_12_12 bw_12_13 bw_1_20 bw_12_14) rfl cd_X7_readStep (Nat.le_of_ble_eq_true rfl) (Nat.le_of_ble_eq_true rfl) (kd_w (by decide) kz_3) rfl (cl_7 kz_3) rfl rfl (Nat.le_of_ble_eq_true rfl) dX7_readScript_21 (fun r2 s1 h => ?_)
      refine x_if_ne (tgt := 32) F dX7_readScript_24 (by decide) (fun c => ?_) (fun c => ?_)
      · replace h := h.1 c
        refine x_aload_n F dX7_readScript_32 rfl 1 rfl ?_
        refine x_iload_n F dX7_readScript_33 rfl 2 rfl ?_
        refine x_iconst (1 : Int32) F dX7_readScript_34 (by decide) ?_
        refine x_iadd F dX7_readScript_35 ?_
        refine q_9_1 F k_p0 in_9 (mc bw_12_10) dX7_readScript_36 ?_
        refine x_nmS (fun s3 es3 => ?_)
        replace h := h s3 es3
        refine x_aload_n F dX7_readScript_39 rfl 0 rfl ?_
        refine x_callV_v F (c_X7_skipBlanks (xl X) (xg X) (xA X) F.2.2.1  h) (bw_V bw_10_13 bw_10_14 bw_10_15 bw_1_20 bw_10_16) rfl cd_X7_skipBlanks (Nat.le_of_ble_eq_true rfl) (Nat.le_of_ble_eq_true rfl) (kd_w (by decide) kz_3) rfl (cl_7 kz_3) rfl rfl (Nat.le_of_ble_eq_true rfl) dX7_readScript_40 (fun s4 h => ?_)
        refine x_aload_n F dX7_readScript_43 rfl 0 rfl ?_
        refine x_callV_i F (c_X7_sign (xl X) (xg X) (xA X) F.2.2.1  h) (bw_V bw_10_19 bw_10_20 bw_10_21 bw_1_20 bw_10_22) rfl cd_X7_sign (Nat.le_of_ble_eq_true rfl) (Nat.le_of_ble_eq_true rfl) (kd_w (by decide) kz_3) rfl (cl_7 kz_3) rfl rfl (Nat.le_of_ble_eq_true rfl) dX7_readScript_44 (fun r7 s6 h => ?_)
        refine x_iconst (-1 : Int32) F dX7_readScript_47 (by decide) ?_
        refine x_icmp_ne (tgt := 53) F dX7_readScript_48 (by decide) (fun c => ?_) (fun c => ?_)
        · replace h := h.1 c
          refine x_aload_n F dX7_readScript_53 rfl 0 rfl ?_
          refine x_callV_i F (c_X7_sign (xl X) (xg X) (xA X) F.2.2.1  h) (bw_V bw_10_19 bw_10_20 bw_10_21 bw_1_20 bw_10_22) rfl cd_X7_sign (Nat.le_of_ble_eq_true rfl) (Nat.le_of_ble_eq_true rfl) (kd_w (by decide) kz_3) rfl (cl_7 kz_3) rfl rfl (Nat.le_of_ble_eq_true rfl) dX7_readScript_54 (fun r9 s8 h => ?_)
          refine x_bipush (59 : Int32) F dX7_readScript_57 (by decide) ?_
          refine x_icmp_ne (tgt := 68) F dX7_readScript_59 (by decide) (fun c => ?_) (fun c => ?_)
          · replace h := h.1 c
            refine x_sub (lv' := [(0, .ref (ad X 3))]) [0] rfl ?_
            exact wb_X7_readScript_68 F hret k_p0   _ h
          · replace h := h.2 c
            refine x_iload_n F dX7_readScript_62 rfl 2 rfl ?_
            refine x_bipush (15 : Int32) F dX7_readScript_63 (by decide) ?_
            refine x_icmp_ne (tgt := 73) F dX7_readScript_65 (by decide) (fun c => ?_) (fun c => ?_)
            · replace h := h.1 c
              refine x_aload_n F dX7_readScript_73 rfl 0 rfl ?_
              refine x_dup F dX7_readScript_74 rfl ?_
              refine g_7_1 F kz_3 in_7 (mc bw_4_1) dX7_readScript_75 ?_
              refine x_iconst (1 : Int32) F dX7_readScript_78 (by decide) ?_
              refine x_iadd F dX7_readScript_79 ?_
              refine q_7_1 F kz_3 in_7 (mc bw_4_1) dX7_readScript_80 ?_
              refine x_nmS (fun s10 es10 => ?_)
              replace h := h s10 es10
              obtain ⟨y11, ey11⟩ : ∃ y : Int32, y = (x2 + (1 : Int32)) := ⟨_, rfl⟩
              replace h := h y11 ey11
              refine x_iinc (q := 2) (v := y11) (lv' := [(2, .int y11), (0, .ref (ad X 3)), (1, .ref (ad X p0))]) F dX7_readScript_83 rfl (by rw [ey11]; rfl) (by decide) rfl ?_
              refine x_goto (tgt := 12) F dX7_readScript_86 (by decide) ?_
              refine x_sub (lv' := [(0, .ref (ad X 3)), (1, .ref (ad X p0)), (2, .int y11)]) [1, 2, 0] rfl ?_
              exact ih _ _ h
            · replace h := h.2 c
              refine x_sub (lv' := [(0, .ref (ad X 3))]) [0] rfl ?_
              exact wb_X7_readScript_68 F hret k_p0   _ h
        · replace h := h.2 c
          refine x_iconst (-1 : Int32) F dX7_readScript_51 (by decide) ?_
          exact hret _ _ _ _ h rfl dX7_readScript_52
      · replace h := h.2 c
        refine x_aload_n F dX7_readScript_27 rfl 0 rfl ?_
        refine g_7_1 F kz_3 in_7 (mc bw_4_1) dX7_readScript_28 ?_
        exact hret _ _ _ _ h rfl dX7_readScript_31
def w_X7_readScript (p0 : Nat)  (σ : wS) (Q : Int32 → wS → Prop) : Prop := ∀ s1 : wS, s1 = upI σ 3 1 (0 : Int32) → (∀ s2 : wS, s2 = upI s1 p0 1 (0 : Int32) → ((∃ m, l_X7_readScript_12 p0  Q m (0 : Int32) s2)))
set_option maxRecDepth 100000 in
set_option maxHeartbeats 4000000 in
theorem c_X7_readScript (l : Launch) (g : wG) (A : Nat → Prop) (hA : adO g A) {p0 : Nat} (k_p0 : kd p0 = 9)  {σ : wS} {Q : Int32 → wS → Prop} (h : w_X7_readScript p0  σ Q) : Mi l yX7_readScript wvX7_readScript 4 92 g A [.ref (g.2.2 3), .ref (g.2.2 p0)] σ Q := by
  refine mt_i (own := RX7) (lv := [(0, .ref (g.2.2 3)), (1, .ref (g.2.2 p0))]) (by decide) rfl rfl hA (Nat.le_of_ble_eq_true rfl) rfl ?_
  intro X hl hg hAA F hret
  subst hl hg hAA
  unfold w_X7_readScript at h
  refine x_aload_n F dX7_readScript_0 rfl 0 rfl ?_
  refine x_iconst (0 : Int32) F dX7_readScript_1 (by decide) ?_
  refine q_7_1 F kz_3 in_7 (mc bw_4_1) dX7_readScript_2 ?_
  refine x_nmS (fun s1 es1 => ?_)
  replace h := h s1 es1
  refine x_aload_n F dX7_readScript_5 rfl 1 rfl ?_
  refine x_iconst (0 : Int32) F dX7_readScript_6 (by decide) ?_
  refine q_9_1 F k_p0 in_9 (mc bw_12_10) dX7_readScript_7 ?_
  refine x_nmS (fun s2 es2 => ?_)
  replace h := h s2 es2
  refine x_iconst (0 : Int32) F dX7_readScript_10 (by decide) ?_
  refine x_istore_n (lv' := [(2, .int (0 : Int32)), (0, .ref (ad X 3)), (1, .ref (ad X p0))]) F dX7_readScript_11 rfl (by decide) rfl ?_
  refine x_sub (lv' := [(0, .ref (ad X 3)), (1, .ref (ad X p0)), (2, .int (0 : Int32))]) [1, 2, 0] rfl ?_
  obtain ⟨n2, h⟩ := h
  exact wl_X7_readScript_12 F hret k_p0  n2 _ _ h
/-! X8_begin -/
abbrev wvX8_begin : List Cond := Cond.code yX8_begin cX8_begin 1 none :: wsL_law
theorem cd_X8_begin : okN yX8_begin RX8 0 := by unfold okN; decide +kernel
def w_X8_begin   (σ : wS) (Q : wS → Prop) : Prop := ∀ s1 : wS, s1 = upI σ 52 2 (0 : Int32) → (Q s1)
set_option maxRecDepth 100000 in
set_option maxHeartbeats 4000000 in
theorem c_X8_begin (l : Launch) (g : wG) (A : Nat → Prop) (hA : adO g A)    {σ : wS} {Q : wS → Prop} (h : w_X8_begin   σ Q) : Mv l yX8_begin wvX8_begin 0 0 g A [.ref (g.2.2 52)] σ Q := by
  refine mt_v (own := RX8) (lv := [(0, .ref (g.2.2 52))]) (by decide) rfl rfl hA (Nat.le_of_ble_eq_true rfl) rfl ?_
  intro X hl hg hAA F hret
  subst hl hg hAA
  unfold w_X8_begin at h
  refine x_aload_n F dX8_begin_0 rfl 0 rfl ?_
  refine x_iconst (0 : Int32) F dX8_begin_1 (by decide) ?_
  refine q_8_2 F kz_52 in_8 (mc bw_6_21) dX8_begin_2 ?_
  refine x_nmS (fun s1 es1 => ?_)
  replace h := h s1 es1
  exact hret _ _ _ h dX8_begin_5
/-! X8_add -/
abbrev wvX8_add : List Cond := Cond.code yX8_add cX8_add 2 none :: wsL_law
theorem cd_X8_add : okN yX8_add RX8 1 := by unfold okN; decide +kernel
def w_X8_add  (p0 : Int32) (σ : wS) (Q : wS → Prop) : Prop := ((4 : Int32) ≤ (σ.1 52 2) → (Q σ)) ∧ (¬ (4 : Int32) ≤ (σ.1 52 2) → (vp_in (σ.1 52 2) 4 ∧ (∀ s1 : wS, s1 = upI σ 54 ((σ.1 52 2)).toNatClampNeg p0 → (∀ s2 : wS, s2 = upI s1 52 2 ((s1.1 52 2) + (1 : Int32)) → (Q s2)))))
set_option maxRecDepth 100000 in
set_option maxHeartbeats 4000000 in
theorem c_X8_add (l : Launch) (g : wG) (A : Nat → Prop) (hA : adO g A)   {p0 : Int32} {σ : wS} {Q : wS → Prop} (h : w_X8_add  p0 σ Q) : Mv l yX8_add wvX8_add 0 0 g A [.ref (g.2.2 52), .int p0] σ Q := by
  refine mt_v (own := RX8) (lv := [(0, .ref (g.2.2 52)), (1, .int p0)]) (by decide) rfl rfl hA (Nat.le_of_ble_eq_true rfl) rfl ?_
  intro X hl hg hAA F hret
  subst hl hg hAA
  unfold w_X8_add at h
  refine x_aload_n F dX8_add_0 rfl 0 rfl ?_
  refine g_8_2 F kz_52 in_8 (mc bw_6_21) dX8_add_1 ?_
  refine x_iconst (4 : Int32) F dX8_add_4 (by decide) ?_
  refine x_icmp_ge (tgt := 28) F dX8_add_5 (by decide) (fun c => ?_) (fun c => ?_)
  · replace h := h.1 c
    exact hret _ _ _ h dX8_add_28
  · replace h := h.2 c
    refine x_aload_n F dX8_add_8 rfl 0 rfl ?_
    refine g_8_1 F kz_52 in_8 (mc bw_6_20) dX8_add_9 ?_
    refine x_aload_n F dX8_add_12 rfl 0 rfl ?_
    refine g_8_2 F kz_52 in_8 (mc bw_6_21) dX8_add_13 ?_
    refine x_iload_n F dX8_add_16 rfl 1 rfl ?_
    obtain ⟨hz, h⟩ := h
    refine x_iast F kz_54 nz_54 hz dX8_add_17 ?_
    refine x_nmS (fun s1 es1 => ?_)
    replace h := h s1 es1
    refine x_aload_n F dX8_add_18 rfl 0 rfl ?_
    refine x_dup F dX8_add_19 rfl ?_
    refine g_8_2 F kz_52 in_8 (mc bw_6_21) dX8_add_20 ?_
    refine x_iconst (1 : Int32) F dX8_add_23 (by decide) ?_
    refine x_iadd F dX8_add_24 ?_
    refine q_8_2 F kz_52 in_8 (mc bw_6_21) dX8_add_25 ?_
    refine x_nmS (fun s2 es2 => ?_)
    replace h := h s2 es2
    exact hret _ _ _ h dX8_add_28
/-! X8_close -/
abbrev wvX8_close : List Cond := Cond.code yX8_close cX8_close 2 none :: wsL_law
theorem cd_X8_close : okN yX8_close RX8 1 := by unfold okN; decide +kernel
def w_X8_close  (p0 : Int32) (σ : wS) (Q : wS → Prop) : Prop := w_X8_add p0 σ (fun s1 => (p0 < 0 → (Q s1)) ∧ (¬ p0 < 0 → (((nI 5) ≤ p0 → (Q s1)) ∧ (¬ (nI 5) ≤ p0 → (vp_in p0 5 ∧ (vp_in p0 5 ∧ (∀ s3 : wS, s3 = upI s1 53 (p0).toNatClampNeg ((s1.1 53 (p0).toNatClampNeg) + (1 : Int32)) → (Q s3))))))))
set_option maxRecDepth 100000 in
set_option maxHeartbeats 4000000 in
theorem c_X8_close (l : Launch) (g : wG) (A : Nat → Prop) (hA : adO g A)   {p0 : Int32} {σ : wS} {Q : wS → Prop} (h : w_X8_close  p0 σ Q) : Mv l yX8_close wvX8_close 1 21 g A [.ref (g.2.2 52), .int p0] σ Q := by
  refine mt_v (own := RX8) (lv := [(0, .ref (g.2.2 52)), (1, .int p0)]) (by decide) rfl rfl hA (Nat.le_of_ble_eq_true rfl) rfl ?_
  intro X hl hg hAA F hret
  subst hl hg hAA
  unfold w_X8_close at h
  refine x_aload_n F dX8_close_0 rfl 0 rfl ?_
  refine x_iload_n F dX8_close_1 rfl 1 rfl ?_
  refine x_callV_v F (c_X8_add (xl X) (xg X) (xA X) F.2.2.1  h) (bw_V bw_35_16 bw_35_9 bw_35_10 bw_3_6 bw_35_11) rfl cd_X8_add (Nat.le_of_ble_eq_true rfl) (Nat.le_of_ble_eq_true rfl) (kd_w (by decide) kz_52) rfl (cl_8 kz_52) rfl rfl (Nat.le_of_ble_eq_true rfl) dX8_close_2 (fun s1 h => ?_)
  refine x_iload_n F dX8_close_5 rfl 1 rfl ?_
  refine x_if_lt (tgt := 28) F dX8_close_6 (by decide) (fun c => ?_) (fun c => ?_)
  · replace h := h.1 c
    exact hret _ _ _ h dX8_close_28
  · replace h := h.2 c
    refine x_iload_n F dX8_close_9 rfl 1 rfl ?_
    refine x_aload_n F dX8_close_10 rfl 0 rfl ?_
    refine g_8_0 F kz_52 in_8 (mc bw_6_19) dX8_close_11 ?_
    refine x_alen F kz_53 nz_53 dX8_close_14 ?_
    refine x_icmp_ge (tgt := 28) F dX8_close_15 (by decide) (fun c => ?_) (fun c => ?_)
    · replace h := h.1 c
      exact hret _ _ _ h dX8_close_28
    · replace h := h.2 c
      refine x_aload_n F dX8_close_18 rfl 0 rfl ?_
      refine g_8_0 F kz_52 in_8 (mc bw_6_19) dX8_close_19 ?_
      refine x_iload_n F dX8_close_22 rfl 1 rfl ?_
      refine x_dup2_11 F dX8_close_23 rfl rfl ?_
      obtain ⟨hj, h⟩ := h
      refine x_iald F kz_53 nz_53 hj dX8_close_24 ?_
      refine x_iconst (1 : Int32) F dX8_close_25 (by decide) ?_
      refine x_iadd F dX8_close_26 ?_
      obtain ⟨hz, h⟩ := h
      refine x_iast F kz_53 nz_53 hz dX8_close_27 ?_
      refine x_nmS (fun s3 es3 => ?_)
      replace h := h s3 es3
      exact hret _ _ _ h dX8_close_28
/-! X8_causeAt -/
abbrev wvX8_causeAt : List Cond := Cond.code yX8_causeAt cX8_causeAt 2 (some .int) :: wsL_law
theorem cd_X8_causeAt : okN yX8_causeAt RX8 1 := by unfold okN; decide +kernel
def w_X8_causeAt  (p0 : Int32) (σ : wS) (Q : Int32 → wS → Prop) : Prop := (p0 < 0 → (Q (-1 : Int32) σ)) ∧ (¬ p0 < 0 → (((σ.1 52 2) ≤ p0 → (Q (-1 : Int32) σ)) ∧ (¬ (σ.1 52 2) ≤ p0 → (((4 : Int32) ≤ p0 → (Q (-1 : Int32) σ)) ∧ (¬ (4 : Int32) ≤ p0 → (vp_in p0 4 ∧ (Q (σ.1 54 (p0).toNatClampNeg) σ)))))))
set_option maxRecDepth 100000 in
set_option maxHeartbeats 4000000 in
theorem c_X8_causeAt (l : Launch) (g : wG) (A : Nat → Prop) (hA : adO g A)   {p0 : Int32} {σ : wS} {Q : Int32 → wS → Prop} (h : w_X8_causeAt  p0 σ Q) : Mi l yX8_causeAt wvX8_causeAt 0 0 g A [.ref (g.2.2 52), .int p0] σ Q := by
  refine mt_i (own := RX8) (lv := [(0, .ref (g.2.2 52)), (1, .int p0)]) (by decide) rfl rfl hA (Nat.le_of_ble_eq_true rfl) rfl ?_
  intro X hl hg hAA F hret
  subst hl hg hAA
  unfold w_X8_causeAt at h
  refine x_iload_n F dX8_causeAt_0 rfl 1 rfl ?_
  refine x_if_lt (tgt := 26) F dX8_causeAt_1 (by decide) (fun c => ?_) (fun c => ?_)
  · replace h := h.1 c
    refine x_iconst (-1 : Int32) F dX8_causeAt_26 (by decide) ?_
    exact hret _ _ _ _ h rfl dX8_causeAt_27
  · replace h := h.2 c
    refine x_iload_n F dX8_causeAt_4 rfl 1 rfl ?_
    refine x_aload_n F dX8_causeAt_5 rfl 0 rfl ?_
    refine g_8_2 F kz_52 in_8 (mc bw_6_21) dX8_causeAt_6 ?_
    refine x_icmp_ge (tgt := 26) F dX8_causeAt_9 (by decide) (fun c => ?_) (fun c => ?_)
    · replace h := h.1 c
      refine x_iconst (-1 : Int32) F dX8_causeAt_26 (by decide) ?_
      exact hret _ _ _ _ h rfl dX8_causeAt_27
    · replace h := h.2 c
      refine x_iload_n F dX8_causeAt_12 rfl 1 rfl ?_
      refine x_iconst (4 : Int32) F dX8_causeAt_13 (by decide) ?_
      refine x_icmp_ge (tgt := 26) F dX8_causeAt_14 (by decide) (fun c => ?_) (fun c => ?_)
      · replace h := h.1 c
        refine x_iconst (-1 : Int32) F dX8_causeAt_26 (by decide) ?_
        exact hret _ _ _ _ h rfl dX8_causeAt_27
      · replace h := h.2 c
        refine x_aload_n F dX8_causeAt_17 rfl 0 rfl ?_
        refine g_8_1 F kz_52 in_8 (mc bw_6_20) dX8_causeAt_18 ?_
        refine x_iload_n F dX8_causeAt_21 rfl 1 rfl ?_
        obtain ⟨hj, h⟩ := h
        refine x_iald F kz_54 nz_54 hj dX8_causeAt_22 ?_
        refine x_goto (tgt := 27) F dX8_causeAt_23 (by decide) ?_
        exact hret _ _ _ _ h rfl dX8_causeAt_27
/-! X9_cell -/
abbrev wvX9_cell : List Cond := Cond.code yX9_cell cX9_cell 3 (some .int) :: wsL_law
theorem cd_X9_cell : okN yX9_cell RX9 2 := by unfold okN; decide +kernel
def w_X9_cell (i0 : Nat) (p0 : Int32) (p1 : Int32) (σ : wS) (Q : Int32 → wS → Prop) : Prop := vp_in (((4 : Int32) * p0) + p1) 64 ∧ (Q (σ.1 (i0 + 1) ((((4 : Int32) * p0) + p1)).toNatClampNeg) σ)
set_option maxRecDepth 100000 in
set_option maxHeartbeats 4000000 in
theorem c_X9_cell (l : Launch) (g : wG) (A : Nat → Prop) (hA : adO g A) {i0 : Nat} (k_i0 : kd i0 = 9) {p0 : Int32} {p1 : Int32} {σ : wS} {Q : Int32 → wS → Prop} (h : w_X9_cell i0 p0 p1 σ Q) : Mi l yX9_cell wvX9_cell 0 0 g A [.ref (g.2.2 i0), .int p0, .int p1] σ Q := by
  refine mt_i (own := RX9) (lv := [(0, .ref (g.2.2 i0)), (1, .int p0), (2, .int p1)]) (by decide) rfl rfl hA (Nat.le_of_ble_eq_true rfl) rfl ?_
  intro X hl hg hAA F hret
  subst hl hg hAA
  unfold w_X9_cell at h
  refine x_aload_n F dX9_cell_0 rfl 0 rfl ?_
  refine g_9_0 F k_i0 in_9 (mc bw_7_1) dX9_cell_1 ?_
  refine x_iconst (4 : Int32) F dX9_cell_4 (by decide) ?_
  refine x_iload_n F dX9_cell_5 rfl 1 rfl ?_
  refine x_imul F dX9_cell_6 ?_
  refine x_iload_n F dX9_cell_7 rfl 2 rfl ?_
  refine x_iadd F dX9_cell_8 ?_
  obtain ⟨hj, h⟩ := h
  refine x_iald F (ky_9_0 k_i0) (kn_9_0 k_i0) hj dX9_cell_9 ?_
  exact hret _ _ _ _ h rfl dX9_cell_10
/-! X9_told -/
abbrev wvX9_told : List Cond := Cond.code yX9_told cX9_told 5 (some .int) :: wsL_law
theorem cd_X9_told : okN yX9_told RX9 2 := by unfold okN; decide +kernel
def b_X9_told_25 (i0 : Nat)  (Q : Int32 → wS → Prop) (x1 : Int32) (x2 : Int32) (z0 : Int32) (σ : wS) : Prop := (z0 < x2 → (Q (-1000000 : Int32) σ)) ∧ (¬ z0 < x2 → (w_X9_cell i0 x1 x2 σ (fun r2 s1 => Q r2 s1)))
set_option maxRecDepth 100000 in
set_option maxHeartbeats 4000000 in
theorem wb_X9_told_25 {X : XT} {Q : Int32 → wS → Prop} {i0 : Nat} (F : Fx X cX9_told 5 RX9 wvX9_told 1 22) (hret : Ri X 5 cX9_told .int Q) (k_i0 : kd i0 = 9)   (x1 : Int32) (x2 : Int32) (z0 : Int32) (σ : wS) (h : b_X9_told_25 i0  Q x1 x2 z0 σ) : Wx X 5 σ 25 [(0, .ref (ad X i0)), (1, .int x1), (2, .int x2)] [.int z0] := by
  unfold b_X9_told_25 at h
  refine x_istore (lv' := [(4, .int z0), (0, .ref (ad X i0)), (1, .int x1), (2, .int x2)]) F dX9_told_25 (by decide) rfl ?_
  refine x_iload_n F dX9_told_27 rfl 3 rfl ?_
  refine x_iload F dX9_told_28 0 rfl ?_
  refine x_icmp_gt (tgt := 42) F dX9_told_30 (by decide) (fun c => ?_) (fun c => ?_)
  · replace h := h.1 c
    refine x_ldc F dX9_told_42 (mc bw_41_16) ?_
    exact hret _ _ _ _ h rfl dX9_told_44
  · replace h := h.2 c
    refine x_aload_n F dX9_told_33 rfl 1 rfl ?_
    refine x_iload_n F dX9_told_34 rfl 2 rfl ?_
    refine x_iload_n F dX9_told_35 rfl 3 rfl ?_
    refine x_callV_i F (c_X9_cell (xl X) (xg X) (xA X) F.2.2.1 k_i0 h) (bw_V bw_41_17 bw_41_18 bw_41_19 bw_3_14 bw_41_20) rfl cd_X9_cell (Nat.le_of_ble_eq_true rfl) (Nat.le_of_ble_eq_true rfl) (kd_w (by decide) k_i0) rfl (cl_9 k_i0) rfl rfl (Nat.le_of_ble_eq_true rfl) dX9_told_36 (fun r2 s1 h => ?_)
    refine x_goto (tgt := 44) F dX9_told_39 (by decide) ?_
    exact hret _ _ _ _ h rfl dX9_told_44
def w_X9_told (i0 : Nat) (p0 : Int32) (p1 : Int32) (σ : wS) (Q : Int32 → wS → Prop) : Prop := w_X9_cell i0 p0 (0 : Int32) σ (fun r2 s1 => (¬ r2 = 0 → ((¬ r2 = (1 : Int32) → (b_X9_told_25 i0  Q p0 p1 (1 : Int32) s1)) ∧ (r2 = (1 : Int32) → (b_X9_told_25 i0  Q p0 p1 (2 : Int32) s1)))) ∧ (r2 = 0 → (b_X9_told_25 i0  Q p0 p1 (3 : Int32) s1)))
set_option maxRecDepth 100000 in
set_option maxHeartbeats 4000000 in
theorem c_X9_told (l : Launch) (g : wG) (A : Nat → Prop) (hA : adO g A) {i0 : Nat} (k_i0 : kd i0 = 9) {p0 : Int32} {p1 : Int32} {σ : wS} {Q : Int32 → wS → Prop} (h : w_X9_told i0 p0 p1 σ Q) : Mi l yX9_told wvX9_told 1 22 g A [.ref (g.2.2 i0), .int p0, .int p1] σ Q := by
  refine mt_i (own := RX9) (lv := [(0, .ref (g.2.2 i0)), (1, .int p0), (2, .int p1)]) (by decide) rfl rfl hA (Nat.le_of_ble_eq_true rfl) rfl ?_
  intro X hl hg hAA F hret
  subst hl hg hAA
  unfold w_X9_told at h
  refine x_aload_n F dX9_told_0 rfl 0 rfl ?_
  refine x_iload_n F dX9_told_1 rfl 1 rfl ?_
  refine x_iconst (0 : Int32) F dX9_told_2 (by decide) ?_
  refine x_callV_i F (c_X9_cell (xl X) (xg X) (xA X) F.2.2.1 k_i0 h) (bw_V bw_41_17 bw_41_18 bw_41_19 bw_3_14 bw_41_20) rfl cd_X9_cell (Nat.le_of_ble_eq_true rfl) (Nat.le_of_ble_eq_true rfl) (kd_w (by decide) k_i0) rfl (cl_9 k_i0) rfl rfl (Nat.le_of_ble_eq_true rfl) dX9_told_3 (fun r2 s1 h => ?_)
  refine x_istore_n (lv' := [(3, .int r2), (0, .ref (ad X i0)), (1, .int p0), (2, .int p1)]) F dX9_told_6 rfl (by decide) rfl ?_
  refine x_iload_n F dX9_told_7 rfl 0 rfl ?_
  refine x_if_ne (tgt := 15) F dX9_told_8 (by decide) (fun c => ?_) (fun c => ?_)
  · replace h := h.1 c
    refine x_iload_n F dX9_told_15 rfl 0 rfl ?_
    refine x_iconst (1 : Int32) F dX9_told_16 (by decide) ?_
    refine x_icmp_ne (tgt := 24) F dX9_told_17 (by decide) (fun c => ?_) (fun c => ?_)
    · replace h := h.1 c
      refine x_iconst (1 : Int32) F dX9_told_24 (by decide) ?_
      refine x_sub (lv' := [(0, .ref (ad X i0)), (1, .int p0), (2, .int p1)]) [1, 2, 3] rfl ?_
      exact wb_X9_told_25 F hret k_i0  _ _ _ _ h
    · replace h := h.2 c
      refine x_iconst (2 : Int32) F dX9_told_20 (by decide) ?_
      refine x_goto (tgt := 25) F dX9_told_21 (by decide) ?_
      refine x_sub (lv' := [(0, .ref (ad X i0)), (1, .int p0), (2, .int p1)]) [1, 2, 3] rfl ?_
      exact wb_X9_told_25 F hret k_i0  _ _ _ _ h
  · replace h := h.2 c
    refine x_iconst (3 : Int32) F dX9_told_11 (by decide) ?_
    refine x_goto (tgt := 25) F dX9_told_12 (by decide) ?_
    refine x_sub (lv' := [(0, .ref (ad X i0)), (1, .int p0), (2, .int p1)]) [1, 2, 3] rfl ?_
    exact wb_X9_told_25 F hret k_i0  _ _ _ _ h
/-! X10_bytesIn -/
abbrev wvX10_bytesIn : List Cond := Cond.code yX10_bytesIn cX10_bytesIn 3 (some .int) :: wsL_law
theorem cd_X10_bytesIn : okN yX10_bytesIn RX10 1 := by unfold okN; decide +kernel
def b_X10_bytesIn_22  (K5 : Int32 → Int32 → Int32 → wS → Prop) (Q : Int32 → wS → Prop) (x0 : Int32) (x1 : Int32) (x2 : Int32) (σ : wS) : Prop := ∀ y1 : Int32, y1 = (x2 + (-8 : Int32)) → (K5 x0 x1 y1 σ)
set_option maxRecDepth 100000 in
set_option maxHeartbeats 4000000 in
theorem wb_X10_bytesIn_22 {X : XT} {Q : Int32 → wS → Prop}  (F : Fx X cX10_bytesIn 3 RX10 wvX10_bytesIn 0 0) (hret : Ri X 3 cX10_bytesIn .int Q)  {K5 : Int32 → Int32 → Int32 → wS → Prop} (hK5 : ∀ (x0 : Int32) (x1 : Int32) (x2 : Int32) (σ : wS), K5 x0 x1 x2 σ → Wx X 3 σ 5 [(0, .int x0), (1, .int x1), (2, .int x2)] []) (x0 : Int32) (x1 : Int32) (x2 : Int32) (σ : wS) (h : b_X10_bytesIn_22  K5 Q x0 x1 x2 σ) : Wx X 3 σ 22 [(0, .int x0), (1, .int x1), (2, .int x2)] [] := by
  unfold b_X10_bytesIn_22 at h
  obtain ⟨y1, ey1⟩ : ∃ y : Int32, y = (x2 + (-8 : Int32)) := ⟨_, rfl⟩
  replace h := h y1 ey1
  refine x_iinc (q := 2) (v := y1) (lv' := [(2, .int y1), (0, .int x0), (1, .int x1)]) F dX10_bytesIn_22 rfl (by rw [ey1]; rfl) (by decide) rfl ?_
  refine x_goto (tgt := 5) F dX10_bytesIn_25 (by decide) ?_
  refine x_sub (lv' := [(0, .int x0), (1, .int x1), (2, .int y1)]) [1, 2, 0] rfl ?_
  exact hK5 _ _ _ _ h
def l_X10_bytesIn_5   (Q : Int32 → wS → Prop) : Nat → Int32 → Int32 → Int32 → wS → Prop
  | 0, _, _, _, _ => False
  | n + 1, x0, x1, x2, σ => (x2 < 0 → (Q x1 σ)) ∧ (¬ x2 < 0 → (((((x0).toUInt32 >>> ((x2).toUInt32 &&& Int32.toUInt32 31)).toInt32 &&& (255 : Int32)) = 0 → (b_X10_bytesIn_22  (fun x0 x1 x2 σ => l_X10_bytesIn_5   Q n x0 x1 x2 σ) Q x0 x1 x2 σ)) ∧ (¬ (((x0).toUInt32 >>> ((x2).toUInt32 &&& Int32.toUInt32 31)).toInt32 &&& (255 : Int32)) = 0 → (∀ y1 : Int32, y1 = (x1 + (1 : Int32)) → (b_X10_bytesIn_22  (fun x0 x1 x2 σ => l_X10_bytesIn_5   Q n x0 x1 x2 σ) Q x0 y1 x2 σ)))))
set_option maxRecDepth 100000 in
set_option maxHeartbeats 4000000 in
theorem wl_X10_bytesIn_5 {X : XT} {Q : Int32 → wS → Prop}  (F : Fx X cX10_bytesIn 3 RX10 wvX10_bytesIn 0 0) (hret : Ri X 3 cX10_bytesIn .int Q)    : ∀ (n : Nat) (x0 : Int32) (x1 : Int32) (x2 : Int32) (σ : wS), l_X10_bytesIn_5   Q n x0 x1 x2 σ → Wx X 3 σ 5 [(0, .int x0), (1, .int x1), (2, .int x2)] [] := by
  intro n
  induction n with
  | zero =>
    intros
    contradiction
  | succ n ih =>
    intro x0 x1 x2 σ h
    simp only [l_X10_bytesIn_5] at h
    refine x_iload_n F dX10_bytesIn_5 rfl 2 rfl ?_
    refine x_if_lt (tgt := 28) F dX10_bytesIn_6 (by decide) (fun c => ?_) (fun c => ?_)
    · replace h := h.1 c
      refine x_iload_n F dX10_bytesIn_28 rfl 1 rfl ?_
      exact hret _ _ _ _ h rfl dX10_bytesIn_29
    · replace h := h.2 c
      refine x_iload_n F dX10_bytesIn_9 rfl 0 rfl ?_
      refine x_iload_n F dX10_bytesIn_10 rfl 2 rfl ?_
      refine x_iushr F dX10_bytesIn_11 ?_
      refine x_sipush (255 : Int32) F dX10_bytesIn_12 (by decide) ?_
      refine x_iand F dX10_bytesIn_15 ?_
      refine x_if_eq (tgt := 22) F dX10_bytesIn_16 (by decide) (fun c => ?_) (fun c => ?_)
      · replace h := h.1 c
        refine x_sub (lv' := [(0, .int x0), (1, .int x1), (2, .int x2)]) [0, 1, 2] rfl ?_
        exact wb_X10_bytesIn_22 F hret  ih _ _ _ _ h
      · replace h := h.2 c
        obtain ⟨y1, ey1⟩ : ∃ y : Int32, y = (x1 + (1 : Int32)) := ⟨_, rfl⟩
        replace h := h y1 ey1
        refine x_iinc (q := 1) (v := y1) (lv' := [(1, .int y1), (0, .int x0), (2, .int x2)]) F dX10_bytesIn_19 rfl (by rw [ey1]; rfl) (by decide) rfl ?_
        refine x_sub (lv' := [(0, .int x0), (1, .int y1), (2, .int x2)]) [1, 0, 2] rfl ?_
        exact wb_X10_bytesIn_22 F hret  ih _ _ _ _ h
def w_X10_bytesIn  (p0 : Int32) (σ : wS) (Q : Int32 → wS → Prop) : Prop := (∃ m, l_X10_bytesIn_5   Q m p0 (0 : Int32) (24 : Int32) σ)
set_option maxRecDepth 100000 in
set_option maxHeartbeats 4000000 in
theorem c_X10_bytesIn (l : Launch) (g : wG) (A : Nat → Prop) (hA : adO g A)   {p0 : Int32} {σ : wS} {Q : Int32 → wS → Prop} (h : w_X10_bytesIn  p0 σ Q) : Mi l yX10_bytesIn wvX10_bytesIn 0 0 g A [.int p0] σ Q := by
  refine mt_i (own := RX10) (lv := [(0, .int p0)]) (by decide) rfl rfl hA (Nat.le_of_ble_eq_true rfl) rfl ?_
  intro X hl hg hAA F hret
  subst hl hg hAA
  unfold w_X10_bytesIn at h
  refine x_iconst (0 : Int32) F dX10_bytesIn_0 (by decide) ?_
  refine x_istore_n (lv' := [(1, .int (0 : Int32)), (0, .int p0)]) F dX10_bytesIn_1 rfl (by decide) rfl ?_
  refine x_bipush (24 : Int32) F dX10_bytesIn_2 (by decide) ?_
  refine x_istore_n (lv' := [(2, .int (24 : Int32)), (1, .int (0 : Int32)), (0, .int p0)]) F dX10_bytesIn_4 rfl (by decide) rfl ?_
  refine x_sub (lv' := [(0, .int p0), (1, .int (0 : Int32)), (2, .int (24 : Int32))]) [2, 1, 0] rfl ?_
  obtain ⟨n2, h⟩ := h
  exact wl_X10_bytesIn_5 F hret   n2 _ _ _ _ h
/-! X10_append -/
abbrev wvX10_append : List Cond := Cond.code yX10_append cX10_append 4 none :: wsL_law
theorem cd_X10_append : okN yX10_append RX10 1 := by unfold okN; decide +kernel
def b_X10_append_50  (K3 : Int32 → Int32 → wS → Prop) (Q : wS → Prop) (x1 : Int32) (x2 : Int32) (σ : wS) : Prop := ∀ y1 : Int32, y1 = (x2 + (-8 : Int32)) → (K3 x1 y1 σ)
set_option maxRecDepth 100000 in
set_option maxHeartbeats 4000000 in
theorem wb_X10_append_50 {X : XT} {Q : wS → Prop}  (F : Fx X cX10_append 4 RX10 wvX10_append 0 0) (hret : Rv X 4 cX10_append Q)  {K3 : Int32 → Int32 → wS → Prop} (hK3 : ∀ (x1 : Int32) (x2 : Int32) (σ : wS), K3 x1 x2 σ → Wx X 4 σ 3 [(0, .ref (ad X 1)), (1, .int x1), (2, .int x2)] []) (x1 : Int32) (x2 : Int32) (σ : wS) (h : b_X10_append_50  K3 Q x1 x2 σ) : Wx X 4 σ 50 [(0, .ref (ad X 1)), (1, .int x1), (2, .int x2)] [] := by
  unfold b_X10_append_50 at h
  obtain ⟨y1, ey1⟩ : ∃ y : Int32, y = (x2 + (-8 : Int32)) := ⟨_, rfl⟩
  replace h := h y1 ey1
  refine x_iinc (q := 2) (v := y1) (lv' := [(2, .int y1), (0, .ref (ad X 1)), (1, .int x1)]) F dX10_append_50 rfl (by rw [ey1]; rfl) (by decide) rfl ?_
  refine x_goto (tgt := 3) F dX10_append_53 (by decide) ?_
  refine x_sub (lv' := [(0, .ref (ad X 1)), (1, .int x1), (2, .int y1)]) [1, 2, 0] rfl ?_
  exact hK3 _ _ _ h
def l_X10_append_3   (Q : wS → Prop) : Nat → Int32 → Int32 → wS → Prop
  | 0, _, _, _ => False
  | n + 1, x1, x2, σ => (x2 < 0 → (Q σ)) ∧ (¬ x2 < 0 → (∀ y1 : Int32, y1 = (((x1).toUInt32 >>> ((x2).toUInt32 &&& Int32.toUInt32 31)).toInt32 &&& (255 : Int32)) → ((y1 = 0 → (b_X10_append_50  (fun x1 x2 σ => l_X10_append_3   Q n x1 x2 σ) Q x1 x2 σ)) ∧ (¬ y1 = 0 → (((240 : Int32) ≤ (σ.1 1 1) → (b_X10_append_50  (fun x1 x2 σ => l_X10_append_3   Q n x1 x2 σ) Q x1 x2 σ)) ∧ (¬ (240 : Int32) ≤ (σ.1 1 1) → (vp_in (σ.1 1 1) 240 ∧ (∀ s2 : wS, s2 = upI σ 2 ((σ.1 1 1)).toNatClampNeg (vp_nar .byte (y1).toInt8.toInt32) → (∀ s3 : wS, s3 = upI s2 1 1 ((s2.1 1 1) + (1 : Int32)) → (b_X10_append_50  (fun x1 x2 σ => l_X10_append_3   Q n x1 x2 σ) Q x1 x2 s3))))))))))
set_option maxRecDepth 100000 in
set_option maxHeartbeats 4000000 in
theorem wl_X10_append_3 {X : XT} {Q : wS → Prop}  (F : Fx X cX10_append 4 RX10 wvX10_append 0 0) (hret : Rv X 4 cX10_append Q)    : ∀ (n : Nat) (x1 : Int32) (x2 : Int32) (σ : wS), l_X10_append_3   Q n x1 x2 σ → Wx X 4 σ 3 [(0, .ref (ad X 1)), (1, .int x1), (2, .int x2)] [] := by
  intro n
  induction n with
  | zero =>
    intros
    contradiction
  | succ n ih =>
    intro x1 x2 σ h
    simp only [l_X10_append_3] at h
    refine x_iload_n F dX10_append_3 rfl 2 rfl ?_
    refine x_if_lt (tgt := 56) F dX10_append_4 (by decide) (fun c => ?_) (fun c => ?_)
    · replace h := h.1 c
      exact hret _ _ _ h dX10_append_56
    · replace h := h.2 c
      refine x_iload_n F dX10_append_7 rfl 1 rfl ?_
      refine x_iload_n F dX10_append_8 rfl 2 rfl ?_
      refine x_iushr F dX10_append_9 ?_
      refine x_sipush (255 : Int32) F dX10_append_10 (by decide) ?_
      refine x_iand F dX10_append_13 ?_
      refine x_topi (fun y1 ey1 => ?_)
      replace h := h y1 ey1
      refine x_istore_n (lv' := [(3, .int y1), (0, .ref (ad X 1)), (1, .int x1), (2, .int x2)]) F dX10_append_14 rfl (by decide) rfl ?_
      refine x_iload_n F dX10_append_15 rfl 0 rfl ?_
      refine x_if_eq (tgt := 50) F dX10_append_16 (by decide) (fun c => ?_) (fun c => ?_)
      · replace h := h.1 c
        refine x_sub (lv' := [(0, .ref (ad X 1)), (1, .int x1), (2, .int x2)]) [1, 2, 3] rfl ?_
        exact wb_X10_append_50 F hret  ih _ _ _ h
      · replace h := h.2 c
        refine x_aload_n F dX10_append_19 rfl 1 rfl ?_
        refine g_10_1 F kz_1 in_10 (mc bw_3_20) dX10_append_20 ?_
        refine x_sipush (240 : Int32) F dX10_append_23 (by decide) ?_
        refine x_icmp_ge (tgt := 50) F dX10_append_26 (by decide) (fun c => ?_) (fun c => ?_)
        · replace h := h.1 c
          refine x_sub (lv' := [(0, .ref (ad X 1)), (1, .int x1), (2, .int x2)]) [1, 2, 3] rfl ?_
          exact wb_X10_append_50 F hret  ih _ _ _ h
        · replace h := h.2 c
          refine x_aload_n F dX10_append_29 rfl 1 rfl ?_
          refine g_10_0 F kz_1 in_10 (mc bw_3_19) dX10_append_30 ?_
          refine x_aload_n F dX10_append_33 rfl 1 rfl ?_
          refine g_10_1 F kz_1 in_10 (mc bw_3_20) dX10_append_34 ?_
          refine x_iload_n F dX10_append_37 rfl 0 rfl ?_
          refine x_i2b F dX10_append_38 ?_
          obtain ⟨hz, h⟩ := h
          refine x_bast F kz_2 nz_2 hz dX10_append_39 ?_
          refine x_nmS (fun s2 es2 => ?_)
          replace h := h s2 es2
          refine x_aload_n F dX10_append_40 rfl 1 rfl ?_
          refine x_dup F dX10_append_41 rfl ?_
          refine g_10_1 F kz_1 in_10 (mc bw_3_20) dX10_append_42 ?_
          refine x_iconst (1 : Int32) F dX10_append_45 (by decide) ?_
          refine x_iadd F dX10_append_46 ?_
          refine q_10_1 F kz_1 in_10 (mc bw_3_20) dX10_append_47 ?_
          refine x_nmS (fun s3 es3 => ?_)
          replace h := h s3 es3
          refine x_sub (lv' := [(0, .ref (ad X 1)), (1, .int x1), (2, .int x2)]) [1, 2, 3] rfl ?_
          exact wb_X10_append_50 F hret  ih _ _ _ h
def w_X10_append  (p0 : Int32) (σ : wS) (Q : wS → Prop) : Prop := (∃ m, l_X10_append_3   Q m p0 (24 : Int32) σ)
set_option maxRecDepth 100000 in
set_option maxHeartbeats 4000000 in
theorem c_X10_append (l : Launch) (g : wG) (A : Nat → Prop) (hA : adO g A)   {p0 : Int32} {σ : wS} {Q : wS → Prop} (h : w_X10_append  p0 σ Q) : Mv l yX10_append wvX10_append 0 0 g A [.ref (g.2.2 1), .int p0] σ Q := by
  refine mt_v (own := RX10) (lv := [(0, .ref (g.2.2 1)), (1, .int p0)]) (by decide) rfl rfl hA (Nat.le_of_ble_eq_true rfl) rfl ?_
  intro X hl hg hAA F hret
  subst hl hg hAA
  unfold w_X10_append at h
  refine x_bipush (24 : Int32) F dX10_append_0 (by decide) ?_
  refine x_istore_n (lv' := [(2, .int (24 : Int32)), (0, .ref (ad X 1)), (1, .int p0)]) F dX10_append_2 rfl (by decide) rfl ?_
  refine x_sub (lv' := [(0, .ref (ad X 1)), (1, .int p0), (2, .int (24 : Int32))]) [1, 2, 0] rfl ?_
  obtain ⟨n2, h⟩ := h
  exact wl_X10_append_3 F hret   n2 _ _ _ h
/-! X11_feed -/
abbrev wvX11_feed : List Cond := Cond.code yX11_feed cX11_feed 7 (some .int) :: wsL_law
theorem cd_X11_feed : okN yX11_feed RX11 5 := by unfold okN; decide +kernel
def w_X11_feed  (p0 : Int32) (p1 : Int32) (p2 : Int32) (p3 : Int32) (p4 : Int32) (σ : wS) (Q : Int32 → wS → Prop) : Prop := w_X10_bytesIn p0 σ (fun r2 s1 => w_X10_bytesIn p1 s1 (fun r4 s3 => w_X10_bytesIn p2 s3 (fun r6 s5 => w_X10_bytesIn p3 s5 (fun r8 s7 => w_X10_bytesIn p4 s7 (fun r10 s9 => ∀ y11 : Int32, y11 = ((((r2 + r4) + r6) + r8) + r10) → ((((s9.1 1 1) + y11) ≤ (240 : Int32) → (w_X10_append p0 s9 (fun s12 => w_X10_append p1 s12 (fun s14 => w_X10_append p2 s14 (fun s16 => w_X10_append p3 s16 (fun s18 => w_X10_append p4 s18 (fun s20 => Q (s20.1 1 1) s20))))))) ∧ (¬ ((s9.1 1 1) + y11) ≤ (240 : Int32) → (Q (-1 : Int32) s9))))))))
set_option maxRecDepth 100000 in
set_option maxHeartbeats 4000000 in
theorem c_X11_feed (l : Launch) (g : wG) (A : Nat → Prop) (hA : adO g A)   {p0 : Int32} {p1 : Int32} {p2 : Int32} {p3 : Int32} {p4 : Int32} {σ : wS} {Q : Int32 → wS → Prop} (h : w_X11_feed  p0 p1 p2 p3 p4 σ Q) : Mi l yX11_feed wvX11_feed 1 23 g A [.ref (g.2.2 0), .int p0, .int p1, .int p2, .int p3, .int p4] σ Q := by
  refine mt_i (own := RX11) (lv := [(0, .ref (g.2.2 0)), (1, .int p0), (2, .int p1), (3, .int p2), (4, .int p3), (5, .int p4)]) (by decide) rfl rfl hA (Nat.le_of_ble_eq_true rfl) rfl ?_
  intro X hl hg hAA F hret
  subst hl hg hAA
  unfold w_X11_feed at h
  refine x_iload_n F dX11_feed_0 rfl 1 rfl ?_
  refine x_callT_i F (c_X10_bytesIn (xl X) (xg X) (xA X) F.2.2.1  h) (bw_S bw_8_10 bw_8_11 bw_1_16 bw_8_12) rfl cd_X10_bytesIn (Nat.le_of_ble_eq_true rfl) (Nat.le_of_ble_eq_true rfl) rfl rfl (Nat.le_of_ble_eq_true rfl) dX11_feed_1 (fun r2 s1 h => ?_)
  refine x_iload_n F dX11_feed_4 rfl 2 rfl ?_
  refine x_callT_i F (c_X10_bytesIn (xl X) (xg X) (xA X) F.2.2.1  h) (bw_S bw_8_10 bw_8_11 bw_1_16 bw_8_12) rfl cd_X10_bytesIn (Nat.le_of_ble_eq_true rfl) (Nat.le_of_ble_eq_true rfl) rfl rfl (Nat.le_of_ble_eq_true rfl) dX11_feed_5 (fun r4 s3 h => ?_)
  refine x_iadd F dX11_feed_8 ?_
  refine x_iload_n F dX11_feed_9 rfl 3 rfl ?_
  refine x_callT_i F (c_X10_bytesIn (xl X) (xg X) (xA X) F.2.2.1  h) (bw_S bw_8_10 bw_8_11 bw_1_16 bw_8_12) rfl cd_X10_bytesIn (Nat.le_of_ble_eq_true rfl) (Nat.le_of_ble_eq_true rfl) rfl rfl (Nat.le_of_ble_eq_true rfl) dX11_feed_10 (fun r6 s5 h => ?_)
  refine x_iadd F dX11_feed_13 ?_
  refine x_iload F dX11_feed_14 4 rfl ?_
  refine x_callT_i F (c_X10_bytesIn (xl X) (xg X) (xA X) F.2.2.1  h) (bw_S bw_8_10 bw_8_11 bw_1_16 bw_8_12) rfl cd_X10_bytesIn (Nat.le_of_ble_eq_true rfl) (Nat.le_of_ble_eq_true rfl) rfl rfl (Nat.le_of_ble_eq_true rfl) dX11_feed_16 (fun r8 s7 h => ?_)
  refine x_iadd F dX11_feed_19 ?_
  refine x_iload F dX11_feed_20 5 rfl ?_
  refine x_callT_i F (c_X10_bytesIn (xl X) (xg X) (xA X) F.2.2.1  h) (bw_S bw_8_10 bw_8_11 bw_1_16 bw_8_12) rfl cd_X10_bytesIn (Nat.le_of_ble_eq_true rfl) (Nat.le_of_ble_eq_true rfl) rfl rfl (Nat.le_of_ble_eq_true rfl) dX11_feed_22 (fun r10 s9 h => ?_)
  refine x_iadd F dX11_feed_25 ?_
  refine x_topi (fun y11 ey11 => ?_)
  replace h := h y11 ey11
  refine x_istore (lv' := [(6, .int y11), (0, .ref (ad X 0)), (1, .int p0), (2, .int p1), (3, .int p2), (4, .int p3), (5, .int p4)]) F dX11_feed_26 (by decide) rfl ?_
  refine x_aload_n F dX11_feed_28 rfl 1 rfl ?_
  refine g_11_0 F kz_0 in_11 (mc bw_1_17) dX11_feed_29 ?_
  refine g_10_1 F kz_1 in_10 (mc bw_8_9) dX11_feed_32 ?_
  refine x_iload F dX11_feed_35 0 rfl ?_
  refine x_iadd F dX11_feed_37 ?_
  refine x_sipush (240 : Int32) F dX11_feed_38 (by decide) ?_
  refine x_icmp_le (tgt := 46) F dX11_feed_41 (by decide) (fun c => ?_) (fun c => ?_)
  · replace h := h.1 c
    refine x_aload_n F dX11_feed_46 rfl 1 rfl ?_
    refine g_11_0 F kz_0 in_11 (mc bw_1_17) dX11_feed_47 ?_
    refine x_iload_n F dX11_feed_50 rfl 2 rfl ?_
    refine x_callV_v F (c_X10_append (xl X) (xg X) (xA X) F.2.2.1  h) (bw_V bw_8_13 bw_8_14 bw_8_15 bw_1_16 bw_8_16) rfl cd_X10_append (Nat.le_of_ble_eq_true rfl) (Nat.le_of_ble_eq_true rfl) (kd_w (by decide) kz_1) rfl (cl_10 kz_1) rfl rfl (Nat.le_of_ble_eq_true rfl) dX11_feed_51 (fun s12 h => ?_)
    refine x_aload_n F dX11_feed_54 rfl 1 rfl ?_
    refine g_11_0 F kz_0 in_11 (mc bw_1_17) dX11_feed_55 ?_
    refine x_iload_n F dX11_feed_58 rfl 3 rfl ?_
    refine x_callV_v F (c_X10_append (xl X) (xg X) (xA X) F.2.2.1  h) (bw_V bw_8_13 bw_8_14 bw_8_15 bw_1_16 bw_8_16) rfl cd_X10_append (Nat.le_of_ble_eq_true rfl) (Nat.le_of_ble_eq_true rfl) (kd_w (by decide) kz_1) rfl (cl_10 kz_1) rfl rfl (Nat.le_of_ble_eq_true rfl) dX11_feed_59 (fun s14 h => ?_)
    refine x_aload_n F dX11_feed_62 rfl 1 rfl ?_
    refine g_11_0 F kz_0 in_11 (mc bw_1_17) dX11_feed_63 ?_
    refine x_iload_n F dX11_feed_66 rfl 4 rfl ?_
    refine x_callV_v F (c_X10_append (xl X) (xg X) (xA X) F.2.2.1  h) (bw_V bw_8_13 bw_8_14 bw_8_15 bw_1_16 bw_8_16) rfl cd_X10_append (Nat.le_of_ble_eq_true rfl) (Nat.le_of_ble_eq_true rfl) (kd_w (by decide) kz_1) rfl (cl_10 kz_1) rfl rfl (Nat.le_of_ble_eq_true rfl) dX11_feed_67 (fun s16 h => ?_)
    refine x_aload_n F dX11_feed_70 rfl 1 rfl ?_
    refine g_11_0 F kz_0 in_11 (mc bw_1_17) dX11_feed_71 ?_
    refine x_iload F dX11_feed_74 5 rfl ?_
    refine x_callV_v F (c_X10_append (xl X) (xg X) (xA X) F.2.2.1  h) (bw_V bw_8_13 bw_8_14 bw_8_15 bw_1_16 bw_8_16) rfl cd_X10_append (Nat.le_of_ble_eq_true rfl) (Nat.le_of_ble_eq_true rfl) (kd_w (by decide) kz_1) rfl (cl_10 kz_1) rfl rfl (Nat.le_of_ble_eq_true rfl) dX11_feed_76 (fun s18 h => ?_)
    refine x_aload_n F dX11_feed_79 rfl 1 rfl ?_
    refine g_11_0 F kz_0 in_11 (mc bw_1_17) dX11_feed_80 ?_
    refine x_iload F dX11_feed_83 6 rfl ?_
    refine x_callV_v F (c_X10_append (xl X) (xg X) (xA X) F.2.2.1  h) (bw_V bw_8_13 bw_8_14 bw_8_15 bw_1_16 bw_8_16) rfl cd_X10_append (Nat.le_of_ble_eq_true rfl) (Nat.le_of_ble_eq_true rfl) (kd_w (by decide) kz_1) rfl (cl_10 kz_1) rfl rfl (Nat.le_of_ble_eq_true rfl) dX11_feed_85 (fun s20 h => ?_)
    refine x_aload_n F dX11_feed_88 rfl 1 rfl ?_
    refine g_11_0 F kz_0 in_11 (mc bw_1_17) dX11_feed_89 ?_
    refine g_10_1 F kz_1 in_10 (mc bw_8_9) dX11_feed_92 ?_
    exact hret _ _ _ _ h rfl dX11_feed_95
  · replace h := h.2 c
    refine x_iconst (-1 : Int32) F dX11_feed_44 (by decide) ?_
    exact hret _ _ _ _ h rfl dX11_feed_45
/-! X11_end -/
abbrev wvX11_end : List Cond := Cond.code yX11_end cX11_end 2 (some .boolean) :: wsL_law
theorem cd_X11_end : okN yX11_end RX11 1 := by unfold okN; decide +kernel
def w_X11_end  (p0 : Int32) (σ : wS) (Q : Int32 → wS → Prop) : Prop := (p0 < 0 → (Q (0 : Int32) σ)) ∧ (¬ p0 < 0 → ((p0 ≤ (σ.1 1 1) → (∀ s1 : wS, s1 = upI σ 1 1 p0 → (Q (1 : Int32) s1))) ∧ (¬ p0 ≤ (σ.1 1 1) → (Q (0 : Int32) σ))))
set_option maxRecDepth 100000 in
set_option maxHeartbeats 4000000 in
theorem c_X11_end (l : Launch) (g : wG) (A : Nat → Prop) (hA : adO g A)   {p0 : Int32} {σ : wS} {Q : Int32 → wS → Prop} (h : w_X11_end  p0 σ Q) : Mi l yX11_end wvX11_end 0 0 g A [.ref (g.2.2 0), .int p0] σ Q := by
  refine mt_i (own := RX11) (lv := [(0, .ref (g.2.2 0)), (1, .int p0)]) (by decide) rfl rfl hA (Nat.le_of_ble_eq_true rfl) rfl ?_
  intro X hl hg hAA F hret
  subst hl hg hAA
  unfold w_X11_end at h
  refine x_iload_n F dX11_end_0 rfl 1 rfl ?_
  refine x_if_lt (tgt := 15) F dX11_end_1 (by decide) (fun c => ?_) (fun c => ?_)
  · replace h := h.1 c
    refine x_iconst (0 : Int32) F dX11_end_15 (by decide) ?_
    exact hret _ _ _ _ h (nar01 (by decide)) dX11_end_16
  · replace h := h.2 c
    refine x_iload_n F dX11_end_4 rfl 1 rfl ?_
    refine x_aload_n F dX11_end_5 rfl 0 rfl ?_
    refine g_11_0 F kz_0 in_11 (mc bw_1_17) dX11_end_6 ?_
    refine g_10_1 F kz_1 in_10 (mc bw_8_9) dX11_end_9 ?_
    refine x_icmp_le (tgt := 17) F dX11_end_12 (by decide) (fun c => ?_) (fun c => ?_)
    · replace h := h.1 c
      refine x_aload_n F dX11_end_17 rfl 0 rfl ?_
      refine g_11_0 F kz_0 in_11 (mc bw_1_17) dX11_end_18 ?_
      refine x_iload_n F dX11_end_21 rfl 1 rfl ?_
      refine q_10_1 F kz_1 in_10 (mc bw_8_9) dX11_end_22 ?_
      refine x_nmS (fun s1 es1 => ?_)
      replace h := h s1 es1
      refine x_iconst (1 : Int32) F dX11_end_25 (by decide) ?_
      exact hret _ _ _ _ h (nar01 (by decide)) dX11_end_26
    · replace h := h.2 c
      refine x_iconst (0 : Int32) F dX11_end_15 (by decide) ?_
      exact hret _ _ _ _ h (nar01 (by decide)) dX11_end_16
/-! X11_fault -/
abbrev wvX11_fault : List Cond := Cond.code yX11_fault cX11_fault 2 (some .int) :: wsL_law
theorem cd_X11_fault : okN yX11_fault RX11 1 := by unfold okN; decide +kernel
def w_X11_fault  (p0 : Int32) (σ : wS) (Q : Int32 → wS → Prop) : Prop := (¬ p0 = 0 → ((¬ p0 = (1 : Int32) → (Q (-2 : Int32) σ)) ∧ (p0 = (1 : Int32) → (vp_in (σ.1 0 5) 5 ∧ (w_X7_readScript (19 + 2 * ((σ.1 0 5)).toNatClampNeg) σ (fun r3 s2 => Q r3 s2)))))) ∧ (p0 = 0 → (w_X7_readMooring (mo (σ.1 0 3)) σ (fun r5 s4 => Q r5 s4)))
set_option maxRecDepth 100000 in
set_option maxHeartbeats 4000000 in
theorem c_X11_fault (l : Launch) (g : wG) (A : Nat → Prop) (hA : adO g A)   {p0 : Int32} {σ : wS} {Q : Int32 → wS → Prop} (h : w_X11_fault  p0 σ Q) : Mi l yX11_fault wvX11_fault 5 120 g A [.ref (g.2.2 0), .int p0] σ Q := by
  refine mt_i (own := RX11) (lv := [(0, .ref (g.2.2 0)), (1, .int p0)]) (by decide) rfl rfl hA (Nat.le_of_ble_eq_true rfl) rfl ?_
  intro X hl hg hAA F hret
  subst hl hg hAA
  unfold w_X11_fault at h
  refine x_iload_n F dX11_fault_0 rfl 1 rfl ?_
  refine x_if_ne (tgt := 16) F dX11_fault_1 (by decide) (fun c => ?_) (fun c => ?_)
  · replace h := h.1 c
    refine x_iload_n F dX11_fault_16 rfl 1 rfl ?_
    refine x_iconst (1 : Int32) F dX11_fault_17 (by decide) ?_
    refine x_icmp_ne (tgt := 38) F dX11_fault_18 (by decide) (fun c => ?_) (fun c => ?_)
    · replace h := h.1 c
      refine x_bipush (-2 : Int32) F dX11_fault_38 (by decide) ?_
      exact hret _ _ _ _ h rfl dX11_fault_40
    · replace h := h.2 c
      refine x_aload_n F dX11_fault_21 rfl 0 rfl ?_
      refine g_11_1 F kz_0 in_11 (mc bw_1_21) dX11_fault_22 ?_
      refine x_aload_n F dX11_fault_25 rfl 0 rfl ?_
      refine g_11_4 F kz_0 in_11 (mc bw_2_4) dX11_fault_26 ?_
      refine x_aload_n F dX11_fault_29 rfl 0 rfl ?_
      refine g_11_5 F kz_0 in_11 (mc bw_2_5) dX11_fault_30 ?_
      obtain ⟨hj1, h⟩ := h
      refine x_aald18 F kz_18 nz_18 hj1 dX11_fault_33 ?_
      refine x_callV_i F (c_X7_readScript (xl X) (xg X) (xA X) F.2.2.1 (kd_script hj1) h) (bw_V bw_12_6 bw_12_7 bw_12_8 bw_1_20 bw_12_9) rfl cd_X7_readScript (Nat.le_of_ble_eq_true rfl) (Nat.le_of_ble_eq_true rfl) (kd_w (by decide) kz_3) rfl (cl_7 kz_3) rfl rfl (Nat.le_of_ble_eq_true rfl) dX11_fault_34 (fun r3 s2 h => ?_)
      exact hret _ _ _ _ h rfl dX11_fault_37
  · replace h := h.2 c
    refine x_aload_n F dX11_fault_4 rfl 0 rfl ?_
    refine g_11_1 F kz_0 in_11 (mc bw_1_21) dX11_fault_5 ?_
    refine x_aload_n F dX11_fault_8 rfl 0 rfl ?_
    refine g_11_3 F kz_0 in_11 (mc bw_2_2) dX11_fault_9 ?_
    refine x_callV_i F (c_X7_readMooring (xl X) (xg X) (xA X) F.2.2.1 (mo_kd _) h) (bw_V bw_9_18 bw_9_19 bw_9_20 bw_1_20 bw_9_21) rfl cd_X7_readMooring (Nat.le_of_ble_eq_true rfl) (Nat.le_of_ble_eq_true rfl) (kd_w (by decide) kz_3) rfl (cl_7 kz_3) rfl rfl (Nat.le_of_ble_eq_true rfl) dX11_fault_12 (fun r5 s4 h => ?_)
    exact hret _ _ _ _ h rfl dX11_fault_15
/-! X11_tellMooring -/
abbrev wvX11_tellMooring : List Cond := Cond.code yX11_tellMooring cX11_tellMooring 2 (some .int) :: wsL_law
theorem cd_X11_tellMooring : okN yX11_tellMooring RX11 0 := by unfold okN; decide +kernel
def w_X11_tellMooring   (σ : wS) (Q : Int32 → wS → Prop) : Prop := w_X7_readMooring (mo (σ.1 0 3)) σ (fun r2 s1 => (r2 = (-1 : Int32) → (∀ s3 : wS, s3 = upI s1 1 1 (0 : Int32) → (w_X3_begin 32 (mo (s3.1 0 3)) s3 (fun s4 => w_X1_settle (mo (s4.1 0 3)) 32 s4 (fun r7 s6 => (r7 = (-1 : Int32) → (∀ s8 : wS, s8 = upI s6 0 2 (moi (mo (s6.1 0 3))) → (∀ s9 : wS, s9 = upI s8 0 3 (moi (mo (s6.1 0 2))) → (w_X3_copy 29 32 s9 (fun s10 => w_X6_clear  s10 (fun s12 => ∀ s14 : wS, s14 = upI s12 0 16 (0 : Int32) → (Q (s14.1 (mo (s14.1 0 2)) 6) s14))))))) ∧ (¬ r7 = (-1 : Int32) → (Q (-2 : Int32) s6))))))) ∧ (¬ r2 = (-1 : Int32) → (Q (-1 : Int32) s1)))
set_option maxRecDepth 100000 in
set_option maxHeartbeats 4000000 in
theorem c_X11_tellMooring (l : Launch) (g : wG) (A : Nat → Prop) (hA : adO g A)    {σ : wS} {Q : Int32 → wS → Prop} (h : w_X11_tellMooring   σ Q) : Mi l yX11_tellMooring wvX11_tellMooring 5 120 g A [.ref (g.2.2 0)] σ Q := by
  refine mt_i (own := RX11) (lv := [(0, .ref (g.2.2 0))]) (by decide) rfl rfl hA (Nat.le_of_ble_eq_true rfl) rfl ?_
  intro X hl hg hAA F hret
  subst hl hg hAA
  unfold w_X11_tellMooring at h
  refine x_aload_n F dX11_tellMooring_0 rfl 0 rfl ?_
  refine g_11_1 F kz_0 in_11 (mc bw_1_21) dX11_tellMooring_1 ?_
  refine x_aload_n F dX11_tellMooring_4 rfl 0 rfl ?_
  refine g_11_3 F kz_0 in_11 (mc bw_2_2) dX11_tellMooring_5 ?_
  refine x_callV_i F (c_X7_readMooring (xl X) (xg X) (xA X) F.2.2.1 (mo_kd _) h) (bw_V bw_9_18 bw_9_19 bw_9_20 bw_1_20 bw_9_21) rfl cd_X7_readMooring (Nat.le_of_ble_eq_true rfl) (Nat.le_of_ble_eq_true rfl) (kd_w (by decide) kz_3) rfl (cl_7 kz_3) rfl rfl (Nat.le_of_ble_eq_true rfl) dX11_tellMooring_8 (fun r2 s1 h => ?_)
  refine x_iconst (-1 : Int32) F dX11_tellMooring_11 (by decide) ?_
  refine x_icmp_eq (tgt := 17) F dX11_tellMooring_12 (by decide) (fun c => ?_) (fun c => ?_)
  · replace h := h.1 c
    refine x_aload_n F dX11_tellMooring_17 rfl 0 rfl ?_
    refine g_11_0 F kz_0 in_11 (mc bw_1_17) dX11_tellMooring_18 ?_
    refine x_iconst (0 : Int32) F dX11_tellMooring_21 (by decide) ?_
    refine q_10_1 F kz_1 in_10 (mc bw_8_9) dX11_tellMooring_22 ?_
    refine x_nmS (fun s3 es3 => ?_)
    replace h := h s3 es3
    refine x_aload_n F dX11_tellMooring_25 rfl 0 rfl ?_
    refine g_11_7 F kz_0 in_11 (mc bw_2_10) dX11_tellMooring_26 ?_
    refine x_aload_n F dX11_tellMooring_29 rfl 0 rfl ?_
    refine g_11_3 F kz_0 in_11 (mc bw_2_2) dX11_tellMooring_30 ?_
    refine x_callV_v F (c_X3_begin (xl X) (xg X) (xA X) F.2.2.1 kz_32 (mo_kd _) h) (bw_V bw_19_3 bw_19_4 bw_19_5 bw_2_8 bw_19_6) rfl cd_X3_begin (Nat.le_of_ble_eq_true rfl) (Nat.le_of_ble_eq_true rfl) (kd_w (by decide) kz_32) rfl (cl_3 kz_32) rfl rfl (Nat.le_of_ble_eq_true rfl) dX11_tellMooring_33 (fun s4 h => ?_)
    refine x_aload_n F dX11_tellMooring_36 rfl 0 rfl ?_
    refine g_11_8 F kz_0 in_11 (mc bw_2_14) dX11_tellMooring_37 ?_
    refine x_aload_n F dX11_tellMooring_40 rfl 0 rfl ?_
    refine g_11_3 F kz_0 in_11 (mc bw_2_2) dX11_tellMooring_41 ?_
    refine x_aload_n F dX11_tellMooring_44 rfl 0 rfl ?_
    refine g_11_7 F kz_0 in_11 (mc bw_2_10) dX11_tellMooring_45 ?_
    refine x_callV_i F (c_X1_settle (xl X) (xg X) (xA X) F.2.2.1 (mo_kd _) kz_32 h) (bw_V bw_19_11 bw_19_12 bw_19_13 bw_2_13 bw_19_14) rfl cd_X1_settle (Nat.le_of_ble_eq_true rfl) (Nat.le_of_ble_eq_true rfl) (kd_w (by decide) kz_38) rfl (cl_1 kz_38) rfl rfl (Nat.le_of_ble_eq_true rfl) dX11_tellMooring_48 (fun r7 s6 h => ?_)
    refine x_iconst (-1 : Int32) F dX11_tellMooring_51 (by decide) ?_
    refine x_icmp_eq (tgt := 58) F dX11_tellMooring_52 (by decide) (fun c => ?_) (fun c => ?_)
    · replace h := h.1 c
      refine x_aload_n F dX11_tellMooring_58 rfl 0 rfl ?_
      refine g_11_2 F kz_0 in_11 (mc bw_2_1) dX11_tellMooring_59 ?_
      refine x_astore_n (lv' := [(1, .ref (ad X (mo (s6.1 0 2)))), (0, .ref (ad X 0))]) F dX11_tellMooring_62 rfl (by decide) rfl ?_
      refine x_aload_n F dX11_tellMooring_63 rfl 1 rfl ?_
      refine x_aload_n F dX11_tellMooring_64 rfl 1 rfl ?_
      refine g_11_3 F kz_0 in_11 (mc bw_2_2) dX11_tellMooring_65 ?_
      refine q_11_2 F kz_0 (mo_kd _) in_11 (mc bw_2_1) dX11_tellMooring_68 ?_
      refine x_nmS (fun s8 es8 => ?_)
      replace h := h s8 es8
      refine x_aload_n F dX11_tellMooring_71 rfl 1 rfl ?_
      refine x_aload_n F dX11_tellMooring_72 rfl 0 rfl ?_
      refine q_11_3 F kz_0 (mo_kd _) in_11 (mc bw_2_2) dX11_tellMooring_73 ?_
      refine x_nmS (fun s9 es9 => ?_)
      replace h := h s9 es9
      refine x_aload_n F dX11_tellMooring_76 rfl 1 rfl ?_
      refine g_11_6 F kz_0 in_11 (mc bw_2_9) dX11_tellMooring_77 ?_
      refine x_aload_n F dX11_tellMooring_80 rfl 1 rfl ?_
      refine g_11_7 F kz_0 in_11 (mc bw_2_10) dX11_tellMooring_81 ?_
      refine x_callV_v F (c_X3_copy (xl X) (xg X) (xA X) F.2.2.1 kz_29 kz_32 h) (bw_V bw_22_1 bw_22_2 bw_22_3 bw_2_8 bw_22_4) rfl cd_X3_copy (Nat.le_of_ble_eq_true rfl) (Nat.le_of_ble_eq_true rfl) (kd_w (by decide) kz_29) rfl (cl_3 kz_29) rfl rfl (Nat.le_of_ble_eq_true rfl) dX11_tellMooring_84 (fun s10 h => ?_)
      refine x_aload_n F dX11_tellMooring_87 rfl 1 rfl ?_
      refine g_11_12 F kz_0 in_11 (mc bw_3_3) dX11_tellMooring_88 ?_
      refine x_callV_v F (c_X6_clear (xl X) (xg X) (xA X) F.2.2.1  h) (bw_V bw_22_5 bw_22_6 bw_22_7 bw_3_2 bw_22_8) rfl cd_X6_clear (Nat.le_of_ble_eq_true rfl) (Nat.le_of_ble_eq_true rfl) (kd_w (by decide) kz_50) rfl (cl_6 kz_50) rfl rfl (Nat.le_of_ble_eq_true rfl) dX11_tellMooring_91 (fun s12 h => ?_)
      refine x_aload_n F dX11_tellMooring_94 rfl 1 rfl ?_
      refine x_iconst (0 : Int32) F dX11_tellMooring_95 (by decide) ?_
      refine q_11_16 F kz_0 (by decide) in_11 (mc bw_3_11) dX11_tellMooring_96 ?_
      refine x_nmS (fun s14 es14 => ?_)
      replace h := h s14 es14
      refine x_aload_n F dX11_tellMooring_99 rfl 1 rfl ?_
      refine g_11_2 F kz_0 in_11 (mc bw_2_1) dX11_tellMooring_100 ?_
      refine g_5_6 F (mo_kd _) in_5 (mc bw_19_2) dX11_tellMooring_103 ?_
      exact hret _ _ _ _ h rfl dX11_tellMooring_106
    · replace h := h.2 c
      refine x_bipush (-2 : Int32) F dX11_tellMooring_55 (by decide) ?_
      exact hret _ _ _ _ h rfl dX11_tellMooring_57
  · replace h := h.2 c
    refine x_iconst (-1 : Int32) F dX11_tellMooring_15 (by decide) ?_
    exact hret _ _ _ _ h rfl dX11_tellMooring_16
/-! X11_tellScript -/
abbrev wvX11_tellScript : List Cond := Cond.code yX11_tellScript cX11_tellScript 1 (some .int) :: wsL_law
theorem cd_X11_tellScript : okN yX11_tellScript RX11 0 := by unfold okN; decide +kernel
def w_X11_tellScript   (σ : wS) (Q : Int32 → wS → Prop) : Prop := ((4 : Int32) ≤ (σ.1 0 5) → (Q (-1 : Int32) σ)) ∧ (¬ (4 : Int32) ≤ (σ.1 0 5) → (vp_in (σ.1 0 5) 5 ∧ (w_X7_readScript (19 + 2 * ((σ.1 0 5)).toNatClampNeg) σ (fun r3 s2 => (r3 = (-1 : Int32) → (∀ s4 : wS, s4 = upI s2 1 1 (0 : Int32) → (∀ s5 : wS, s5 = upI s4 0 5 ((s4.1 0 5) + (1 : Int32)) → (Q ((s5.1 0 5) - (1 : Int32)) s5)))) ∧ (¬ r3 = (-1 : Int32) → (Q (-1 : Int32) s2))))))
set_option maxRecDepth 100000 in
set_option maxHeartbeats 4000000 in
theorem c_X11_tellScript (l : Launch) (g : wG) (A : Nat → Prop) (hA : adO g A)    {σ : wS} {Q : Int32 → wS → Prop} (h : w_X11_tellScript   σ Q) : Mi l yX11_tellScript wvX11_tellScript 5 114 g A [.ref (g.2.2 0)] σ Q := by
  refine mt_i (own := RX11) (lv := [(0, .ref (g.2.2 0))]) (by decide) rfl rfl hA (Nat.le_of_ble_eq_true rfl) rfl ?_
  intro X hl hg hAA F hret
  subst hl hg hAA
  unfold w_X11_tellScript at h
  refine x_aload_n F dX11_tellScript_0 rfl 0 rfl ?_
  refine g_11_5 F kz_0 in_11 (mc bw_2_5) dX11_tellScript_1 ?_
  refine x_iconst (4 : Int32) F dX11_tellScript_4 (by decide) ?_
  refine x_icmp_ge (tgt := 28) F dX11_tellScript_5 (by decide) (fun c => ?_) (fun c => ?_)
  · replace h := h.1 c
    refine x_iconst (-1 : Int32) F dX11_tellScript_28 (by decide) ?_
    exact hret _ _ _ _ h rfl dX11_tellScript_29
  · replace h := h.2 c
    refine x_aload_n F dX11_tellScript_8 rfl 0 rfl ?_
    refine g_11_1 F kz_0 in_11 (mc bw_1_21) dX11_tellScript_9 ?_
    refine x_aload_n F dX11_tellScript_12 rfl 0 rfl ?_
    refine g_11_4 F kz_0 in_11 (mc bw_2_4) dX11_tellScript_13 ?_
    refine x_aload_n F dX11_tellScript_16 rfl 0 rfl ?_
    refine g_11_5 F kz_0 in_11 (mc bw_2_5) dX11_tellScript_17 ?_
    obtain ⟨hj1, h⟩ := h
    refine x_aald18 F kz_18 nz_18 hj1 dX11_tellScript_20 ?_
    refine x_callV_i F (c_X7_readScript (xl X) (xg X) (xA X) F.2.2.1 (kd_script hj1) h) (bw_V bw_12_6 bw_12_7 bw_12_8 bw_1_20 bw_12_9) rfl cd_X7_readScript (Nat.le_of_ble_eq_true rfl) (Nat.le_of_ble_eq_true rfl) (kd_w (by decide) kz_3) rfl (cl_7 kz_3) rfl rfl (Nat.le_of_ble_eq_true rfl) dX11_tellScript_21 (fun r3 s2 h => ?_)
    refine x_iconst (-1 : Int32) F dX11_tellScript_24 (by decide) ?_
    refine x_icmp_eq (tgt := 30) F dX11_tellScript_25 (by decide) (fun c => ?_) (fun c => ?_)
    · replace h := h.1 c
      refine x_aload_n F dX11_tellScript_30 rfl 0 rfl ?_
      refine g_11_0 F kz_0 in_11 (mc bw_1_17) dX11_tellScript_31 ?_
      refine x_iconst (0 : Int32) F dX11_tellScript_34 (by decide) ?_
      refine q_10_1 F kz_1 in_10 (mc bw_8_9) dX11_tellScript_35 ?_
      refine x_nmS (fun s4 es4 => ?_)
      replace h := h s4 es4
      refine x_aload_n F dX11_tellScript_38 rfl 0 rfl ?_
      refine x_dup F dX11_tellScript_39 rfl ?_
      refine g_11_5 F kz_0 in_11 (mc bw_2_5) dX11_tellScript_40 ?_
      refine x_iconst (1 : Int32) F dX11_tellScript_43 (by decide) ?_
      refine x_iadd F dX11_tellScript_44 ?_
      refine q_11_5 F kz_0 in_11 (mc bw_2_5) dX11_tellScript_45 ?_
      refine x_nmS (fun s5 es5 => ?_)
      replace h := h s5 es5
      refine x_aload_n F dX11_tellScript_48 rfl 0 rfl ?_
      refine g_11_5 F kz_0 in_11 (mc bw_2_5) dX11_tellScript_49 ?_
      refine x_iconst (1 : Int32) F dX11_tellScript_52 (by decide) ?_
      refine x_isub F dX11_tellScript_53 ?_
      exact hret _ _ _ _ h rfl dX11_tellScript_54
    · replace h := h.2 c
      refine x_iconst (-1 : Int32) F dX11_tellScript_28 (by decide) ?_
      exact hret _ _ _ _ h rfl dX11_tellScript_29
/-! X11_text -/
abbrev wvX11_text : List Cond := Cond.code yX11_text cX11_text 2 (some .int) :: wsL_law
theorem cd_X11_text : okN yX11_text RX11 1 := by unfold okN; decide +kernel
def w_X11_text  (p0 : Int32) (σ : wS) (Q : Int32 → wS → Prop) : Prop := (¬ p0 = 0 → ((¬ p0 = (1 : Int32) → (Q (-1 : Int32) σ)) ∧ (p0 = (1 : Int32) → (w_X11_tellScript  σ (fun r2 s1 => Q r2 s1))))) ∧ (p0 = 0 → (w_X11_tellMooring  σ (fun r4 s3 => Q r4 s3)))
set_option maxRecDepth 100000 in
set_option maxHeartbeats 4000000 in
theorem c_X11_text (l : Launch) (g : wG) (A : Nat → Prop) (hA : adO g A)   {p0 : Int32} {σ : wS} {Q : Int32 → wS → Prop} (h : w_X11_text  p0 σ Q) : Mi l yX11_text wvX11_text 6 141 g A [.ref (g.2.2 0), .int p0] σ Q := by
  refine mt_i (own := RX11) (lv := [(0, .ref (g.2.2 0)), (1, .int p0)]) (by decide) rfl rfl hA (Nat.le_of_ble_eq_true rfl) rfl ?_
  intro X hl hg hAA F hret
  subst hl hg hAA
  unfold w_X11_text at h
  refine x_iload_n F dX11_text_0 rfl 1 rfl ?_
  refine x_if_ne (tgt := 9) F dX11_text_1 (by decide) (fun c => ?_) (fun c => ?_)
  · replace h := h.1 c
    refine x_iload_n F dX11_text_9 rfl 1 rfl ?_
    refine x_iconst (1 : Int32) F dX11_text_10 (by decide) ?_
    refine x_icmp_ne (tgt := 19) F dX11_text_11 (by decide) (fun c => ?_) (fun c => ?_)
    · replace h := h.1 c
      refine x_iconst (-1 : Int32) F dX11_text_19 (by decide) ?_
      exact hret _ _ _ _ h rfl dX11_text_20
    · replace h := h.2 c
      refine x_aload_n F dX11_text_14 rfl 0 rfl ?_
      refine x_callV_i F (c_X11_tellScript (xl X) (xg X) (xA X) F.2.2.1  h) (bw_V bw_22_9 bw_22_10 bw_22_11 bw_1_2 bw_22_12) rfl cd_X11_tellScript (Nat.le_of_ble_eq_true rfl) (Nat.le_of_ble_eq_true rfl) (kd_w (by decide) kz_0) rfl (cl_11 kz_0) rfl rfl (Nat.le_of_ble_eq_true rfl) dX11_text_15 (fun r2 s1 h => ?_)
      exact hret _ _ _ _ h rfl dX11_text_18
  · replace h := h.2 c
    refine x_aload_n F dX11_text_4 rfl 0 rfl ?_
    refine x_callV_i F (c_X11_tellMooring (xl X) (xg X) (xA X) F.2.2.1  h) (bw_V bw_18_22 bw_18_23 bw_19_0 bw_1_2 bw_19_1) rfl cd_X11_tellMooring (Nat.le_of_ble_eq_true rfl) (Nat.le_of_ble_eq_true rfl) (kd_w (by decide) kz_0) rfl (cl_11 kz_0) rfl rfl (Nat.le_of_ble_eq_true rfl) dX11_text_5 (fun r4 s3 h => ?_)
    exact hret _ _ _ _ h rfl dX11_text_8
/-! X11_hasMooring -/
abbrev wvX11_hasMooring : List Cond := Cond.code yX11_hasMooring cX11_hasMooring 1 (some .boolean) :: wsL_law
theorem cd_X11_hasMooring : okN yX11_hasMooring RX11 0 := by unfold okN; decide +kernel
def w_X11_hasMooring   (σ : wS) (Q : Int32 → wS → Prop) : Prop := ((σ.1 (mo (σ.1 0 2)) 6) ≤ 0 → (Q (0 : Int32) σ)) ∧ (¬ (σ.1 (mo (σ.1 0 2)) 6) ≤ 0 → (Q (1 : Int32) σ))
set_option maxRecDepth 100000 in
set_option maxHeartbeats 4000000 in
theorem c_X11_hasMooring (l : Launch) (g : wG) (A : Nat → Prop) (hA : adO g A)    {σ : wS} {Q : Int32 → wS → Prop} (h : w_X11_hasMooring   σ Q) : Mi l yX11_hasMooring wvX11_hasMooring 0 0 g A [.ref (g.2.2 0)] σ Q := by
  refine mt_i (own := RX11) (lv := [(0, .ref (g.2.2 0))]) (by decide) rfl rfl hA (Nat.le_of_ble_eq_true rfl) rfl ?_
  intro X hl hg hAA F hret
  subst hl hg hAA
  unfold w_X11_hasMooring at h
  refine x_aload_n F dX11_hasMooring_0 rfl 0 rfl ?_
  refine g_11_2 F kz_0 in_11 (mc bw_2_1) dX11_hasMooring_1 ?_
  refine g_5_6 F (mo_kd _) in_5 (mc bw_19_2) dX11_hasMooring_4 ?_
  refine x_if_le (tgt := 14) F dX11_hasMooring_7 (by decide) (fun c => ?_) (fun c => ?_)
  · replace h := h.1 c
    refine x_iconst (0 : Int32) F dX11_hasMooring_14 (by decide) ?_
    exact hret _ _ _ _ h (nar01 (by decide)) dX11_hasMooring_15
  · replace h := h.2 c
    refine x_iconst (1 : Int32) F dX11_hasMooring_10 (by decide) ?_
    refine x_goto (tgt := 15) F dX11_hasMooring_11 (by decide) ?_
    exact hret _ _ _ _ h (nar01 (by decide)) dX11_hasMooring_15
/-! X11_isRope -/
abbrev wvX11_isRope : List Cond := Cond.code yX11_isRope cX11_isRope 2 (some .boolean) :: wsL_law
theorem cd_X11_isRope : okN yX11_isRope RX11 1 := by unfold okN; decide +kernel
def w_X11_isRope  (p0 : Int32) (σ : wS) (Q : Int32 → wS → Prop) : Prop := (p0 < 0 → (Q (0 : Int32) σ)) ∧ (¬ p0 < 0 → (((σ.1 (mo (σ.1 0 2)) 6) ≤ p0 → (Q (0 : Int32) σ)) ∧ (¬ (σ.1 (mo (σ.1 0 2)) 6) ≤ p0 → (Q (1 : Int32) σ))))
set_option maxRecDepth 100000 in
set_option maxHeartbeats 4000000 in
theorem c_X11_isRope (l : Launch) (g : wG) (A : Nat → Prop) (hA : adO g A)   {p0 : Int32} {σ : wS} {Q : Int32 → wS → Prop} (h : w_X11_isRope  p0 σ Q) : Mi l yX11_isRope wvX11_isRope 0 0 g A [.ref (g.2.2 0), .int p0] σ Q := by
  refine mt_i (own := RX11) (lv := [(0, .ref (g.2.2 0)), (1, .int p0)]) (by decide) rfl rfl hA (Nat.le_of_ble_eq_true rfl) rfl ?_
  intro X hl hg hAA F hret
  subst hl hg hAA
  unfold w_X11_isRope at h
  refine x_iload_n F dX11_isRope_0 rfl 1 rfl ?_
  refine x_if_lt (tgt := 19) F dX11_isRope_1 (by decide) (fun c => ?_) (fun c => ?_)
  · replace h := h.1 c
    refine x_iconst (0 : Int32) F dX11_isRope_19 (by decide) ?_
    exact hret _ _ _ _ h (nar01 (by decide)) dX11_isRope_20
  · replace h := h.2 c
    refine x_iload_n F dX11_isRope_4 rfl 1 rfl ?_
    refine x_aload_n F dX11_isRope_5 rfl 0 rfl ?_
    refine g_11_2 F kz_0 in_11 (mc bw_2_1) dX11_isRope_6 ?_
    refine g_5_6 F (mo_kd _) in_5 (mc bw_19_2) dX11_isRope_9 ?_
    refine x_icmp_ge (tgt := 19) F dX11_isRope_12 (by decide) (fun c => ?_) (fun c => ?_)
    · replace h := h.1 c
      refine x_iconst (0 : Int32) F dX11_isRope_19 (by decide) ?_
      exact hret _ _ _ _ h (nar01 (by decide)) dX11_isRope_20
    · replace h := h.2 c
      refine x_iconst (1 : Int32) F dX11_isRope_15 (by decide) ?_
      refine x_goto (tgt := 20) F dX11_isRope_16 (by decide) ?_
      exact hret _ _ _ _ h (nar01 (by decide)) dX11_isRope_20
/-! X11_isFast -/
abbrev wvX11_isFast : List Cond := Cond.code yX11_isFast cX11_isFast 2 (some .boolean) :: wsL_law
theorem cd_X11_isFast : okN yX11_isFast RX11 1 := by unfold okN; decide +kernel
def w_X11_isFast  (p0 : Int32) (σ : wS) (Q : Int32 → wS → Prop) : Prop := w_X11_isRope p0 σ (fun r2 s1 => (r2 = 0 → (Q (0 : Int32) s1)) ∧ (¬ r2 = 0 → (w_X3_isFast 29 p0 s1 (fun r4 s3 => (r4 = 0 → (Q (0 : Int32) s3)) ∧ (¬ r4 = 0 → (Q (1 : Int32) s3))))))
set_option maxRecDepth 100000 in
set_option maxHeartbeats 4000000 in
theorem c_X11_isFast (l : Launch) (g : wG) (A : Nat → Prop) (hA : adO g A)   {p0 : Int32} {σ : wS} {Q : Int32 → wS → Prop} (h : w_X11_isFast  p0 σ Q) : Mi l yX11_isFast wvX11_isFast 1 21 g A [.ref (g.2.2 0), .int p0] σ Q := by
  refine mt_i (own := RX11) (lv := [(0, .ref (g.2.2 0)), (1, .int p0)]) (by decide) rfl rfl hA (Nat.le_of_ble_eq_true rfl) rfl ?_
  intro X hl hg hAA F hret
  subst hl hg hAA
  unfold w_X11_isFast at h
  refine x_aload_n F dX11_isFast_0 rfl 0 rfl ?_
  refine x_iload_n F dX11_isFast_1 rfl 1 rfl ?_
  refine x_callV_i F (c_X11_isRope (xl X) (xg X) (xA X) F.2.2.1  h) (bw_V bw_27_3 bw_27_4 bw_27_5 bw_1_2 bw_27_6) rfl cd_X11_isRope (Nat.le_of_ble_eq_true rfl) (Nat.le_of_ble_eq_true rfl) (kd_w (by decide) kz_0) rfl (cl_11 kz_0) rfl rfl (Nat.le_of_ble_eq_true rfl) dX11_isFast_2 (fun r2 s1 h => ?_)
  refine x_if_eq (tgt := 23) F dX11_isFast_5 (by decide) (fun c => ?_) (fun c => ?_)
  · replace h := h.1 c
    refine x_iconst (0 : Int32) F dX11_isFast_23 (by decide) ?_
    exact hret _ _ _ _ h (nar01 (by decide)) dX11_isFast_24
  · replace h := h.2 c
    refine x_aload_n F dX11_isFast_8 rfl 0 rfl ?_
    refine g_11_6 F kz_0 in_11 (mc bw_2_9) dX11_isFast_9 ?_
    refine x_iload_n F dX11_isFast_12 rfl 1 rfl ?_
    refine x_callV_i F (c_X3_isFast (xl X) (xg X) (xA X) F.2.2.1 kz_29 h) (bw_V bw_28_16 bw_27_12 bw_27_13 bw_2_8 bw_27_14) rfl cd_X3_isFast (Nat.le_of_ble_eq_true rfl) (Nat.le_of_ble_eq_true rfl) (kd_w (by decide) kz_29) rfl (cl_3 kz_29) rfl rfl (Nat.le_of_ble_eq_true rfl) dX11_isFast_13 (fun r4 s3 h => ?_)
    refine x_if_eq (tgt := 23) F dX11_isFast_16 (by decide) (fun c => ?_) (fun c => ?_)
    · replace h := h.1 c
      refine x_iconst (0 : Int32) F dX11_isFast_23 (by decide) ?_
      exact hret _ _ _ _ h (nar01 (by decide)) dX11_isFast_24
    · replace h := h.2 c
      refine x_iconst (1 : Int32) F dX11_isFast_19 (by decide) ?_
      refine x_goto (tgt := 24) F dX11_isFast_20 (by decide) ?_
      exact hret _ _ _ _ h (nar01 (by decide)) dX11_isFast_24
/-! X11_isTaut -/
abbrev wvX11_isTaut : List Cond := Cond.code yX11_isTaut cX11_isTaut 2 (some .boolean) :: wsL_law
theorem cd_X11_isTaut : okN yX11_isTaut RX11 1 := by unfold okN; decide +kernel
def w_X11_isTaut  (p0 : Int32) (σ : wS) (Q : Int32 → wS → Prop) : Prop := w_X11_isRope p0 σ (fun r2 s1 => (r2 = 0 → (Q (0 : Int32) s1)) ∧ (¬ r2 = 0 → (w_X3_stateOf 29 p0 s1 (fun r4 s3 => (¬ r4 = 0 → (Q (0 : Int32) s3)) ∧ (r4 = 0 → (Q (1 : Int32) s3))))))
set_option maxRecDepth 100000 in
set_option maxHeartbeats 4000000 in
theorem c_X11_isTaut (l : Launch) (g : wG) (A : Nat → Prop) (hA : adO g A)   {p0 : Int32} {σ : wS} {Q : Int32 → wS → Prop} (h : w_X11_isTaut  p0 σ Q) : Mi l yX11_isTaut wvX11_isTaut 2 42 g A [.ref (g.2.2 0), .int p0] σ Q := by
  refine mt_i (own := RX11) (lv := [(0, .ref (g.2.2 0)), (1, .int p0)]) (by decide) rfl rfl hA (Nat.le_of_ble_eq_true rfl) rfl ?_
  intro X hl hg hAA F hret
  subst hl hg hAA
  unfold w_X11_isTaut at h
  refine x_aload_n F dX11_isTaut_0 rfl 0 rfl ?_
  refine x_iload_n F dX11_isTaut_1 rfl 1 rfl ?_
  refine x_callV_i F (c_X11_isRope (xl X) (xg X) (xA X) F.2.2.1  h) (bw_V bw_27_3 bw_27_4 bw_27_5 bw_1_2 bw_27_6) rfl cd_X11_isRope (Nat.le_of_ble_eq_true rfl) (Nat.le_of_ble_eq_true rfl) (kd_w (by decide) kz_0) rfl (cl_11 kz_0) rfl rfl (Nat.le_of_ble_eq_true rfl) dX11_isTaut_2 (fun r2 s1 h => ?_)
  refine x_if_eq (tgt := 23) F dX11_isTaut_5 (by decide) (fun c => ?_) (fun c => ?_)
  · replace h := h.1 c
    refine x_iconst (0 : Int32) F dX11_isTaut_23 (by decide) ?_
    exact hret _ _ _ _ h (nar01 (by decide)) dX11_isTaut_24
  · replace h := h.2 c
    refine x_aload_n F dX11_isTaut_8 rfl 0 rfl ?_
    refine g_11_6 F kz_0 in_11 (mc bw_2_9) dX11_isTaut_9 ?_
    refine x_iload_n F dX11_isTaut_12 rfl 1 rfl ?_
    refine x_callV_i F (c_X3_stateOf (xl X) (xg X) (xA X) F.2.2.1 kz_29 h) (bw_V bw_27_7 bw_27_8 bw_27_9 bw_2_8 bw_27_10) rfl cd_X3_stateOf (Nat.le_of_ble_eq_true rfl) (Nat.le_of_ble_eq_true rfl) (kd_w (by decide) kz_29) rfl (cl_3 kz_29) rfl rfl (Nat.le_of_ble_eq_true rfl) dX11_isTaut_13 (fun r4 s3 h => ?_)
    refine x_if_ne (tgt := 23) F dX11_isTaut_16 (by decide) (fun c => ?_) (fun c => ?_)
    · replace h := h.1 c
      refine x_iconst (0 : Int32) F dX11_isTaut_23 (by decide) ?_
      exact hret _ _ _ _ h (nar01 (by decide)) dX11_isTaut_24
    · replace h := h.2 c
      refine x_iconst (1 : Int32) F dX11_isTaut_19 (by decide) ?_
      refine x_goto (tgt := 24) F dX11_isTaut_20 (by decide) ?_
      exact hret _ _ _ _ h (nar01 (by decide)) dX11_isTaut_24
/-! X11_isAxis -/
abbrev wvX11_isAxis : List Cond := Cond.code yX11_isAxis cX11_isAxis 1 (some .boolean) :: wsL_law
theorem cd_X11_isAxis : okN yX11_isAxis RX11 1 := by unfold okN; decide +kernel
def w_X11_isAxis  (p0 : Int32) (σ : wS) (Q : Int32 → wS → Prop) : Prop := (p0 < 0 → (Q (0 : Int32) σ)) ∧ (¬ p0 < 0 → (((3 : Int32) ≤ p0 → (Q (0 : Int32) σ)) ∧ (¬ (3 : Int32) ≤ p0 → (Q (1 : Int32) σ))))
set_option maxRecDepth 100000 in
set_option maxHeartbeats 4000000 in
theorem c_X11_isAxis (l : Launch) (g : wG) (A : Nat → Prop) (hA : adO g A)   {p0 : Int32} {σ : wS} {Q : Int32 → wS → Prop} (h : w_X11_isAxis  p0 σ Q) : Mi l yX11_isAxis wvX11_isAxis 0 0 g A [.int p0] σ Q := by
  refine mt_i (own := RX11) (lv := [(0, .int p0)]) (by decide) rfl rfl hA (Nat.le_of_ble_eq_true rfl) rfl ?_
  intro X hl hg hAA F hret
  subst hl hg hAA
  unfold w_X11_isAxis at h
  refine x_iload_n F dX11_isAxis_0 rfl 0 rfl ?_
  refine x_if_lt (tgt := 13) F dX11_isAxis_1 (by decide) (fun c => ?_) (fun c => ?_)
  · replace h := h.1 c
    refine x_iconst (0 : Int32) F dX11_isAxis_13 (by decide) ?_
    exact hret _ _ _ _ h (nar01 (by decide)) dX11_isAxis_14
  · replace h := h.2 c
    refine x_iload_n F dX11_isAxis_4 rfl 0 rfl ?_
    refine x_iconst (3 : Int32) F dX11_isAxis_5 (by decide) ?_
    refine x_icmp_ge (tgt := 13) F dX11_isAxis_6 (by decide) (fun c => ?_) (fun c => ?_)
    · replace h := h.1 c
      refine x_iconst (0 : Int32) F dX11_isAxis_13 (by decide) ?_
      exact hret _ _ _ _ h (nar01 (by decide)) dX11_isAxis_14
    · replace h := h.2 c
      refine x_iconst (1 : Int32) F dX11_isAxis_9 (by decide) ?_
      refine x_goto (tgt := 14) F dX11_isAxis_10 (by decide) ?_
      exact hret _ _ _ _ h (nar01 (by decide)) dX11_isAxis_14
/-! X11_solved -/
abbrev wvX11_solved : List Cond := Cond.code yX11_solved cX11_solved 1 (some (.object "MooringDesk$Balance")) :: wsL_law
theorem cd_X11_solved : okN yX11_solved RX11 0 := by unfold okN; decide +kernel
def w_X11_solved   (σ : wS) (Q : wS → Prop) : Prop := w_X0_solve (mo (σ.1 0 2)) 29 (σ.1 29 2) σ (fun r2 s1 => Q s1)
set_option maxRecDepth 100000 in
set_option maxHeartbeats 4000000 in
theorem c_X11_solved (l : Launch) (g : wG) (A : Nat → Prop) (hA : adO g A)    {σ : wS} {Q : wS → Prop} (h : w_X11_solved   σ Q) : Mr l yX11_solved wvX11_solved 2 51 g A [.ref (g.2.2 0)] σ 41 Q := by
  refine mt_r (own := RX11) (lv := [(0, .ref (g.2.2 0))]) (Or.inl ⟨_, rfl⟩) (by decide) rfl rfl hA (Nat.le_of_ble_eq_true rfl) rfl ?_
  intro X hl hg hAA F hret
  subst hl hg hAA
  unfold w_X11_solved at h
  refine x_aload_n F dX11_solved_0 rfl 0 rfl ?_
  refine g_11_8 F kz_0 in_11 (mc bw_2_14) dX11_solved_1 ?_
  refine g_1_0 F kz_38 in_1 (mc bw_28_21) dX11_solved_4 ?_
  refine x_aload_n F dX11_solved_7 rfl 0 rfl ?_
  refine g_11_2 F kz_0 in_11 (mc bw_2_1) dX11_solved_8 ?_
  refine x_aload_n F dX11_solved_11 rfl 0 rfl ?_
  refine g_11_6 F kz_0 in_11 (mc bw_2_9) dX11_solved_12 ?_
  refine x_aload_n F dX11_solved_15 rfl 0 rfl ?_
  refine g_11_6 F kz_0 in_11 (mc bw_2_9) dX11_solved_16 ?_
  refine g_3_2 F kz_29 in_3 (mc bw_28_22) dX11_solved_19 ?_
  refine x_callV_i F (c_X0_solve (xl X) (xg X) (xA X) F.2.2.1 (mo_kd _) kz_29 h) (bw_V bw_28_23 bw_19_23 bw_20_0 bw_5_8 bw_20_1) rfl cd_X0_solve (Nat.le_of_ble_eq_true rfl) (Nat.le_of_ble_eq_true rfl) (kd_w (by decide) kz_41) rfl (cl_0 kz_41) rfl rfl (Nat.le_of_ble_eq_true rfl) dX11_solved_22 (fun r2 s1 h => ?_)
  refine x_pop F dX11_solved_25 rfl ?_
  refine x_aload_n F dX11_solved_26 rfl 0 rfl ?_
  refine g_11_8 F kz_0 in_11 (mc bw_2_14) dX11_solved_27 ?_
  refine g_1_0 F kz_38 in_1 (mc bw_28_21) dX11_solved_30 ?_
  exact hret _ _ _ h dX11_solved_33
/-! X11_rule -/
abbrev wvX11_rule : List Cond := Cond.code yX11_rule cX11_rule 2 (some .int) :: wsL_law
theorem cd_X11_rule : okN yX11_rule RX11 1 := by unfold okN; decide +kernel
def w_X11_rule  (p0 : Int32) (σ : wS) (Q : Int32 → wS → Prop) : Prop := w_X11_hasMooring  σ (fun r2 s1 => (r2 = 0 → (Q (-1000000 : Int32) s1)) ∧ (¬ r2 = 0 → (w_X11_isWithin p0 (0 : Int32) (4 : Int32) s1 (fun r4 s3 => (¬ r4 = 0 → ((¬ p0 = 0 → ((¬ p0 = (4 : Int32) → (vp_in (p0 - (1 : Int32)) 3 ∧ (Q (s3.1 31 ((p0 - (1 : Int32))).toNatClampNeg) s3))) ∧ (p0 = (4 : Int32) → (Q (s3.1 29 5) s3)))) ∧ (p0 = 0 → (Q (s3.1 ((mo (s3.1 0 2)) + 1) ((0 : Int32)).toNatClampNeg) s3)))) ∧ (r4 = 0 → (Q (-1000000 : Int32) s3))))))
set_option maxRecDepth 100000 in
set_option maxHeartbeats 4000000 in
theorem c_X11_rule (l : Launch) (g : wG) (A : Nat → Prop) (hA : adO g A)   {p0 : Int32} {σ : wS} {Q : Int32 → wS → Prop} (h : w_X11_rule  p0 σ Q) : Mi l yX11_rule wvX11_rule 1 22 g A [.ref (g.2.2 0), .int p0] σ Q := by
  refine mt_i (own := RX11) (lv := [(0, .ref (g.2.2 0)), (1, .int p0)]) (by decide) rfl rfl hA (Nat.le_of_ble_eq_true rfl) rfl ?_
  intro X hl hg hAA F hret
  subst hl hg hAA
  unfold w_X11_rule at h
  refine x_aload_n F dX11_rule_0 rfl 0 rfl ?_
  refine x_callV_i F (c_X11_hasMooring (xl X) (xg X) (xA X) F.2.2.1  h) (bw_V bw_26_1 bw_26_2 bw_26_3 bw_1_2 bw_26_4) rfl cd_X11_hasMooring (Nat.le_of_ble_eq_true rfl) (Nat.le_of_ble_eq_true rfl) (kd_w (by decide) kz_0) rfl (cl_11 kz_0) rfl rfl (Nat.le_of_ble_eq_true rfl) dX11_rule_1 (fun r2 s1 h => ?_)
  refine x_if_eq (tgt := 16) F dX11_rule_4 (by decide) (fun c => ?_) (fun c => ?_)
  · replace h := h.1 c
    refine x_ldc F dX11_rule_16 (mc bw_25_21) ?_
    exact hret _ _ _ _ h rfl dX11_rule_18
  · replace h := h.2 c
    refine x_iload_n F dX11_rule_7 rfl 1 rfl ?_
    refine x_iconst (0 : Int32) F dX11_rule_8 (by decide) ?_
    refine x_iconst (4 : Int32) F dX11_rule_9 (by decide) ?_
    refine x_callT_i F (c_X11_isWithin (xl X) (xg X) (xA X) F.2.2.1  h) (bw_S bw_26_5 bw_26_6 bw_1_2 bw_26_7) rfl cd_X11_isWithin (Nat.le_of_ble_eq_true rfl) (Nat.le_of_ble_eq_true rfl) rfl rfl (Nat.le_of_ble_eq_true rfl) dX11_rule_10 (fun r4 s3 h => ?_)
    refine x_if_ne (tgt := 19) F dX11_rule_13 (by decide) (fun c => ?_) (fun c => ?_)
    · replace h := h.1 c
      refine x_iload_n F dX11_rule_19 rfl 1 rfl ?_
      refine x_if_ne (tgt := 33) F dX11_rule_20 (by decide) (fun c => ?_) (fun c => ?_)
      · replace h := h.1 c
        refine x_iload_n F dX11_rule_33 rfl 1 rfl ?_
        refine x_iconst (4 : Int32) F dX11_rule_34 (by decide) ?_
        refine x_icmp_ne (tgt := 48) F dX11_rule_35 (by decide) (fun c => ?_) (fun c => ?_)
        · replace h := h.1 c
          refine x_aload_n F dX11_rule_48 rfl 0 rfl ?_
          refine g_11_6 F kz_0 in_11 (mc bw_2_9) dX11_rule_49 ?_
          refine g_3_1 F kz_29 in_3 (mc bw_26_0) dX11_rule_52 ?_
          refine x_iload_n F dX11_rule_55 rfl 1 rfl ?_
          refine x_iconst (1 : Int32) F dX11_rule_56 (by decide) ?_
          refine x_isub F dX11_rule_57 ?_
          obtain ⟨hj, h⟩ := h
          refine x_iald F kz_31 nz_31 hj dX11_rule_58 ?_
          exact hret _ _ _ _ h rfl dX11_rule_59
        · replace h := h.2 c
          refine x_aload_n F dX11_rule_38 rfl 0 rfl ?_
          refine g_11_6 F kz_0 in_11 (mc bw_2_9) dX11_rule_39 ?_
          refine g_3_5 F kz_29 in_3 (mc bw_25_23) dX11_rule_42 ?_
          refine x_goto (tgt := 59) F dX11_rule_45 (by decide) ?_
          exact hret _ _ _ _ h rfl dX11_rule_59
      · replace h := h.2 c
        refine x_aload_n F dX11_rule_23 rfl 0 rfl ?_
        refine g_11_2 F kz_0 in_11 (mc bw_2_1) dX11_rule_24 ?_
        refine g_5_0 F (mo_kd _) in_5 (mc bw_25_22) dX11_rule_27 ?_
        refine x_iconst (0 : Int32) F dX11_rule_30 (by decide) ?_
        refine x_iald F (ky_5_0 (mo_kd _)) (kn_5_0 (mo_kd _)) (by unfold vp_in; decide) dX11_rule_31 ?_
        exact hret _ _ _ _ h rfl dX11_rule_32
    · replace h := h.2 c
      refine x_ldc F dX11_rule_16 (mc bw_25_21) ?_
      exact hret _ _ _ _ h rfl dX11_rule_18
/-! X11_pull -/
abbrev wvX11_pull : List Cond := Cond.code yX11_pull cX11_pull 4 (some .long) :: wsL_law
theorem cd_X11_pull : okN yX11_pull RX11 2 := by unfold okN; decide +kernel
def w_X11_pull  (p0 : Int32) (p1 : Int32) (σ : wS) (Q : Int64 → wS → Prop) : Prop := w_X11_isFast p0 σ (fun r2 s1 => (r2 = 0 → (Q (-1000000 : Int64) s1)) ∧ (¬ r2 = 0 → (w_X11_isWithin p1 (0 : Int32) (1 : Int32) s1 (fun r4 s3 => (¬ r4 = 0 → (w_X11_solved  s3 (fun s5 => vp_in p0 8 ∧ (w_X2_put 46 (s5.2 45 (p0).toNatClampNeg) (s5.2 41 4) s5 (fun s7 => w_X2_told 46 p1 s7 (fun r10 s9 => Q r10 s9)))))) ∧ (r4 = 0 → (Q (-1000000 : Int64) s3))))))
set_option maxRecDepth 100000 in
set_option maxHeartbeats 4000000 in
theorem c_X11_pull (l : Launch) (g : wG) (A : Nat → Prop) (hA : adO g A)   {p0 : Int32} {p1 : Int32} {σ : wS} {Q : Int64 → wS → Prop} (h : w_X11_pull  p0 p1 σ Q) : Ml l yX11_pull wvX11_pull 3 71 g A [.ref (g.2.2 0), .int p0, .int p1] σ Q := by
  refine mt_l (own := RX11) (lv := [(0, .ref (g.2.2 0)), (1, .int p0), (2, .int p1)]) (by decide) rfl rfl hA (Nat.le_of_ble_eq_true rfl) rfl ?_
  intro X hl hg hAA F hret
  subst hl hg hAA
  unfold w_X11_pull at h
  refine x_aload_n F dX11_pull_0 rfl 0 rfl ?_
  refine x_iload_n F dX11_pull_1 rfl 1 rfl ?_
  refine x_callV_i F (c_X11_isFast (xl X) (xg X) (xA X) F.2.2.1  h) (bw_V bw_28_12 bw_28_13 bw_28_14 bw_1_2 bw_28_15) rfl cd_X11_isFast (Nat.le_of_ble_eq_true rfl) (Nat.le_of_ble_eq_true rfl) (kd_w (by decide) kz_0) rfl (cl_11 kz_0) rfl rfl (Nat.le_of_ble_eq_true rfl) dX11_pull_2 (fun r2 s1 h => ?_)
  refine x_if_eq (tgt := 17) F dX11_pull_5 (by decide) (fun c => ?_) (fun c => ?_)
  · replace h := h.1 c
    refine x_ldc2 F dX11_pull_17 (mc bw_28_9) ?_
    exact hret _ _ _ _ h dX11_pull_20
  · replace h := h.2 c
    refine x_iload_n F dX11_pull_8 rfl 2 rfl ?_
    refine x_iconst (0 : Int32) F dX11_pull_9 (by decide) ?_
    refine x_iconst (1 : Int32) F dX11_pull_10 (by decide) ?_
    refine x_callT_i F (c_X11_isWithin (xl X) (xg X) (xA X) F.2.2.1  h) (bw_S bw_26_5 bw_26_6 bw_1_2 bw_26_7) rfl cd_X11_isWithin (Nat.le_of_ble_eq_true rfl) (Nat.le_of_ble_eq_true rfl) rfl rfl (Nat.le_of_ble_eq_true rfl) dX11_pull_11 (fun r4 s3 h => ?_)
    refine x_if_ne (tgt := 21) F dX11_pull_14 (by decide) (fun c => ?_) (fun c => ?_)
    · replace h := h.1 c
      refine x_aload_n F dX11_pull_21 rfl 0 rfl ?_
      refine x_callV_r F (c_X11_solved (xl X) (xg X) (xA X) F.2.2.1  h) (bw_V bw_28_17 bw_28_18 bw_28_19 bw_1_2 bw_28_20) rfl cd_X11_solved (Nat.le_of_ble_eq_true rfl) (Nat.le_of_ble_eq_true rfl) (kd_w (by decide) kz_0) rfl (cl_11 kz_0) rfl rfl (Nat.le_of_ble_eq_true rfl) dX11_pull_22 (fun s5 h => ?_)
      refine x_astore_n (lv' := [(3, .ref (ad X 41)), (0, .ref (ad X 0)), (1, .int p0), (2, .int p1)]) F dX11_pull_25 rfl (by decide) rfl ?_
      refine x_aload_n F dX11_pull_26 rfl 1 rfl ?_
      refine g_11_9 F kz_0 in_11 (mc bw_2_18) dX11_pull_27 ?_
      refine x_aload_n F dX11_pull_30 rfl 0 rfl ?_
      refine g_0_3 F kz_41 in_0 (mc bw_28_10) dX11_pull_31 ?_
      refine x_iload_n F dX11_pull_34 rfl 2 rfl ?_
      obtain ⟨hj, h⟩ := h
      refine x_lald F kz_45 nz_45 hj dX11_pull_35 ?_
      refine x_aload_n F dX11_pull_36 rfl 0 rfl ?_
      refine g_0_4 F kz_41 in_0 (mc bw_28_11) dX11_pull_37 ?_
      refine x_callV_v F (c_X2_put (xl X) (xg X) (xA X) F.2.2.1 kz_46 h) (bw_V bw_29_0 bw_29_1 bw_29_2 bw_2_17 bw_29_3) rfl cd_X2_put (Nat.le_of_ble_eq_true rfl) (Nat.le_of_ble_eq_true rfl) (kd_w (by decide) kz_46) rfl (cl_2 kz_46) rfl rfl (Nat.le_of_ble_eq_true rfl) dX11_pull_40 (fun s7 h => ?_)
      refine x_aload_n F dX11_pull_43 rfl 1 rfl ?_
      refine g_11_9 F kz_0 in_11 (mc bw_2_18) dX11_pull_44 ?_
      refine x_iload_n F dX11_pull_47 rfl 3 rfl ?_
      refine x_callV_l F (c_X2_told (xl X) (xg X) (xA X) F.2.2.1 kz_46 h) (bw_V bw_29_11 bw_29_12 bw_29_13 bw_2_17 bw_29_14) rfl cd_X2_told (Nat.le_of_ble_eq_true rfl) (Nat.le_of_ble_eq_true rfl) (kd_w (by decide) kz_46) rfl (cl_2 kz_46) rfl rfl (Nat.le_of_ble_eq_true rfl) dX11_pull_48 (fun r10 s9 h => ?_)
      exact hret _ _ _ _ h dX11_pull_51
    · replace h := h.2 c
      refine x_ldc2 F dX11_pull_17 (mc bw_28_9) ?_
      exact hret _ _ _ _ h dX11_pull_20
/-! X11_shift -/
abbrev wvX11_shift : List Cond := Cond.code yX11_shift cX11_shift 4 (some .long) :: wsL_law
theorem cd_X11_shift : okN yX11_shift RX11 2 := by unfold okN; decide +kernel
def w_X11_shift  (p0 : Int32) (p1 : Int32) (σ : wS) (Q : Int64 → wS → Prop) : Prop := w_X11_hasMooring  σ (fun r2 s1 => (r2 = 0 → (Q (-1000000 : Int64) s1)) ∧ (¬ r2 = 0 → (w_X11_isAxis p0 s1 (fun r4 s3 => (r4 = 0 → (Q (-1000000 : Int64) s3)) ∧ (¬ r4 = 0 → (w_X11_isWithin p1 (0 : Int32) (1 : Int32) s3 (fun r6 s5 => (¬ r6 = 0 → (w_X11_solved  s5 (fun s7 => vp_in p0 3 ∧ (w_X2_put 46 (s7.2 44 (p0).toNatClampNeg) (s7.2 41 4) s7 (fun s9 => w_X2_told 46 p1 s9 (fun r12 s11 => Q r12 s11)))))) ∧ (r6 = 0 → (Q (-1000000 : Int64) s5)))))))))
set_option maxRecDepth 100000 in
set_option maxHeartbeats 4000000 in
theorem c_X11_shift (l : Launch) (g : wG) (A : Nat → Prop) (hA : adO g A)   {p0 : Int32} {p1 : Int32} {σ : wS} {Q : Int64 → wS → Prop} (h : w_X11_shift  p0 p1 σ Q) : Ml l yX11_shift wvX11_shift 3 71 g A [.ref (g.2.2 0), .int p0, .int p1] σ Q := by
  refine mt_l (own := RX11) (lv := [(0, .ref (g.2.2 0)), (1, .int p0), (2, .int p1)]) (by decide) rfl rfl hA (Nat.le_of_ble_eq_true rfl) rfl ?_
  intro X hl hg hAA F hret
  subst hl hg hAA
  unfold w_X11_shift at h
  refine x_aload_n F dX11_shift_0 rfl 0 rfl ?_
  refine x_callV_i F (c_X11_hasMooring (xl X) (xg X) (xA X) F.2.2.1  h) (bw_V bw_26_1 bw_26_2 bw_26_3 bw_1_2 bw_26_4) rfl cd_X11_hasMooring (Nat.le_of_ble_eq_true rfl) (Nat.le_of_ble_eq_true rfl) (kd_w (by decide) kz_0) rfl (cl_11 kz_0) rfl rfl (Nat.le_of_ble_eq_true rfl) dX11_shift_1 (fun r2 s1 h => ?_)
  refine x_if_eq (tgt := 23) F dX11_shift_4 (by decide) (fun c => ?_) (fun c => ?_)
  · replace h := h.1 c
    refine x_ldc2 F dX11_shift_23 (mc bw_28_9) ?_
    exact hret _ _ _ _ h dX11_shift_26
  · replace h := h.2 c
    refine x_iload_n F dX11_shift_7 rfl 1 rfl ?_
    refine x_callT_i F (c_X11_isAxis (xl X) (xg X) (xA X) F.2.2.1  h) (bw_S bw_30_11 bw_30_12 bw_1_2 bw_30_13) rfl cd_X11_isAxis (Nat.le_of_ble_eq_true rfl) (Nat.le_of_ble_eq_true rfl) rfl rfl (Nat.le_of_ble_eq_true rfl) dX11_shift_8 (fun r4 s3 h => ?_)
    refine x_if_eq (tgt := 23) F dX11_shift_11 (by decide) (fun c => ?_) (fun c => ?_)
    · replace h := h.1 c
      refine x_ldc2 F dX11_shift_23 (mc bw_28_9) ?_
      exact hret _ _ _ _ h dX11_shift_26
    · replace h := h.2 c
      refine x_iload_n F dX11_shift_14 rfl 2 rfl ?_
      refine x_iconst (0 : Int32) F dX11_shift_15 (by decide) ?_
      refine x_iconst (1 : Int32) F dX11_shift_16 (by decide) ?_
      refine x_callT_i F (c_X11_isWithin (xl X) (xg X) (xA X) F.2.2.1  h) (bw_S bw_26_5 bw_26_6 bw_1_2 bw_26_7) rfl cd_X11_isWithin (Nat.le_of_ble_eq_true rfl) (Nat.le_of_ble_eq_true rfl) rfl rfl (Nat.le_of_ble_eq_true rfl) dX11_shift_17 (fun r6 s5 h => ?_)
      refine x_if_ne (tgt := 27) F dX11_shift_20 (by decide) (fun c => ?_) (fun c => ?_)
      · replace h := h.1 c
        refine x_aload_n F dX11_shift_27 rfl 0 rfl ?_
        refine x_callV_r F (c_X11_solved (xl X) (xg X) (xA X) F.2.2.1  h) (bw_V bw_28_17 bw_28_18 bw_28_19 bw_1_2 bw_28_20) rfl cd_X11_solved (Nat.le_of_ble_eq_true rfl) (Nat.le_of_ble_eq_true rfl) (kd_w (by decide) kz_0) rfl (cl_11 kz_0) rfl rfl (Nat.le_of_ble_eq_true rfl) dX11_shift_28 (fun s7 h => ?_)
        refine x_astore_n (lv' := [(3, .ref (ad X 41)), (0, .ref (ad X 0)), (1, .int p0), (2, .int p1)]) F dX11_shift_31 rfl (by decide) rfl ?_
        refine x_aload_n F dX11_shift_32 rfl 1 rfl ?_
        refine g_11_9 F kz_0 in_11 (mc bw_2_18) dX11_shift_33 ?_
        refine x_aload_n F dX11_shift_36 rfl 0 rfl ?_
        refine g_0_2 F kz_41 in_0 (mc bw_30_10) dX11_shift_37 ?_
        refine x_iload_n F dX11_shift_40 rfl 2 rfl ?_
        obtain ⟨hj, h⟩ := h
        refine x_lald F kz_44 nz_44 hj dX11_shift_41 ?_
        refine x_aload_n F dX11_shift_42 rfl 0 rfl ?_
        refine g_0_4 F kz_41 in_0 (mc bw_28_11) dX11_shift_43 ?_
        refine x_callV_v F (c_X2_put (xl X) (xg X) (xA X) F.2.2.1 kz_46 h) (bw_V bw_29_0 bw_29_1 bw_29_2 bw_2_17 bw_29_3) rfl cd_X2_put (Nat.le_of_ble_eq_true rfl) (Nat.le_of_ble_eq_true rfl) (kd_w (by decide) kz_46) rfl (cl_2 kz_46) rfl rfl (Nat.le_of_ble_eq_true rfl) dX11_shift_46 (fun s9 h => ?_)
        refine x_aload_n F dX11_shift_49 rfl 1 rfl ?_
        refine g_11_9 F kz_0 in_11 (mc bw_2_18) dX11_shift_50 ?_
        refine x_iload_n F dX11_shift_53 rfl 3 rfl ?_
        refine x_callV_l F (c_X2_told (xl X) (xg X) (xA X) F.2.2.1 kz_46 h) (bw_V bw_29_11 bw_29_12 bw_29_13 bw_2_17 bw_29_14) rfl cd_X2_told (Nat.le_of_ble_eq_true rfl) (Nat.le_of_ble_eq_true rfl) (kd_w (by decide) kz_46) rfl (cl_2 kz_46) rfl rfl (Nat.le_of_ble_eq_true rfl) dX11_shift_54 (fun r12 s11 h => ?_)
        exact hret _ _ _ _ h dX11_shift_57
      · replace h := h.2 c
        refine x_ldc2 F dX11_shift_23 (mc bw_28_9) ?_
        exact hret _ _ _ _ h dX11_shift_26
/-! X11_held -/
abbrev wvX11_held : List Cond := Cond.code yX11_held cX11_held 4 (some .long) :: wsL_law
theorem cd_X11_held : okN yX11_held RX11 2 := by unfold okN; decide +kernel
def b_X11_held_80   (Q : Int64 → wS → Prop) (x2 : Int32) (σ : wS) : Prop := w_X2_told 46 x2 σ (fun r2 s1 => Q r2 s1)
set_option maxRecDepth 100000 in
set_option maxHeartbeats 4000000 in
theorem wb_X11_held_80 {X : XT} {Q : Int64 → wS → Prop}  (F : Fx X cX11_held 4 RX11 wvX11_held 3 71) (hret : Rl X 4 cX11_held Q)    (x2 : Int32) (σ : wS) (h : b_X11_held_80   Q x2 σ) : Wx X 4 σ 80 [(0, .ref (ad X 0)), (2, .int x2)] [] := by
  unfold b_X11_held_80 at h
  refine x_aload_n F dX11_held_80 rfl 0 rfl ?_
  refine g_11_9 F kz_0 in_11 (mc bw_2_18) dX11_held_81 ?_
  refine x_iload_n F dX11_held_84 rfl 1 rfl ?_
  refine x_callV_l F (c_X2_told (xl X) (xg X) (xA X) F.2.2.1 kz_46 h) (bw_V bw_29_11 bw_29_12 bw_29_13 bw_2_17 bw_29_14) rfl cd_X2_told (Nat.le_of_ble_eq_true rfl) (Nat.le_of_ble_eq_true rfl) (kd_w (by decide) kz_46) rfl (cl_2 kz_46) rfl rfl (Nat.le_of_ble_eq_true rfl) dX11_held_85 (fun r2 s1 h => ?_)
  exact hret _ _ _ _ h dX11_held_88
def w_X11_held  (p0 : Int32) (p1 : Int32) (σ : wS) (Q : Int64 → wS → Prop) : Prop := w_X11_hasMooring  σ (fun r2 s1 => (r2 = 0 → (Q (-1000000 : Int64) s1)) ∧ (¬ r2 = 0 → (w_X11_isAxis p0 s1 (fun r4 s3 => (r4 = 0 → (Q (-1000000 : Int64) s3)) ∧ (¬ r4 = 0 → (w_X11_isWithin p1 (0 : Int32) (1 : Int32) s3 (fun r6 s5 => (¬ r6 = 0 → (vp_in p0 3 ∧ (((s5.1 ((mo (s5.1 0 2)) + 6) (p0).toNatClampNeg) = 0 → (w_X11_solved  s5 (fun s7 => w_X0_restOn (mo (s7.1 0 2)) 29 p0 s7 (fun r10 s9 => w_X2_put 46 r10 (s9.2 41 4) s9 (fun s11 => b_X11_held_80   Q p1 s11))))) ∧ (¬ (s5.1 ((mo (s5.1 0 2)) + 6) (p0).toNatClampNeg) = 0 → (w_X2_put 46 (0 : Int64) (1 : Int64) s5 (fun s13 => b_X11_held_80   Q p1 s13)))))) ∧ (r6 = 0 → (Q (-1000000 : Int64) s5)))))))))
set_option maxRecDepth 100000 in
set_option maxHeartbeats 4000000 in
theorem c_X11_held (l : Launch) (g : wG) (A : Nat → Prop) (hA : adO g A)   {p0 : Int32} {p1 : Int32} {σ : wS} {Q : Int64 → wS → Prop} (h : w_X11_held  p0 p1 σ Q) : Ml l yX11_held wvX11_held 3 71 g A [.ref (g.2.2 0), .int p0, .int p1] σ Q := by
  refine mt_l (own := RX11) (lv := [(0, .ref (g.2.2 0)), (1, .int p0), (2, .int p1)]) (by decide) rfl rfl hA (Nat.le_of_ble_eq_true rfl) rfl ?_
  intro X hl hg hAA F hret
  subst hl hg hAA
  unfold w_X11_held at h
  refine x_aload_n F dX11_held_0 rfl 0 rfl ?_
  refine x_callV_i F (c_X11_hasMooring (xl X) (xg X) (xA X) F.2.2.1  h) (bw_V bw_26_1 bw_26_2 bw_26_3 bw_1_2 bw_26_4) rfl cd_X11_hasMooring (Nat.le_of_ble_eq_true rfl) (Nat.le_of_ble_eq_true rfl) (kd_w (by decide) kz_0) rfl (cl_11 kz_0) rfl rfl (Nat.le_of_ble_eq_true rfl) dX11_held_1 (fun r2 s1 h => ?_)
  refine x_if_eq (tgt := 23) F dX11_held_4 (by decide) (fun c => ?_) (fun c => ?_)
  · replace h := h.1 c
    refine x_ldc2 F dX11_held_23 (mc bw_28_9) ?_
    exact hret _ _ _ _ h dX11_held_26
  · replace h := h.2 c
    refine x_iload_n F dX11_held_7 rfl 1 rfl ?_
    refine x_callT_i F (c_X11_isAxis (xl X) (xg X) (xA X) F.2.2.1  h) (bw_S bw_30_11 bw_30_12 bw_1_2 bw_30_13) rfl cd_X11_isAxis (Nat.le_of_ble_eq_true rfl) (Nat.le_of_ble_eq_true rfl) rfl rfl (Nat.le_of_ble_eq_true rfl) dX11_held_8 (fun r4 s3 h => ?_)
    refine x_if_eq (tgt := 23) F dX11_held_11 (by decide) (fun c => ?_) (fun c => ?_)
    · replace h := h.1 c
      refine x_ldc2 F dX11_held_23 (mc bw_28_9) ?_
      exact hret _ _ _ _ h dX11_held_26
    · replace h := h.2 c
      refine x_iload_n F dX11_held_14 rfl 2 rfl ?_
      refine x_iconst (0 : Int32) F dX11_held_15 (by decide) ?_
      refine x_iconst (1 : Int32) F dX11_held_16 (by decide) ?_
      refine x_callT_i F (c_X11_isWithin (xl X) (xg X) (xA X) F.2.2.1  h) (bw_S bw_26_5 bw_26_6 bw_1_2 bw_26_7) rfl cd_X11_isWithin (Nat.le_of_ble_eq_true rfl) (Nat.le_of_ble_eq_true rfl) rfl rfl (Nat.le_of_ble_eq_true rfl) dX11_held_17 (fun r6 s5 h => ?_)
      refine x_if_ne (tgt := 27) F dX11_held_20 (by decide) (fun c => ?_) (fun c => ?_)
      · replace h := h.1 c
        refine x_aload_n F dX11_held_27 rfl 0 rfl ?_
        refine g_11_2 F kz_0 in_11 (mc bw_2_1) dX11_held_28 ?_
        refine g_5_5 F (mo_kd _) in_5 (mc bw_30_23) dX11_held_31 ?_
        refine x_iload_n F dX11_held_34 rfl 1 rfl ?_
        obtain ⟨hj, h⟩ := h
        refine x_zald F (ky_5_5 (mo_kd _)) (kn_5_5 (mo_kd _)) hj dX11_held_35 ?_
        refine x_if_eq (tgt := 51) F dX11_held_36 (by decide) (fun c => ?_) (fun c => ?_)
        · replace h := h.1 c
          refine x_aload_n F dX11_held_51 rfl 0 rfl ?_
          refine x_callV_r F (c_X11_solved (xl X) (xg X) (xA X) F.2.2.1  h) (bw_V bw_28_17 bw_28_18 bw_28_19 bw_1_2 bw_28_20) rfl cd_X11_solved (Nat.le_of_ble_eq_true rfl) (Nat.le_of_ble_eq_true rfl) (kd_w (by decide) kz_0) rfl (cl_11 kz_0) rfl rfl (Nat.le_of_ble_eq_true rfl) dX11_held_52 (fun s7 h => ?_)
          refine x_astore_n (lv' := [(3, .ref (ad X 41)), (0, .ref (ad X 0)), (1, .int p0), (2, .int p1)]) F dX11_held_55 rfl (by decide) rfl ?_
          refine x_aload_n F dX11_held_56 rfl 1 rfl ?_
          refine g_11_9 F kz_0 in_11 (mc bw_2_18) dX11_held_57 ?_
          refine x_aload_n F dX11_held_60 rfl 0 rfl ?_
          refine x_aload_n F dX11_held_61 rfl 1 rfl ?_
          refine g_11_2 F kz_0 in_11 (mc bw_2_1) dX11_held_62 ?_
          refine x_aload_n F dX11_held_65 rfl 1 rfl ?_
          refine g_11_6 F kz_0 in_11 (mc bw_2_9) dX11_held_66 ?_
          refine x_iload_n F dX11_held_69 rfl 2 rfl ?_
          refine x_callV_l F (c_X0_restOn (xl X) (xg X) (xA X) F.2.2.1 (mo_kd _) kz_29 h) (bw_V bw_31_0 bw_31_1 bw_31_2 bw_5_8 bw_31_3) rfl cd_X0_restOn (Nat.le_of_ble_eq_true rfl) (Nat.le_of_ble_eq_true rfl) (kd_w (by decide) kz_41) rfl (cl_0 kz_41) rfl rfl (Nat.le_of_ble_eq_true rfl) dX11_held_70 (fun r10 s9 h => ?_)
          refine x_aload_n F dX11_held_73 rfl 0 rfl ?_
          refine g_0_4 F kz_41 in_0 (mc bw_28_11) dX11_held_74 ?_
          refine x_callV_v F (c_X2_put (xl X) (xg X) (xA X) F.2.2.1 kz_46 h) (bw_V bw_29_0 bw_29_1 bw_29_2 bw_2_17 bw_29_3) rfl cd_X2_put (Nat.le_of_ble_eq_true rfl) (Nat.le_of_ble_eq_true rfl) (kd_w (by decide) kz_46) rfl (cl_2 kz_46) rfl rfl (Nat.le_of_ble_eq_true rfl) dX11_held_77 (fun s11 h => ?_)
          refine x_sub (lv' := [(0, .ref (ad X 0)), (2, .int p1)]) [1, 3] rfl ?_
          exact wb_X11_held_80 F hret   _ _ h
        · replace h := h.2 c
          refine x_aload_n F dX11_held_39 rfl 0 rfl ?_
          refine g_11_9 F kz_0 in_11 (mc bw_2_18) dX11_held_40 ?_
          refine x_lconst (0 : Int64) F dX11_held_43 (by decide) ?_
          refine x_lconst (1 : Int64) F dX11_held_44 (by decide) ?_
          refine x_callV_v F (c_X2_put (xl X) (xg X) (xA X) F.2.2.1 kz_46 h) (bw_V bw_29_0 bw_29_1 bw_29_2 bw_2_17 bw_29_3) rfl cd_X2_put (Nat.le_of_ble_eq_true rfl) (Nat.le_of_ble_eq_true rfl) (kd_w (by decide) kz_46) rfl (cl_2 kz_46) rfl rfl (Nat.le_of_ble_eq_true rfl) dX11_held_45 (fun s13 h => ?_)
          refine x_goto (tgt := 80) F dX11_held_48 (by decide) ?_
          refine x_sub (lv' := [(0, .ref (ad X 0)), (2, .int p1)]) [0, 2] rfl ?_
          exact wb_X11_held_80 F hret   _ _ h
      · replace h := h.2 c
        refine x_ldc2 F dX11_held_23 (mc bw_28_9) ?_
        exact hret _ _ _ _ h dX11_held_26
/-! X11_putLoad -/
abbrev wvX11_putLoad : List Cond := Cond.code yX11_putLoad cX11_putLoad 3 none :: wsL_law
theorem cd_X11_putLoad : okN yX11_putLoad RX11 2 := by unfold okN; decide +kernel
def w_X11_putLoad  (p1 : Int32) (σ : wS) (Q : wS → Prop) : Prop := vp_in p1 8 ∧ (vp_in p1 8 ∧ (w_X2_put 46 (σ.2 45 (p1).toNatClampNeg) (((σ.1 ((mo (σ.1 0 2)) + 5) (p1).toNatClampNeg)).toInt64 * (σ.2 41 4)) σ (fun s1 => Q s1)))
set_option maxRecDepth 100000 in
set_option maxHeartbeats 4000000 in
theorem c_X11_putLoad (l : Launch) (g : wG) (A : Nat → Prop) (hA : adO g A)   {p1 : Int32} {σ : wS} {Q : wS → Prop} (h : w_X11_putLoad  p1 σ Q) : Mv l yX11_putLoad wvX11_putLoad 2 66 g A [.ref (g.2.2 0), .ref (g.2.2 41), .int p1] σ Q := by
  refine mt_v (own := RX11) (lv := [(0, .ref (g.2.2 0)), (1, .ref (g.2.2 41)), (2, .int p1)]) (by decide) rfl rfl hA (Nat.le_of_ble_eq_true rfl) rfl ?_
  intro X hl hg hAA F hret
  subst hl hg hAA
  unfold w_X11_putLoad at h
  refine x_aload_n F dX11_putLoad_0 rfl 0 rfl ?_
  refine g_11_9 F kz_0 in_11 (mc bw_2_18) dX11_putLoad_1 ?_
  refine x_aload_n F dX11_putLoad_4 rfl 1 rfl ?_
  refine g_0_3 F kz_41 in_0 (mc bw_28_10) dX11_putLoad_5 ?_
  refine x_iload_n F dX11_putLoad_8 rfl 2 rfl ?_
  obtain ⟨hj, h⟩ := h
  refine x_lald F kz_45 nz_45 hj dX11_putLoad_9 ?_
  refine x_aload_n F dX11_putLoad_10 rfl 0 rfl ?_
  refine g_11_2 F kz_0 in_11 (mc bw_2_1) dX11_putLoad_11 ?_
  refine g_5_4 F (mo_kd _) in_5 (mc bw_27_1) dX11_putLoad_14 ?_
  refine x_iload_n F dX11_putLoad_17 rfl 2 rfl ?_
  obtain ⟨hj, h⟩ := h
  refine x_iald F (ky_5_4 (mo_kd _)) (kn_5_4 (mo_kd _)) hj dX11_putLoad_18 ?_
  refine x_i2l F dX11_putLoad_19 ?_
  refine x_aload_n F dX11_putLoad_20 rfl 1 rfl ?_
  refine g_0_4 F kz_41 in_0 (mc bw_28_11) dX11_putLoad_21 ?_
  refine x_lmul F dX11_putLoad_24 ?_
  refine x_callV_v F (c_X2_put (xl X) (xg X) (xA X) F.2.2.1 kz_46 h) (bw_V bw_29_0 bw_29_1 bw_29_2 bw_2_17 bw_29_3) rfl cd_X2_put (Nat.le_of_ble_eq_true rfl) (Nat.le_of_ble_eq_true rfl) (kd_w (by decide) kz_46) rfl (cl_2 kz_46) rfl rfl (Nat.le_of_ble_eq_true rfl) dX11_putLoad_25 (fun s1 h => ?_)
  exact hret _ _ _ h dX11_putLoad_28
/-! X11_load -/
abbrev wvX11_load : List Cond := Cond.code yX11_load cX11_load 3 (some .long) :: wsL_law
theorem cd_X11_load : okN yX11_load RX11 2 := by unfold okN; decide +kernel
def w_X11_load  (p0 : Int32) (p1 : Int32) (σ : wS) (Q : Int64 → wS → Prop) : Prop := w_X11_isTaut p0 σ (fun r2 s1 => (r2 = 0 → (Q (-1000000 : Int64) s1)) ∧ (¬ r2 = 0 → (w_X11_isWithin p1 (0 : Int32) (1 : Int32) s1 (fun r4 s3 => (¬ r4 = 0 → (w_X11_solved  s3 (fun s5 => w_X11_putLoad p0 s5 (fun s7 => w_X2_told 46 p1 s7 (fun r10 s9 => Q r10 s9))))) ∧ (r4 = 0 → (Q (-1000000 : Int64) s3))))))
set_option maxRecDepth 100000 in
set_option maxHeartbeats 4000000 in
theorem c_X11_load (l : Launch) (g : wG) (A : Nat → Prop) (hA : adO g A)   {p0 : Int32} {p1 : Int32} {σ : wS} {Q : Int64 → wS → Prop} (h : w_X11_load  p0 p1 σ Q) : Ml l yX11_load wvX11_load 3 88 g A [.ref (g.2.2 0), .int p0, .int p1] σ Q := by
  refine mt_l (own := RX11) (lv := [(0, .ref (g.2.2 0)), (1, .int p0), (2, .int p1)]) (by decide) rfl rfl hA (Nat.le_of_ble_eq_true rfl) rfl ?_
  intro X hl hg hAA F hret
  subst hl hg hAA
  unfold w_X11_load at h
  refine x_aload_n F dX11_load_0 rfl 0 rfl ?_
  refine x_iload_n F dX11_load_1 rfl 1 rfl ?_
  refine x_callV_i F (c_X11_isTaut (xl X) (xg X) (xA X) F.2.2.1  h) (bw_V bw_31_13 bw_31_14 bw_31_15 bw_1_2 bw_31_16) rfl cd_X11_isTaut (Nat.le_of_ble_eq_true rfl) (Nat.le_of_ble_eq_true rfl) (kd_w (by decide) kz_0) rfl (cl_11 kz_0) rfl rfl (Nat.le_of_ble_eq_true rfl) dX11_load_2 (fun r2 s1 h => ?_)
  refine x_if_eq (tgt := 17) F dX11_load_5 (by decide) (fun c => ?_) (fun c => ?_)
  · replace h := h.1 c
    refine x_ldc2 F dX11_load_17 (mc bw_28_9) ?_
    exact hret _ _ _ _ h dX11_load_20
  · replace h := h.2 c
    refine x_iload_n F dX11_load_8 rfl 2 rfl ?_
    refine x_iconst (0 : Int32) F dX11_load_9 (by decide) ?_
    refine x_iconst (1 : Int32) F dX11_load_10 (by decide) ?_
    refine x_callT_i F (c_X11_isWithin (xl X) (xg X) (xA X) F.2.2.1  h) (bw_S bw_26_5 bw_26_6 bw_1_2 bw_26_7) rfl cd_X11_isWithin (Nat.le_of_ble_eq_true rfl) (Nat.le_of_ble_eq_true rfl) rfl rfl (Nat.le_of_ble_eq_true rfl) dX11_load_11 (fun r4 s3 h => ?_)
    refine x_if_ne (tgt := 21) F dX11_load_14 (by decide) (fun c => ?_) (fun c => ?_)
    · replace h := h.1 c
      refine x_aload_n F dX11_load_21 rfl 0 rfl ?_
      refine x_aload_n F dX11_load_22 rfl 0 rfl ?_
      refine x_callV_r F (c_X11_solved (xl X) (xg X) (xA X) F.2.2.1  h) (bw_V bw_28_17 bw_28_18 bw_28_19 bw_1_2 bw_28_20) rfl cd_X11_solved (Nat.le_of_ble_eq_true rfl) (Nat.le_of_ble_eq_true rfl) (kd_w (by decide) kz_0) rfl (cl_11 kz_0) rfl rfl (Nat.le_of_ble_eq_true rfl) dX11_load_23 (fun s5 h => ?_)
      refine x_iload_n F dX11_load_26 rfl 1 rfl ?_
      refine x_callV_v F (c_X11_putLoad (xl X) (xg X) (xA X) F.2.2.1  h) (bw_V bw_31_17 bw_31_18 bw_31_19 bw_1_2 bw_31_20) rfl cd_X11_putLoad (Nat.le_of_ble_eq_true rfl) (Nat.le_of_ble_eq_true rfl) (kd_w (by decide) kz_0) rfl (cl_11 kz_0) rfl rfl (Nat.le_of_ble_eq_true rfl) dX11_load_27 (fun s7 h => ?_)
      refine x_aload_n F dX11_load_30 rfl 0 rfl ?_
      refine g_11_9 F kz_0 in_11 (mc bw_2_18) dX11_load_31 ?_
      refine x_iload_n F dX11_load_34 rfl 2 rfl ?_
      refine x_callV_l F (c_X2_told (xl X) (xg X) (xA X) F.2.2.1 kz_46 h) (bw_V bw_29_11 bw_29_12 bw_29_13 bw_2_17 bw_29_14) rfl cd_X2_told (Nat.le_of_ble_eq_true rfl) (Nat.le_of_ble_eq_true rfl) (kd_w (by decide) kz_46) rfl (cl_2 kz_46) rfl rfl (Nat.le_of_ble_eq_true rfl) dX11_load_35 (fun r10 s9 h => ?_)
      exact hret _ _ _ _ h dX11_load_38
    · replace h := h.2 c
      refine x_ldc2 F dX11_load_17 (mc bw_28_9) ?_
      exact hret _ _ _ _ h dX11_load_20
/-! X11_worst -/
abbrev wvX11_worst : List Cond := Cond.code yX11_worst cX11_worst 1 (some .int) :: wsL_law
theorem cd_X11_worst : okN yX11_worst RX11 0 := by unfold okN; decide +kernel
def w_X11_worst   (σ : wS) (Q : Int32 → wS → Prop) : Prop := w_X11_hasMooring  σ (fun r2 s1 => (¬ r2 = 0 → (w_X11_solved  s1 (fun s3 => w_X0_mostLoaded (mo (s3.1 0 2)) (s3.1 29 2) (1 : Int32) s3 (fun r6 s5 => Q r6 s5)))) ∧ (r2 = 0 → (Q (-1 : Int32) s1)))
set_option maxRecDepth 100000 in
set_option maxHeartbeats 4000000 in
theorem c_X11_worst (l : Launch) (g : wG) (A : Nat → Prop) (hA : adO g A)    {σ : wS} {Q : Int32 → wS → Prop} (h : w_X11_worst   σ Q) : Mi l yX11_worst wvX11_worst 3 71 g A [.ref (g.2.2 0)] σ Q := by
  refine mt_i (own := RX11) (lv := [(0, .ref (g.2.2 0))]) (by decide) rfl rfl hA (Nat.le_of_ble_eq_true rfl) rfl ?_
  intro X hl hg hAA F hret
  subst hl hg hAA
  unfold w_X11_worst at h
  refine x_aload_n F dX11_worst_0 rfl 0 rfl ?_
  refine x_callV_i F (c_X11_hasMooring (xl X) (xg X) (xA X) F.2.2.1  h) (bw_V bw_26_1 bw_26_2 bw_26_3 bw_1_2 bw_26_4) rfl cd_X11_hasMooring (Nat.le_of_ble_eq_true rfl) (Nat.le_of_ble_eq_true rfl) (kd_w (by decide) kz_0) rfl (cl_11 kz_0) rfl rfl (Nat.le_of_ble_eq_true rfl) dX11_worst_1 (fun r2 s1 h => ?_)
  refine x_if_ne (tgt := 9) F dX11_worst_4 (by decide) (fun c => ?_) (fun c => ?_)
  · replace h := h.1 c
    refine x_aload_n F dX11_worst_9 rfl 0 rfl ?_
    refine x_callV_r F (c_X11_solved (xl X) (xg X) (xA X) F.2.2.1  h) (bw_V bw_28_17 bw_28_18 bw_28_19 bw_1_2 bw_28_20) rfl cd_X11_solved (Nat.le_of_ble_eq_true rfl) (Nat.le_of_ble_eq_true rfl) (kd_w (by decide) kz_0) rfl (cl_11 kz_0) rfl rfl (Nat.le_of_ble_eq_true rfl) dX11_worst_10 (fun s3 h => ?_)
    refine x_aload_n F dX11_worst_13 rfl 0 rfl ?_
    refine g_11_2 F kz_0 in_11 (mc bw_2_1) dX11_worst_14 ?_
    refine x_aload_n F dX11_worst_17 rfl 0 rfl ?_
    refine g_11_6 F kz_0 in_11 (mc bw_2_9) dX11_worst_18 ?_
    refine g_3_2 F kz_29 in_3 (mc bw_28_22) dX11_worst_21 ?_
    refine x_iconst (1 : Int32) F dX11_worst_24 (by decide) ?_
    refine x_callV_i F (c_X0_mostLoaded (xl X) (xg X) (xA X) F.2.2.1 (mo_kd _) h) (bw_V bw_32_5 bw_21_21 bw_21_22 bw_5_8 bw_21_23) rfl cd_X0_mostLoaded (Nat.le_of_ble_eq_true rfl) (Nat.le_of_ble_eq_true rfl) (kd_w (by decide) kz_41) rfl (cl_0 kz_41) rfl rfl (Nat.le_of_ble_eq_true rfl) dX11_worst_25 (fun r6 s5 h => ?_)
    exact hret _ _ _ _ h rfl dX11_worst_28
  · replace h := h.2 c
    refine x_iconst (-1 : Int32) F dX11_worst_7 (by decide) ?_
    exact hret _ _ _ _ h rfl dX11_worst_8
/-! X11_putUneven -/
abbrev wvX11_putUneven : List Cond := Cond.code yX11_putUneven cX11_putUneven 8 none :: wsL_law
theorem cd_X11_putUneven : okN yX11_putUneven RX11 1 := by unfold okN; decide +kernel
def b_X11_putUneven_44   (Q : wS → Prop)  (σ : wS) : Prop := w_X2_put 46 (0 : Int64) (1 : Int64) σ (fun s1 => Q s1)
set_option maxRecDepth 100000 in
set_option maxHeartbeats 4000000 in
theorem wb_X11_putUneven_44 {X : XT} {Q : wS → Prop}  (F : Fx X cX11_putUneven 8 RX11 wvX11_putUneven 2 66) (hret : Rv X 8 cX11_putUneven Q)     (σ : wS) (h : b_X11_putUneven_44   Q  σ) : Wx X 8 σ 44 [(0, .ref (ad X 0))] [] := by
  unfold b_X11_putUneven_44 at h
  refine x_aload_n F dX11_putUneven_44 rfl 0 rfl ?_
  refine g_11_9 F kz_0 in_11 (mc bw_2_18) dX11_putUneven_45 ?_
  refine x_lconst (0 : Int64) F dX11_putUneven_48 (by decide) ?_
  refine x_lconst (1 : Int64) F dX11_putUneven_49 (by decide) ?_
  refine x_callV_v F (c_X2_put (xl X) (xg X) (xA X) F.2.2.1 kz_46 h) (bw_V bw_29_0 bw_29_1 bw_29_2 bw_2_17 bw_29_3) rfl cd_X2_put (Nat.le_of_ble_eq_true rfl) (Nat.le_of_ble_eq_true rfl) (kd_w (by decide) kz_46) rfl (cl_2 kz_46) rfl rfl (Nat.le_of_ble_eq_true rfl) dX11_putUneven_50 (fun s1 h => ?_)
  exact hret _ _ _ h dX11_putUneven_53
def w_X11_putUneven   (σ : wS) (Q : wS → Prop) : Prop := w_X0_mostLoaded (mo (σ.1 0 2)) (σ.1 29 2) (1 : Int32) σ (fun r2 s1 => w_X0_mostLoaded (mo (s1.1 0 2)) (s1.1 29 2) (-1 : Int32) s1 (fun r4 s3 => (r2 = (-1 : Int32) → (b_X11_putUneven_44   Q  s3)) ∧ (¬ r2 = (-1 : Int32) → ((¬ r4 = (-1 : Int32) → (vp_in r2 8 ∧ (∀ y5 : Int64, y5 = ((s3.1 ((mo (s3.1 0 2)) + 5) (r2).toNatClampNeg)).toInt64 → (vp_in r4 8 ∧ (∀ y6 : Int64, y6 = ((s3.1 ((mo (s3.1 0 2)) + 5) (r4).toNatClampNeg)).toInt64 → (vp_in r2 8 ∧ (vp_in r4 8 ∧ (w_X2_put 46 (((s3.2 45 (r2).toNatClampNeg) * y6) - ((s3.2 45 (r4).toNatClampNeg) * y5)) ((y5 * y6) * (s3.2 41 4)) s3 (fun s7 => Q s7))))))))) ∧ (r4 = (-1 : Int32) → (b_X11_putUneven_44   Q  s3))))))
set_option maxRecDepth 100000 in
set_option maxHeartbeats 4000000 in
theorem c_X11_putUneven (l : Launch) (g : wG) (A : Nat → Prop) (hA : adO g A)    {σ : wS} {Q : wS → Prop} (h : w_X11_putUneven   σ Q) : Mv l yX11_putUneven wvX11_putUneven 2 66 g A [.ref (g.2.2 0), .ref (g.2.2 41)] σ Q := by
  refine mt_v (own := RX11) (lv := [(0, .ref (g.2.2 0)), (1, .ref (g.2.2 41))]) (by decide) rfl rfl hA (Nat.le_of_ble_eq_true rfl) rfl ?_
  intro X hl hg hAA F hret
  subst hl hg hAA
  unfold w_X11_putUneven at h
  refine x_aload_n F dX11_putUneven_0 rfl 1 rfl ?_
  refine x_aload_n F dX11_putUneven_1 rfl 0 rfl ?_
  refine g_11_2 F kz_0 in_11 (mc bw_2_1) dX11_putUneven_2 ?_
  refine x_aload_n F dX11_putUneven_5 rfl 0 rfl ?_
  refine g_11_6 F kz_0 in_11 (mc bw_2_9) dX11_putUneven_6 ?_
  refine g_3_2 F kz_29 in_3 (mc bw_28_22) dX11_putUneven_9 ?_
  refine x_iconst (1 : Int32) F dX11_putUneven_12 (by decide) ?_
  refine x_callV_i F (c_X0_mostLoaded (xl X) (xg X) (xA X) F.2.2.1 (mo_kd _) h) (bw_V bw_32_5 bw_21_21 bw_21_22 bw_5_8 bw_21_23) rfl cd_X0_mostLoaded (Nat.le_of_ble_eq_true rfl) (Nat.le_of_ble_eq_true rfl) (kd_w (by decide) kz_41) rfl (cl_0 kz_41) rfl rfl (Nat.le_of_ble_eq_true rfl) dX11_putUneven_13 (fun r2 s1 h => ?_)
  refine x_istore_n (lv' := [(2, .int r2), (0, .ref (ad X 0)), (1, .ref (ad X 41))]) F dX11_putUneven_16 rfl (by decide) rfl ?_
  refine x_aload_n F dX11_putUneven_17 rfl 2 rfl ?_
  refine x_aload_n F dX11_putUneven_18 rfl 1 rfl ?_
  refine g_11_2 F kz_0 in_11 (mc bw_2_1) dX11_putUneven_19 ?_
  refine x_aload_n F dX11_putUneven_22 rfl 1 rfl ?_
  refine g_11_6 F kz_0 in_11 (mc bw_2_9) dX11_putUneven_23 ?_
  refine g_3_2 F kz_29 in_3 (mc bw_28_22) dX11_putUneven_26 ?_
  refine x_iconst (-1 : Int32) F dX11_putUneven_29 (by decide) ?_
  refine x_callV_i F (c_X0_mostLoaded (xl X) (xg X) (xA X) F.2.2.1 (mo_kd _) h) (bw_V bw_32_5 bw_21_21 bw_21_22 bw_5_8 bw_21_23) rfl cd_X0_mostLoaded (Nat.le_of_ble_eq_true rfl) (Nat.le_of_ble_eq_true rfl) (kd_w (by decide) kz_41) rfl (cl_0 kz_41) rfl rfl (Nat.le_of_ble_eq_true rfl) dX11_putUneven_30 (fun r4 s3 h => ?_)
  refine x_istore_n (lv' := [(3, .int r4), (2, .int r2), (0, .ref (ad X 0)), (1, .ref (ad X 41))]) F dX11_putUneven_33 rfl (by decide) rfl ?_
  refine x_iload_n F dX11_putUneven_34 rfl 1 rfl ?_
  refine x_iconst (-1 : Int32) F dX11_putUneven_35 (by decide) ?_
  refine x_icmp_eq (tgt := 44) F dX11_putUneven_36 (by decide) (fun c => ?_) (fun c => ?_)
  · replace h := h.1 c
    refine x_sub (lv' := [(0, .ref (ad X 0))]) [2] rfl ?_
    exact wb_X11_putUneven_44 F hret    _ h
  · replace h := h.2 c
    refine x_iload_n F dX11_putUneven_39 rfl 0 rfl ?_
    refine x_iconst (-1 : Int32) F dX11_putUneven_40 (by decide) ?_
    refine x_icmp_ne (tgt := 54) F dX11_putUneven_41 (by decide) (fun c => ?_) (fun c => ?_)
    · replace h := h.1 c
      refine x_aload_n F dX11_putUneven_54 rfl 2 rfl ?_
      refine g_11_2 F kz_0 in_11 (mc bw_2_1) dX11_putUneven_55 ?_
      refine g_5_4 F (mo_kd _) in_5 (mc bw_27_1) dX11_putUneven_58 ?_
      refine x_iload_n F dX11_putUneven_61 rfl 1 rfl ?_
      obtain ⟨hj, h⟩ := h
      refine x_iald F (ky_5_4 (mo_kd _)) (kn_5_4 (mo_kd _)) hj dX11_putUneven_62 ?_
      refine x_i2l F dX11_putUneven_63 ?_
      refine x_topl (fun y5 ey5 => ?_)
      replace h := h y5 ey5
      refine x_lstore (lv' := [(4, .long y5), (3, .int r4), (2, .int r2), (0, .ref (ad X 0)), (1, .ref (ad X 41))]) F dX11_putUneven_64 (by decide) rfl ?_
      refine x_aload_n F dX11_putUneven_66 rfl 3 rfl ?_
      refine g_11_2 F kz_0 in_11 (mc bw_2_1) dX11_putUneven_67 ?_
      refine g_5_4 F (mo_kd _) in_5 (mc bw_27_1) dX11_putUneven_70 ?_
      refine x_iload_n F dX11_putUneven_73 rfl 1 rfl ?_
      obtain ⟨hj, h⟩ := h
      refine x_iald F (ky_5_4 (mo_kd _)) (kn_5_4 (mo_kd _)) hj dX11_putUneven_74 ?_
      refine x_i2l F dX11_putUneven_75 ?_
      refine x_topl (fun y6 ey6 => ?_)
      replace h := h y6 ey6
      refine x_lstore (lv' := [(6, .long y6), (4, .long y5), (3, .int r4), (2, .int r2), (0, .ref (ad X 0)), (1, .ref (ad X 41))]) F dX11_putUneven_76 (by decide) rfl ?_
      refine x_aload_n F dX11_putUneven_78 rfl 4 rfl ?_
      refine g_11_9 F kz_0 in_11 (mc bw_2_18) dX11_putUneven_79 ?_
      refine x_aload_n F dX11_putUneven_82 rfl 5 rfl ?_
      refine g_0_3 F kz_41 in_0 (mc bw_28_10) dX11_putUneven_83 ?_
      refine x_iload_n F dX11_putUneven_86 rfl 3 rfl ?_
      obtain ⟨hj, h⟩ := h
      refine x_lald F kz_45 nz_45 hj dX11_putUneven_87 ?_
      refine x_lload F dX11_putUneven_88 0 rfl ?_
      refine x_lmul F dX11_putUneven_90 ?_
      refine x_aload_n F dX11_putUneven_91 rfl 5 rfl ?_
      refine g_0_3 F kz_41 in_0 (mc bw_28_10) dX11_putUneven_92 ?_
      refine x_iload_n F dX11_putUneven_95 rfl 2 rfl ?_
      obtain ⟨hj, h⟩ := h
      refine x_lald F kz_45 nz_45 hj dX11_putUneven_96 ?_
      refine x_lload F dX11_putUneven_97 1 rfl ?_
      refine x_lmul F dX11_putUneven_99 ?_
      refine x_lsub F dX11_putUneven_100 ?_
      refine x_lload F dX11_putUneven_101 1 rfl ?_
      refine x_lload F dX11_putUneven_103 0 rfl ?_
      refine x_lmul F dX11_putUneven_105 ?_
      refine x_aload_n F dX11_putUneven_106 rfl 5 rfl ?_
      refine g_0_4 F kz_41 in_0 (mc bw_28_11) dX11_putUneven_107 ?_
      refine x_lmul F dX11_putUneven_110 ?_
      refine x_callV_v F (c_X2_put (xl X) (xg X) (xA X) F.2.2.1 kz_46 h) (bw_V bw_29_0 bw_29_1 bw_29_2 bw_2_17 bw_29_3) rfl cd_X2_put (Nat.le_of_ble_eq_true rfl) (Nat.le_of_ble_eq_true rfl) (kd_w (by decide) kz_46) rfl (cl_2 kz_46) rfl rfl (Nat.le_of_ble_eq_true rfl) dX11_putUneven_111 (fun s7 h => ?_)
      exact hret _ _ _ h dX11_putUneven_114
    · replace h := h.2 c
      refine x_sub (lv' := [(0, .ref (ad X 0))]) [2] rfl ?_
      exact wb_X11_putUneven_44 F hret    _ h
