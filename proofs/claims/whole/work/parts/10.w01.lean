/-! J7_fill_d0a16 -/
abbrev wvJ7_fill_d0a16 : List Cond := Cond.code yJ7_fill_d0a16 cJ7_fill_d0a16 5 none :: wsL_law
theorem cd_J7_fill_d0a16 : okN yJ7_fill_d0a16 RJ7 2 := by unfold okN; decide +kernel
def l_J7_fill_d0a16_6 (p0 : Nat)  (Q : wS → Prop) : Nat → Int64 → Int32 → Int32 → wS → Prop
  | 0, _, _, _, _ => False
  | n + 1, x1, x3, x4, σ => (x4 ≤ x3 → (Q σ)) ∧ (¬ x4 ≤ x3 → (vp_in x3 (ln p0) ∧ (∀ s1 : wS, s1 = upJ σ p0 (x3).toNatClampNeg x1 → (∀ y2 : Int32, y2 = (x3 + (1 : Int32)) → (l_J7_fill_d0a16_6 p0  Q n x1 y2 x4 s1)))))
set_option maxRecDepth 100000 in
set_option maxHeartbeats 4000000 in
theorem wl_J7_fill_d0a16_6 {X : XT} {Q : wS → Prop} {p0 : Nat} (F : Fx X cJ7_fill_d0a16 5 RJ7 wvJ7_fill_d0a16 0 0) (hret : Rv X 5 cJ7_fill_d0a16 Q) (k_p0 : kd p0 = 15)   : ∀ (n : Nat) (x1 : Int64) (x3 : Int32) (x4 : Int32) (σ : wS), l_J7_fill_d0a16_6 p0  Q n x1 x3 x4 σ → Wx X 5 σ 6 [(0, .ref (ad X p0)), (1, .long x1), (3, .int x3), (4, .int x4)] [] := by
  intro n
  induction n with
  | zero =>
    intros
    contradiction
  | succ n ih =>
    intro x1 x3 x4 σ h
    simp only [l_J7_fill_d0a16_6] at h
    refine x_iload_n F dJ7_fill_d0a16_6 rfl 2 rfl ?_
    refine x_iload F dJ7_fill_d0a16_7 3 rfl ?_
    refine x_icmp_ge (tgt := 22) F dJ7_fill_d0a16_9 (by decide) (fun c => ?_) (fun c => ?_)
    · replace h := h.1 c
      exact hret _ _ _ h dJ7_fill_d0a16_22
    · replace h := h.2 c
      refine x_aload_n F dJ7_fill_d0a16_12 rfl 0 rfl ?_
      refine x_iload_n F dJ7_fill_d0a16_13 rfl 2 rfl ?_
      refine x_lload_n F dJ7_fill_d0a16_14 rfl 1 rfl ?_
      obtain ⟨hz, h⟩ := h
      refine x_last F k_p0 rfl hz dJ7_fill_d0a16_15 ?_
      refine x_nmS (fun s1 es1 => ?_)
      replace h := h s1 es1
      obtain ⟨y2, ey2⟩ : ∃ y : Int32, y = (x3 + (1 : Int32)) := ⟨_, rfl⟩
      replace h := h y2 ey2
      refine x_iinc (q := 2) (v := y2) (lv' := [(3, .int y2), (0, .ref (ad X p0)), (1, .long x1), (4, .int x4)]) F dJ7_fill_d0a16_16 rfl (by rw [ey2]; rfl) (by decide) rfl ?_
      refine x_goto (tgt := 6) F dJ7_fill_d0a16_19 (by decide) ?_
      refine x_sub (lv' := [(0, .ref (ad X p0)), (1, .long x1), (3, .int y2), (4, .int x4)]) [1, 2, 0, 3] rfl ?_
      exact ih _ _ _ _ h
def w_J7_fill_d0a16 (p0 : Nat) (p1 : Int64) (σ : wS) (Q : wS → Prop) : Prop := ∀ y1 : Int32, y1 = (nI (ln p0)) → ((∃ m, l_J7_fill_d0a16_6 p0  Q m p1 (0 : Int32) y1 σ))
set_option maxRecDepth 100000 in
set_option maxHeartbeats 4000000 in
theorem c_J7_fill_d0a16 (l : Launch) (g : wG) (A : Nat → Prop) (hA : adO g A) {p0 : Nat} (k_p0 : kd p0 = 15) {p1 : Int64} {σ : wS} {Q : wS → Prop} (h : w_J7_fill_d0a16 p0 p1 σ Q) : Mv l yJ7_fill_d0a16 wvJ7_fill_d0a16 0 0 g A [.ref (g.2.2 p0), .long p1] σ Q := by
  refine mt_v (own := RJ7) (lv := [(0, .ref (g.2.2 p0)), (1, .long p1)]) (by decide) rfl rfl hA (Nat.le_of_ble_eq_true rfl) rfl ?_
  intro X hl hg hAA F hret
  subst hl hg hAA
  unfold w_J7_fill_d0a16 at h
  refine x_iconst (0 : Int32) F dJ7_fill_d0a16_0 (by decide) ?_
  refine x_istore_n (lv' := [(3, .int (0 : Int32)), (0, .ref (ad X p0)), (1, .long p1)]) F dJ7_fill_d0a16_1 rfl (by decide) rfl ?_
  refine x_aload_n F dJ7_fill_d0a16_2 rfl 1 rfl ?_
  refine x_alenL F k_p0 rfl dJ7_fill_d0a16_3 ?_
  refine x_topi (fun y1 ey1 => ?_)
  replace h := h y1 ey1
  refine x_istore (lv' := [(4, .int y1), (3, .int (0 : Int32)), (0, .ref (ad X p0)), (1, .long p1)]) F dJ7_fill_d0a16_4 (by decide) rfl ?_
  refine x_sub (lv' := [(0, .ref (ad X p0)), (1, .long p1), (3, .int (0 : Int32)), (4, .int y1)]) [2, 3, 1, 0] rfl ?_
  obtain ⟨n2, h⟩ := h
  exact wl_J7_fill_d0a16_6 F hret k_p0  n2 _ _ _ _ h
/-! X3_slackOf -/
abbrev wvX3_slackOf : List Cond := Cond.code yX3_slackOf cX3_slackOf 2 (some .int) :: wsL_law
theorem cd_X3_slackOf : okN yX3_slackOf RX3 1 := by unfold okN; decide +kernel
def w_X3_slackOf (i0 : Nat) (p0 : Nat)  (σ : wS) (Q : Int32 → wS → Prop) : Prop := Q ((((1 : Int32) <<< ((σ.1 p0 6) &&& 31)) - (1 : Int32)) &&& ((((σ.1 i0 2) ||| (σ.1 i0 3)) ||| (σ.1 i0 4)) ^^^ (-1 : Int32))) σ
set_option maxRecDepth 100000 in
set_option maxHeartbeats 4000000 in
theorem c_X3_slackOf (l : Launch) (g : wG) (A : Nat → Prop) (hA : adO g A) {i0 : Nat} {p0 : Nat} (k_i0 : kd i0 = 3) (k_p0 : kd p0 = 5)  {σ : wS} {Q : Int32 → wS → Prop} (h : w_X3_slackOf i0 p0  σ Q) : Mi l yX3_slackOf wvX3_slackOf 0 0 g A [.ref (g.2.2 i0), .ref (g.2.2 p0)] σ Q := by
  refine mt_i (own := RX3) (lv := [(0, .ref (g.2.2 i0)), (1, .ref (g.2.2 p0))]) (by decide) rfl rfl hA (Nat.le_of_ble_eq_true rfl) rfl ?_
  intro X hl hg hAA F hret
  subst hl hg hAA
  unfold w_X3_slackOf at h
  refine x_iconst (1 : Int32) F dX3_slackOf_0 (by decide) ?_
  refine x_aload_n F dX3_slackOf_1 rfl 1 rfl ?_
  refine g_5_6 F k_p0 in_5 (mc bw_19_7) dX3_slackOf_2 ?_
  refine x_ishl F dX3_slackOf_5 ?_
  refine x_iconst (1 : Int32) F dX3_slackOf_6 (by decide) ?_
  refine x_isub F dX3_slackOf_7 ?_
  refine x_aload_n F dX3_slackOf_8 rfl 0 rfl ?_
  refine g_3_2 F k_i0 in_3 (mc bw_4_21) dX3_slackOf_9 ?_
  refine x_aload_n F dX3_slackOf_12 rfl 0 rfl ?_
  refine g_3_3 F k_i0 in_3 (mc bw_4_22) dX3_slackOf_13 ?_
  refine x_ior F dX3_slackOf_16 ?_
  refine x_aload_n F dX3_slackOf_17 rfl 0 rfl ?_
  refine g_3_4 F k_i0 in_3 (mc bw_4_23) dX3_slackOf_18 ?_
  refine x_ior F dX3_slackOf_21 ?_
  refine x_iconst (-1 : Int32) F dX3_slackOf_22 (by decide) ?_
  refine x_ixor F dX3_slackOf_23 ?_
  refine x_iand F dX3_slackOf_24 ?_
  exact hret _ _ _ _ h rfl dX3_slackOf_25
/-! X1_nextSet -/
abbrev wvX1_nextSet : List Cond := Cond.code yX1_nextSet cX1_nextSet 5 (some .int) :: wsL_law
theorem cd_X1_nextSet : okN yX1_nextSet RX1 2 := by unfold okN; decide +kernel
def b_X1_nextSet_89 (p0 : Nat) (p1 : Nat)  (Q : Int32 → wS → Prop)  (σ : wS) : Prop := Q (σ.1 p1 2) σ
set_option maxRecDepth 100000 in
set_option maxHeartbeats 4000000 in
theorem wb_X1_nextSet_89 {X : XT} {Q : Int32 → wS → Prop} {p0 : Nat} {p1 : Nat} (F : Fx X cX1_nextSet 5 RX1 wvX1_nextSet 1 24) (hret : Ri X 5 cX1_nextSet .int Q) (k_p0 : kd p0 = 5) (k_p1 : kd p1 = 3)    (σ : wS) (h : b_X1_nextSet_89 p0 p1  Q  σ) : Wx X 5 σ 89 [(2, .ref (ad X p1))] [] := by
  unfold b_X1_nextSet_89 at h
  refine x_aload_n F dX1_nextSet_89 rfl 0 rfl ?_
  refine g_3_2 F k_p1 in_3 (mc bw_19_15) dX1_nextSet_90 ?_
  exact hret _ _ _ _ h rfl dX1_nextSet_93
def b_X1_nextSet_43 (p0 : Nat) (p1 : Nat)  (Q : Int32 → wS → Prop)  (σ : wS) : Prop := w_X3_slackOf p1 p0 σ (fun r2 s1 => w_X0_mostPulled r2 (1 : Int32) s1 (fun r4 s3 => (r4 = (-1 : Int32) → (b_X1_nextSet_89 p0 p1  Q  s3)) ∧ (¬ r4 = (-1 : Int32) → (vp_in r4 8 ∧ (((lg_cmp (s3.2 45 (r4).toNatClampNeg) (0 : Int64)) ≤ 0 → (b_X1_nextSet_89 p0 p1  Q  s3)) ∧ (¬ (lg_cmp (s3.2 45 (r4).toNatClampNeg) (0 : Int64)) ≤ 0 → (Q ((s3.1 p1 2) ||| ((1 : Int32) <<< (r4 &&& 31))) s3)))))))
set_option maxRecDepth 100000 in
set_option maxHeartbeats 4000000 in
theorem wb_X1_nextSet_43 {X : XT} {Q : Int32 → wS → Prop} {p0 : Nat} {p1 : Nat} (F : Fx X cX1_nextSet 5 RX1 wvX1_nextSet 1 24) (hret : Ri X 5 cX1_nextSet .int Q) (k_p0 : kd p0 = 5) (k_p1 : kd p1 = 3)    (σ : wS) (h : b_X1_nextSet_43 p0 p1  Q  σ) : Wx X 5 σ 43 [(0, .ref (ad X 38)), (1, .ref (ad X p0)), (2, .ref (ad X p1))] [] := by
  unfold b_X1_nextSet_43 at h
  refine x_aload_n F dX1_nextSet_43 rfl 0 rfl ?_
  refine g_1_0 F kz_38 in_1 (mc bw_5_9) dX1_nextSet_44 ?_
  refine x_aload_n F dX1_nextSet_47 rfl 2 rfl ?_
  refine x_aload_n F dX1_nextSet_48 rfl 1 rfl ?_
  refine x_callV_i F (c_X3_slackOf (xl X) (xg X) (xA X) F.2.2.1 k_p1 k_p0 h) (bw_V bw_21_9 bw_21_10 bw_21_11 bw_2_8 bw_21_12) rfl cd_X3_slackOf (Nat.le_of_ble_eq_true rfl) (Nat.le_of_ble_eq_true rfl) (kd_w (by decide) k_p1) rfl (cl_3 k_p1) rfl rfl (Nat.le_of_ble_eq_true rfl) dX1_nextSet_49 (fun r2 s1 h => ?_)
  refine x_iconst (1 : Int32) F dX1_nextSet_52 (by decide) ?_
  refine x_callV_i F (c_X0_mostPulled (xl X) (xg X) (xA X) F.2.2.1  h) (bw_V bw_21_5 bw_21_6 bw_21_7 bw_5_8 bw_21_8) rfl cd_X0_mostPulled (Nat.le_of_ble_eq_true rfl) (Nat.le_of_ble_eq_true rfl) (kd_w (by decide) kz_41) rfl (cl_0 kz_41) rfl rfl (Nat.le_of_ble_eq_true rfl) dX1_nextSet_53 (fun r4 s3 h => ?_)
  refine x_istore (lv' := [(4, .int r4), (0, .ref (ad X 38)), (1, .ref (ad X p0)), (2, .ref (ad X p1))]) F dX1_nextSet_56 (by decide) rfl ?_
  refine x_iload F dX1_nextSet_58 0 rfl ?_
  refine x_iconst (-1 : Int32) F dX1_nextSet_60 (by decide) ?_
  refine x_icmp_eq (tgt := 89) F dX1_nextSet_61 (by decide) (fun c => ?_) (fun c => ?_)
  · replace h := h.1 c
    refine x_sub (lv' := [(2, .ref (ad X p1))]) [3] rfl ?_
    exact wb_X1_nextSet_89 F hret k_p0 k_p1   _ h
  · replace h := h.2 c
    refine x_aload_n F dX1_nextSet_64 rfl 1 rfl ?_
    refine g_1_0 F kz_38 in_1 (mc bw_5_9) dX1_nextSet_65 ?_
    refine g_0_3 F kz_41 in_0 (mc bw_21_4) dX1_nextSet_68 ?_
    refine x_iload F dX1_nextSet_71 0 rfl ?_
    obtain ⟨hj, h⟩ := h
    refine x_lald F kz_45 nz_45 hj dX1_nextSet_73 ?_
    refine x_lconst (0 : Int64) F dX1_nextSet_74 (by decide) ?_
    refine x_lcmp F dX1_nextSet_75 ?_
    refine x_if_le (tgt := 89) F dX1_nextSet_76 (by decide) (fun c => ?_) (fun c => ?_)
    · replace h := h.1 c
      refine x_sub (lv' := [(2, .ref (ad X p1))]) [3] rfl ?_
      exact wb_X1_nextSet_89 F hret k_p0 k_p1   _ h
    · replace h := h.2 c
      refine x_aload_n F dX1_nextSet_79 rfl 3 rfl ?_
      refine g_3_2 F k_p1 in_3 (mc bw_19_15) dX1_nextSet_80 ?_
      refine x_iconst (1 : Int32) F dX1_nextSet_83 (by decide) ?_
      refine x_iload F dX1_nextSet_84 0 rfl ?_
      refine x_ishl F dX1_nextSet_86 ?_
      refine x_ior F dX1_nextSet_87 ?_
      exact hret _ _ _ _ h rfl dX1_nextSet_88
def w_X1_nextSet (p0 : Nat) (p1 : Nat)  (σ : wS) (Q : Int32 → wS → Prop) : Prop := w_X0_mostPulled (σ.1 p1 2) (-1 : Int32) σ (fun r2 s1 => (r2 = (-1 : Int32) → (b_X1_nextSet_43 p0 p1  Q  s1)) ∧ (¬ r2 = (-1 : Int32) → (vp_in r2 8 ∧ ((0 ≤ (lg_cmp (s1.2 45 (r2).toNatClampNeg) (0 : Int64)) → (b_X1_nextSet_43 p0 p1  Q  s1)) ∧ (¬ 0 ≤ (lg_cmp (s1.2 45 (r2).toNatClampNeg) (0 : Int64)) → (Q ((s1.1 p1 2) &&& (((1 : Int32) <<< (r2 &&& 31)) ^^^ (-1 : Int32))) s1))))))
set_option maxRecDepth 100000 in
set_option maxHeartbeats 4000000 in
theorem c_X1_nextSet (l : Launch) (g : wG) (A : Nat → Prop) (hA : adO g A) {p0 : Nat} {p1 : Nat} (k_p0 : kd p0 = 5) (k_p1 : kd p1 = 3)  {σ : wS} {Q : Int32 → wS → Prop} (h : w_X1_nextSet p0 p1  σ Q) : Mi l yX1_nextSet wvX1_nextSet 1 24 g A [.ref (g.2.2 38), .ref (g.2.2 p0), .ref (g.2.2 p1)] σ Q := by
  refine mt_i (own := RX1) (lv := [(0, .ref (g.2.2 38)), (1, .ref (g.2.2 p0)), (2, .ref (g.2.2 p1))]) (by decide) rfl rfl hA (Nat.le_of_ble_eq_true rfl) rfl ?_
  intro X hl hg hAA F hret
  subst hl hg hAA
  unfold w_X1_nextSet at h
  refine x_aload_n F dX1_nextSet_0 rfl 0 rfl ?_
  refine g_1_0 F kz_38 in_1 (mc bw_5_9) dX1_nextSet_1 ?_
  refine x_aload_n F dX1_nextSet_4 rfl 2 rfl ?_
  refine g_3_2 F k_p1 in_3 (mc bw_19_15) dX1_nextSet_5 ?_
  refine x_iconst (-1 : Int32) F dX1_nextSet_8 (by decide) ?_
  refine x_callV_i F (c_X0_mostPulled (xl X) (xg X) (xA X) F.2.2.1  h) (bw_V bw_21_5 bw_21_6 bw_21_7 bw_5_8 bw_21_8) rfl cd_X0_mostPulled (Nat.le_of_ble_eq_true rfl) (Nat.le_of_ble_eq_true rfl) (kd_w (by decide) kz_41) rfl (cl_0 kz_41) rfl rfl (Nat.le_of_ble_eq_true rfl) dX1_nextSet_9 (fun r2 s1 h => ?_)
  refine x_istore_n (lv' := [(3, .int r2), (0, .ref (ad X 38)), (1, .ref (ad X p0)), (2, .ref (ad X p1))]) F dX1_nextSet_12 rfl (by decide) rfl ?_
  refine x_iload_n F dX1_nextSet_13 rfl 0 rfl ?_
  refine x_iconst (-1 : Int32) F dX1_nextSet_14 (by decide) ?_
  refine x_icmp_eq (tgt := 43) F dX1_nextSet_15 (by decide) (fun c => ?_) (fun c => ?_)
  · replace h := h.1 c
    refine x_sub (lv' := [(0, .ref (ad X 38)), (1, .ref (ad X p0)), (2, .ref (ad X p1))]) [1, 2, 3] rfl ?_
    exact wb_X1_nextSet_43 F hret k_p0 k_p1   _ h
  · replace h := h.2 c
    refine x_aload_n F dX1_nextSet_18 rfl 1 rfl ?_
    refine g_1_0 F kz_38 in_1 (mc bw_5_9) dX1_nextSet_19 ?_
    refine g_0_3 F kz_41 in_0 (mc bw_21_4) dX1_nextSet_22 ?_
    refine x_iload_n F dX1_nextSet_25 rfl 0 rfl ?_
    obtain ⟨hj, h⟩ := h
    refine x_lald F kz_45 nz_45 hj dX1_nextSet_26 ?_
    refine x_lconst (0 : Int64) F dX1_nextSet_27 (by decide) ?_
    refine x_lcmp F dX1_nextSet_28 ?_
    refine x_if_ge (tgt := 43) F dX1_nextSet_29 (by decide) (fun c => ?_) (fun c => ?_)
    · replace h := h.1 c
      refine x_sub (lv' := [(0, .ref (ad X 38)), (1, .ref (ad X p0)), (2, .ref (ad X p1))]) [1, 2, 3] rfl ?_
      exact wb_X1_nextSet_43 F hret k_p0 k_p1   _ h
    · replace h := h.2 c
      refine x_aload_n F dX1_nextSet_32 rfl 3 rfl ?_
      refine g_3_2 F k_p1 in_3 (mc bw_19_15) dX1_nextSet_33 ?_
      refine x_iconst (1 : Int32) F dX1_nextSet_36 (by decide) ?_
      refine x_iload_n F dX1_nextSet_37 rfl 0 rfl ?_
      refine x_ishl F dX1_nextSet_38 ?_
      refine x_iconst (-1 : Int32) F dX1_nextSet_39 (by decide) ?_
      refine x_ixor F dX1_nextSet_40 ?_
      refine x_iand F dX1_nextSet_41 ?_
      exact hret _ _ _ _ h rfl dX1_nextSet_42
/-! X1_breakWorst -/
abbrev wvX1_breakWorst : List Cond := Cond.code yX1_breakWorst cX1_breakWorst 4 (some .boolean) :: wsL_law
theorem cd_X1_breakWorst : okN yX1_breakWorst RX1 2 := by unfold okN; decide +kernel
def w_X1_breakWorst (p0 : Nat) (p1 : Nat)  (σ : wS) (Q : Int32 → wS → Prop) : Prop := w_X0_mostLoaded p0 (σ.1 p1 2) (1 : Int32) σ (fun r2 s1 => (r2 = (-1 : Int32) → (Q (0 : Int32) s1)) ∧ (¬ r2 = (-1 : Int32) → (((8 : Int32) ≤ (s1.1 38 4) → (Q (0 : Int32) s1)) ∧ (¬ (8 : Int32) ≤ (s1.1 38 4) → (vp_in r2 8 ∧ (vp_in r2 8 ∧ ((0 < (lg_cmp (s1.2 45 (r2).toNatClampNeg) (((s1.1 (p0 + 5) (r2).toNatClampNeg)).toInt64 * (s1.2 41 4))) → (∀ s3 : wS, s3 = upI s1 p1 2 ((s1.1 p1 2) &&& (((1 : Int32) <<< (r2 &&& 31)) ^^^ (-1 : Int32))) → (∀ s4 : wS, s4 = upI s3 p1 3 ((s3.1 p1 3) ||| ((1 : Int32) <<< (r2 &&& 31))) → (∀ s5 : wS, s5 = upI s4 38 3 ((s4.1 38 3) ||| ((1 : Int32) <<< (r2 &&& 31))) → (vp_in (s5.1 38 4) 8 ∧ (∀ s6 : wS, s6 = upI s5 39 ((s5.1 38 4)).toNatClampNeg r2 → (∀ s7 : wS, s7 = upI s6 38 4 ((s6.1 38 4) + (1 : Int32)) → (w_J7_fill_d0a16 40 (0 : Int64) s7 (fun s8 => Q (1 : Int32) s8))))))))) ∧ (¬ 0 < (lg_cmp (s1.2 45 (r2).toNatClampNeg) (((s1.1 (p0 + 5) (r2).toNatClampNeg)).toInt64 * (s1.2 41 4))) → (Q (0 : Int32) s1)))))))))
set_option maxRecDepth 100000 in
set_option maxHeartbeats 4000000 in
theorem c_X1_breakWorst (l : Launch) (g : wG) (A : Nat → Prop) (hA : adO g A) {p0 : Nat} {p1 : Nat} (k_p0 : kd p0 = 5) (k_p1 : kd p1 = 3)  {σ : wS} {Q : Int32 → wS → Prop} (h : w_X1_breakWorst p0 p1  σ Q) : Mi l yX1_breakWorst wvX1_breakWorst 1 25 g A [.ref (g.2.2 38), .ref (g.2.2 p0), .ref (g.2.2 p1)] σ Q := by
  refine mt_i (own := RX1) (lv := [(0, .ref (g.2.2 38)), (1, .ref (g.2.2 p0)), (2, .ref (g.2.2 p1))]) (by decide) rfl rfl hA (Nat.le_of_ble_eq_true rfl) rfl ?_
  intro X hl hg hAA F hret
  subst hl hg hAA
  unfold w_X1_breakWorst at h
  refine x_aload_n F dX1_breakWorst_0 rfl 0 rfl ?_
  refine g_1_0 F kz_38 in_1 (mc bw_5_9) dX1_breakWorst_1 ?_
  refine x_aload_n F dX1_breakWorst_4 rfl 1 rfl ?_
  refine x_aload_n F dX1_breakWorst_5 rfl 2 rfl ?_
  refine g_3_2 F k_p1 in_3 (mc bw_19_15) dX1_breakWorst_6 ?_
  refine x_iconst (1 : Int32) F dX1_breakWorst_9 (by decide) ?_
  refine x_callV_i F (c_X0_mostLoaded (xl X) (xg X) (xA X) F.2.2.1 k_p0 h) (bw_V bw_21_20 bw_21_21 bw_21_22 bw_5_8 bw_21_23) rfl cd_X0_mostLoaded (Nat.le_of_ble_eq_true rfl) (Nat.le_of_ble_eq_true rfl) (kd_w (by decide) kz_41) rfl (cl_0 kz_41) rfl rfl (Nat.le_of_ble_eq_true rfl) dX1_breakWorst_10 (fun r2 s1 h => ?_)
  refine x_istore_n (lv' := [(3, .int r2), (0, .ref (ad X 38)), (1, .ref (ad X p0)), (2, .ref (ad X p1))]) F dX1_breakWorst_13 rfl (by decide) rfl ?_
  refine x_iload_n F dX1_breakWorst_14 rfl 0 rfl ?_
  refine x_iconst (-1 : Int32) F dX1_breakWorst_15 (by decide) ?_
  refine x_icmp_eq (tgt := 56) F dX1_breakWorst_16 (by decide) (fun c => ?_) (fun c => ?_)
  · replace h := h.1 c
    refine x_iconst (0 : Int32) F dX1_breakWorst_56 (by decide) ?_
    exact hret _ _ _ _ h (nar01 (by decide)) dX1_breakWorst_57
  · replace h := h.2 c
    refine x_aload_n F dX1_breakWorst_19 rfl 1 rfl ?_
    refine g_1_4 F kz_38 in_1 (mc bw_5_13) dX1_breakWorst_20 ?_
    refine x_bipush (8 : Int32) F dX1_breakWorst_23 (by decide) ?_
    refine x_icmp_ge (tgt := 56) F dX1_breakWorst_25 (by decide) (fun c => ?_) (fun c => ?_)
    · replace h := h.1 c
      refine x_iconst (0 : Int32) F dX1_breakWorst_56 (by decide) ?_
      exact hret _ _ _ _ h (nar01 (by decide)) dX1_breakWorst_57
    · replace h := h.2 c
      refine x_aload_n F dX1_breakWorst_28 rfl 1 rfl ?_
      refine g_1_0 F kz_38 in_1 (mc bw_5_9) dX1_breakWorst_29 ?_
      refine g_0_3 F kz_41 in_0 (mc bw_21_4) dX1_breakWorst_32 ?_
      refine x_iload_n F dX1_breakWorst_35 rfl 0 rfl ?_
      obtain ⟨hj, h⟩ := h
      refine x_lald F kz_45 nz_45 hj dX1_breakWorst_36 ?_
      refine x_aload_n F dX1_breakWorst_37 rfl 2 rfl ?_
      refine g_5_4 F k_p0 in_5 (mc bw_21_17) dX1_breakWorst_38 ?_
      refine x_iload_n F dX1_breakWorst_41 rfl 0 rfl ?_
      obtain ⟨hj, h⟩ := h
      refine x_iald F (ky_5_4 k_p0) (kn_5_4 k_p0) hj dX1_breakWorst_42 ?_
      refine x_i2l F dX1_breakWorst_43 ?_
      refine x_aload_n F dX1_breakWorst_44 rfl 1 rfl ?_
      refine g_1_0 F kz_38 in_1 (mc bw_5_9) dX1_breakWorst_45 ?_
      refine g_0_4 F kz_41 in_0 (mc bw_21_18) dX1_breakWorst_48 ?_
      refine x_lmul F dX1_breakWorst_51 ?_
      refine x_lcmp F dX1_breakWorst_52 ?_
      refine x_if_gt (tgt := 58) F dX1_breakWorst_53 (by decide) (fun c => ?_) (fun c => ?_)
      · replace h := h.1 c
        refine x_aload_n F dX1_breakWorst_58 rfl 3 rfl ?_
        refine x_dup F dX1_breakWorst_59 rfl ?_
        refine g_3_2 F k_p1 in_3 (mc bw_19_15) dX1_breakWorst_60 ?_
        refine x_iconst (1 : Int32) F dX1_breakWorst_63 (by decide) ?_
        refine x_iload_n F dX1_breakWorst_64 rfl 0 rfl ?_
        refine x_ishl F dX1_breakWorst_65 ?_
        refine x_iconst (-1 : Int32) F dX1_breakWorst_66 (by decide) ?_
        refine x_ixor F dX1_breakWorst_67 ?_
        refine x_iand F dX1_breakWorst_68 ?_
        refine q_3_2 F k_p1 in_3 (mc bw_19_15) dX1_breakWorst_69 ?_
        refine x_nmS (fun s3 es3 => ?_)
        replace h := h s3 es3
        refine x_aload_n F dX1_breakWorst_72 rfl 3 rfl ?_
        refine x_dup F dX1_breakWorst_73 rfl ?_
        refine g_3_3 F k_p1 in_3 (mc bw_21_19) dX1_breakWorst_74 ?_
        refine x_iconst (1 : Int32) F dX1_breakWorst_77 (by decide) ?_
        refine x_iload_n F dX1_breakWorst_78 rfl 0 rfl ?_
        refine x_ishl F dX1_breakWorst_79 ?_
        refine x_ior F dX1_breakWorst_80 ?_
        refine q_3_3 F k_p1 in_3 (mc bw_21_19) dX1_breakWorst_81 ?_
        refine x_nmS (fun s4 es4 => ?_)
        replace h := h s4 es4
        refine x_aload_n F dX1_breakWorst_84 rfl 1 rfl ?_
        refine x_dup F dX1_breakWorst_85 rfl ?_
        refine g_1_3 F kz_38 in_1 (mc bw_5_12) dX1_breakWorst_86 ?_
        refine x_iconst (1 : Int32) F dX1_breakWorst_89 (by decide) ?_
        refine x_iload_n F dX1_breakWorst_90 rfl 0 rfl ?_
        refine x_ishl F dX1_breakWorst_91 ?_
        refine x_ior F dX1_breakWorst_92 ?_
        refine q_1_3 F kz_38 in_1 (mc bw_5_12) dX1_breakWorst_93 ?_
        refine x_nmS (fun s5 es5 => ?_)
        replace h := h s5 es5
        refine x_aload_n F dX1_breakWorst_96 rfl 1 rfl ?_
        refine g_1_1 F kz_38 in_1 (mc bw_5_10) dX1_breakWorst_97 ?_
        refine x_aload_n F dX1_breakWorst_100 rfl 1 rfl ?_
        refine g_1_4 F kz_38 in_1 (mc bw_5_13) dX1_breakWorst_101 ?_
        refine x_iload_n F dX1_breakWorst_104 rfl 0 rfl ?_
        obtain ⟨hz, h⟩ := h
        refine x_iast F kz_39 nz_39 hz dX1_breakWorst_105 ?_
        refine x_nmS (fun s6 es6 => ?_)
        replace h := h s6 es6
        refine x_aload_n F dX1_breakWorst_106 rfl 1 rfl ?_
        refine x_dup F dX1_breakWorst_107 rfl ?_
        refine g_1_4 F kz_38 in_1 (mc bw_5_13) dX1_breakWorst_108 ?_
        refine x_iconst (1 : Int32) F dX1_breakWorst_111 (by decide) ?_
        refine x_iadd F dX1_breakWorst_112 ?_
        refine q_1_4 F kz_38 in_1 (mc bw_5_13) dX1_breakWorst_113 ?_
        refine x_nmS (fun s7 es7 => ?_)
        replace h := h s7 es7
        refine x_aload_n F dX1_breakWorst_116 rfl 1 rfl ?_
        refine g_1_2 F kz_38 in_1 (mc bw_5_11) dX1_breakWorst_117 ?_
        refine x_lconst (0 : Int64) F dX1_breakWorst_120 (by decide) ?_
        refine x_callT_v F (c_J7_fill_d0a16 (xl X) (xg X) (xA X) F.2.2.1 kz_40 h) (bw_S bw_19_18 bw_19_19 bw_19_20 bw_19_21) rfl cd_J7_fill_d0a16 (Nat.le_of_ble_eq_true rfl) (Nat.le_of_ble_eq_true rfl) rfl rfl (Nat.le_of_ble_eq_true rfl) dX1_breakWorst_121 (fun s8 h => ?_)
        refine x_iconst (1 : Int32) F dX1_breakWorst_124 (by decide) ?_
        exact hret _ _ _ _ h (nar01 (by decide)) dX1_breakWorst_125
      · replace h := h.2 c
        refine x_iconst (0 : Int32) F dX1_breakWorst_56 (by decide) ?_
        exact hret _ _ _ _ h (nar01 (by decide)) dX1_breakWorst_57
/-! X1_settle -/
abbrev wvX1_settle : List Cond := Cond.code yX1_settle cX1_settle 5 (some .int) :: wsL_law
theorem cd_X1_settle : okN yX1_settle RX1 2 := by unfold okN; decide +kernel
def b_X1_settle_153 (p0 : Nat) (p1 : Nat) (K20 : Int32 → wS → Prop) (Q : Int32 → wS → Prop) (x3 : Int32) (σ : wS) : Prop := ∀ y1 : Int32, y1 = (x3 + (1 : Int32)) → (K20 y1 σ)
set_option maxRecDepth 100000 in
set_option maxHeartbeats 4000000 in
theorem wb_X1_settle_153 {X : XT} {Q : Int32 → wS → Prop} {p0 : Nat} {p1 : Nat} (F : Fx X cX1_settle 5 RX1 wvX1_settle 2 51) (hret : Ri X 5 cX1_settle .int Q) (k_p0 : kd p0 = 5) (k_p1 : kd p1 = 3) {K20 : Int32 → wS → Prop} (hK20 : ∀ (x3 : Int32) (σ : wS), K20 x3 σ → Wx X 5 σ 20 [(0, .ref (ad X 38)), (1, .ref (ad X p0)), (2, .ref (ad X p1)), (3, .int x3)] []) (x3 : Int32) (σ : wS) (h : b_X1_settle_153 p0 p1 K20 Q x3 σ) : Wx X 5 σ 153 [(0, .ref (ad X 38)), (1, .ref (ad X p0)), (2, .ref (ad X p1)), (3, .int x3)] [] := by
  unfold b_X1_settle_153 at h
  obtain ⟨y1, ey1⟩ : ∃ y : Int32, y = (x3 + (1 : Int32)) := ⟨_, rfl⟩
  replace h := h y1 ey1
  refine x_iinc (q := 3) (v := y1) (lv' := [(3, .int y1), (0, .ref (ad X 38)), (1, .ref (ad X p0)), (2, .ref (ad X p1))]) F dX1_settle_153 rfl (by rw [ey1]; rfl) (by decide) rfl ?_
  refine x_goto (tgt := 20) F dX1_settle_156 (by decide) ?_
  refine x_sub (lv' := [(0, .ref (ad X 38)), (1, .ref (ad X p0)), (2, .ref (ad X p1)), (3, .int y1)]) [1, 2, 3, 0] rfl ?_
  exact hK20 _ _ h
def l_X1_settle_20 (p0 : Nat) (p1 : Nat)  (Q : Int32 → wS → Prop) : Nat → Int32 → wS → Prop
  | 0, _, _ => False
  | n + 1, x3, σ => ((4096 : Int32) < x3 → (Q (4 : Int32) σ)) ∧ (¬ (4096 : Int32) < x3 → (w_X0_solve p0 p1 (σ.1 p1 2) σ (fun r2 s1 => (¬ r2 = 0 → (vp_in (((s1.1 p1 2) >>> ((6 : Int32) &&& 31)) &&& (3 : Int32)) 4 ∧ (vp_in (((s1.1 p1 2) >>> ((6 : Int32) &&& 31)) &&& (3 : Int32)) 4 ∧ (∀ s3 : wS, s3 = upJ s1 40 ((((s1.1 p1 2) >>> ((6 : Int32) &&& 31)) &&& (3 : Int32))).toNatClampNeg ((s1.2 40 ((((s1.1 p1 2) >>> ((6 : Int32) &&& 31)) &&& (3 : Int32))).toNatClampNeg) ||| ((1 : Int64) <<< ((((s1.1 p1 2) &&& (63 : Int32))).toInt64 &&& 63))) → (w_X1_nextSet p0 p1 s3 (fun r5 s4 => (r5 = (s4.1 p1 2) → (w_X1_breakWorst p0 p1 s4 (fun r7 s6 => (¬ r7 = 0 → (b_X1_settle_153 p0 p1 (fun x3 σ => l_X1_settle_20 p0 p1  Q n x3 σ) Q x3 s6)) ∧ (r7 = 0 → (∀ s8 : wS, s8 = upI s6 p1 5 x3 → (∀ s9 : wS, s9 = upI s8 p1 6 ((s8.1 p1 6) + (s8.1 38 4)) → (Q (-1 : Int32) s9))))))) ∧ (¬ r5 = (s4.1 p1 2) → (vp_in ((r5 >>> ((6 : Int32) &&& 31)) &&& (3 : Int32)) 4 ∧ (((lg_cmp ((((s4.2 40 (((r5 >>> ((6 : Int32) &&& 31)) &&& (3 : Int32))).toNatClampNeg)).toUInt64 >>> (((r5 &&& (63 : Int32))).toInt64.toUInt64 &&& Int64.toUInt64 63)).toInt64 &&& (1 : Int64)) (0 : Int64)) = 0 → (∀ s10 : wS, s10 = upI s4 p1 2 r5 → (b_X1_settle_153 p0 p1 (fun x3 σ => l_X1_settle_20 p0 p1  Q n x3 σ) Q x3 s10))) ∧ (¬ (lg_cmp ((((s4.2 40 (((r5 >>> ((6 : Int32) &&& 31)) &&& (3 : Int32))).toNatClampNeg)).toUInt64 >>> (((r5 &&& (63 : Int32))).toInt64.toUInt64 &&& Int64.toUInt64 63)).toInt64 &&& (1 : Int64)) (0 : Int64)) = 0 → (Q (4 : Int32) s4))))))))))) ∧ (r2 = 0 → (Q (3 : Int32) s1)))))
set_option maxRecDepth 100000 in
set_option maxHeartbeats 4000000 in
theorem wl_X1_settle_20 {X : XT} {Q : Int32 → wS → Prop} {p0 : Nat} {p1 : Nat} (F : Fx X cX1_settle 5 RX1 wvX1_settle 2 51) (hret : Ri X 5 cX1_settle .int Q) (k_p0 : kd p0 = 5) (k_p1 : kd p1 = 3)   : ∀ (n : Nat) (x3 : Int32) (σ : wS), l_X1_settle_20 p0 p1  Q n x3 σ → Wx X 5 σ 20 [(0, .ref (ad X 38)), (1, .ref (ad X p0)), (2, .ref (ad X p1)), (3, .int x3)] [] := by
  intro n
  induction n with
  | zero =>
    intros
    contradiction
  | succ n ih =>
    intro x3 σ h
    simp only [l_X1_settle_20] at h
    refine x_iload_n F dX1_settle_20 rfl 3 rfl ?_
    refine x_sipush (4096 : Int32) F dX1_settle_21 (by decide) ?_
    refine x_icmp_gt (tgt := 159) F dX1_settle_24 (by decide) (fun c => ?_) (fun c => ?_)
    · replace h := h.1 c
      refine x_iconst (4 : Int32) F dX1_settle_159 (by decide) ?_
      exact hret _ _ _ _ h rfl dX1_settle_160
    · replace h := h.2 c
      refine x_aload_n F dX1_settle_27 rfl 0 rfl ?_
      refine g_1_0 F kz_38 in_1 (mc bw_5_9) dX1_settle_28 ?_
      refine x_aload_n F dX1_settle_31 rfl 1 rfl ?_
      refine x_aload_n F dX1_settle_32 rfl 2 rfl ?_
      refine x_aload_n F dX1_settle_33 rfl 2 rfl ?_
      refine g_3_2 F k_p1 in_3 (mc bw_19_15) dX1_settle_34 ?_
      refine x_callV_i F (c_X0_solve (xl X) (xg X) (xA X) F.2.2.1 k_p0 k_p1 h) (bw_V bw_19_22 bw_19_23 bw_20_0 bw_5_8 bw_20_1) rfl cd_X0_solve (Nat.le_of_ble_eq_true rfl) (Nat.le_of_ble_eq_true rfl) (kd_w (by decide) kz_41) rfl (cl_0 kz_41) rfl rfl (Nat.le_of_ble_eq_true rfl) dX1_settle_37 (fun r2 s1 h => ?_)
      refine x_if_ne (tgt := 45) F dX1_settle_40 (by decide) (fun c => ?_) (fun c => ?_)
      · replace h := h.1 c
        refine x_aload_n F dX1_settle_45 rfl 0 rfl ?_
        refine g_1_2 F kz_38 in_1 (mc bw_5_11) dX1_settle_46 ?_
        refine x_aload_n F dX1_settle_49 rfl 2 rfl ?_
        refine g_3_2 F k_p1 in_3 (mc bw_19_15) dX1_settle_50 ?_
        refine x_bipush (6 : Int32) F dX1_settle_53 (by decide) ?_
        refine x_ishr F dX1_settle_55 ?_
        refine x_iconst (3 : Int32) F dX1_settle_56 (by decide) ?_
        refine x_iand F dX1_settle_57 ?_
        refine x_dup2_11 F dX1_settle_58 rfl rfl ?_
        obtain ⟨hj, h⟩ := h
        refine x_lald F kz_40 nz_40 hj dX1_settle_59 ?_
        refine x_lconst (1 : Int64) F dX1_settle_60 (by decide) ?_
        refine x_aload_n F dX1_settle_61 rfl 2 rfl ?_
        refine g_3_2 F k_p1 in_3 (mc bw_19_15) dX1_settle_62 ?_
        refine x_bipush (63 : Int32) F dX1_settle_65 (by decide) ?_
        refine x_iand F dX1_settle_67 ?_
        refine x_lshl F dX1_settle_68 ?_
        refine x_lor F dX1_settle_69 ?_
        obtain ⟨hz, h⟩ := h
        refine x_last F kz_40 nz_40 hz dX1_settle_70 ?_
        refine x_nmS (fun s3 es3 => ?_)
        replace h := h s3 es3
        refine x_aload_n F dX1_settle_71 rfl 0 rfl ?_
        refine x_aload_n F dX1_settle_72 rfl 1 rfl ?_
        refine x_aload_n F dX1_settle_73 rfl 2 rfl ?_
        refine x_callV_i F (c_X1_nextSet (xl X) (xg X) (xA X) F.2.2.1 k_p0 k_p1 h) (bw_V bw_21_0 bw_21_1 bw_21_2 bw_2_13 bw_21_3) rfl cd_X1_nextSet (Nat.le_of_ble_eq_true rfl) (Nat.le_of_ble_eq_true rfl) (kd_w (by decide) kz_38) rfl (cl_1 kz_38) rfl rfl (Nat.le_of_ble_eq_true rfl) dX1_settle_74 (fun r5 s4 h => ?_)
        refine x_istore (lv' := [(4, .int r5), (0, .ref (ad X 38)), (1, .ref (ad X p0)), (2, .ref (ad X p1)), (3, .int x3)]) F dX1_settle_77 (by decide) rfl ?_
        refine x_iload F dX1_settle_79 0 rfl ?_
        refine x_aload_n F dX1_settle_81 rfl 3 rfl ?_
        refine g_3_2 F k_p1 in_3 (mc bw_19_15) dX1_settle_82 ?_
        refine x_icmp_eq (tgt := 124) F dX1_settle_85 (by decide) (fun c => ?_) (fun c => ?_)
        · replace h := h.1 c
          refine x_aload_n F dX1_settle_124 rfl 1 rfl ?_
          refine x_aload_n F dX1_settle_125 rfl 2 rfl ?_
          refine x_aload_n F dX1_settle_126 rfl 3 rfl ?_
          refine x_callV_i F (c_X1_breakWorst (xl X) (xg X) (xA X) F.2.2.1 k_p0 k_p1 h) (bw_V bw_21_13 bw_21_14 bw_21_15 bw_2_13 bw_21_16) rfl cd_X1_breakWorst (Nat.le_of_ble_eq_true rfl) (Nat.le_of_ble_eq_true rfl) (kd_w (by decide) kz_38) rfl (cl_1 kz_38) rfl rfl (Nat.le_of_ble_eq_true rfl) dX1_settle_127 (fun r7 s6 h => ?_)
          refine x_if_ne (tgt := 153) F dX1_settle_130 (by decide) (fun c => ?_) (fun c => ?_)
          · replace h := h.1 c
            refine x_sub (lv' := [(0, .ref (ad X 38)), (1, .ref (ad X p0)), (2, .ref (ad X p1)), (3, .int x3)]) [1, 2, 3, 4] rfl ?_
            exact wb_X1_settle_153 F hret k_p0 k_p1 ih _ _ h
          · replace h := h.2 c
            refine x_aload_n F dX1_settle_133 rfl 3 rfl ?_
            refine x_iload_n F dX1_settle_134 rfl 4 rfl ?_
            refine q_3_5 F k_p1 in_3 (mc bw_19_16) dX1_settle_135 ?_
            refine x_nmS (fun s8 es8 => ?_)
            replace h := h s8 es8
            refine x_aload_n F dX1_settle_138 rfl 3 rfl ?_
            refine x_dup F dX1_settle_139 rfl ?_
            refine g_3_6 F k_p1 in_3 (mc bw_19_17) dX1_settle_140 ?_
            refine x_aload_n F dX1_settle_143 rfl 1 rfl ?_
            refine g_1_4 F kz_38 in_1 (mc bw_5_13) dX1_settle_144 ?_
            refine x_iadd F dX1_settle_147 ?_
            refine q_3_6 F k_p1 in_3 (mc bw_19_17) dX1_settle_148 ?_
            refine x_nmS (fun s9 es9 => ?_)
            replace h := h s9 es9
            refine x_iconst (-1 : Int32) F dX1_settle_151 (by decide) ?_
            exact hret _ _ _ _ h rfl dX1_settle_152
        · replace h := h.2 c
          refine x_aload_n F dX1_settle_88 rfl 1 rfl ?_
          refine g_1_2 F kz_38 in_1 (mc bw_5_11) dX1_settle_89 ?_
          refine x_iload F dX1_settle_92 0 rfl ?_
          refine x_bipush (6 : Int32) F dX1_settle_94 (by decide) ?_
          refine x_ishr F dX1_settle_96 ?_
          refine x_iconst (3 : Int32) F dX1_settle_97 (by decide) ?_
          refine x_iand F dX1_settle_98 ?_
          obtain ⟨hj, h⟩ := h
          refine x_lald F kz_40 nz_40 hj dX1_settle_99 ?_
          refine x_iload F dX1_settle_100 0 rfl ?_
          refine x_bipush (63 : Int32) F dX1_settle_102 (by decide) ?_
          refine x_iand F dX1_settle_104 ?_
          refine x_lushr F dX1_settle_105 ?_
          refine x_lconst (1 : Int64) F dX1_settle_106 (by decide) ?_
          refine x_land F dX1_settle_107 ?_
          refine x_lconst (0 : Int64) F dX1_settle_108 (by decide) ?_
          refine x_lcmp F dX1_settle_109 ?_
          refine x_if_eq (tgt := 115) F dX1_settle_110 (by decide) (fun c => ?_) (fun c => ?_)
          · replace h := h.1 c
            refine x_aload_n F dX1_settle_115 rfl 3 rfl ?_
            refine x_iload F dX1_settle_116 0 rfl ?_
            refine q_3_2 F k_p1 in_3 (mc bw_19_15) dX1_settle_118 ?_
            refine x_nmS (fun s10 es10 => ?_)
            replace h := h s10 es10
            refine x_goto (tgt := 153) F dX1_settle_121 (by decide) ?_
            refine x_sub (lv' := [(0, .ref (ad X 38)), (1, .ref (ad X p0)), (2, .ref (ad X p1)), (3, .int x3)]) [1, 2, 3, 4] rfl ?_
            exact wb_X1_settle_153 F hret k_p0 k_p1 ih _ _ h
          · replace h := h.2 c
            refine x_iconst (4 : Int32) F dX1_settle_113 (by decide) ?_
            exact hret _ _ _ _ h rfl dX1_settle_114
      · replace h := h.2 c
        refine x_iconst (3 : Int32) F dX1_settle_43 (by decide) ?_
        exact hret _ _ _ _ h rfl dX1_settle_44
def w_X1_settle (p0 : Nat) (p1 : Nat)  (σ : wS) (Q : Int32 → wS → Prop) : Prop := ∀ s1 : wS, s1 = upI σ 38 3 (0 : Int32) → (∀ s2 : wS, s2 = upI s1 38 4 (0 : Int32) → (w_J7_fill_d0a16 40 (0 : Int64) s2 (fun s3 => (∃ m, l_X1_settle_20 p0 p1  Q m (1 : Int32) s3))))
set_option maxRecDepth 100000 in
set_option maxHeartbeats 4000000 in
theorem c_X1_settle (l : Launch) (g : wG) (A : Nat → Prop) (hA : adO g A) {p0 : Nat} {p1 : Nat} (k_p0 : kd p0 = 5) (k_p1 : kd p1 = 3)  {σ : wS} {Q : Int32 → wS → Prop} (h : w_X1_settle p0 p1  σ Q) : Mi l yX1_settle wvX1_settle 2 51 g A [.ref (g.2.2 38), .ref (g.2.2 p0), .ref (g.2.2 p1)] σ Q := by
  refine mt_i (own := RX1) (lv := [(0, .ref (g.2.2 38)), (1, .ref (g.2.2 p0)), (2, .ref (g.2.2 p1))]) (by decide) rfl rfl hA (Nat.le_of_ble_eq_true rfl) rfl ?_
  intro X hl hg hAA F hret
  subst hl hg hAA
  unfold w_X1_settle at h
  refine x_aload_n F dX1_settle_0 rfl 0 rfl ?_
  refine x_iconst (0 : Int32) F dX1_settle_1 (by decide) ?_
  refine q_1_3 F kz_38 in_1 (mc bw_5_12) dX1_settle_2 ?_
  refine x_nmS (fun s1 es1 => ?_)
  replace h := h s1 es1
  refine x_aload_n F dX1_settle_5 rfl 0 rfl ?_
  refine x_iconst (0 : Int32) F dX1_settle_6 (by decide) ?_
  refine q_1_4 F kz_38 in_1 (mc bw_5_13) dX1_settle_7 ?_
  refine x_nmS (fun s2 es2 => ?_)
  replace h := h s2 es2
  refine x_aload_n F dX1_settle_10 rfl 0 rfl ?_
  refine g_1_2 F kz_38 in_1 (mc bw_5_11) dX1_settle_11 ?_
  refine x_lconst (0 : Int64) F dX1_settle_14 (by decide) ?_
  refine x_callT_v F (c_J7_fill_d0a16 (xl X) (xg X) (xA X) F.2.2.1 kz_40 h) (bw_S bw_19_18 bw_19_19 bw_19_20 bw_19_21) rfl cd_J7_fill_d0a16 (Nat.le_of_ble_eq_true rfl) (Nat.le_of_ble_eq_true rfl) rfl rfl (Nat.le_of_ble_eq_true rfl) dX1_settle_15 (fun s3 h => ?_)
  refine x_iconst (1 : Int32) F dX1_settle_18 (by decide) ?_
  refine x_istore_n (lv' := [(3, .int (1 : Int32)), (0, .ref (ad X 38)), (1, .ref (ad X p0)), (2, .ref (ad X p1))]) F dX1_settle_19 rfl (by decide) rfl ?_
  refine x_sub (lv' := [(0, .ref (ad X 38)), (1, .ref (ad X p0)), (2, .ref (ad X p1)), (3, .int (1 : Int32))]) [1, 2, 3, 0] rfl ?_
  obtain ⟨n2, h⟩ := h
  exact wl_X1_settle_20 F hret k_p0 k_p1  n2 _ _ h
/-! X1_attempt -/
abbrev wvX1_attempt : List Cond := Cond.code yX1_attempt cX1_attempt 7 (some .int) :: wsL_law
theorem cd_X1_attempt : okN yX1_attempt RX1 6 := by unfold okN; decide +kernel
def b_X1_attempt_118 (p0 : Nat) (p1 : Nat)  (Q : Int32 → wS → Prop)  (σ : wS) : Prop := Q (σ.1 38 5) σ
set_option maxRecDepth 100000 in
set_option maxHeartbeats 4000000 in
theorem wb_X1_attempt_118 {X : XT} {Q : Int32 → wS → Prop} {p0 : Nat} {p1 : Nat} (F : Fx X cX1_attempt 7 RX1 wvX1_attempt 3 75) (hret : Ri X 7 cX1_attempt .int Q) (k_p0 : kd p0 = 5) (k_p1 : kd p1 = 3)    (σ : wS) (h : b_X1_attempt_118 p0 p1  Q  σ) : Wx X 7 σ 118 [(0, .ref (ad X 38))] [] := by
  unfold b_X1_attempt_118 at h
  refine x_aload_n F dX1_attempt_118 rfl 0 rfl ?_
  refine g_1_5 F kz_38 in_1 (mc bw_5_14) dX1_attempt_119 ?_
  exact hret _ _ _ _ h rfl dX1_attempt_122
def b_X1_attempt_100 (p0 : Nat) (p1 : Nat)  (Q : Int32 → wS → Prop)  (σ : wS) : Prop := (¬ (σ.1 38 5) = (-1 : Int32) → (b_X1_attempt_118 p0 p1  Q  σ)) ∧ ((σ.1 38 5) = (-1 : Int32) → (w_X1_settle p0 p1 σ (fun r2 s1 => ∀ s3 : wS, s3 = upI s1 38 5 r2 → (b_X1_attempt_118 p0 p1  Q  s3))))
set_option maxRecDepth 100000 in
set_option maxHeartbeats 4000000 in
theorem wb_X1_attempt_100 {X : XT} {Q : Int32 → wS → Prop} {p0 : Nat} {p1 : Nat} (F : Fx X cX1_attempt 7 RX1 wvX1_attempt 3 75) (hret : Ri X 7 cX1_attempt .int Q) (k_p0 : kd p0 = 5) (k_p1 : kd p1 = 3)    (σ : wS) (h : b_X1_attempt_100 p0 p1  Q  σ) : Wx X 7 σ 100 [(0, .ref (ad X 38)), (1, .ref (ad X p0)), (2, .ref (ad X p1))] [] := by
  unfold b_X1_attempt_100 at h
  refine x_aload_n F dX1_attempt_100 rfl 0 rfl ?_
  refine g_1_5 F kz_38 in_1 (mc bw_5_14) dX1_attempt_101 ?_
  refine x_iconst (-1 : Int32) F dX1_attempt_104 (by decide) ?_
  refine x_icmp_ne (tgt := 118) F dX1_attempt_105 (by decide) (fun c => ?_) (fun c => ?_)
  · replace h := h.1 c
    refine x_sub (lv' := [(0, .ref (ad X 38))]) [0] rfl ?_
    exact wb_X1_attempt_118 F hret k_p0 k_p1   _ h
  · replace h := h.2 c
    refine x_aload_n F dX1_attempt_108 rfl 0 rfl ?_
    refine x_aload_n F dX1_attempt_109 rfl 0 rfl ?_
    refine x_aload_n F dX1_attempt_110 rfl 1 rfl ?_
    refine x_aload_n F dX1_attempt_111 rfl 2 rfl ?_
    refine x_callV_i F (c_X1_settle (xl X) (xg X) (xA X) F.2.2.1 k_p0 k_p1 h) (bw_V bw_34_1 bw_19_12 bw_19_13 bw_2_13 bw_19_14) rfl cd_X1_settle (Nat.le_of_ble_eq_true rfl) (Nat.le_of_ble_eq_true rfl) (kd_w (by decide) kz_38) rfl (cl_1 kz_38) rfl rfl (Nat.le_of_ble_eq_true rfl) dX1_attempt_112 (fun r2 s1 h => ?_)
    refine q_1_5 F kz_38 in_1 (mc bw_5_14) dX1_attempt_115 ?_
    refine x_nmS (fun s3 es3 => ?_)
    replace h := h s3 es3
    refine x_sub (lv' := [(0, .ref (ad X 38))]) [0] rfl ?_
    exact wb_X1_attempt_118 F hret k_p0 k_p1   _ h
def b_X1_attempt_97 (p0 : Nat) (p1 : Nat)  (Q : Int32 → wS → Prop) (z0 : Int32) (σ : wS) : Prop := ∀ s1 : wS, s1 = upI σ 38 5 z0 → (b_X1_attempt_100 p0 p1  Q  s1)
set_option maxRecDepth 100000 in
set_option maxHeartbeats 4000000 in
theorem wb_X1_attempt_97 {X : XT} {Q : Int32 → wS → Prop} {p0 : Nat} {p1 : Nat} (F : Fx X cX1_attempt 7 RX1 wvX1_attempt 3 75) (hret : Ri X 7 cX1_attempt .int Q) (k_p0 : kd p0 = 5) (k_p1 : kd p1 = 3)   (z0 : Int32) (σ : wS) (h : b_X1_attempt_97 p0 p1  Q z0 σ) : Wx X 7 σ 97 [(0, .ref (ad X 38)), (1, .ref (ad X p0)), (2, .ref (ad X p1))] [.int z0, .ref (ad X 38)] := by
  unfold b_X1_attempt_97 at h
  refine q_1_5 F kz_38 in_1 (mc bw_5_14) dX1_attempt_97 ?_
  refine x_nmS (fun s1 es1 => ?_)
  replace h := h s1 es1
  refine x_sub (lv' := [(0, .ref (ad X 38)), (1, .ref (ad X p0)), (2, .ref (ad X p1))]) [0, 1, 2] rfl ?_
  exact wb_X1_attempt_100 F hret k_p0 k_p1   _ h
def b_X1_attempt_46 (p0 : Nat) (p1 : Nat)  (Q : Int32 → wS → Prop)  (σ : wS) : Prop := ∀ s1 : wS, s1 = upI σ 38 5 (0 : Int32) → (b_X1_attempt_100 p0 p1  Q  s1)
set_option maxRecDepth 100000 in
set_option maxHeartbeats 4000000 in
theorem wb_X1_attempt_46 {X : XT} {Q : Int32 → wS → Prop} {p0 : Nat} {p1 : Nat} (F : Fx X cX1_attempt 7 RX1 wvX1_attempt 3 75) (hret : Ri X 7 cX1_attempt .int Q) (k_p0 : kd p0 = 5) (k_p1 : kd p1 = 3)    (σ : wS) (h : b_X1_attempt_46 p0 p1  Q  σ) : Wx X 7 σ 46 [(0, .ref (ad X 38)), (1, .ref (ad X p0)), (2, .ref (ad X p1))] [] := by
  unfold b_X1_attempt_46 at h
  refine x_aload_n F dX1_attempt_46 rfl 0 rfl ?_
  refine x_iconst (0 : Int32) F dX1_attempt_47 (by decide) ?_
  refine q_1_5 F kz_38 in_1 (mc bw_5_14) dX1_attempt_48 ?_
  refine x_nmS (fun s1 es1 => ?_)
  replace h := h s1 es1
  refine x_goto (tgt := 100) F dX1_attempt_51 (by decide) ?_
  refine x_sub (lv' := [(0, .ref (ad X 38)), (1, .ref (ad X p0)), (2, .ref (ad X p1))]) [0, 1, 2] rfl ?_
  exact wb_X1_attempt_100 F hret k_p0 k_p1   _ h
def w_X1_attempt (p0 : Nat) (p1 : Nat) (p2 : Int32) (p3 : Int32) (p4 : Int32) (p5 : Int32) (σ : wS) (Q : Int32 → wS → Prop) : Prop := ∀ s1 : wS, s1 = upI σ 38 3 (0 : Int32) → (∀ s2 : wS, s2 = upI s1 38 4 (0 : Int32) → ((¬ p2 = 0 → ((p3 < 0 → (b_X1_attempt_46 p0 p1  Q  s2)) ∧ (¬ p3 < 0 → ((p3 < (s2.1 p0 6) → ((¬ p2 = (1 : Int32) → ((¬ p2 = (2 : Int32) → (w_X1_takeAgain p0 p1 p3 s2 (fun r4 s3 => b_X1_attempt_97 p0 p1  Q r4 s3))) ∧ (p2 = (2 : Int32) → (w_X1_castOff p1 p3 s2 (fun r6 s5 => b_X1_attempt_97 p0 p1  Q r6 s5))))) ∧ (p2 = (1 : Int32) → (w_X1_turn p0 p1 p3 p4 s2 (fun r8 s7 => ∀ s9 : wS, s9 = upI s7 38 5 r8 → (b_X1_attempt_100 p0 p1  Q  s9)))))) ∧ (¬ p3 < (s2.1 p0 6) → (b_X1_attempt_46 p0 p1  Q  s2)))))) ∧ (p2 = 0 → (w_X1_blow p0 p1 p3 p4 p5 s2 (fun r11 s10 => ∀ s12 : wS, s12 = upI s10 38 5 r11 → (b_X1_attempt_100 p0 p1  Q  s12))))))
set_option maxRecDepth 100000 in
set_option maxHeartbeats 4000000 in
theorem c_X1_attempt (l : Launch) (g : wG) (A : Nat → Prop) (hA : adO g A) {p0 : Nat} {p1 : Nat} (k_p0 : kd p0 = 5) (k_p1 : kd p1 = 3) {p2 : Int32} {p3 : Int32} {p4 : Int32} {p5 : Int32} {σ : wS} {Q : Int32 → wS → Prop} (h : w_X1_attempt p0 p1 p2 p3 p4 p5 σ Q) : Mi l yX1_attempt wvX1_attempt 3 75 g A [.ref (g.2.2 38), .ref (g.2.2 p0), .ref (g.2.2 p1), .int p2, .int p3, .int p4, .int p5] σ Q := by
  refine mt_i (own := RX1) (lv := [(0, .ref (g.2.2 38)), (1, .ref (g.2.2 p0)), (2, .ref (g.2.2 p1)), (3, .int p2), (4, .int p3), (5, .int p4), (6, .int p5)]) (by decide) rfl rfl hA (Nat.le_of_ble_eq_true rfl) rfl ?_
  intro X hl hg hAA F hret
  subst hl hg hAA
  unfold w_X1_attempt at h
  refine x_aload_n F dX1_attempt_0 rfl 0 rfl ?_
  refine x_iconst (0 : Int32) F dX1_attempt_1 (by decide) ?_
  refine q_1_3 F kz_38 in_1 (mc bw_5_12) dX1_attempt_2 ?_
  refine x_nmS (fun s1 es1 => ?_)
  replace h := h s1 es1
  refine x_aload_n F dX1_attempt_5 rfl 0 rfl ?_
  refine x_iconst (0 : Int32) F dX1_attempt_6 (by decide) ?_
  refine q_1_4 F kz_38 in_1 (mc bw_5_13) dX1_attempt_7 ?_
  refine x_nmS (fun s2 es2 => ?_)
  replace h := h s2 es2
  refine x_iload_n F dX1_attempt_10 rfl 3 rfl ?_
  refine x_if_ne (tgt := 32) F dX1_attempt_11 (by decide) (fun c => ?_) (fun c => ?_)
  · replace h := h.1 c
    refine x_iload F dX1_attempt_32 4 rfl ?_
    refine x_if_lt (tgt := 46) F dX1_attempt_34 (by decide) (fun c => ?_) (fun c => ?_)
    · replace h := h.1 c
      refine x_sub (lv' := [(0, .ref (ad X 38)), (1, .ref (ad X p0)), (2, .ref (ad X p1))]) [0, 1, 2] rfl ?_
      exact wb_X1_attempt_46 F hret k_p0 k_p1   _ h
    · replace h := h.2 c
      refine x_iload F dX1_attempt_37 4 rfl ?_
      refine x_aload_n F dX1_attempt_39 rfl 1 rfl ?_
      refine g_5_6 F k_p0 in_5 (mc bw_33_3) dX1_attempt_40 ?_
      refine x_icmp_lt (tgt := 54) F dX1_attempt_43 (by decide) (fun c => ?_) (fun c => ?_)
      · replace h := h.1 c
        refine x_iload_n F dX1_attempt_54 rfl 3 rfl ?_
        refine x_iconst (1 : Int32) F dX1_attempt_55 (by decide) ?_
        refine x_icmp_ne (tgt := 75) F dX1_attempt_56 (by decide) (fun c => ?_) (fun c => ?_)
        · replace h := h.1 c
          refine x_aload_n F dX1_attempt_75 rfl 0 rfl ?_
          refine x_iload_n F dX1_attempt_76 rfl 3 rfl ?_
          refine x_iconst (2 : Int32) F dX1_attempt_77 (by decide) ?_
          refine x_icmp_ne (tgt := 90) F dX1_attempt_78 (by decide) (fun c => ?_) (fun c => ?_)
          · replace h := h.1 c
            refine x_aload_n F dX1_attempt_90 rfl 1 rfl ?_
            refine x_aload_n F dX1_attempt_91 rfl 2 rfl ?_
            refine x_iload F dX1_attempt_92 4 rfl ?_
            refine x_callT_i F (c_X1_takeAgain (xl X) (xg X) (xA X) F.2.2.1 k_p0 k_p1 h) (bw_S bw_33_21 bw_33_22 bw_2_13 bw_33_23) rfl cd_X1_takeAgain (Nat.le_of_ble_eq_true rfl) (Nat.le_of_ble_eq_true rfl) rfl rfl (Nat.le_of_ble_eq_true rfl) dX1_attempt_94 (fun r4 s3 h => ?_)
            refine x_sub (lv' := [(0, .ref (ad X 38)), (1, .ref (ad X p0)), (2, .ref (ad X p1))]) [0, 1, 2] rfl ?_
            exact wb_X1_attempt_97 F hret k_p0 k_p1  _ _ h
          · replace h := h.2 c
            refine x_aload_n F dX1_attempt_81 rfl 2 rfl ?_
            refine x_iload F dX1_attempt_82 4 rfl ?_
            refine x_callT_i F (c_X1_castOff (xl X) (xg X) (xA X) F.2.2.1 k_p1 h) (bw_S bw_33_17 bw_33_18 bw_2_13 bw_33_19) rfl cd_X1_castOff (Nat.le_of_ble_eq_true rfl) (Nat.le_of_ble_eq_true rfl) rfl rfl (Nat.le_of_ble_eq_true rfl) dX1_attempt_84 (fun r6 s5 h => ?_)
            refine x_goto (tgt := 97) F dX1_attempt_87 (by decide) ?_
            refine x_sub (lv' := [(0, .ref (ad X 38)), (1, .ref (ad X p0)), (2, .ref (ad X p1))]) [0, 1, 2] rfl ?_
            exact wb_X1_attempt_97 F hret k_p0 k_p1  _ _ h
        · replace h := h.2 c
          refine x_aload_n F dX1_attempt_59 rfl 0 rfl ?_
          refine x_aload_n F dX1_attempt_60 rfl 1 rfl ?_
          refine x_aload_n F dX1_attempt_61 rfl 2 rfl ?_
          refine x_iload F dX1_attempt_62 4 rfl ?_
          refine x_iload F dX1_attempt_64 5 rfl ?_
          refine x_callT_i F (c_X1_turn (xl X) (xg X) (xA X) F.2.2.1 k_p0 k_p1 h) (bw_S bw_33_11 bw_33_12 bw_2_13 bw_33_13) rfl cd_X1_turn (Nat.le_of_ble_eq_true rfl) (Nat.le_of_ble_eq_true rfl) rfl rfl (Nat.le_of_ble_eq_true rfl) dX1_attempt_66 (fun r8 s7 h => ?_)
          refine q_1_5 F kz_38 in_1 (mc bw_5_14) dX1_attempt_69 ?_
          refine x_nmS (fun s9 es9 => ?_)
          replace h := h s9 es9
          refine x_goto (tgt := 100) F dX1_attempt_72 (by decide) ?_
          refine x_sub (lv' := [(0, .ref (ad X 38)), (1, .ref (ad X p0)), (2, .ref (ad X p1))]) [0, 1, 2] rfl ?_
          exact wb_X1_attempt_100 F hret k_p0 k_p1   _ h
      · replace h := h.2 c
        refine x_sub (lv' := [(0, .ref (ad X 38)), (1, .ref (ad X p0)), (2, .ref (ad X p1))]) [0, 1, 2] rfl ?_
        exact wb_X1_attempt_46 F hret k_p0 k_p1   _ h
  · replace h := h.2 c
    refine x_aload_n F dX1_attempt_14 rfl 0 rfl ?_
    refine x_aload_n F dX1_attempt_15 rfl 1 rfl ?_
    refine x_aload_n F dX1_attempt_16 rfl 2 rfl ?_
    refine x_iload F dX1_attempt_17 4 rfl ?_
    refine x_iload F dX1_attempt_19 5 rfl ?_
    refine x_iload F dX1_attempt_21 6 rfl ?_
    refine x_callT_i F (c_X1_blow (xl X) (xg X) (xA X) F.2.2.1 k_p0 k_p1 h) (bw_S bw_33_4 bw_33_5 bw_2_13 bw_33_6) rfl cd_X1_blow (Nat.le_of_ble_eq_true rfl) (Nat.le_of_ble_eq_true rfl) rfl rfl (Nat.le_of_ble_eq_true rfl) dX1_attempt_23 (fun r11 s10 h => ?_)
    refine q_1_5 F kz_38 in_1 (mc bw_5_14) dX1_attempt_26 ?_
    refine x_nmS (fun s12 es12 => ?_)
    replace h := h s12 es12
    refine x_goto (tgt := 100) F dX1_attempt_29 (by decide) ?_
    refine x_sub (lv' := [(0, .ref (ad X 38)), (1, .ref (ad X p0)), (2, .ref (ad X p1))]) [0, 1, 2] rfl ?_
    exact wb_X1_attempt_100 F hret k_p0 k_p1   _ h
/-! X2_commonDivisor -/
abbrev wvX2_commonDivisor : List Cond := Cond.code yX2_commonDivisor cX2_commonDivisor 11 (some .long) :: wsL_law
theorem cd_X2_commonDivisor : okN yX2_commonDivisor RX2 2 := by unfold okN; decide +kernel
def l_X2_commonDivisor_9   (Q : Int64 → wS → Prop) : Nat → Int64 → Int64 → Int32 → wS → Prop
  | 0, _, _, _, _ => False
  | n + 1, x4, x6, x8, σ => ((200 : Int32) ≤ x8 → (Q x4 σ)) ∧ (¬ (200 : Int32) ≤ x8 → (((lg_cmp x6 (0 : Int64)) = 0 → (Q x4 σ)) ∧ (¬ (lg_cmp x6 (0 : Int64)) = 0 → (¬ x6 = 0 ∧ (∀ y1 : Int64, y1 = (x4 - x4 / x6 * x6) → (∀ y2 : Int32, y2 = (x8 + (1 : Int32)) → (l_X2_commonDivisor_9   Q n x6 y1 y2 σ)))))))
set_option maxRecDepth 100000 in
set_option maxHeartbeats 4000000 in
theorem wl_X2_commonDivisor_9 {X : XT} {Q : Int64 → wS → Prop}  (F : Fx X cX2_commonDivisor 11 RX2 wvX2_commonDivisor 0 0) (hret : Rl X 11 cX2_commonDivisor Q)    : ∀ (n : Nat) (x4 : Int64) (x6 : Int64) (x8 : Int32) (σ : wS), l_X2_commonDivisor_9   Q n x4 x6 x8 σ → Wx X 11 σ 9 [(4, .long x4), (6, .long x6), (8, .int x8)] [] := by
  intro n
  induction n with
  | zero =>
    intros
    contradiction
  | succ n ih =>
    intro x4 x6 x8 σ h
    simp only [l_X2_commonDivisor_9] at h
    refine x_iload F dX2_commonDivisor_9 2 rfl ?_
    refine x_sipush (200 : Int32) F dX2_commonDivisor_11 (by decide) ?_
    refine x_icmp_ge (tgt := 45) F dX2_commonDivisor_14 (by decide) (fun c => ?_) (fun c => ?_)
    · replace h := h.1 c
      refine x_lload F dX2_commonDivisor_45 0 rfl ?_
      exact hret _ _ _ _ h dX2_commonDivisor_47
    · replace h := h.2 c
      refine x_lload F dX2_commonDivisor_17 1 rfl ?_
      refine x_lconst (0 : Int64) F dX2_commonDivisor_19 (by decide) ?_
      refine x_lcmp F dX2_commonDivisor_20 ?_
      refine x_if_eq (tgt := 45) F dX2_commonDivisor_21 (by decide) (fun c => ?_) (fun c => ?_)
      · replace h := h.1 c
        refine x_lload F dX2_commonDivisor_45 0 rfl ?_
        exact hret _ _ _ _ h dX2_commonDivisor_47
      · replace h := h.2 c
        refine x_lload F dX2_commonDivisor_24 0 rfl ?_
        refine x_lload F dX2_commonDivisor_26 1 rfl ?_
        obtain ⟨hj, h⟩ := h
        refine x_lrem F dX2_commonDivisor_28 hj ?_
        refine x_topl (fun y1 ey1 => ?_)
        replace h := h y1 ey1
        refine x_lstore (lv' := [(9, .long y1), (4, .long x4), (6, .long x6), (8, .int x8)]) F dX2_commonDivisor_29 (by decide) rfl ?_
        refine x_lload F dX2_commonDivisor_31 2 rfl ?_
        refine x_lstore (lv' := [(4, .long x6), (9, .long y1), (6, .long x6), (8, .int x8)]) F dX2_commonDivisor_33 (by decide) rfl ?_
        refine x_lload F dX2_commonDivisor_35 1 rfl ?_
        refine x_lstore (lv' := [(6, .long y1), (4, .long x6), (9, .long y1), (8, .int x8)]) F dX2_commonDivisor_37 (by decide) rfl ?_
        obtain ⟨y2, ey2⟩ : ∃ y : Int32, y = (x8 + (1 : Int32)) := ⟨_, rfl⟩
        replace h := h y2 ey2
        refine x_iinc (q := 3) (v := y2) (lv' := [(8, .int y2), (6, .long y1), (4, .long x6), (9, .long y1)]) F dX2_commonDivisor_39 rfl (by rw [ey2]; rfl) (by decide) rfl ?_
        refine x_goto (tgt := 9) F dX2_commonDivisor_42 (by decide) ?_
        refine x_sub (lv' := [(4, .long x6), (6, .long y1), (8, .int y2)]) [2, 1, 0] rfl ?_
        exact ih _ _ _ _ h
def w_X2_commonDivisor  (p0 : Int64) (p1 : Int64) (σ : wS) (Q : Int64 → wS → Prop) : Prop := (∃ m, l_X2_commonDivisor_9   Q m p0 p1 (0 : Int32) σ)
set_option maxRecDepth 100000 in
set_option maxHeartbeats 4000000 in
theorem c_X2_commonDivisor (l : Launch) (g : wG) (A : Nat → Prop) (hA : adO g A)   {p0 : Int64} {p1 : Int64} {σ : wS} {Q : Int64 → wS → Prop} (h : w_X2_commonDivisor  p0 p1 σ Q) : Ml l yX2_commonDivisor wvX2_commonDivisor 0 0 g A [.long p0, .long p1] σ Q := by
  refine mt_l (own := RX2) (lv := [(0, .long p0), (2, .long p1)]) (by decide) rfl rfl hA (Nat.le_of_ble_eq_true rfl) rfl ?_
  intro X hl hg hAA F hret
  subst hl hg hAA
  unfold w_X2_commonDivisor at h
  refine x_lload_n F dX2_commonDivisor_0 rfl 0 rfl ?_
  refine x_lstore (lv' := [(4, .long p0), (0, .long p0), (2, .long p1)]) F dX2_commonDivisor_1 (by decide) rfl ?_
  refine x_lload_n F dX2_commonDivisor_3 rfl 2 rfl ?_
  refine x_lstore (lv' := [(6, .long p1), (4, .long p0), (0, .long p0), (2, .long p1)]) F dX2_commonDivisor_4 (by decide) rfl ?_
  refine x_iconst (0 : Int32) F dX2_commonDivisor_6 (by decide) ?_
  refine x_istore (lv' := [(8, .int (0 : Int32)), (6, .long p1), (4, .long p0), (0, .long p0), (2, .long p1)]) F dX2_commonDivisor_7 (by decide) rfl ?_
  refine x_sub (lv' := [(4, .long p0), (6, .long p1), (8, .int (0 : Int32))]) [2, 1, 0] rfl ?_
  obtain ⟨n2, h⟩ := h
  exact wl_X2_commonDivisor_9 F hret   n2 _ _ _ _ h
/-! X2_put -/
abbrev wvX2_put : List Cond := Cond.code yX2_put cX2_put 7 none :: wsL_law
theorem cd_X2_put : okN yX2_put RX2 2 := by unfold okN; decide +kernel
def b_X2_put_23 (i0 : Nat)  (Q : wS → Prop)  (σ : wS) : Prop := ∀ s1 : wS, s1 = upJ σ i0 0 (0 : Int64) → (∀ s2 : wS, s2 = upJ s1 i0 1 (1 : Int64) → (Q s2))
set_option maxRecDepth 100000 in
set_option maxHeartbeats 4000000 in
theorem wb_X2_put_23 {X : XT} {Q : wS → Prop} {i0 : Nat} (F : Fx X cX2_put 7 RX2 wvX2_put 1 40) (hret : Rv X 7 cX2_put Q) (k_i0 : kd i0 = 2)    (σ : wS) (h : b_X2_put_23 i0  Q  σ) : Wx X 7 σ 23 [(0, .ref (ad X i0))] [] := by
  unfold b_X2_put_23 at h
  refine x_aload_n F dX2_put_23 rfl 0 rfl ?_
  refine x_lconst (0 : Int64) F dX2_put_24 (by decide) ?_
  refine q_2_0 F k_i0 in_2 (mc bw_6_2) dX2_put_25 ?_
  refine x_nmS (fun s1 es1 => ?_)
  replace h := h s1 es1
  refine x_aload_n F dX2_put_28 rfl 0 rfl ?_
  refine x_lconst (1 : Int64) F dX2_put_29 (by decide) ?_
  refine q_2_1 F k_i0 in_2 (mc bw_6_3) dX2_put_30 ?_
  refine x_nmS (fun s2 es2 => ?_)
  replace h := h s2 es2
  exact hret _ _ _ h dX2_put_33
def w_X2_put (i0 : Nat) (p0 : Int64) (p1 : Int64) (σ : wS) (Q : wS → Prop) : Prop := w_X2_commonDivisor (if 0 < p0 then p0 else -p0) p1 σ (fun r2 s1 => ((lg_cmp p1 (0 : Int64)) ≤ 0 → (b_X2_put_23 i0  Q  s1)) ∧ (¬ (lg_cmp p1 (0 : Int64)) ≤ 0 → ((0 < (lg_cmp r2 (0 : Int64)) → (¬ r2 = 0 ∧ (∀ s3 : wS, s3 = upJ s1 i0 0 (p0 / r2) → (¬ r2 = 0 ∧ (∀ s4 : wS, s4 = upJ s3 i0 1 (p1 / r2) → (Q s4)))))) ∧ (¬ 0 < (lg_cmp r2 (0 : Int64)) → (b_X2_put_23 i0  Q  s1)))))
set_option maxRecDepth 100000 in
set_option maxHeartbeats 4000000 in
theorem c_X2_put (l : Launch) (g : wG) (A : Nat → Prop) (hA : adO g A) {i0 : Nat} (k_i0 : kd i0 = 2) {p0 : Int64} {p1 : Int64} {σ : wS} {Q : wS → Prop} (h : w_X2_put i0 p0 p1 σ Q) : Mv l yX2_put wvX2_put 1 40 g A [.ref (g.2.2 i0), .long p0, .long p1] σ Q := by
  refine mt_v (own := RX2) (lv := [(0, .ref (g.2.2 i0)), (1, .long p0), (3, .long p1)]) (by decide) rfl rfl hA (Nat.le_of_ble_eq_true rfl) rfl ?_
  intro X hl hg hAA F hret
  subst hl hg hAA
  unfold w_X2_put at h
  refine x_lload_n F dX2_put_0 rfl 1 rfl ?_
  refine x_abs F (mc bw_29_4) (mc bw_29_5) (mc bw_29_6) (mc bw_29_7) (Nat.le_of_ble_eq_true rfl) (Nat.le_of_ble_eq_true rfl) dX2_put_1 ?_
  refine x_lload_n F dX2_put_4 rfl 2 rfl ?_
  refine x_callT_l F (c_X2_commonDivisor (xl X) (xg X) (xA X) F.2.2.1  h) (bw_S bw_29_8 bw_29_9 bw_2_17 bw_29_10) rfl cd_X2_commonDivisor (Nat.le_of_ble_eq_true rfl) (Nat.le_of_ble_eq_true rfl) rfl rfl (Nat.le_of_ble_eq_true rfl) dX2_put_5 (fun r2 s1 h => ?_)
  refine x_lstore (lv' := [(5, .long r2), (0, .ref (ad X i0)), (1, .long p0), (3, .long p1)]) F dX2_put_8 (by decide) rfl ?_
  refine x_lload_n F dX2_put_10 rfl 3 rfl ?_
  refine x_lconst (0 : Int64) F dX2_put_11 (by decide) ?_
  refine x_lcmp F dX2_put_12 ?_
  refine x_if_le (tgt := 23) F dX2_put_13 (by decide) (fun c => ?_) (fun c => ?_)
  · replace h := h.1 c
    refine x_sub (lv' := [(0, .ref (ad X i0))]) [1] rfl ?_
    exact wb_X2_put_23 F hret k_i0   _ h
  · replace h := h.2 c
    refine x_lload F dX2_put_16 0 rfl ?_
    refine x_lconst (0 : Int64) F dX2_put_18 (by decide) ?_
    refine x_lcmp F dX2_put_19 ?_
    refine x_if_gt (tgt := 34) F dX2_put_20 (by decide) (fun c => ?_) (fun c => ?_)
    · replace h := h.1 c
      refine x_aload_n F dX2_put_34 rfl 1 rfl ?_
      refine x_lload_n F dX2_put_35 rfl 2 rfl ?_
      refine x_lload F dX2_put_36 0 rfl ?_
      obtain ⟨hj, h⟩ := h
      refine x_ldiv F dX2_put_38 hj ?_
      refine q_2_0 F k_i0 in_2 (mc bw_6_2) dX2_put_39 ?_
      refine x_nmS (fun s3 es3 => ?_)
      replace h := h s3 es3
      refine x_aload_n F dX2_put_42 rfl 1 rfl ?_
      refine x_lload_n F dX2_put_43 rfl 3 rfl ?_
      refine x_lload F dX2_put_44 0 rfl ?_
      obtain ⟨hj, h⟩ := h
      refine x_ldiv F dX2_put_46 hj ?_
      refine q_2_1 F k_i0 in_2 (mc bw_6_3) dX2_put_47 ?_
      refine x_nmS (fun s4 es4 => ?_)
      replace h := h s4 es4
      exact hret _ _ _ h dX2_put_50
    · replace h := h.2 c
      refine x_sub (lv' := [(0, .ref (ad X i0))]) [1] rfl ?_
      exact wb_X2_put_23 F hret k_i0   _ h
/-! X2_told -/
abbrev wvX2_told : List Cond := Cond.code yX2_told cX2_told 2 (some .long) :: wsL_law
theorem cd_X2_told : okN yX2_told RX2 1 := by unfold okN; decide +kernel
def w_X2_told (i0 : Nat) (p0 : Int32) (σ : wS) (Q : Int64 → wS → Prop) : Prop := (¬ p0 = 0 → (Q (σ.2 i0 1) σ)) ∧ (p0 = 0 → (Q (σ.2 i0 0) σ))
set_option maxRecDepth 100000 in
set_option maxHeartbeats 4000000 in
theorem c_X2_told (l : Launch) (g : wG) (A : Nat → Prop) (hA : adO g A) {i0 : Nat} (k_i0 : kd i0 = 2) {p0 : Int32} {σ : wS} {Q : Int64 → wS → Prop} (h : w_X2_told i0 p0 σ Q) : Ml l yX2_told wvX2_told 0 0 g A [.ref (g.2.2 i0), .int p0] σ Q := by
  refine mt_l (own := RX2) (lv := [(0, .ref (g.2.2 i0)), (1, .int p0)]) (by decide) rfl rfl hA (Nat.le_of_ble_eq_true rfl) rfl ?_
  intro X hl hg hAA F hret
  subst hl hg hAA
  unfold w_X2_told at h
  refine x_iload_n F dX2_told_0 rfl 1 rfl ?_
  refine x_if_ne (tgt := 11) F dX2_told_1 (by decide) (fun c => ?_) (fun c => ?_)
  · replace h := h.1 c
    refine x_aload_n F dX2_told_11 rfl 0 rfl ?_
    refine g_2_1 F k_i0 in_2 (mc bw_6_3) dX2_told_12 ?_
    exact hret _ _ _ _ h dX2_told_15
  · replace h := h.2 c
    refine x_aload_n F dX2_told_4 rfl 0 rfl ?_
    refine g_2_0 F k_i0 in_2 (mc bw_6_2) dX2_told_5 ?_
    refine x_goto (tgt := 15) F dX2_told_8 (by decide) ?_
    exact hret _ _ _ _ h dX2_told_15
/-! X2_isBelow -/
abbrev wvX2_isBelow : List Cond := Cond.code yX2_isBelow cX2_isBelow 16 (some .boolean) :: wsL_law
theorem cd_X2_isBelow : okN yX2_isBelow RX2 1 := by unfold okN; decide +kernel
def b_X2_isBelow_176 (i0 : Nat) (p0 : Nat) (K29 : Int64 → Int64 → Int64 → Int64 → Int32 → Int32 → wS → Prop) (Q : Int32 → wS → Prop) (x2 : Int64) (x4 : Int64) (x6 : Int64) (x8 : Int64) (x11 : Int32) (z0 : Int32) (σ : wS) : Prop := ∀ y1 : Int32, y1 = (x11 + (1 : Int32)) → (K29 x2 x4 x6 x8 z0 y1 σ)
set_option maxRecDepth 100000 in
set_option maxHeartbeats 4000000 in
theorem wb_X2_isBelow_176 {X : XT} {Q : Int32 → wS → Prop} {i0 : Nat} {p0 : Nat} (F : Fx X cX2_isBelow 16 RX2 wvX2_isBelow 0 0) (hret : Ri X 16 cX2_isBelow .boolean Q) (k_i0 : kd i0 = 2) (k_p0 : kd p0 = 2) {K29 : Int64 → Int64 → Int64 → Int64 → Int32 → Int32 → wS → Prop} (hK29 : ∀ (x2 : Int64) (x4 : Int64) (x6 : Int64) (x8 : Int64) (x10 : Int32) (x11 : Int32) (σ : wS), K29 x2 x4 x6 x8 x10 x11 σ → Wx X 16 σ 29 [(2, .long x2), (4, .long x4), (6, .long x6), (8, .long x8), (10, .int x10), (11, .int x11)] []) (x2 : Int64) (x4 : Int64) (x6 : Int64) (x8 : Int64) (x11 : Int32) (z0 : Int32) (σ : wS) (h : b_X2_isBelow_176 i0 p0 K29 Q x2 x4 x6 x8 x11 z0 σ) : Wx X 16 σ 176 [(2, .long x2), (4, .long x4), (6, .long x6), (8, .long x8), (11, .int x11)] [.int z0] := by
  unfold b_X2_isBelow_176 at h
  refine x_istore (lv' := [(10, .int z0), (2, .long x2), (4, .long x4), (6, .long x6), (8, .long x8), (11, .int x11)]) F dX2_isBelow_176 (by decide) rfl ?_
  obtain ⟨y1, ey1⟩ : ∃ y : Int32, y = (x11 + (1 : Int32)) := ⟨_, rfl⟩
  replace h := h y1 ey1
  refine x_iinc (q := 5) (v := y1) (lv' := [(11, .int y1), (10, .int z0), (2, .long x2), (4, .long x4), (6, .long x6), (8, .long x8)]) F dX2_isBelow_178 rfl (by rw [ey1]; rfl) (by decide) rfl ?_
  refine x_goto (tgt := 29) F dX2_isBelow_181 (by decide) ?_
  refine x_sub (lv' := [(2, .long x2), (4, .long x4), (6, .long x6), (8, .long x8), (10, .int z0), (11, .int y1)]) [2, 3, 4, 5, 1, 0] rfl ?_
  exact hK29 _ _ _ _ _ _ _ h
def b_X2_isBelow_140 (i0 : Nat) (p0 : Nat)  (Q : Int32 → wS → Prop) (x10 : Int32) (z0 : Int32) (σ : wS) : Prop := (z0 = x10 → (Q (0 : Int32) σ)) ∧ (¬ z0 = x10 → (Q (1 : Int32) σ))
set_option maxRecDepth 100000 in
set_option maxHeartbeats 4000000 in
theorem wb_X2_isBelow_140 {X : XT} {Q : Int32 → wS → Prop} {i0 : Nat} {p0 : Nat} (F : Fx X cX2_isBelow 16 RX2 wvX2_isBelow 0 0) (hret : Ri X 16 cX2_isBelow .boolean Q) (k_i0 : kd i0 = 2) (k_p0 : kd p0 = 2)   (x10 : Int32) (z0 : Int32) (σ : wS) (h : b_X2_isBelow_140 i0 p0  Q x10 z0 σ) : Wx X 16 σ 140 [(10, .int x10)] [.int z0] := by
  unfold b_X2_isBelow_140 at h
  refine x_iload F dX2_isBelow_140 0 rfl ?_
  refine x_icmp_eq (tgt := 149) F dX2_isBelow_142 (by decide) (fun c => ?_) (fun c => ?_)
  · replace h := h.1 c
    refine x_iconst (0 : Int32) F dX2_isBelow_149 (by decide) ?_
    exact hret _ _ _ _ h (nar01 (by decide)) dX2_isBelow_150
  · replace h := h.2 c
    refine x_iconst (1 : Int32) F dX2_isBelow_145 (by decide) ?_
    refine x_goto (tgt := 150) F dX2_isBelow_146 (by decide) ?_
    exact hret _ _ _ _ h (nar01 (by decide)) dX2_isBelow_150
def b_X2_isBelow_120 (i0 : Nat) (p0 : Nat)  (Q : Int32 → wS → Prop) (x10 : Int32) (x12 : Int64) (x14 : Int64) (σ : wS) : Prop := ((lg_cmp x12 x14) = 0 → (Q (0 : Int32) σ)) ∧ (¬ (lg_cmp x12 x14) = 0 → ((¬ (lg_cmp x12 (0 : Int64)) = 0 → (b_X2_isBelow_140 i0 p0  Q x10 (0 : Int32) σ)) ∧ ((lg_cmp x12 (0 : Int64)) = 0 → (b_X2_isBelow_140 i0 p0  Q x10 (1 : Int32) σ))))
set_option maxRecDepth 100000 in
set_option maxHeartbeats 4000000 in
theorem wb_X2_isBelow_120 {X : XT} {Q : Int32 → wS → Prop} {i0 : Nat} {p0 : Nat} (F : Fx X cX2_isBelow 16 RX2 wvX2_isBelow 0 0) (hret : Ri X 16 cX2_isBelow .boolean Q) (k_i0 : kd i0 = 2) (k_p0 : kd p0 = 2)   (x10 : Int32) (x12 : Int64) (x14 : Int64) (σ : wS) (h : b_X2_isBelow_120 i0 p0  Q x10 x12 x14 σ) : Wx X 16 σ 120 [(10, .int x10), (12, .long x12), (14, .long x14)] [] := by
  unfold b_X2_isBelow_120 at h
  refine x_lload F dX2_isBelow_120 1 rfl ?_
  refine x_lload F dX2_isBelow_122 2 rfl ?_
  refine x_lcmp F dX2_isBelow_124 ?_
  refine x_if_eq (tgt := 149) F dX2_isBelow_125 (by decide) (fun c => ?_) (fun c => ?_)
  · replace h := h.1 c
    refine x_iconst (0 : Int32) F dX2_isBelow_149 (by decide) ?_
    exact hret _ _ _ _ h (nar01 (by decide)) dX2_isBelow_150
  · replace h := h.2 c
    refine x_lload F dX2_isBelow_128 1 rfl ?_
    refine x_lconst (0 : Int64) F dX2_isBelow_130 (by decide) ?_
    refine x_lcmp F dX2_isBelow_131 ?_
    refine x_if_ne (tgt := 139) F dX2_isBelow_132 (by decide) (fun c => ?_) (fun c => ?_)
    · replace h := h.1 c
      refine x_iconst (0 : Int32) F dX2_isBelow_139 (by decide) ?_
      refine x_sub (lv' := [(10, .int x10)]) [0] rfl ?_
      exact wb_X2_isBelow_140 F hret k_i0 k_p0  _ _ _ h
    · replace h := h.2 c
      refine x_iconst (1 : Int32) F dX2_isBelow_135 (by decide) ?_
      refine x_goto (tgt := 140) F dX2_isBelow_136 (by decide) ?_
      refine x_sub (lv' := [(10, .int x10)]) [0] rfl ?_
      exact wb_X2_isBelow_140 F hret k_i0 k_p0  _ _ _ h
def b_X2_isBelow_82 (i0 : Nat) (p0 : Nat)  (Q : Int32 → wS → Prop) (x10 : Int32) (z0 : Int32) (σ : wS) : Prop := (z0 = x10 → (Q (0 : Int32) σ)) ∧ (¬ z0 = x10 → (Q (1 : Int32) σ))
set_option maxRecDepth 100000 in
set_option maxHeartbeats 4000000 in
theorem wb_X2_isBelow_82 {X : XT} {Q : Int32 → wS → Prop} {i0 : Nat} {p0 : Nat} (F : Fx X cX2_isBelow 16 RX2 wvX2_isBelow 0 0) (hret : Ri X 16 cX2_isBelow .boolean Q) (k_i0 : kd i0 = 2) (k_p0 : kd p0 = 2)   (x10 : Int32) (z0 : Int32) (σ : wS) (h : b_X2_isBelow_82 i0 p0  Q x10 z0 σ) : Wx X 16 σ 82 [(10, .int x10)] [.int z0] := by
  unfold b_X2_isBelow_82 at h
  refine x_iload F dX2_isBelow_82 0 rfl ?_
  refine x_icmp_eq (tgt := 91) F dX2_isBelow_84 (by decide) (fun c => ?_) (fun c => ?_)
  · replace h := h.1 c
    refine x_iconst (0 : Int32) F dX2_isBelow_91 (by decide) ?_
    exact hret _ _ _ _ h (nar01 (by decide)) dX2_isBelow_92
  · replace h := h.2 c
    refine x_iconst (1 : Int32) F dX2_isBelow_87 (by decide) ?_
    refine x_goto (tgt := 92) F dX2_isBelow_88 (by decide) ?_
    exact hret _ _ _ _ h (nar01 (by decide)) dX2_isBelow_92
def l_X2_isBelow_29 (i0 : Nat) (p0 : Nat)  (Q : Int32 → wS → Prop) : Nat → Int64 → Int64 → Int64 → Int64 → Int32 → Int32 → wS → Prop
  | 0, _, _, _, _, _, _, _ => False
  | n + 1, x2, x4, x6, x8, x10, x11, σ => ((200 : Int32) ≤ x11 → (Q (0 : Int32) σ)) ∧ (¬ (200 : Int32) ≤ x11 → (((lg_cmp x4 (0 : Int64)) ≤ 0 → (Q (0 : Int32) σ)) ∧ (¬ (lg_cmp x4 (0 : Int64)) ≤ 0 → (((lg_cmp x8 (0 : Int64)) ≤ 0 → (Q (0 : Int32) σ)) ∧ (¬ (lg_cmp x8 (0 : Int64)) ≤ 0 → (¬ x4 = 0 ∧ (¬ x8 = 0 ∧ (((lg_cmp (x2 / x4) (x6 / x8)) = 0 → (¬ x4 = 0 ∧ (∀ y1 : Int64, y1 = (x2 - x2 / x4 * x4) → (¬ x8 = 0 ∧ (∀ y2 : Int64, y2 = (x6 - x6 / x8 * x8) → (((lg_cmp y1 (0 : Int64)) = 0 → (b_X2_isBelow_120 i0 p0  Q x10 y1 y2 σ)) ∧ (¬ (lg_cmp y1 (0 : Int64)) = 0 → ((¬ (lg_cmp y2 (0 : Int64)) = 0 → ((¬ x10 = 0 → (b_X2_isBelow_176 i0 p0 (fun x2 x4 x6 x8 x10 x11 σ => l_X2_isBelow_29 i0 p0  Q n x2 x4 x6 x8 x10 x11 σ) Q x4 y1 x8 y2 x11 (0 : Int32) σ)) ∧ (x10 = 0 → (b_X2_isBelow_176 i0 p0 (fun x2 x4 x6 x8 x10 x11 σ => l_X2_isBelow_29 i0 p0  Q n x2 x4 x6 x8 x10 x11 σ) Q x4 y1 x8 y2 x11 (1 : Int32) σ)))) ∧ ((lg_cmp y2 (0 : Int64)) = 0 → (b_X2_isBelow_120 i0 p0  Q x10 y1 y2 σ)))))))))) ∧ (¬ (lg_cmp (x2 / x4) (x6 / x8)) = 0 → (¬ x4 = 0 ∧ (¬ x8 = 0 ∧ ((0 ≤ (lg_cmp (x2 / x4) (x6 / x8)) → (b_X2_isBelow_82 i0 p0  Q x10 (0 : Int32) σ)) ∧ (¬ 0 ≤ (lg_cmp (x2 / x4) (x6 / x8)) → (b_X2_isBelow_82 i0 p0  Q x10 (1 : Int32) σ))))))))))))))
set_option maxRecDepth 100000 in
set_option maxHeartbeats 4000000 in
theorem wl_X2_isBelow_29 {X : XT} {Q : Int32 → wS → Prop} {i0 : Nat} {p0 : Nat} (F : Fx X cX2_isBelow 16 RX2 wvX2_isBelow 0 0) (hret : Ri X 16 cX2_isBelow .boolean Q) (k_i0 : kd i0 = 2) (k_p0 : kd p0 = 2)   : ∀ (n : Nat) (x2 : Int64) (x4 : Int64) (x6 : Int64) (x8 : Int64) (x10 : Int32) (x11 : Int32) (σ : wS), l_X2_isBelow_29 i0 p0  Q n x2 x4 x6 x8 x10 x11 σ → Wx X 16 σ 29 [(2, .long x2), (4, .long x4), (6, .long x6), (8, .long x8), (10, .int x10), (11, .int x11)] [] := by
  intro n
  induction n with
  | zero =>
    intros
    contradiction
  | succ n ih =>
    intro x2 x4 x6 x8 x10 x11 σ h
    simp only [l_X2_isBelow_29] at h
    refine x_iload F dX2_isBelow_29 5 rfl ?_
    refine x_sipush (200 : Int32) F dX2_isBelow_31 (by decide) ?_
    refine x_icmp_ge (tgt := 184) F dX2_isBelow_34 (by decide) (fun c => ?_) (fun c => ?_)
    · replace h := h.1 c
      refine x_iconst (0 : Int32) F dX2_isBelow_184 (by decide) ?_
      exact hret _ _ _ _ h (nar01 (by decide)) dX2_isBelow_185
    · replace h := h.2 c
      refine x_lload F dX2_isBelow_37 1 rfl ?_
      refine x_lconst (0 : Int64) F dX2_isBelow_39 (by decide) ?_
      refine x_lcmp F dX2_isBelow_40 ?_
      refine x_if_le (tgt := 184) F dX2_isBelow_41 (by decide) (fun c => ?_) (fun c => ?_)
      · replace h := h.1 c
        refine x_iconst (0 : Int32) F dX2_isBelow_184 (by decide) ?_
        exact hret _ _ _ _ h (nar01 (by decide)) dX2_isBelow_185
      · replace h := h.2 c
        refine x_lload F dX2_isBelow_44 3 rfl ?_
        refine x_lconst (0 : Int64) F dX2_isBelow_46 (by decide) ?_
        refine x_lcmp F dX2_isBelow_47 ?_
        refine x_if_le (tgt := 184) F dX2_isBelow_48 (by decide) (fun c => ?_) (fun c => ?_)
        · replace h := h.1 c
          refine x_iconst (0 : Int32) F dX2_isBelow_184 (by decide) ?_
          exact hret _ _ _ _ h (nar01 (by decide)) dX2_isBelow_185
        · replace h := h.2 c
          refine x_lload_n F dX2_isBelow_51 rfl 0 rfl ?_
          refine x_lload F dX2_isBelow_52 1 rfl ?_
          obtain ⟨hj, h⟩ := h
          refine x_ldiv F dX2_isBelow_54 hj ?_
          refine x_lload F dX2_isBelow_55 2 rfl ?_
          refine x_lload F dX2_isBelow_57 3 rfl ?_
          obtain ⟨hj, h⟩ := h
          refine x_ldiv F dX2_isBelow_59 hj ?_
          refine x_lcmp F dX2_isBelow_60 ?_
          refine x_if_eq (tgt := 93) F dX2_isBelow_61 (by decide) (fun c => ?_) (fun c => ?_)
          · replace h := h.1 c
            refine x_lload_n F dX2_isBelow_93 rfl 0 rfl ?_
            refine x_lload F dX2_isBelow_94 1 rfl ?_
            obtain ⟨hj, h⟩ := h
            refine x_lrem F dX2_isBelow_96 hj ?_
            refine x_topl (fun y1 ey1 => ?_)
            replace h := h y1 ey1
            refine x_lstore (lv' := [(12, .long y1), (2, .long x2), (4, .long x4), (6, .long x6), (8, .long x8), (10, .int x10), (11, .int x11)]) F dX2_isBelow_97 (by decide) rfl ?_
            refine x_lload F dX2_isBelow_99 3 rfl ?_
            refine x_lload F dX2_isBelow_101 4 rfl ?_
            obtain ⟨hj, h⟩ := h
            refine x_lrem F dX2_isBelow_103 hj ?_
            refine x_topl (fun y2 ey2 => ?_)
            replace h := h y2 ey2
            refine x_lstore (lv' := [(14, .long y2), (12, .long y1), (2, .long x2), (4, .long x4), (6, .long x6), (8, .long x8), (10, .int x10), (11, .int x11)]) F dX2_isBelow_104 (by decide) rfl ?_
            refine x_lload F dX2_isBelow_106 1 rfl ?_
            refine x_lconst (0 : Int64) F dX2_isBelow_108 (by decide) ?_
            refine x_lcmp F dX2_isBelow_109 ?_
            refine x_if_eq (tgt := 120) F dX2_isBelow_110 (by decide) (fun c => ?_) (fun c => ?_)
            · replace h := h.1 c
              refine x_sub (lv' := [(10, .int x10), (12, .long y1), (14, .long y2)]) [6, 1, 0] rfl ?_
              exact wb_X2_isBelow_120 F hret k_i0 k_p0  _ _ _ _ h
            · replace h := h.2 c
              refine x_lload F dX2_isBelow_113 0 rfl ?_
              refine x_lconst (0 : Int64) F dX2_isBelow_115 (by decide) ?_
              refine x_lcmp F dX2_isBelow_116 ?_
              refine x_if_ne (tgt := 151) F dX2_isBelow_117 (by decide) (fun c => ?_) (fun c => ?_)
              · replace h := h.1 c
                refine x_lload F dX2_isBelow_151 3 rfl ?_
                refine x_lstore_n (lv' := [(2, .long x4), (14, .long y2), (12, .long y1), (4, .long x4), (6, .long x6), (8, .long x8), (10, .int x10), (11, .int x11)]) F dX2_isBelow_153 rfl (by decide) rfl ?_
                refine x_lload F dX2_isBelow_154 2 rfl ?_
                refine x_lstore (lv' := [(4, .long y1), (2, .long x4), (14, .long y2), (12, .long y1), (6, .long x6), (8, .long x8), (10, .int x10), (11, .int x11)]) F dX2_isBelow_156 (by decide) rfl ?_
                refine x_lload F dX2_isBelow_158 5 rfl ?_
                refine x_lstore (lv' := [(6, .long x8), (4, .long y1), (2, .long x4), (14, .long y2), (12, .long y1), (8, .long x8), (10, .int x10), (11, .int x11)]) F dX2_isBelow_160 (by decide) rfl ?_
                refine x_lload F dX2_isBelow_162 3 rfl ?_
                refine x_lstore (lv' := [(8, .long y2), (6, .long x8), (4, .long y1), (2, .long x4), (14, .long y2), (12, .long y1), (10, .int x10), (11, .int x11)]) F dX2_isBelow_164 (by decide) rfl ?_
                refine x_iload F dX2_isBelow_166 6 rfl ?_
                refine x_if_ne (tgt := 175) F dX2_isBelow_168 (by decide) (fun c => ?_) (fun c => ?_)
                · replace h := h.1 c
                  refine x_iconst (0 : Int32) F dX2_isBelow_175 (by decide) ?_
                  refine x_sub (lv' := [(2, .long x4), (4, .long y1), (6, .long x8), (8, .long y2), (11, .int x11)]) [3, 2, 1, 0, 7] rfl ?_
                  exact wb_X2_isBelow_176 F hret k_i0 k_p0 ih _ _ _ _ _ _ _ h
                · replace h := h.2 c
                  refine x_iconst (1 : Int32) F dX2_isBelow_171 (by decide) ?_
                  refine x_goto (tgt := 176) F dX2_isBelow_172 (by decide) ?_
                  refine x_sub (lv' := [(2, .long x4), (4, .long y1), (6, .long x8), (8, .long y2), (11, .int x11)]) [3, 2, 1, 0, 7] rfl ?_
                  exact wb_X2_isBelow_176 F hret k_i0 k_p0 ih _ _ _ _ _ _ _ h
              · replace h := h.2 c
                refine x_sub (lv' := [(10, .int x10), (12, .long y1), (14, .long y2)]) [6, 1, 0] rfl ?_
                exact wb_X2_isBelow_120 F hret k_i0 k_p0  _ _ _ _ h
          · replace h := h.2 c
            refine x_lload_n F dX2_isBelow_64 rfl 0 rfl ?_
            refine x_lload F dX2_isBelow_65 1 rfl ?_
            obtain ⟨hj, h⟩ := h
            refine x_ldiv F dX2_isBelow_67 hj ?_
            refine x_lload F dX2_isBelow_68 2 rfl ?_
            refine x_lload F dX2_isBelow_70 3 rfl ?_
            obtain ⟨hj, h⟩ := h
            refine x_ldiv F dX2_isBelow_72 hj ?_
            refine x_lcmp F dX2_isBelow_73 ?_
            refine x_if_ge (tgt := 81) F dX2_isBelow_74 (by decide) (fun c => ?_) (fun c => ?_)
            · replace h := h.1 c
              refine x_iconst (0 : Int32) F dX2_isBelow_81 (by decide) ?_
              refine x_sub (lv' := [(10, .int x10)]) [4] rfl ?_
              exact wb_X2_isBelow_82 F hret k_i0 k_p0  _ _ _ h
            · replace h := h.2 c
              refine x_iconst (1 : Int32) F dX2_isBelow_77 (by decide) ?_
              refine x_goto (tgt := 82) F dX2_isBelow_78 (by decide) ?_
              refine x_sub (lv' := [(10, .int x10)]) [4] rfl ?_
              exact wb_X2_isBelow_82 F hret k_i0 k_p0  _ _ _ h
def w_X2_isBelow (i0 : Nat) (p0 : Nat)  (σ : wS) (Q : Int32 → wS → Prop) : Prop := ∀ y1 : Int64, y1 = (σ.2 i0 0) → (∀ y2 : Int64, y2 = (σ.2 i0 1) → (∀ y3 : Int64, y3 = (σ.2 p0 0) → (∀ y4 : Int64, y4 = (σ.2 p0 1) → ((∃ m, l_X2_isBelow_29 i0 p0  Q m y1 y2 y3 y4 (0 : Int32) (0 : Int32) σ)))))
set_option maxRecDepth 100000 in
set_option maxHeartbeats 4000000 in
theorem c_X2_isBelow (l : Launch) (g : wG) (A : Nat → Prop) (hA : adO g A) {i0 : Nat} {p0 : Nat} (k_i0 : kd i0 = 2) (k_p0 : kd p0 = 2)  {σ : wS} {Q : Int32 → wS → Prop} (h : w_X2_isBelow i0 p0  σ Q) : Mi l yX2_isBelow wvX2_isBelow 0 0 g A [.ref (g.2.2 i0), .ref (g.2.2 p0)] σ Q := by
  refine mt_i (own := RX2) (lv := [(0, .ref (g.2.2 i0)), (1, .ref (g.2.2 p0))]) (by decide) rfl rfl hA (Nat.le_of_ble_eq_true rfl) rfl ?_
  intro X hl hg hAA F hret
  subst hl hg hAA
  unfold w_X2_isBelow at h
  refine x_aload_n F dX2_isBelow_0 rfl 0 rfl ?_
  refine g_2_0 F k_i0 in_2 (mc bw_6_2) dX2_isBelow_1 ?_
  refine x_topl (fun y1 ey1 => ?_)
  replace h := h y1 ey1
  refine x_lstore_n (lv' := [(2, .long y1), (0, .ref (ad X i0)), (1, .ref (ad X p0))]) F dX2_isBelow_4 rfl (by decide) rfl ?_
  refine x_aload_n F dX2_isBelow_5 rfl 1 rfl ?_
  refine g_2_1 F k_i0 in_2 (mc bw_6_3) dX2_isBelow_6 ?_
  refine x_topl (fun y2 ey2 => ?_)
  replace h := h y2 ey2
  refine x_lstore (lv' := [(4, .long y2), (2, .long y1), (0, .ref (ad X i0)), (1, .ref (ad X p0))]) F dX2_isBelow_9 (by decide) rfl ?_
  refine x_aload_n F dX2_isBelow_11 rfl 3 rfl ?_
  refine g_2_0 F k_p0 in_2 (mc bw_6_2) dX2_isBelow_12 ?_
  refine x_topl (fun y3 ey3 => ?_)
  replace h := h y3 ey3
  refine x_lstore (lv' := [(6, .long y3), (4, .long y2), (2, .long y1), (0, .ref (ad X i0)), (1, .ref (ad X p0))]) F dX2_isBelow_15 (by decide) rfl ?_
  refine x_aload_n F dX2_isBelow_17 rfl 4 rfl ?_
  refine g_2_1 F k_p0 in_2 (mc bw_6_3) dX2_isBelow_18 ?_
  refine x_topl (fun y4 ey4 => ?_)
  replace h := h y4 ey4
  refine x_lstore (lv' := [(8, .long y4), (6, .long y3), (4, .long y2), (2, .long y1), (0, .ref (ad X i0)), (1, .ref (ad X p0))]) F dX2_isBelow_21 (by decide) rfl ?_
  refine x_iconst (0 : Int32) F dX2_isBelow_23 (by decide) ?_
  refine x_istore (lv' := [(10, .int (0 : Int32)), (8, .long y4), (6, .long y3), (4, .long y2), (2, .long y1), (0, .ref (ad X i0)), (1, .ref (ad X p0))]) F dX2_isBelow_24 (by decide) rfl ?_
  refine x_iconst (0 : Int32) F dX2_isBelow_26 (by decide) ?_
  refine x_istore (lv' := [(11, .int (0 : Int32)), (10, .int (0 : Int32)), (8, .long y4), (6, .long y3), (4, .long y2), (2, .long y1), (0, .ref (ad X i0)), (1, .ref (ad X p0))]) F dX2_isBelow_27 (by decide) rfl ?_
  refine x_sub (lv' := [(2, .long y1), (4, .long y2), (6, .long y3), (8, .long y4), (10, .int (0 : Int32)), (11, .int (0 : Int32))]) [5, 4, 3, 2, 1, 0] rfl ?_
  obtain ⟨n2, h⟩ := h
  exact wl_X2_isBelow_29 F hret k_i0 k_p0  n2 _ _ _ _ _ _ _ h
/-! X3_copy -/
abbrev wvX3_copy : List Cond := Cond.code yX3_copy cX3_copy 2 none :: wsL_law
theorem cd_X3_copy : okN yX3_copy RX3 1 := by unfold okN; decide +kernel
def w_X3_copy (i0 : Nat) (p0 : Nat)  (σ : wS) (Q : wS → Prop) : Prop := (¬ (0 : Int32) < 0 ∧ ¬ (0 : Int32) < 0 ∧ ¬ (8 : Int32) < 0 ∧ ((0 : Int32)).toNatClampNeg + ((8 : Int32)).toNatClampNeg ≤ 8 ∧ ((0 : Int32)).toNatClampNeg + ((8 : Int32)).toNatClampNeg ≤ 8) ∧ (∀ s1 : wS, s1 = setI σ (i0 + 1) (va_cpy (σ.1 (p0 + 1)) (σ.1 (i0 + 1)) ((0 : Int32)).toNatClampNeg ((0 : Int32)).toNatClampNeg ((8 : Int32)).toNatClampNeg) → ((¬ (0 : Int32) < 0 ∧ ¬ (0 : Int32) < 0 ∧ ¬ (3 : Int32) < 0 ∧ ((0 : Int32)).toNatClampNeg + ((3 : Int32)).toNatClampNeg ≤ 3 ∧ ((0 : Int32)).toNatClampNeg + ((3 : Int32)).toNatClampNeg ≤ 3) ∧ (∀ s2 : wS, s2 = setI s1 (i0 + 2) (va_cpy (s1.1 (p0 + 2)) (s1.1 (i0 + 2)) ((0 : Int32)).toNatClampNeg ((0 : Int32)).toNatClampNeg ((3 : Int32)).toNatClampNeg) → (∀ s3 : wS, s3 = upI s2 i0 2 (s2.1 p0 2) → (∀ s4 : wS, s4 = upI s3 i0 3 (s3.1 p0 3) → (∀ s5 : wS, s5 = upI s4 i0 4 (s4.1 p0 4) → (∀ s6 : wS, s6 = upI s5 i0 5 (s5.1 p0 5) → (∀ s7 : wS, s7 = upI s6 i0 6 (s6.1 p0 6) → (∀ s8 : wS, s8 = upI s7 i0 7 (s7.1 p0 7) → (Q s8))))))))))
set_option maxRecDepth 100000 in
set_option maxHeartbeats 4000000 in
theorem c_X3_copy (l : Launch) (g : wG) (A : Nat → Prop) (hA : adO g A) {i0 : Nat} {p0 : Nat} (k_i0 : kd i0 = 3) (k_p0 : kd p0 = 3)  {σ : wS} {Q : wS → Prop} (h : w_X3_copy i0 p0  σ Q) : Mv l yX3_copy wvX3_copy 1 40 g A [.ref (g.2.2 i0), .ref (g.2.2 p0)] σ Q := by
  refine mt_v (own := RX3) (lv := [(0, .ref (g.2.2 i0)), (1, .ref (g.2.2 p0))]) (by decide) rfl rfl hA (Nat.le_of_ble_eq_true rfl) rfl ?_
  intro X hl hg hAA F hret
  subst hl hg hAA
  unfold w_X3_copy at h
  refine x_aload_n F dX3_copy_0 rfl 1 rfl ?_
  refine g_3_0 F k_p0 in_3 (mc bw_4_19) dX3_copy_1 ?_
  refine x_iconst (0 : Int32) F dX3_copy_4 (by decide) ?_
  refine x_aload_n F dX3_copy_5 rfl 0 rfl ?_
  refine g_3_0 F k_i0 in_3 (mc bw_4_19) dX3_copy_6 ?_
  refine x_iconst (0 : Int32) F dX3_copy_9 (by decide) ?_
  refine x_bipush (8 : Int32) F dX3_copy_10 (by decide) ?_
  obtain ⟨hz, h⟩ := h
  refine x_copy F (mc bw_19_9) (mc bw_10_3) (mc bw_10_4) (mc bw_10_5) (ky_3_0 k_p0) (ky_3_0 k_i0) (kn_3_0 k_p0) (kn_3_0 k_i0) hz.1 hz.2.1 hz.2.2.1 hz.2.2.2.1 hz.2.2.2.2 (Nat.le_of_ble_eq_true rfl) (Nat.le_of_ble_eq_true rfl) dX3_copy_12 ?_
  refine x_nmS (fun s1 es1 => ?_)
  replace h := h s1 es1
  refine x_aload_n F dX3_copy_15 rfl 1 rfl ?_
  refine g_3_1 F k_p0 in_3 (mc bw_4_20) dX3_copy_16 ?_
  refine x_iconst (0 : Int32) F dX3_copy_19 (by decide) ?_
  refine x_aload_n F dX3_copy_20 rfl 0 rfl ?_
  refine g_3_1 F k_i0 in_3 (mc bw_4_20) dX3_copy_21 ?_
  refine x_iconst (0 : Int32) F dX3_copy_24 (by decide) ?_
  refine x_iconst (3 : Int32) F dX3_copy_25 (by decide) ?_
  obtain ⟨hz, h⟩ := h
  refine x_copy F (mc bw_19_9) (mc bw_10_3) (mc bw_10_4) (mc bw_10_5) (ky_3_1 k_p0) (ky_3_1 k_i0) (kn_3_1 k_p0) (kn_3_1 k_i0) hz.1 hz.2.1 hz.2.2.1 hz.2.2.2.1 hz.2.2.2.2 (Nat.le_of_ble_eq_true rfl) (Nat.le_of_ble_eq_true rfl) dX3_copy_26 ?_
  refine x_nmS (fun s2 es2 => ?_)
  replace h := h s2 es2
  refine x_aload_n F dX3_copy_29 rfl 0 rfl ?_
  refine x_aload_n F dX3_copy_30 rfl 1 rfl ?_
  refine g_3_2 F k_p0 in_3 (mc bw_4_21) dX3_copy_31 ?_
  refine q_3_2 F k_i0 in_3 (mc bw_4_21) dX3_copy_34 ?_
  refine x_nmS (fun s3 es3 => ?_)
  replace h := h s3 es3
  refine x_aload_n F dX3_copy_37 rfl 0 rfl ?_
  refine x_aload_n F dX3_copy_38 rfl 1 rfl ?_
  refine g_3_3 F k_p0 in_3 (mc bw_4_22) dX3_copy_39 ?_
  refine q_3_3 F k_i0 in_3 (mc bw_4_22) dX3_copy_42 ?_
  refine x_nmS (fun s4 es4 => ?_)
  replace h := h s4 es4
  refine x_aload_n F dX3_copy_45 rfl 0 rfl ?_
  refine x_aload_n F dX3_copy_46 rfl 1 rfl ?_
  refine g_3_4 F k_p0 in_3 (mc bw_4_23) dX3_copy_47 ?_
  refine q_3_4 F k_i0 in_3 (mc bw_4_23) dX3_copy_50 ?_
  refine x_nmS (fun s5 es5 => ?_)
  replace h := h s5 es5
  refine x_aload_n F dX3_copy_53 rfl 0 rfl ?_
  refine x_aload_n F dX3_copy_54 rfl 1 rfl ?_
  refine g_3_5 F k_p0 in_3 (mc bw_5_0) dX3_copy_55 ?_
  refine q_3_5 F k_i0 in_3 (mc bw_5_0) dX3_copy_58 ?_
  refine x_nmS (fun s6 es6 => ?_)
  replace h := h s6 es6
  refine x_aload_n F dX3_copy_61 rfl 0 rfl ?_
  refine x_aload_n F dX3_copy_62 rfl 1 rfl ?_
  refine g_3_6 F k_p0 in_3 (mc bw_5_1) dX3_copy_63 ?_
  refine q_3_6 F k_i0 in_3 (mc bw_5_1) dX3_copy_66 ?_
  refine x_nmS (fun s7 es7 => ?_)
  replace h := h s7 es7
  refine x_aload_n F dX3_copy_69 rfl 0 rfl ?_
  refine x_aload_n F dX3_copy_70 rfl 1 rfl ?_
  refine g_3_7 F k_p0 in_3 (mc bw_5_2) dX3_copy_71 ?_
  refine q_3_7 F k_i0 in_3 (mc bw_5_2) dX3_copy_74 ?_
  refine x_nmS (fun s8 es8 => ?_)
  replace h := h s8 es8
  exact hret _ _ _ h dX3_copy_77
/-! X3_begin -/
abbrev wvX3_begin : List Cond := Cond.code yX3_begin cX3_begin 3 none :: wsL_law
theorem cd_X3_begin : okN yX3_begin RX3 1 := by unfold okN; decide +kernel
def l_X3_begin_2 (i0 : Nat) (p0 : Nat)  (Q : wS → Prop) : Nat → Int32 → wS → Prop
  | 0, _, _ => False
  | n + 1, x2, σ => ((σ.1 p0 6) ≤ x2 → ((¬ (1 : Int32) < 0 ∧ ¬ (0 : Int32) < 0 ∧ ¬ (3 : Int32) < 0 ∧ ((1 : Int32)).toNatClampNeg + ((3 : Int32)).toNatClampNeg ≤ 4 ∧ ((0 : Int32)).toNatClampNeg + ((3 : Int32)).toNatClampNeg ≤ 3) ∧ (∀ s1 : wS, s1 = setI σ (i0 + 2) (va_cpy (σ.1 (p0 + 1)) (σ.1 (i0 + 2)) ((1 : Int32)).toNatClampNeg ((0 : Int32)).toNatClampNeg ((3 : Int32)).toNatClampNeg) → (∀ s2 : wS, s2 = upI s1 i0 2 (((1 : Int32) <<< ((s1.1 p0 6) &&& 31)) - (1 : Int32)) → (∀ s3 : wS, s3 = upI s2 i0 3 (0 : Int32) → (∀ s4 : wS, s4 = upI s3 i0 4 (0 : Int32) → (∀ s5 : wS, s5 = upI s4 i0 6 (0 : Int32) → (∀ s6 : wS, s6 = upI s5 i0 7 (0 : Int32) → (Q s6))))))))) ∧ (¬ (σ.1 p0 6) ≤ x2 → (w_X5_itemOf p0 x2 (5 : Int32) σ (fun r8 s7 => vp_in x2 8 ∧ (∀ s9 : wS, s9 = upI s7 (i0 + 1) (x2).toNatClampNeg r8 → (∀ y10 : Int32, y10 = (x2 + (1 : Int32)) → (l_X3_begin_2 i0 p0  Q n y10 s9))))))
set_option maxRecDepth 100000 in
set_option maxHeartbeats 4000000 in
theorem wl_X3_begin_2 {X : XT} {Q : wS → Prop} {i0 : Nat} {p0 : Nat} (F : Fx X cX3_begin 3 RX3 wvX3_begin 1 40) (hret : Rv X 3 cX3_begin Q) (k_i0 : kd i0 = 3) (k_p0 : kd p0 = 5)   : ∀ (n : Nat) (x2 : Int32) (σ : wS), l_X3_begin_2 i0 p0  Q n x2 σ → Wx X 3 σ 2 [(0, .ref (ad X i0)), (1, .ref (ad X p0)), (2, .int x2)] [] := by
  intro n
  induction n with
  | zero =>
    intros
    contradiction
  | succ n ih =>
    intro x2 σ h
    simp only [l_X3_begin_2] at h
    refine x_iload_n F dX3_begin_2 rfl 2 rfl ?_
    refine x_aload_n F dX3_begin_3 rfl 1 rfl ?_
    refine g_5_6 F k_p0 in_5 (mc bw_19_7) dX3_begin_4 ?_
    refine x_icmp_ge (tgt := 28) F dX3_begin_7 (by decide) (fun c => ?_) (fun c => ?_)
    · replace h := h.1 c
      refine x_aload_n F dX3_begin_28 rfl 1 rfl ?_
      refine g_5_0 F k_p0 in_5 (mc bw_19_8) dX3_begin_29 ?_
      refine x_iconst (1 : Int32) F dX3_begin_32 (by decide) ?_
      refine x_aload_n F dX3_begin_33 rfl 0 rfl ?_
      refine g_3_1 F k_i0 in_3 (mc bw_4_20) dX3_begin_34 ?_
      refine x_iconst (0 : Int32) F dX3_begin_37 (by decide) ?_
      refine x_iconst (3 : Int32) F dX3_begin_38 (by decide) ?_
      obtain ⟨hz, h⟩ := h
      refine x_copy F (mc bw_19_9) (mc bw_10_3) (mc bw_10_4) (mc bw_10_5) (ky_5_0 k_p0) (ky_3_1 k_i0) (kn_5_0 k_p0) (kn_3_1 k_i0) hz.1 hz.2.1 hz.2.2.1 hz.2.2.2.1 hz.2.2.2.2 (Nat.le_of_ble_eq_true rfl) (Nat.le_of_ble_eq_true rfl) dX3_begin_39 ?_
      refine x_nmS (fun s1 es1 => ?_)
      replace h := h s1 es1
      refine x_aload_n F dX3_begin_42 rfl 0 rfl ?_
      refine x_iconst (1 : Int32) F dX3_begin_43 (by decide) ?_
      refine x_aload_n F dX3_begin_44 rfl 1 rfl ?_
      refine g_5_6 F k_p0 in_5 (mc bw_19_7) dX3_begin_45 ?_
      refine x_ishl F dX3_begin_48 ?_
      refine x_iconst (1 : Int32) F dX3_begin_49 (by decide) ?_
      refine x_isub F dX3_begin_50 ?_
      refine q_3_2 F k_i0 in_3 (mc bw_4_21) dX3_begin_51 ?_
      refine x_nmS (fun s2 es2 => ?_)
      replace h := h s2 es2
      refine x_aload_n F dX3_begin_54 rfl 0 rfl ?_
      refine x_iconst (0 : Int32) F dX3_begin_55 (by decide) ?_
      refine q_3_3 F k_i0 in_3 (mc bw_4_22) dX3_begin_56 ?_
      refine x_nmS (fun s3 es3 => ?_)
      replace h := h s3 es3
      refine x_aload_n F dX3_begin_59 rfl 0 rfl ?_
      refine x_iconst (0 : Int32) F dX3_begin_60 (by decide) ?_
      refine q_3_4 F k_i0 in_3 (mc bw_4_23) dX3_begin_61 ?_
      refine x_nmS (fun s4 es4 => ?_)
      replace h := h s4 es4
      refine x_aload_n F dX3_begin_64 rfl 0 rfl ?_
      refine x_iconst (0 : Int32) F dX3_begin_65 (by decide) ?_
      refine q_3_6 F k_i0 in_3 (mc bw_5_1) dX3_begin_66 ?_
      refine x_nmS (fun s5 es5 => ?_)
      replace h := h s5 es5
      refine x_aload_n F dX3_begin_69 rfl 0 rfl ?_
      refine x_iconst (0 : Int32) F dX3_begin_70 (by decide) ?_
      refine q_3_7 F k_i0 in_3 (mc bw_5_2) dX3_begin_71 ?_
      refine x_nmS (fun s6 es6 => ?_)
      replace h := h s6 es6
      exact hret _ _ _ h dX3_begin_74
    · replace h := h.2 c
      refine x_aload_n F dX3_begin_10 rfl 0 rfl ?_
      refine g_3_0 F k_i0 in_3 (mc bw_4_19) dX3_begin_11 ?_
      refine x_iload_n F dX3_begin_14 rfl 2 rfl ?_
      refine x_aload_n F dX3_begin_15 rfl 1 rfl ?_
      refine x_iload_n F dX3_begin_16 rfl 2 rfl ?_
      refine x_iconst (5 : Int32) F dX3_begin_17 (by decide) ?_
      refine x_callV_i F (c_X5_itemOf (xl X) (xg X) (xA X) F.2.2.1 k_p0 h) (bw_V bw_19_10 bw_11_23 bw_12_0 bw_2_0 bw_12_1) rfl cd_X5_itemOf (Nat.le_of_ble_eq_true rfl) (Nat.le_of_ble_eq_true rfl) (kd_w (by decide) k_p0) rfl (cl_5 k_p0) rfl rfl (Nat.le_of_ble_eq_true rfl) dX3_begin_18 (fun r8 s7 h => ?_)
      obtain ⟨hz, h⟩ := h
      refine x_iast F (ky_3_0 k_i0) (kn_3_0 k_i0) hz dX3_begin_21 ?_
      refine x_nmS (fun s9 es9 => ?_)
      replace h := h s9 es9
      obtain ⟨y10, ey10⟩ : ∃ y : Int32, y = (x2 + (1 : Int32)) := ⟨_, rfl⟩
      replace h := h y10 ey10
      refine x_iinc (q := 2) (v := y10) (lv' := [(2, .int y10), (0, .ref (ad X i0)), (1, .ref (ad X p0))]) F dX3_begin_22 rfl (by rw [ey10]; rfl) (by decide) rfl ?_
      refine x_goto (tgt := 2) F dX3_begin_25 (by decide) ?_
      refine x_sub (lv' := [(0, .ref (ad X i0)), (1, .ref (ad X p0)), (2, .int y10)]) [1, 2, 0] rfl ?_
      exact ih _ _ h
def w_X3_begin (i0 : Nat) (p0 : Nat)  (σ : wS) (Q : wS → Prop) : Prop := (∃ m, l_X3_begin_2 i0 p0  Q m (0 : Int32) σ)
set_option maxRecDepth 100000 in
set_option maxHeartbeats 4000000 in
theorem c_X3_begin (l : Launch) (g : wG) (A : Nat → Prop) (hA : adO g A) {i0 : Nat} {p0 : Nat} (k_i0 : kd i0 = 3) (k_p0 : kd p0 = 5)  {σ : wS} {Q : wS → Prop} (h : w_X3_begin i0 p0  σ Q) : Mv l yX3_begin wvX3_begin 1 40 g A [.ref (g.2.2 i0), .ref (g.2.2 p0)] σ Q := by
  refine mt_v (own := RX3) (lv := [(0, .ref (g.2.2 i0)), (1, .ref (g.2.2 p0))]) (by decide) rfl rfl hA (Nat.le_of_ble_eq_true rfl) rfl ?_
  intro X hl hg hAA F hret
  subst hl hg hAA
  unfold w_X3_begin at h
  refine x_iconst (0 : Int32) F dX3_begin_0 (by decide) ?_
  refine x_istore_n (lv' := [(2, .int (0 : Int32)), (0, .ref (ad X i0)), (1, .ref (ad X p0))]) F dX3_begin_1 rfl (by decide) rfl ?_
  refine x_sub (lv' := [(0, .ref (ad X i0)), (1, .ref (ad X p0)), (2, .int (0 : Int32))]) [1, 2, 0] rfl ?_
  obtain ⟨n2, h⟩ := h
  exact wl_X3_begin_2 F hret k_i0 k_p0  n2 _ _ h
/-! X3_stateOf -/
abbrev wvX3_stateOf : List Cond := Cond.code yX3_stateOf cX3_stateOf 2 (some .int) :: wsL_law
theorem cd_X3_stateOf : okN yX3_stateOf RX3 1 := by unfold okN; decide +kernel
def w_X3_stateOf (i0 : Nat) (p0 : Int32) (σ : wS) (Q : Int32 → wS → Prop) : Prop := ((((σ.1 i0 2) >>> (p0 &&& 31)) &&& (1 : Int32)) = 0 → (w_X3_isFast i0 p0 σ (fun r2 s1 => (r2 = 0 → (((((s1.1 i0 3) >>> (p0 &&& 31)) &&& (1 : Int32)) = 0 → (Q (3 : Int32) s1)) ∧ (¬ (((s1.1 i0 3) >>> (p0 &&& 31)) &&& (1 : Int32)) = 0 → (Q (2 : Int32) s1)))) ∧ (¬ r2 = 0 → (Q (1 : Int32) s1))))) ∧ (¬ (((σ.1 i0 2) >>> (p0 &&& 31)) &&& (1 : Int32)) = 0 → (Q (0 : Int32) σ))
set_option maxRecDepth 100000 in
set_option maxHeartbeats 4000000 in
theorem c_X3_stateOf (l : Launch) (g : wG) (A : Nat → Prop) (hA : adO g A) {i0 : Nat} (k_i0 : kd i0 = 3) {p0 : Int32} {σ : wS} {Q : Int32 → wS → Prop} (h : w_X3_stateOf i0 p0 σ Q) : Mi l yX3_stateOf wvX3_stateOf 1 21 g A [.ref (g.2.2 i0), .int p0] σ Q := by
  refine mt_i (own := RX3) (lv := [(0, .ref (g.2.2 i0)), (1, .int p0)]) (by decide) rfl rfl hA (Nat.le_of_ble_eq_true rfl) rfl ?_
  intro X hl hg hAA F hret
  subst hl hg hAA
  unfold w_X3_stateOf at h
  refine x_aload_n F dX3_stateOf_0 rfl 0 rfl ?_
  refine g_3_2 F k_i0 in_3 (mc bw_4_21) dX3_stateOf_1 ?_
  refine x_iload_n F dX3_stateOf_4 rfl 1 rfl ?_
  refine x_ishr F dX3_stateOf_5 ?_
  refine x_iconst (1 : Int32) F dX3_stateOf_6 (by decide) ?_
  refine x_iand F dX3_stateOf_7 ?_
  refine x_if_eq (tgt := 13) F dX3_stateOf_8 (by decide) (fun c => ?_) (fun c => ?_)
  · replace h := h.1 c
    refine x_aload_n F dX3_stateOf_13 rfl 0 rfl ?_
    refine x_iload_n F dX3_stateOf_14 rfl 1 rfl ?_
    refine x_callV_i F (c_X3_isFast (xl X) (xg X) (xA X) F.2.2.1 k_i0 h) (bw_V bw_27_11 bw_27_12 bw_27_13 bw_2_8 bw_27_14) rfl cd_X3_isFast (Nat.le_of_ble_eq_true rfl) (Nat.le_of_ble_eq_true rfl) (kd_w (by decide) k_i0) rfl (cl_3 k_i0) rfl rfl (Nat.le_of_ble_eq_true rfl) dX3_stateOf_15 (fun r2 s1 h => ?_)
    refine x_if_eq (tgt := 23) F dX3_stateOf_18 (by decide) (fun c => ?_) (fun c => ?_)
    · replace h := h.1 c
      refine x_aload_n F dX3_stateOf_23 rfl 0 rfl ?_
      refine g_3_3 F k_i0 in_3 (mc bw_4_22) dX3_stateOf_24 ?_
      refine x_iload_n F dX3_stateOf_27 rfl 1 rfl ?_
      refine x_ishr F dX3_stateOf_28 ?_
      refine x_iconst (1 : Int32) F dX3_stateOf_29 (by decide) ?_
      refine x_iand F dX3_stateOf_30 ?_
      refine x_if_eq (tgt := 38) F dX3_stateOf_31 (by decide) (fun c => ?_) (fun c => ?_)
      · replace h := h.1 c
        refine x_iconst (3 : Int32) F dX3_stateOf_38 (by decide) ?_
        exact hret _ _ _ _ h rfl dX3_stateOf_39
      · replace h := h.2 c
        refine x_iconst (2 : Int32) F dX3_stateOf_34 (by decide) ?_
        refine x_goto (tgt := 39) F dX3_stateOf_35 (by decide) ?_
        exact hret _ _ _ _ h rfl dX3_stateOf_39
    · replace h := h.2 c
      refine x_iconst (1 : Int32) F dX3_stateOf_21 (by decide) ?_
      exact hret _ _ _ _ h rfl dX3_stateOf_22
  · replace h := h.2 c
    refine x_iconst (0 : Int32) F dX3_stateOf_11 (by decide) ?_
    exact hret _ _ _ _ h rfl dX3_stateOf_12
/-! X4_putLine -/
abbrev wvX4_putLine : List Cond := Cond.code yX4_putLine cX4_putLine 3 none :: wsL_law
theorem cd_X4_putLine : okN yX4_putLine RX4 2 := by unfold okN; decide +kernel
def w_X4_putLine  (p0 : Int32) (p1 : Int32) (σ : wS) (Q : wS → Prop) : Prop := (p0 < 0 → (Q σ)) ∧ (¬ p0 < 0 → (vp_in (p0 - p0 / (716 : Int32) * (716 : Int32)) 716 ∧ (∀ s1 : wS, s1 = upI σ 49 ((p0 - p0 / (716 : Int32) * (716 : Int32))).toNatClampNeg p1 → (Q s1))))
set_option maxRecDepth 100000 in
set_option maxHeartbeats 4000000 in
theorem c_X4_putLine (l : Launch) (g : wG) (A : Nat → Prop) (hA : adO g A)   {p0 : Int32} {p1 : Int32} {σ : wS} {Q : wS → Prop} (h : w_X4_putLine  p0 p1 σ Q) : Mv l yX4_putLine wvX4_putLine 0 0 g A [.ref (g.2.2 48), .int p0, .int p1] σ Q := by
  refine mt_v (own := RX4) (lv := [(0, .ref (g.2.2 48)), (1, .int p0), (2, .int p1)]) (by decide) rfl rfl hA (Nat.le_of_ble_eq_true rfl) rfl ?_
  intro X hl hg hAA F hret
  subst hl hg hAA
  unfold w_X4_putLine at h
  refine x_iload_n F dX4_putLine_0 rfl 1 rfl ?_
  refine x_if_lt (tgt := 15) F dX4_putLine_1 (by decide) (fun c => ?_) (fun c => ?_)
  · replace h := h.1 c
    exact hret _ _ _ h dX4_putLine_15
  · replace h := h.2 c
    refine x_aload_n F dX4_putLine_4 rfl 0 rfl ?_
    refine g_4_0 F kz_48 in_4 (mc bw_6_7) dX4_putLine_5 ?_
    refine x_iload_n F dX4_putLine_8 rfl 1 rfl ?_
    refine x_sipush (716 : Int32) F dX4_putLine_9 (by decide) ?_
    refine x_irem F dX4_putLine_12 (by decide) ?_
    refine x_iload_n F dX4_putLine_13 rfl 2 rfl ?_
    obtain ⟨hz, h⟩ := h
    refine x_iast F kz_49 nz_49 hz dX4_putLine_14 ?_
    refine x_nmS (fun s1 es1 => ?_)
    replace h := h s1 es1
    exact hret _ _ _ h dX4_putLine_15
/-! X4_write -/
abbrev wvX4_write : List Cond := Cond.code yX4_write cX4_write 5 none :: wsL_law
theorem cd_X4_write : okN yX4_write RX4 4 := by unfold okN; decide +kernel
def w_X4_write  (p0 : Int32) (p1 : Int32) (p2 : Int32) (p3 : Int32) (σ : wS) (Q : wS → Prop) : Prop := w_X4_putLine p0 ((p1 ||| ((p2 + (1 : Int32)) <<< ((2 : Int32) &&& 31))) ||| (p3 <<< ((6 : Int32) &&& 31))) σ (fun s1 => Q s1)
set_option maxRecDepth 100000 in
set_option maxHeartbeats 4000000 in
theorem c_X4_write (l : Launch) (g : wG) (A : Nat → Prop) (hA : adO g A)   {p0 : Int32} {p1 : Int32} {p2 : Int32} {p3 : Int32} {σ : wS} {Q : wS → Prop} (h : w_X4_write  p0 p1 p2 p3 σ Q) : Mv l yX4_write wvX4_write 1 22 g A [.ref (g.2.2 48), .int p0, .int p1, .int p2, .int p3] σ Q := by
  refine mt_v (own := RX4) (lv := [(0, .ref (g.2.2 48)), (1, .int p0), (2, .int p1), (3, .int p2), (4, .int p3)]) (by decide) rfl rfl hA (Nat.le_of_ble_eq_true rfl) rfl ?_
  intro X hl hg hAA F hret
  subst hl hg hAA
  unfold w_X4_write at h
  refine x_aload_n F dX4_write_0 rfl 0 rfl ?_
  refine x_iload_n F dX4_write_1 rfl 1 rfl ?_
  refine x_iload_n F dX4_write_2 rfl 2 rfl ?_
  refine x_iload_n F dX4_write_3 rfl 3 rfl ?_
  refine x_iconst (1 : Int32) F dX4_write_4 (by decide) ?_
  refine x_iadd F dX4_write_5 ?_
  refine x_iconst (2 : Int32) F dX4_write_6 (by decide) ?_
  refine x_ishl F dX4_write_7 ?_
  refine x_ior F dX4_write_8 ?_
  refine x_iload F dX4_write_9 4 rfl ?_
  refine x_bipush (6 : Int32) F dX4_write_11 (by decide) ?_
  refine x_ishl F dX4_write_13 ?_
  refine x_ior F dX4_write_14 ?_
  refine x_callV_v F (c_X4_putLine (xl X) (xg X) (xA X) F.2.2.1  h) (bw_V bw_34_11 bw_34_12 bw_34_13 bw_2_22 bw_34_14) rfl cd_X4_putLine (Nat.le_of_ble_eq_true rfl) (Nat.le_of_ble_eq_true rfl) (kd_w (by decide) kz_48) rfl (cl_4 kz_48) rfl rfl (Nat.le_of_ble_eq_true rfl) dX4_write_15 (fun s1 h => ?_)
  exact hret _ _ _ h dX4_write_18
/-! X4_lineAt -/
abbrev wvX4_lineAt : List Cond := Cond.code yX4_lineAt cX4_lineAt 2 (some .int) :: wsL_law
theorem cd_X4_lineAt : okN yX4_lineAt RX4 1 := by unfold okN; decide +kernel
def w_X4_lineAt  (p0 : Int32) (σ : wS) (Q : Int32 → wS → Prop) : Prop := (p0 < 0 → (Q (0 : Int32) σ)) ∧ (¬ p0 < 0 → (vp_in (p0 - p0 / (716 : Int32) * (716 : Int32)) 716 ∧ (Q (σ.1 49 ((p0 - p0 / (716 : Int32) * (716 : Int32))).toNatClampNeg) σ)))
set_option maxRecDepth 100000 in
set_option maxHeartbeats 4000000 in
theorem c_X4_lineAt (l : Launch) (g : wG) (A : Nat → Prop) (hA : adO g A)   {p0 : Int32} {σ : wS} {Q : Int32 → wS → Prop} (h : w_X4_lineAt  p0 σ Q) : Mi l yX4_lineAt wvX4_lineAt 0 0 g A [.ref (g.2.2 48), .int p0] σ Q := by
  refine mt_i (own := RX4) (lv := [(0, .ref (g.2.2 48)), (1, .int p0)]) (by decide) rfl rfl hA (Nat.le_of_ble_eq_true rfl) rfl ?_
  intro X hl hg hAA F hret
  subst hl hg hAA
  unfold w_X4_lineAt at h
  refine x_iload_n F dX4_lineAt_0 rfl 1 rfl ?_
  refine x_if_lt (tgt := 17) F dX4_lineAt_1 (by decide) (fun c => ?_) (fun c => ?_)
  · replace h := h.1 c
    refine x_iconst (0 : Int32) F dX4_lineAt_17 (by decide) ?_
    exact hret _ _ _ _ h rfl dX4_lineAt_18
  · replace h := h.2 c
    refine x_aload_n F dX4_lineAt_4 rfl 0 rfl ?_
    refine g_4_0 F kz_48 in_4 (mc bw_6_7) dX4_lineAt_5 ?_
    refine x_iload_n F dX4_lineAt_8 rfl 1 rfl ?_
    refine x_sipush (716 : Int32) F dX4_lineAt_9 (by decide) ?_
    refine x_irem F dX4_lineAt_12 (by decide) ?_
    obtain ⟨hj, h⟩ := h
    refine x_iald F kz_49 nz_49 hj dX4_lineAt_13 ?_
    refine x_goto (tgt := 18) F dX4_lineAt_14 (by decide) ?_
    exact hret _ _ _ _ h rfl dX4_lineAt_18
/-! X4_read -/
abbrev wvX4_read : List Cond := Cond.code yX4_read cX4_read 4 (some .int) :: wsL_law
theorem cd_X4_read : okN yX4_read RX4 2 := by unfold okN; decide +kernel
def w_X4_read  (p0 : Int32) (p1 : Int32) (σ : wS) (Q : Int32 → wS → Prop) : Prop := w_X4_lineAt p0 σ (fun r2 s1 => (¬ p1 = 0 → ((¬ p1 = (1 : Int32) → (Q (r2 >>> ((6 : Int32) &&& 31)) s1)) ∧ (p1 = (1 : Int32) → (Q (((r2 >>> ((2 : Int32) &&& 31)) &&& (15 : Int32)) - (1 : Int32)) s1)))) ∧ (p1 = 0 → (Q (r2 &&& (3 : Int32)) s1)))
set_option maxRecDepth 100000 in
set_option maxHeartbeats 4000000 in
theorem c_X4_read (l : Launch) (g : wG) (A : Nat → Prop) (hA : adO g A)   {p0 : Int32} {p1 : Int32} {σ : wS} {Q : Int32 → wS → Prop} (h : w_X4_read  p0 p1 σ Q) : Mi l yX4_read wvX4_read 1 21 g A [.ref (g.2.2 48), .int p0, .int p1] σ Q := by
  refine mt_i (own := RX4) (lv := [(0, .ref (g.2.2 48)), (1, .int p0), (2, .int p1)]) (by decide) rfl rfl hA (Nat.le_of_ble_eq_true rfl) rfl ?_
  intro X hl hg hAA F hret
  subst hl hg hAA
  unfold w_X4_read at h
  refine x_aload_n F dX4_read_0 rfl 0 rfl ?_
  refine x_iload_n F dX4_read_1 rfl 1 rfl ?_
  refine x_callV_i F (c_X4_lineAt (xl X) (xg X) (xA X) F.2.2.1  h) (bw_V bw_40_19 bw_40_20 bw_40_21 bw_2_22 bw_40_22) rfl cd_X4_lineAt (Nat.le_of_ble_eq_true rfl) (Nat.le_of_ble_eq_true rfl) (kd_w (by decide) kz_48) rfl (cl_4 kz_48) rfl rfl (Nat.le_of_ble_eq_true rfl) dX4_read_2 (fun r2 s1 h => ?_)
  refine x_istore_n (lv' := [(3, .int r2), (0, .ref (ad X 48)), (1, .int p0), (2, .int p1)]) F dX4_read_5 rfl (by decide) rfl ?_
  refine x_iload_n F dX4_read_6 rfl 3 rfl ?_
  refine x_if_ne (tgt := 14) F dX4_read_7 (by decide) (fun c => ?_) (fun c => ?_)
  · replace h := h.1 c
    refine x_iload_n F dX4_read_14 rfl 3 rfl ?_
    refine x_iconst (1 : Int32) F dX4_read_15 (by decide) ?_
    refine x_icmp_ne (tgt := 30) F dX4_read_16 (by decide) (fun c => ?_) (fun c => ?_)
    · replace h := h.1 c
      refine x_iload_n F dX4_read_30 rfl 0 rfl ?_
      refine x_bipush (6 : Int32) F dX4_read_31 (by decide) ?_
      refine x_ishr F dX4_read_33 ?_
      exact hret _ _ _ _ h rfl dX4_read_34
    · replace h := h.2 c
      refine x_iload_n F dX4_read_19 rfl 0 rfl ?_
      refine x_iconst (2 : Int32) F dX4_read_20 (by decide) ?_
      refine x_ishr F dX4_read_21 ?_
      refine x_bipush (15 : Int32) F dX4_read_22 (by decide) ?_
      refine x_iand F dX4_read_24 ?_
      refine x_iconst (1 : Int32) F dX4_read_25 (by decide) ?_
      refine x_isub F dX4_read_26 ?_
      refine x_goto (tgt := 34) F dX4_read_27 (by decide) ?_
      exact hret _ _ _ _ h rfl dX4_read_34
  · replace h := h.2 c
    refine x_iload_n F dX4_read_10 rfl 0 rfl ?_
    refine x_iconst (3 : Int32) F dX4_read_11 (by decide) ?_
    refine x_iand F dX4_read_12 ?_
    exact hret _ _ _ _ h rfl dX4_read_13
/-! X5_clear -/
abbrev wvX5_clear : List Cond := Cond.code yX5_clear cX5_clear 1 none :: wsL_law
theorem cd_X5_clear : okN yX5_clear RX5 0 := by unfold okN; decide +kernel
def w_X5_clear (i0 : Nat)  (σ : wS) (Q : wS → Prop) : Prop := ∀ s1 : wS, s1 = upI σ i0 6 (0 : Int32) → ((¬ (0 : Int32) < 0 ∧ ¬ (0 : Int32) < 0 ∧ ¬ (4 : Int32) < 0 ∧ ((0 : Int32)).toNatClampNeg + ((4 : Int32)).toNatClampNeg ≤ 4 ∧ ((0 : Int32)).toNatClampNeg + ((4 : Int32)).toNatClampNeg ≤ 4) ∧ (∀ s2 : wS, s2 = setI s1 (i0 + 1) (va_cpy (stv 209) (s1.1 (i0 + 1)) ((0 : Int32)).toNatClampNeg ((0 : Int32)).toNatClampNeg ((4 : Int32)).toNatClampNeg) → (Q s2)))
set_option maxRecDepth 100000 in
set_option maxHeartbeats 4000000 in
theorem c_X5_clear (l : Launch) (g : wG) (A : Nat → Prop) (hA : adO g A) {i0 : Nat} (k_i0 : kd i0 = 5)  {σ : wS} {Q : wS → Prop} (h : w_X5_clear i0  σ Q) : Mv l yX5_clear wvX5_clear 1 40 g A [.ref (g.2.2 i0)] σ Q := by
  refine mt_v (own := RX5) (lv := [(0, .ref (g.2.2 i0))]) (by decide) rfl rfl hA (Nat.le_of_ble_eq_true rfl) rfl ?_
  intro X hl hg hAA F hret
  subst hl hg hAA
  unfold w_X5_clear at h
  refine x_aload_n F dX5_clear_0 rfl 0 rfl ?_
  refine x_iconst (0 : Int32) F dX5_clear_1 (by decide) ?_
  refine q_5_6 F k_i0 in_5 (mc bw_4_15) dX5_clear_2 ?_
  refine x_nmS (fun s1 es1 => ?_)
  replace h := h s1 es1
  refine x_getsN (q := 9) F (by decide) (by decide) dX5_clear_5 ?_
  refine x_iconst (0 : Int32) F dX5_clear_8 (by decide) ?_
  refine x_aload_n F dX5_clear_9 rfl 0 rfl ?_
  refine g_5_0 F k_i0 in_5 (mc bw_4_8) dX5_clear_10 ?_
  refine x_iconst (0 : Int32) F dX5_clear_13 (by decide) ?_
  refine x_iconst (4 : Int32) F dX5_clear_14 (by decide) ?_
  obtain ⟨hz, h⟩ := h
  refine x_copyS F (mc bw_10_2) (mc bw_10_3) (mc bw_10_4) (mc bw_10_5) kz_209 (ky_5_0 k_i0) nz_209 (kn_5_0 k_i0) hz.1 hz.2.1 hz.2.2.1 hz.2.2.2.1 hz.2.2.2.2 (Nat.le_of_ble_eq_true rfl) (Nat.le_of_ble_eq_true rfl) dX5_clear_15 ?_
  refine x_nmS (fun s2 es2 => ?_)
  replace h := h s2 es2
  exact hret _ _ _ h dX5_clear_18
/-! X5_addRope -/
abbrev wvX5_addRope : List Cond := Cond.code yX5_addRope cX5_addRope 2 (some .int) :: wsL_law
theorem cd_X5_addRope : okN yX5_addRope RX5 0 := by unfold okN; decide +kernel
def w_X5_addRope (i0 : Nat)  (σ : wS) (Q : Int32 → wS → Prop) : Prop := ∀ y1 : Int32, y1 = ((σ.1 i0 6) * (7 : Int32)) → ((¬ (0 : Int32) < 0 ∧ ¬ y1 < 0 ∧ ¬ (7 : Int32) < 0 ∧ ((0 : Int32)).toNatClampNeg + ((7 : Int32)).toNatClampNeg ≤ 7 ∧ (y1).toNatClampNeg + ((7 : Int32)).toNatClampNeg ≤ 56) ∧ (∀ s2 : wS, s2 = setI σ (i0 + 2) (va_cpy (stv 205) (σ.1 (i0 + 2)) ((0 : Int32)).toNatClampNeg (y1).toNatClampNeg ((7 : Int32)).toNatClampNeg) → (∀ s3 : wS, s3 = upI s2 i0 6 ((s2.1 i0 6) + (1 : Int32)) → (Q y1 s3))))
set_option maxRecDepth 100000 in
set_option maxHeartbeats 4000000 in
theorem c_X5_addRope (l : Launch) (g : wG) (A : Nat → Prop) (hA : adO g A) {i0 : Nat} (k_i0 : kd i0 = 5)  {σ : wS} {Q : Int32 → wS → Prop} (h : w_X5_addRope i0  σ Q) : Mi l yX5_addRope wvX5_addRope 1 40 g A [.ref (g.2.2 i0)] σ Q := by
  refine mt_i (own := RX5) (lv := [(0, .ref (g.2.2 i0))]) (by decide) rfl rfl hA (Nat.le_of_ble_eq_true rfl) rfl ?_
  intro X hl hg hAA F hret
  subst hl hg hAA
  unfold w_X5_addRope at h
  refine x_aload_n F dX5_addRope_0 rfl 0 rfl ?_
  refine g_5_6 F k_i0 in_5 (mc bw_4_15) dX5_addRope_1 ?_
  refine x_bipush (7 : Int32) F dX5_addRope_4 (by decide) ?_
  refine x_imul F dX5_addRope_6 ?_
  refine x_topi (fun y1 ey1 => ?_)
  replace h := h y1 ey1
  refine x_istore_n (lv' := [(1, .int y1), (0, .ref (ad X i0))]) F dX5_addRope_7 rfl (by decide) rfl ?_
  refine x_getsN (q := 5) F (by decide) (by decide) dX5_addRope_8 ?_
  refine x_iconst (0 : Int32) F dX5_addRope_11 (by decide) ?_
  refine x_aload_n F dX5_addRope_12 rfl 1 rfl ?_
  refine g_5_1 F k_i0 in_5 (mc bw_4_9) dX5_addRope_13 ?_
  refine x_iload_n F dX5_addRope_16 rfl 0 rfl ?_
  refine x_bipush (7 : Int32) F dX5_addRope_17 (by decide) ?_
  obtain ⟨hz, h⟩ := h
  refine x_copyS F (mc bw_10_2) (mc bw_10_3) (mc bw_10_4) (mc bw_10_5) kz_205 (ky_5_1 k_i0) nz_205 (kn_5_1 k_i0) hz.1 hz.2.1 hz.2.2.1 hz.2.2.2.1 hz.2.2.2.2 (Nat.le_of_ble_eq_true rfl) (Nat.le_of_ble_eq_true rfl) dX5_addRope_19 ?_
  refine x_nmS (fun s2 es2 => ?_)
  replace h := h s2 es2
  refine x_aload_n F dX5_addRope_22 rfl 1 rfl ?_
  refine x_dup F dX5_addRope_23 rfl ?_
  refine g_5_6 F k_i0 in_5 (mc bw_4_15) dX5_addRope_24 ?_
  refine x_iconst (1 : Int32) F dX5_addRope_27 (by decide) ?_
  refine x_iadd F dX5_addRope_28 ?_
  refine q_5_6 F k_i0 in_5 (mc bw_4_15) dX5_addRope_29 ?_
  refine x_nmS (fun s3 es3 => ?_)
  replace h := h s3 es3
  refine x_iload_n F dX5_addRope_32 rfl 0 rfl ?_
  exact hret _ _ _ _ h rfl dX5_addRope_33
/-! X5_isWhole -/
abbrev wvX5_isWhole : List Cond := Cond.code yX5_isWhole cX5_isWhole 2 (some .boolean) :: wsL_law
theorem cd_X5_isWhole : okN yX5_isWhole RX5 0 := by unfold okN; decide +kernel
def b_X5_isWhole_30 (i0 : Nat) (K2 : Int32 → wS → Prop) (Q : Int32 → wS → Prop) (x1 : Int32) (σ : wS) : Prop := ∀ y1 : Int32, y1 = (x1 + (1 : Int32)) → (K2 y1 σ)
set_option maxRecDepth 100000 in
set_option maxHeartbeats 4000000 in
theorem wb_X5_isWhole_30 {X : XT} {Q : Int32 → wS → Prop} {i0 : Nat} (F : Fx X cX5_isWhole 2 RX5 wvX5_isWhole 1 22) (hret : Ri X 2 cX5_isWhole .boolean Q) (k_i0 : kd i0 = 5) {K2 : Int32 → wS → Prop} (hK2 : ∀ (x1 : Int32) (σ : wS), K2 x1 σ → Wx X 2 σ 2 [(0, .ref (ad X i0)), (1, .int x1)] []) (x1 : Int32) (σ : wS) (h : b_X5_isWhole_30 i0 K2 Q x1 σ) : Wx X 2 σ 30 [(0, .ref (ad X i0)), (1, .int x1)] [] := by
  unfold b_X5_isWhole_30 at h
  obtain ⟨y1, ey1⟩ : ∃ y : Int32, y = (x1 + (1 : Int32)) := ⟨_, rfl⟩
  replace h := h y1 ey1
  refine x_iinc (q := 1) (v := y1) (lv' := [(1, .int y1), (0, .ref (ad X i0))]) F dX5_isWhole_30 rfl (by rw [ey1]; rfl) (by decide) rfl ?_
  refine x_goto (tgt := 2) F dX5_isWhole_33 (by decide) ?_
  refine x_sub (lv' := [(0, .ref (ad X i0)), (1, .int y1)]) [1, 0] rfl ?_
  exact hK2 _ _ h
def l_X5_isWhole_2 (i0 : Nat)  (Q : Int32 → wS → Prop) : Nat → Int32 → wS → Prop
  | 0, _, _ => False
  | n + 1, x1, σ => ((σ.1 i0 6) ≤ x1 → (((σ.1 i0 6) ≤ 0 → (Q (0 : Int32) σ)) ∧ (¬ (σ.1 i0 6) ≤ 0 → (Q (1 : Int32) σ)))) ∧ (¬ (σ.1 i0 6) ≤ x1 → (w_X5_itemOf i0 x1 (3 : Int32) σ (fun r2 s1 => (¬ r2 = 0 → (b_X5_isWhole_30 i0 (fun x1 σ => l_X5_isWhole_2 i0  Q n x1 σ) Q x1 s1)) ∧ (r2 = 0 → (w_X5_itemOf i0 x1 (4 : Int32) s1 (fun r4 s3 => (¬ r4 = 0 → (b_X5_isWhole_30 i0 (fun x1 σ => l_X5_isWhole_2 i0  Q n x1 σ) Q x1 s3)) ∧ (r4 = 0 → (Q (0 : Int32) s3))))))))
set_option maxRecDepth 100000 in
set_option maxHeartbeats 4000000 in
theorem wl_X5_isWhole_2 {X : XT} {Q : Int32 → wS → Prop} {i0 : Nat} (F : Fx X cX5_isWhole 2 RX5 wvX5_isWhole 1 22) (hret : Ri X 2 cX5_isWhole .boolean Q) (k_i0 : kd i0 = 5)   : ∀ (n : Nat) (x1 : Int32) (σ : wS), l_X5_isWhole_2 i0  Q n x1 σ → Wx X 2 σ 2 [(0, .ref (ad X i0)), (1, .int x1)] [] := by
  intro n
  induction n with
  | zero =>
    intros
    contradiction
  | succ n ih =>
    intro x1 σ h
    simp only [l_X5_isWhole_2] at h
    refine x_iload_n F dX5_isWhole_2 rfl 1 rfl ?_
    refine x_aload_n F dX5_isWhole_3 rfl 0 rfl ?_
    refine g_5_6 F k_i0 in_5 (mc bw_4_15) dX5_isWhole_4 ?_
    refine x_icmp_ge (tgt := 36) F dX5_isWhole_7 (by decide) (fun c => ?_) (fun c => ?_)
    · replace h := h.1 c
      refine x_aload_n F dX5_isWhole_36 rfl 0 rfl ?_
      refine g_5_6 F k_i0 in_5 (mc bw_4_15) dX5_isWhole_37 ?_
      refine x_if_le (tgt := 47) F dX5_isWhole_40 (by decide) (fun c => ?_) (fun c => ?_)
      · replace h := h.1 c
        refine x_iconst (0 : Int32) F dX5_isWhole_47 (by decide) ?_
        exact hret _ _ _ _ h (nar01 (by decide)) dX5_isWhole_48
      · replace h := h.2 c
        refine x_iconst (1 : Int32) F dX5_isWhole_43 (by decide) ?_
        refine x_goto (tgt := 48) F dX5_isWhole_44 (by decide) ?_
        exact hret _ _ _ _ h (nar01 (by decide)) dX5_isWhole_48
    · replace h := h.2 c
      refine x_aload_n F dX5_isWhole_10 rfl 0 rfl ?_
      refine x_iload_n F dX5_isWhole_11 rfl 1 rfl ?_
      refine x_iconst (3 : Int32) F dX5_isWhole_12 (by decide) ?_
      refine x_callV_i F (c_X5_itemOf (xl X) (xg X) (xA X) F.2.2.1 k_i0 h) (bw_V bw_11_22 bw_11_23 bw_12_0 bw_2_0 bw_12_1) rfl cd_X5_itemOf (Nat.le_of_ble_eq_true rfl) (Nat.le_of_ble_eq_true rfl) (kd_w (by decide) k_i0) rfl (cl_5 k_i0) rfl rfl (Nat.le_of_ble_eq_true rfl) dX5_isWhole_13 (fun r2 s1 h => ?_)
      refine x_if_ne (tgt := 30) F dX5_isWhole_16 (by decide) (fun c => ?_) (fun c => ?_)
      · replace h := h.1 c
        refine x_sub (lv' := [(0, .ref (ad X i0)), (1, .int x1)]) [0, 1] rfl ?_
        exact wb_X5_isWhole_30 F hret k_i0 ih _ _ h
      · replace h := h.2 c
        refine x_aload_n F dX5_isWhole_19 rfl 0 rfl ?_
        refine x_iload_n F dX5_isWhole_20 rfl 1 rfl ?_
        refine x_iconst (4 : Int32) F dX5_isWhole_21 (by decide) ?_
        refine x_callV_i F (c_X5_itemOf (xl X) (xg X) (xA X) F.2.2.1 k_i0 h) (bw_V bw_11_22 bw_11_23 bw_12_0 bw_2_0 bw_12_1) rfl cd_X5_itemOf (Nat.le_of_ble_eq_true rfl) (Nat.le_of_ble_eq_true rfl) (kd_w (by decide) k_i0) rfl (cl_5 k_i0) rfl rfl (Nat.le_of_ble_eq_true rfl) dX5_isWhole_22 (fun r4 s3 h => ?_)
        refine x_if_ne (tgt := 30) F dX5_isWhole_25 (by decide) (fun c => ?_) (fun c => ?_)
        · replace h := h.1 c
          refine x_sub (lv' := [(0, .ref (ad X i0)), (1, .int x1)]) [0, 1] rfl ?_
          exact wb_X5_isWhole_30 F hret k_i0 ih _ _ h
        · replace h := h.2 c
          refine x_iconst (0 : Int32) F dX5_isWhole_28 (by decide) ?_
          exact hret _ _ _ _ h (nar01 (by decide)) dX5_isWhole_29
def w_X5_isWhole (i0 : Nat)  (σ : wS) (Q : Int32 → wS → Prop) : Prop := (∃ m, l_X5_isWhole_2 i0  Q m (0 : Int32) σ)
set_option maxRecDepth 100000 in
set_option maxHeartbeats 4000000 in
theorem c_X5_isWhole (l : Launch) (g : wG) (A : Nat → Prop) (hA : adO g A) {i0 : Nat} (k_i0 : kd i0 = 5)  {σ : wS} {Q : Int32 → wS → Prop} (h : w_X5_isWhole i0  σ Q) : Mi l yX5_isWhole wvX5_isWhole 1 22 g A [.ref (g.2.2 i0)] σ Q := by
  refine mt_i (own := RX5) (lv := [(0, .ref (g.2.2 i0))]) (by decide) rfl rfl hA (Nat.le_of_ble_eq_true rfl) rfl ?_
  intro X hl hg hAA F hret
  subst hl hg hAA
  unfold w_X5_isWhole at h
  refine x_iconst (0 : Int32) F dX5_isWhole_0 (by decide) ?_
  refine x_istore_n (lv' := [(1, .int (0 : Int32)), (0, .ref (ad X i0))]) F dX5_isWhole_1 rfl (by decide) rfl ?_
  refine x_sub (lv' := [(0, .ref (ad X i0)), (1, .int (0 : Int32))]) [1, 0] rfl ?_
  obtain ⟨n2, h⟩ := h
  exact wl_X5_isWhole_2 F hret k_i0  n2 _ _ h
