/-! X12_settles -/
abbrev wvX12_settles : List Cond := Cond.code yX12_settles cX12_settles 8 (some .int) :: wsL_law
theorem cd_X12_settles : okN yX12_settles RX12 1 := by unfold okN; decide +kernel
def b_X12_settles_266 (p0 : Nat) (K225 : Int32 → Int32 → Int32 → wS → Prop) (Q : Int32 → wS → Prop) (x2 : Int32) (x3 : Int32) (x5 : Int32) (σ : wS) : Prop := ∀ y1 : Int32, y1 = (x5 + (1 : Int32)) → (K225 x2 x3 y1 σ)
set_option maxRecDepth 100000 in
set_option maxHeartbeats 4000000 in
theorem wb_X12_settles_266 {X : XT} {Q : Int32 → wS → Prop} {p0 : Nat} (F : Fx X cX12_settles 8 RX12 wvX12_settles 4 98) (hret : Ri X 8 cX12_settles .int Q) (k_p0 : kd p0 = 14) {K225 : Int32 → Int32 → Int32 → wS → Prop} (hK225 : ∀ (x2 : Int32) (x3 : Int32) (x5 : Int32) (σ : wS), K225 x2 x3 x5 σ → Wx X 8 σ 225 [(0, .ref (ad X 176)), (1, .ref (ad X p0)), (2, .int x2), (3, .int x3), (5, .int x5)] []) (x2 : Int32) (x3 : Int32) (x5 : Int32) (σ : wS) (h : b_X12_settles_266 p0 K225 Q x2 x3 x5 σ) : Wx X 8 σ 266 [(0, .ref (ad X 176)), (1, .ref (ad X p0)), (2, .int x2), (3, .int x3), (5, .int x5)] [] := by
  unfold b_X12_settles_266 at h
  obtain ⟨y1, ey1⟩ : ∃ y : Int32, y = (x5 + (1 : Int32)) := ⟨_, rfl⟩
  replace h := h y1 ey1
  refine x_iinc (q := 4) (v := y1) (lv' := [(5, .int y1), (0, .ref (ad X 176)), (1, .ref (ad X p0)), (2, .int x2), (3, .int x3)]) F dX12_settles_266 rfl (by rw [ey1]; rfl) (by decide) rfl ?_
  refine x_goto (tgt := 225) F dX12_settles_269 (by decide) ?_
  refine x_sub (lv' := [(0, .ref (ad X 176)), (1, .ref (ad X p0)), (2, .int x2), (3, .int x3), (5, .int y1)]) [1, 2, 3, 4, 0] rfl ?_
  exact hK225 _ _ _ _ h
def b_X12_settles_265 (p0 : Nat) (K225 : Int32 → Int32 → Int32 → wS → Prop) (Q : Int32 → wS → Prop) (x2 : Int32) (x3 : Int32) (x5 : Int32) (z0 : Int32) (z1 : Int32) (z2 : Nat) (σ : wS) : Prop := vp_in z1 (ln z2) ∧ (∀ s1 : wS, s1 = upI σ z2 (z1).toNatClampNeg z0 → (b_X12_settles_266 p0 K225 Q x2 x3 x5 s1))
set_option maxRecDepth 100000 in
set_option maxHeartbeats 4000000 in
theorem wb_X12_settles_265 {X : XT} {Q : Int32 → wS → Prop} {p0 : Nat} (F : Fx X cX12_settles 8 RX12 wvX12_settles 4 98) (hret : Ri X 8 cX12_settles .int Q) (k_p0 : kd p0 = 14) {K225 : Int32 → Int32 → Int32 → wS → Prop} (hK225 : ∀ (x2 : Int32) (x3 : Int32) (x5 : Int32) (σ : wS), K225 x2 x3 x5 σ → Wx X 8 σ 225 [(0, .ref (ad X 176)), (1, .ref (ad X p0)), (2, .int x2), (3, .int x3), (5, .int x5)] []) (x2 : Int32) (x3 : Int32) (x5 : Int32) (z0 : Int32) (z1 : Int32) (z2 : Nat) (k_z2 : kd z2 = 14) (σ : wS) (h : b_X12_settles_265 p0 K225 Q x2 x3 x5 z0 z1 z2 σ) : Wx X 8 σ 265 [(0, .ref (ad X 176)), (1, .ref (ad X p0)), (2, .int x2), (3, .int x3), (5, .int x5)] [.int z0, .int z1, .ref (ad X z2)] := by
  unfold b_X12_settles_265 at h
  obtain ⟨hz, h⟩ := h
  refine x_iast F k_z2 rfl hz dX12_settles_265 ?_
  refine x_nmS (fun s1 es1 => ?_)
  replace h := h s1 es1
  refine x_sub (lv' := [(0, .ref (ad X 176)), (1, .ref (ad X p0)), (2, .int x2), (3, .int x3), (5, .int x5)]) [0, 1, 2, 3, 4] rfl ?_
  exact wb_X12_settles_266 F hret k_p0 hK225 _ _ _ _ h
def l_X12_settles_225 (p0 : Nat)  (Q : Int32 → wS → Prop) : Nat → Int32 → Int32 → Int32 → wS → Prop
  | 0, _, _, _, _ => False
  | n + 1, x2, x3, x5, σ => ((σ.1 176 14) ≤ x5 → (vp_in (19 : Int32) (ln p0) ∧ (∀ s1 : wS, s1 = upI σ p0 ((19 : Int32)).toNatClampNeg x3 → (vp_in (20 : Int32) (ln p0) ∧ (vp_in (20 : Int32) (ln p0) ∧ (∀ s2 : wS, s2 = upI s1 p0 ((20 : Int32)).toNatClampNeg ((s1.1 p0 ((20 : Int32)).toNatClampNeg) + (s1.1 176 32)) → (Q (-1 : Int32) s2))))))) ∧ (¬ (σ.1 176 14) ≤ x5 → (vp_in ((8 : Int32) + x5) (ln p0) ∧ (((2 : Int32) ≤ (σ.1 p0 (((8 : Int32) + x5)).toNatClampNeg) → (b_X12_settles_266 p0 (fun x2 x3 x5 σ => l_X12_settles_225 p0  Q n x2 x3 x5 σ) Q x2 x3 x5 σ)) ∧ (¬ (2 : Int32) ≤ (σ.1 p0 (((8 : Int32) + x5)).toNatClampNeg) → (w_X12_has x2 x5 σ (fun r4 s3 => (r4 = 0 → (b_X12_settles_265 p0 (fun x2 x3 x5 σ => l_X12_settles_225 p0  Q n x2 x3 x5 σ) Q x2 x3 x5 (1 : Int32) ((8 : Int32) + x5) p0 s3)) ∧ (¬ r4 = 0 → (b_X12_settles_265 p0 (fun x2 x3 x5 σ => l_X12_settles_225 p0  Q n x2 x3 x5 σ) Q x2 x3 x5 (0 : Int32) ((8 : Int32) + x5) p0 s3))))))))
set_option maxRecDepth 100000 in
set_option maxHeartbeats 4000000 in
theorem wl_X12_settles_225 {X : XT} {Q : Int32 → wS → Prop} {p0 : Nat} (F : Fx X cX12_settles 8 RX12 wvX12_settles 4 98) (hret : Ri X 8 cX12_settles .int Q) (k_p0 : kd p0 = 14)   : ∀ (n : Nat) (x2 : Int32) (x3 : Int32) (x5 : Int32) (σ : wS), l_X12_settles_225 p0  Q n x2 x3 x5 σ → Wx X 8 σ 225 [(0, .ref (ad X 176)), (1, .ref (ad X p0)), (2, .int x2), (3, .int x3), (5, .int x5)] [] := by
  intro n
  induction n with
  | zero =>
    intros
    contradiction
  | succ n ih =>
    intro x2 x3 x5 σ h
    simp only [l_X12_settles_225] at h
    refine x_iload F dX12_settles_225 4 rfl ?_
    refine x_aload_n F dX12_settles_227 rfl 0 rfl ?_
    refine g_12_14 F kz_176 in_12 (mc bw_22_18) dX12_settles_228 ?_
    refine x_icmp_ge (tgt := 272) F dX12_settles_231 (by decide) (fun c => ?_) (fun c => ?_)
    · replace h := h.1 c
      refine x_aload_n F dX12_settles_272 rfl 1 rfl ?_
      refine x_bipush (19 : Int32) F dX12_settles_273 (by decide) ?_
      refine x_iload_n F dX12_settles_275 rfl 3 rfl ?_
      obtain ⟨hz, h⟩ := h
      refine x_iast F k_p0 rfl hz dX12_settles_276 ?_
      refine x_nmS (fun s1 es1 => ?_)
      replace h := h s1 es1
      refine x_aload_n F dX12_settles_277 rfl 1 rfl ?_
      refine x_bipush (20 : Int32) F dX12_settles_278 (by decide) ?_
      refine x_dup2_11 F dX12_settles_280 rfl rfl ?_
      obtain ⟨hj, h⟩ := h
      refine x_iald F k_p0 rfl hj dX12_settles_281 ?_
      refine x_aload_n F dX12_settles_282 rfl 0 rfl ?_
      refine g_12_32 F kz_176 in_12 (mc bw_23_9) dX12_settles_283 ?_
      refine x_iadd F dX12_settles_286 ?_
      obtain ⟨hz, h⟩ := h
      refine x_iast F k_p0 rfl hz dX12_settles_287 ?_
      refine x_nmS (fun s2 es2 => ?_)
      replace h := h s2 es2
      refine x_iconst (-1 : Int32) F dX12_settles_288 (by decide) ?_
      exact hret _ _ _ _ h rfl dX12_settles_289
    · replace h := h.2 c
      refine x_aload_n F dX12_settles_234 rfl 1 rfl ?_
      refine x_bipush (8 : Int32) F dX12_settles_235 (by decide) ?_
      refine x_iload F dX12_settles_237 4 rfl ?_
      refine x_iadd F dX12_settles_239 ?_
      obtain ⟨hj, h⟩ := h
      refine x_iald F k_p0 rfl hj dX12_settles_240 ?_
      refine x_iconst (2 : Int32) F dX12_settles_241 (by decide) ?_
      refine x_icmp_ge (tgt := 266) F dX12_settles_242 (by decide) (fun c => ?_) (fun c => ?_)
      · replace h := h.1 c
        refine x_sub (lv' := [(0, .ref (ad X 176)), (1, .ref (ad X p0)), (2, .int x2), (3, .int x3), (5, .int x5)]) [0, 1, 2, 3, 4] rfl ?_
        exact wb_X12_settles_266 F hret k_p0 ih _ _ _ _ h
      · replace h := h.2 c
        refine x_aload_n F dX12_settles_245 rfl 1 rfl ?_
        refine x_bipush (8 : Int32) F dX12_settles_246 (by decide) ?_
        refine x_iload F dX12_settles_248 4 rfl ?_
        refine x_iadd F dX12_settles_250 ?_
        refine x_iload_n F dX12_settles_251 rfl 2 rfl ?_
        refine x_iload F dX12_settles_252 4 rfl ?_
        refine x_callT_i F (c_X12_has (xl X) (xg X) (xA X) F.2.2.1  h) (bw_S bw_16_18 bw_16_19 bw_1_5 bw_16_20) rfl cd_X12_has (Nat.le_of_ble_eq_true rfl) (Nat.le_of_ble_eq_true rfl) rfl rfl (Nat.le_of_ble_eq_true rfl) dX12_settles_254 (fun r4 s3 h => ?_)
        refine x_if_eq (tgt := 264) F dX12_settles_257 (by decide) (fun c => ?_) (fun c => ?_)
        · replace h := h.1 c
          refine x_iconst (1 : Int32) F dX12_settles_264 (by decide) ?_
          refine x_sub (lv' := [(0, .ref (ad X 176)), (1, .ref (ad X p0)), (2, .int x2), (3, .int x3), (5, .int x5)]) [0, 1, 2, 3, 4] rfl ?_
          exact wb_X12_settles_265 F hret k_p0 ih _ _ _ _ _ _ k_p0 _ h
        · replace h := h.2 c
          refine x_iconst (0 : Int32) F dX12_settles_260 (by decide) ?_
          refine x_goto (tgt := 265) F dX12_settles_261 (by decide) ?_
          refine x_sub (lv' := [(0, .ref (ad X 176)), (1, .ref (ad X p0)), (2, .int x2), (3, .int x3), (5, .int x5)]) [0, 1, 2, 3, 4] rfl ?_
          exact wb_X12_settles_265 F hret k_p0 ih _ _ _ _ _ _ k_p0 _ h
def b_X12_settles_217 (p0 : Nat) (K24 : Int32 → Int32 → Int32 → wS → Prop) (Q : Int32 → wS → Prop) (x2 : Int32) (x3 : Int32) (z0 : Int32) (σ : wS) : Prop := K24 x2 x3 z0 σ
set_option maxRecDepth 100000 in
set_option maxHeartbeats 4000000 in
theorem wb_X12_settles_217 {X : XT} {Q : Int32 → wS → Prop} {p0 : Nat} (F : Fx X cX12_settles 8 RX12 wvX12_settles 4 98) (hret : Ri X 8 cX12_settles .int Q) (k_p0 : kd p0 = 14) {K24 : Int32 → Int32 → Int32 → wS → Prop} (hK24 : ∀ (x2 : Int32) (x3 : Int32) (x4 : Int32) (σ : wS), K24 x2 x3 x4 σ → Wx X 8 σ 24 [(0, .ref (ad X 176)), (1, .ref (ad X p0)), (2, .int x2), (3, .int x3), (4, .int x4)] []) (x2 : Int32) (x3 : Int32) (z0 : Int32) (σ : wS) (h : b_X12_settles_217 p0 K24 Q x2 x3 z0 σ) : Wx X 8 σ 217 [(0, .ref (ad X 176)), (1, .ref (ad X p0)), (2, .int x2), (3, .int x3)] [.int z0] := by
  unfold b_X12_settles_217 at h
  refine x_istore (lv' := [(4, .int z0), (0, .ref (ad X 176)), (1, .ref (ad X p0)), (2, .int x2), (3, .int x3)]) F dX12_settles_217 (by decide) rfl ?_
  refine x_goto (tgt := 24) F dX12_settles_219 (by decide) ?_
  refine x_sub (lv' := [(0, .ref (ad X 176)), (1, .ref (ad X p0)), (2, .int x2), (3, .int x3), (4, .int z0)]) [1, 2, 3, 4, 0] rfl ?_
  exact hK24 _ _ _ _ h
def b_X12_settles_212 (p0 : Nat) (K24 : Int32 → Int32 → Int32 → wS → Prop) (Q : Int32 → wS → Prop) (x2 : Int32) (x3 : Int32) (σ : wS) : Prop := b_X12_settles_217 p0 K24 Q x2 x3 (1 : Int32) σ
set_option maxRecDepth 100000 in
set_option maxHeartbeats 4000000 in
theorem wb_X12_settles_212 {X : XT} {Q : Int32 → wS → Prop} {p0 : Nat} (F : Fx X cX12_settles 8 RX12 wvX12_settles 4 98) (hret : Ri X 8 cX12_settles .int Q) (k_p0 : kd p0 = 14) {K24 : Int32 → Int32 → Int32 → wS → Prop} (hK24 : ∀ (x2 : Int32) (x3 : Int32) (x4 : Int32) (σ : wS), K24 x2 x3 x4 σ → Wx X 8 σ 24 [(0, .ref (ad X 176)), (1, .ref (ad X p0)), (2, .int x2), (3, .int x3), (4, .int x4)] []) (x2 : Int32) (x3 : Int32) (σ : wS) (h : b_X12_settles_212 p0 K24 Q x2 x3 σ) : Wx X 8 σ 212 [(0, .ref (ad X 176)), (1, .ref (ad X p0)), (2, .int x2), (3, .int x3)] [] := by
  unfold b_X12_settles_212 at h
  refine x_iconst (1 : Int32) F dX12_settles_212 (by decide) ?_
  refine x_goto (tgt := 217) F dX12_settles_213 (by decide) ?_
  refine x_sub (lv' := [(0, .ref (ad X 176)), (1, .ref (ad X p0)), (2, .int x2), (3, .int x3)]) [0, 1, 2, 3] rfl ?_
  exact wb_X12_settles_217 F hret k_p0 hK24 _ _ _ _ h
def b_X12_settles_194 (p0 : Nat) (K24 : Int32 → Int32 → Int32 → wS → Prop) (Q : Int32 → wS → Prop) (x2 : Int32) (x3 : Int32) (x5 : Int32) (x6 : Int32) (x7 : Int32) (σ : wS) : Prop := (¬ x5 = (-1 : Int32) → (b_X12_settles_212 p0 K24 Q x2 x3 σ)) ∧ (x5 = (-1 : Int32) → ((¬ x6 = (-1 : Int32) → (b_X12_settles_212 p0 K24 Q x2 x3 σ)) ∧ (x6 = (-1 : Int32) → ((x7 = (-1 : Int32) → (b_X12_settles_217 p0 K24 Q x2 x3 (0 : Int32) σ)) ∧ (¬ x7 = (-1 : Int32) → (b_X12_settles_212 p0 K24 Q x2 x3 σ))))))
set_option maxRecDepth 100000 in
set_option maxHeartbeats 4000000 in
theorem wb_X12_settles_194 {X : XT} {Q : Int32 → wS → Prop} {p0 : Nat} (F : Fx X cX12_settles 8 RX12 wvX12_settles 4 98) (hret : Ri X 8 cX12_settles .int Q) (k_p0 : kd p0 = 14) {K24 : Int32 → Int32 → Int32 → wS → Prop} (hK24 : ∀ (x2 : Int32) (x3 : Int32) (x4 : Int32) (σ : wS), K24 x2 x3 x4 σ → Wx X 8 σ 24 [(0, .ref (ad X 176)), (1, .ref (ad X p0)), (2, .int x2), (3, .int x3), (4, .int x4)] []) (x2 : Int32) (x3 : Int32) (x5 : Int32) (x6 : Int32) (x7 : Int32) (σ : wS) (h : b_X12_settles_194 p0 K24 Q x2 x3 x5 x6 x7 σ) : Wx X 8 σ 194 [(0, .ref (ad X 176)), (1, .ref (ad X p0)), (2, .int x2), (3, .int x3), (5, .int x5), (6, .int x6), (7, .int x7)] [] := by
  unfold b_X12_settles_194 at h
  refine x_iload F dX12_settles_194 4 rfl ?_
  refine x_iconst (-1 : Int32) F dX12_settles_196 (by decide) ?_
  refine x_icmp_ne (tgt := 212) F dX12_settles_197 (by decide) (fun c => ?_) (fun c => ?_)
  · replace h := h.1 c
    refine x_sub (lv' := [(0, .ref (ad X 176)), (1, .ref (ad X p0)), (2, .int x2), (3, .int x3)]) [0, 1, 2, 3] rfl ?_
    exact wb_X12_settles_212 F hret k_p0 hK24 _ _ _ h
  · replace h := h.2 c
    refine x_iload F dX12_settles_200 5 rfl ?_
    refine x_iconst (-1 : Int32) F dX12_settles_202 (by decide) ?_
    refine x_icmp_ne (tgt := 212) F dX12_settles_203 (by decide) (fun c => ?_) (fun c => ?_)
    · replace h := h.1 c
      refine x_sub (lv' := [(0, .ref (ad X 176)), (1, .ref (ad X p0)), (2, .int x2), (3, .int x3)]) [0, 1, 2, 3] rfl ?_
      exact wb_X12_settles_212 F hret k_p0 hK24 _ _ _ h
    · replace h := h.2 c
      refine x_iload F dX12_settles_206 6 rfl ?_
      refine x_iconst (-1 : Int32) F dX12_settles_208 (by decide) ?_
      refine x_icmp_eq (tgt := 216) F dX12_settles_209 (by decide) (fun c => ?_) (fun c => ?_)
      · replace h := h.1 c
        refine x_iconst (0 : Int32) F dX12_settles_216 (by decide) ?_
        refine x_sub (lv' := [(0, .ref (ad X 176)), (1, .ref (ad X p0)), (2, .int x2), (3, .int x3)]) [0, 1, 2, 3] rfl ?_
        exact wb_X12_settles_217 F hret k_p0 hK24 _ _ _ _ h
      · replace h := h.2 c
        refine x_sub (lv' := [(0, .ref (ad X 176)), (1, .ref (ad X p0)), (2, .int x2), (3, .int x3)]) [0, 1, 2, 3] rfl ?_
        exact wb_X12_settles_212 F hret k_p0 hK24 _ _ _ h
def b_X12_settles_146 (p0 : Nat) (K24 : Int32 → Int32 → Int32 → wS → Prop) (Q : Int32 → wS → Prop) (x2 : Int32) (x3 : Int32) (x5 : Int32) (x6 : Int32) (x7 : Int32) (σ : wS) : Prop := (x7 = (-1 : Int32) → (b_X12_settles_194 p0 K24 Q x2 x3 x5 x6 x7 σ)) ∧ (¬ x7 = (-1 : Int32) → (∀ y1 : Int32, y1 = (x2 &&& (((1 : Int32) <<< (x7 &&& 31)) ^^^ (-1 : Int32))) → (vp_in ((8 : Int32) + x7) (ln p0) ∧ (∀ s2 : wS, s2 = upI σ p0 (((8 : Int32) + x7)).toNatClampNeg (2 : Int32) → (vp_in (s2.1 176 32) 8 ∧ (∀ s3 : wS, s3 = upI s2 196 ((s2.1 176 32)).toNatClampNeg x7 → (∀ s4 : wS, s4 = upI s3 176 32 ((s3.1 176 32) + (1 : Int32)) → (w_X12_forgets  s4 (fun s5 => b_X12_settles_194 p0 K24 Q y1 x3 x5 x6 x7 s5)))))))))
set_option maxRecDepth 100000 in
set_option maxHeartbeats 4000000 in
theorem wb_X12_settles_146 {X : XT} {Q : Int32 → wS → Prop} {p0 : Nat} (F : Fx X cX12_settles 8 RX12 wvX12_settles 4 98) (hret : Ri X 8 cX12_settles .int Q) (k_p0 : kd p0 = 14) {K24 : Int32 → Int32 → Int32 → wS → Prop} (hK24 : ∀ (x2 : Int32) (x3 : Int32) (x4 : Int32) (σ : wS), K24 x2 x3 x4 σ → Wx X 8 σ 24 [(0, .ref (ad X 176)), (1, .ref (ad X p0)), (2, .int x2), (3, .int x3), (4, .int x4)] []) (x2 : Int32) (x3 : Int32) (x5 : Int32) (x6 : Int32) (x7 : Int32) (σ : wS) (h : b_X12_settles_146 p0 K24 Q x2 x3 x5 x6 x7 σ) : Wx X 8 σ 146 [(0, .ref (ad X 176)), (1, .ref (ad X p0)), (2, .int x2), (3, .int x3), (5, .int x5), (6, .int x6), (7, .int x7)] [] := by
  unfold b_X12_settles_146 at h
  refine x_iload F dX12_settles_146 6 rfl ?_
  refine x_iconst (-1 : Int32) F dX12_settles_148 (by decide) ?_
  refine x_icmp_eq (tgt := 194) F dX12_settles_149 (by decide) (fun c => ?_) (fun c => ?_)
  · replace h := h.1 c
    refine x_sub (lv' := [(0, .ref (ad X 176)), (1, .ref (ad X p0)), (2, .int x2), (3, .int x3), (5, .int x5), (6, .int x6), (7, .int x7)]) [0, 1, 2, 3, 4, 5, 6] rfl ?_
    exact wb_X12_settles_194 F hret k_p0 hK24 _ _ _ _ _ _ h
  · replace h := h.2 c
    refine x_iload_n F dX12_settles_152 rfl 2 rfl ?_
    refine x_iconst (1 : Int32) F dX12_settles_153 (by decide) ?_
    refine x_iload F dX12_settles_154 6 rfl ?_
    refine x_ishl F dX12_settles_156 ?_
    refine x_iconst (-1 : Int32) F dX12_settles_157 (by decide) ?_
    refine x_ixor F dX12_settles_158 ?_
    refine x_iand F dX12_settles_159 ?_
    refine x_topi (fun y1 ey1 => ?_)
    replace h := h y1 ey1
    refine x_istore_n (lv' := [(2, .int y1), (0, .ref (ad X 176)), (1, .ref (ad X p0)), (3, .int x3), (5, .int x5), (6, .int x6), (7, .int x7)]) F dX12_settles_160 rfl (by decide) rfl ?_
    refine x_aload_n F dX12_settles_161 rfl 2 rfl ?_
    refine x_bipush (8 : Int32) F dX12_settles_162 (by decide) ?_
    refine x_iload F dX12_settles_164 6 rfl ?_
    refine x_iadd F dX12_settles_166 ?_
    refine x_iconst (2 : Int32) F dX12_settles_167 (by decide) ?_
    obtain ⟨hz, h⟩ := h
    refine x_iast F k_p0 rfl hz dX12_settles_168 ?_
    refine x_nmS (fun s2 es2 => ?_)
    replace h := h s2 es2
    refine x_aload_n F dX12_settles_169 rfl 1 rfl ?_
    refine g_12_31 F kz_176 in_12 (mc bw_8_2) dX12_settles_170 ?_
    refine x_aload_n F dX12_settles_173 rfl 1 rfl ?_
    refine g_12_32 F kz_176 in_12 (mc bw_23_9) dX12_settles_174 ?_
    refine x_iload F dX12_settles_177 6 rfl ?_
    obtain ⟨hz, h⟩ := h
    refine x_iast F kz_196 nz_196 hz dX12_settles_179 ?_
    refine x_nmS (fun s3 es3 => ?_)
    replace h := h s3 es3
    refine x_aload_n F dX12_settles_180 rfl 1 rfl ?_
    refine x_dup F dX12_settles_181 rfl ?_
    refine g_12_32 F kz_176 in_12 (mc bw_23_9) dX12_settles_182 ?_
    refine x_iconst (1 : Int32) F dX12_settles_185 (by decide) ?_
    refine x_iadd F dX12_settles_186 ?_
    refine q_12_32 F kz_176 in_12 (mc bw_23_9) dX12_settles_187 ?_
    refine x_nmS (fun s4 es4 => ?_)
    replace h := h s4 es4
    refine x_aload_n F dX12_settles_190 rfl 1 rfl ?_
    refine x_callV_v F (c_X12_forgets (xl X) (xg X) (xA X) F.2.2.1  h) (bw_V bw_23_14 bw_23_15 bw_23_16 bw_1_5 bw_23_17) rfl cd_X12_forgets (Nat.le_of_ble_eq_true rfl) (Nat.le_of_ble_eq_true rfl) (kd_w (by decide) kz_176) rfl (cl_12 kz_176) rfl rfl (Nat.le_of_ble_eq_true rfl) dX12_settles_191 (fun s5 h => ?_)
    refine x_sub (lv' := [(0, .ref (ad X 176)), (1, .ref (ad X p0)), (2, .int y1), (3, .int x3), (5, .int x5), (6, .int x6), (7, .int x7)]) [1, 2, 0, 3, 4, 5, 6] rfl ?_
    exact wb_X12_settles_194 F hret k_p0 hK24 _ _ _ _ _ _ h
def b_X12_settles_133 (p0 : Nat) (K24 : Int32 → Int32 → Int32 → wS → Prop) (Q : Int32 → wS → Prop) (x2 : Int32) (x3 : Int32) (x5 : Int32) (x6 : Int32) (x7 : Int32) (σ : wS) : Prop := (x6 = (-1 : Int32) → (b_X12_settles_146 p0 K24 Q x2 x3 x5 x6 x7 σ)) ∧ (¬ x6 = (-1 : Int32) → (∀ y1 : Int32, y1 = (x2 ||| ((1 : Int32) <<< (x6 &&& 31))) → (b_X12_settles_146 p0 K24 Q y1 x3 x5 x6 x7 σ)))
set_option maxRecDepth 100000 in
set_option maxHeartbeats 4000000 in
theorem wb_X12_settles_133 {X : XT} {Q : Int32 → wS → Prop} {p0 : Nat} (F : Fx X cX12_settles 8 RX12 wvX12_settles 4 98) (hret : Ri X 8 cX12_settles .int Q) (k_p0 : kd p0 = 14) {K24 : Int32 → Int32 → Int32 → wS → Prop} (hK24 : ∀ (x2 : Int32) (x3 : Int32) (x4 : Int32) (σ : wS), K24 x2 x3 x4 σ → Wx X 8 σ 24 [(0, .ref (ad X 176)), (1, .ref (ad X p0)), (2, .int x2), (3, .int x3), (4, .int x4)] []) (x2 : Int32) (x3 : Int32) (x5 : Int32) (x6 : Int32) (x7 : Int32) (σ : wS) (h : b_X12_settles_133 p0 K24 Q x2 x3 x5 x6 x7 σ) : Wx X 8 σ 133 [(0, .ref (ad X 176)), (1, .ref (ad X p0)), (2, .int x2), (3, .int x3), (5, .int x5), (6, .int x6), (7, .int x7)] [] := by
  unfold b_X12_settles_133 at h
  refine x_iload F dX12_settles_133 5 rfl ?_
  refine x_iconst (-1 : Int32) F dX12_settles_135 (by decide) ?_
  refine x_icmp_eq (tgt := 146) F dX12_settles_136 (by decide) (fun c => ?_) (fun c => ?_)
  · replace h := h.1 c
    refine x_sub (lv' := [(0, .ref (ad X 176)), (1, .ref (ad X p0)), (2, .int x2), (3, .int x3), (5, .int x5), (6, .int x6), (7, .int x7)]) [0, 1, 2, 3, 4, 5, 6] rfl ?_
    exact wb_X12_settles_146 F hret k_p0 hK24 _ _ _ _ _ _ h
  · replace h := h.2 c
    refine x_iload_n F dX12_settles_139 rfl 2 rfl ?_
    refine x_iconst (1 : Int32) F dX12_settles_140 (by decide) ?_
    refine x_iload F dX12_settles_141 5 rfl ?_
    refine x_ishl F dX12_settles_143 ?_
    refine x_ior F dX12_settles_144 ?_
    refine x_topi (fun y1 ey1 => ?_)
    replace h := h y1 ey1
    refine x_istore_n (lv' := [(2, .int y1), (0, .ref (ad X 176)), (1, .ref (ad X p0)), (3, .int x3), (5, .int x5), (6, .int x6), (7, .int x7)]) F dX12_settles_145 rfl (by decide) rfl ?_
    refine x_sub (lv' := [(0, .ref (ad X 176)), (1, .ref (ad X p0)), (2, .int y1), (3, .int x3), (5, .int x5), (6, .int x6), (7, .int x7)]) [1, 2, 0, 3, 4, 5, 6] rfl ?_
    exact wb_X12_settles_146 F hret k_p0 hK24 _ _ _ _ _ _ h
def b_X12_settles_116 (p0 : Nat) (K24 : Int32 → Int32 → Int32 → wS → Prop) (Q : Int32 → wS → Prop) (x2 : Int32) (x3 : Int32) (x5 : Int32) (x6 : Int32) (z0 : Int32) (σ : wS) : Prop := (x5 = (-1 : Int32) → (b_X12_settles_133 p0 K24 Q x2 x3 x5 x6 z0 σ)) ∧ (¬ x5 = (-1 : Int32) → (∀ y1 : Int32, y1 = (x2 &&& (((1 : Int32) <<< (x5 &&& 31)) ^^^ (-1 : Int32))) → (b_X12_settles_133 p0 K24 Q y1 x3 x5 x6 z0 σ)))
set_option maxRecDepth 100000 in
set_option maxHeartbeats 4000000 in
theorem wb_X12_settles_116 {X : XT} {Q : Int32 → wS → Prop} {p0 : Nat} (F : Fx X cX12_settles 8 RX12 wvX12_settles 4 98) (hret : Ri X 8 cX12_settles .int Q) (k_p0 : kd p0 = 14) {K24 : Int32 → Int32 → Int32 → wS → Prop} (hK24 : ∀ (x2 : Int32) (x3 : Int32) (x4 : Int32) (σ : wS), K24 x2 x3 x4 σ → Wx X 8 σ 24 [(0, .ref (ad X 176)), (1, .ref (ad X p0)), (2, .int x2), (3, .int x3), (4, .int x4)] []) (x2 : Int32) (x3 : Int32) (x5 : Int32) (x6 : Int32) (z0 : Int32) (σ : wS) (h : b_X12_settles_116 p0 K24 Q x2 x3 x5 x6 z0 σ) : Wx X 8 σ 116 [(0, .ref (ad X 176)), (1, .ref (ad X p0)), (2, .int x2), (3, .int x3), (5, .int x5), (6, .int x6)] [.int z0] := by
  unfold b_X12_settles_116 at h
  refine x_istore (lv' := [(7, .int z0), (0, .ref (ad X 176)), (1, .ref (ad X p0)), (2, .int x2), (3, .int x3), (5, .int x5), (6, .int x6)]) F dX12_settles_116 (by decide) rfl ?_
  refine x_iload F dX12_settles_118 5 rfl ?_
  refine x_iconst (-1 : Int32) F dX12_settles_120 (by decide) ?_
  refine x_icmp_eq (tgt := 133) F dX12_settles_121 (by decide) (fun c => ?_) (fun c => ?_)
  · replace h := h.1 c
    refine x_sub (lv' := [(0, .ref (ad X 176)), (1, .ref (ad X p0)), (2, .int x2), (3, .int x3), (5, .int x5), (6, .int x6), (7, .int z0)]) [1, 2, 3, 4, 5, 6, 0] rfl ?_
    exact wb_X12_settles_133 F hret k_p0 hK24 _ _ _ _ _ _ h
  · replace h := h.2 c
    refine x_iload_n F dX12_settles_124 rfl 3 rfl ?_
    refine x_iconst (1 : Int32) F dX12_settles_125 (by decide) ?_
    refine x_iload F dX12_settles_126 5 rfl ?_
    refine x_ishl F dX12_settles_128 ?_
    refine x_iconst (-1 : Int32) F dX12_settles_129 (by decide) ?_
    refine x_ixor F dX12_settles_130 ?_
    refine x_iand F dX12_settles_131 ?_
    refine x_topi (fun y1 ey1 => ?_)
    replace h := h y1 ey1
    refine x_istore_n (lv' := [(2, .int y1), (7, .int z0), (0, .ref (ad X 176)), (1, .ref (ad X p0)), (3, .int x3), (5, .int x5), (6, .int x6)]) F dX12_settles_132 rfl (by decide) rfl ?_
    refine x_sub (lv' := [(0, .ref (ad X 176)), (1, .ref (ad X p0)), (2, .int y1), (3, .int x3), (5, .int x5), (6, .int x6), (7, .int z0)]) [2, 3, 0, 4, 5, 6, 1] rfl ?_
    exact wb_X12_settles_133 F hret k_p0 hK24 _ _ _ _ _ _ h
def b_X12_settles_115 (p0 : Nat) (K24 : Int32 → Int32 → Int32 → wS → Prop) (Q : Int32 → wS → Prop) (x2 : Int32) (x3 : Int32) (x5 : Int32) (x6 : Int32) (σ : wS) : Prop := b_X12_settles_116 p0 K24 Q x2 x3 x5 x6 (-1 : Int32) σ
set_option maxRecDepth 100000 in
set_option maxHeartbeats 4000000 in
theorem wb_X12_settles_115 {X : XT} {Q : Int32 → wS → Prop} {p0 : Nat} (F : Fx X cX12_settles 8 RX12 wvX12_settles 4 98) (hret : Ri X 8 cX12_settles .int Q) (k_p0 : kd p0 = 14) {K24 : Int32 → Int32 → Int32 → wS → Prop} (hK24 : ∀ (x2 : Int32) (x3 : Int32) (x4 : Int32) (σ : wS), K24 x2 x3 x4 σ → Wx X 8 σ 24 [(0, .ref (ad X 176)), (1, .ref (ad X p0)), (2, .int x2), (3, .int x3), (4, .int x4)] []) (x2 : Int32) (x3 : Int32) (x5 : Int32) (x6 : Int32) (σ : wS) (h : b_X12_settles_115 p0 K24 Q x2 x3 x5 x6 σ) : Wx X 8 σ 115 [(0, .ref (ad X 176)), (1, .ref (ad X p0)), (2, .int x2), (3, .int x3), (5, .int x5), (6, .int x6)] [] := by
  unfold b_X12_settles_115 at h
  refine x_iconst (-1 : Int32) F dX12_settles_115 (by decide) ?_
  refine x_sub (lv' := [(0, .ref (ad X 176)), (1, .ref (ad X p0)), (2, .int x2), (3, .int x3), (5, .int x5), (6, .int x6)]) [0, 1, 2, 3, 4, 5] rfl ?_
  exact wb_X12_settles_116 F hret k_p0 hK24 _ _ _ _ _ _ h
def b_X12_settles_91 (p0 : Nat) (K24 : Int32 → Int32 → Int32 → wS → Prop) (Q : Int32 → wS → Prop) (x2 : Int32) (x3 : Int32) (x5 : Int32) (z0 : Int32) (σ : wS) : Prop := (¬ x5 = (-1 : Int32) → (b_X12_settles_115 p0 K24 Q x2 x3 x5 z0 σ)) ∧ (x5 = (-1 : Int32) → ((¬ z0 = (-1 : Int32) → (b_X12_settles_115 p0 K24 Q x2 x3 x5 z0 σ)) ∧ (z0 = (-1 : Int32) → (w_X12_worstOf p0 x2 (1 : Int32) σ (fun r2 s1 => b_X12_settles_116 p0 K24 Q x2 x3 x5 z0 r2 s1)))))
set_option maxRecDepth 100000 in
set_option maxHeartbeats 4000000 in
theorem wb_X12_settles_91 {X : XT} {Q : Int32 → wS → Prop} {p0 : Nat} (F : Fx X cX12_settles 8 RX12 wvX12_settles 4 98) (hret : Ri X 8 cX12_settles .int Q) (k_p0 : kd p0 = 14) {K24 : Int32 → Int32 → Int32 → wS → Prop} (hK24 : ∀ (x2 : Int32) (x3 : Int32) (x4 : Int32) (σ : wS), K24 x2 x3 x4 σ → Wx X 8 σ 24 [(0, .ref (ad X 176)), (1, .ref (ad X p0)), (2, .int x2), (3, .int x3), (4, .int x4)] []) (x2 : Int32) (x3 : Int32) (x5 : Int32) (z0 : Int32) (σ : wS) (h : b_X12_settles_91 p0 K24 Q x2 x3 x5 z0 σ) : Wx X 8 σ 91 [(0, .ref (ad X 176)), (1, .ref (ad X p0)), (2, .int x2), (3, .int x3), (5, .int x5)] [.int z0] := by
  unfold b_X12_settles_91 at h
  refine x_istore (lv' := [(6, .int z0), (0, .ref (ad X 176)), (1, .ref (ad X p0)), (2, .int x2), (3, .int x3), (5, .int x5)]) F dX12_settles_91 (by decide) rfl ?_
  refine x_iload F dX12_settles_93 5 rfl ?_
  refine x_iconst (-1 : Int32) F dX12_settles_95 (by decide) ?_
  refine x_icmp_ne (tgt := 115) F dX12_settles_96 (by decide) (fun c => ?_) (fun c => ?_)
  · replace h := h.1 c
    refine x_sub (lv' := [(0, .ref (ad X 176)), (1, .ref (ad X p0)), (2, .int x2), (3, .int x3), (5, .int x5), (6, .int z0)]) [1, 2, 3, 4, 5, 0] rfl ?_
    exact wb_X12_settles_115 F hret k_p0 hK24 _ _ _ _ _ h
  · replace h := h.2 c
    refine x_iload F dX12_settles_99 0 rfl ?_
    refine x_iconst (-1 : Int32) F dX12_settles_101 (by decide) ?_
    refine x_icmp_ne (tgt := 115) F dX12_settles_102 (by decide) (fun c => ?_) (fun c => ?_)
    · replace h := h.1 c
      refine x_sub (lv' := [(0, .ref (ad X 176)), (1, .ref (ad X p0)), (2, .int x2), (3, .int x3), (5, .int x5), (6, .int z0)]) [1, 2, 3, 4, 5, 0] rfl ?_
      exact wb_X12_settles_115 F hret k_p0 hK24 _ _ _ _ _ h
    · replace h := h.2 c
      refine x_aload_n F dX12_settles_105 rfl 1 rfl ?_
      refine x_aload_n F dX12_settles_106 rfl 2 rfl ?_
      refine x_iload_n F dX12_settles_107 rfl 3 rfl ?_
      refine x_iconst (1 : Int32) F dX12_settles_108 (by decide) ?_
      refine x_callV_i F (c_X12_worstOf (xl X) (xg X) (xA X) F.2.2.1 k_p0 h) (bw_V bw_25_6 bw_25_7 bw_25_8 bw_1_5 bw_25_9) rfl cd_X12_worstOf (Nat.le_of_ble_eq_true rfl) (Nat.le_of_ble_eq_true rfl) (kd_w (by decide) kz_176) rfl (cl_12 kz_176) rfl rfl (Nat.le_of_ble_eq_true rfl) dX12_settles_109 (fun r2 s1 h => ?_)
      refine x_goto (tgt := 116) F dX12_settles_112 (by decide) ?_
      refine x_sub (lv' := [(0, .ref (ad X 176)), (1, .ref (ad X p0)), (2, .int x2), (3, .int x3), (5, .int x5), (6, .int z0)]) [1, 2, 3, 4, 5, 0] rfl ?_
      exact wb_X12_settles_116 F hret k_p0 hK24 _ _ _ _ _ _ h
def l_X12_settles_24 (p0 : Nat)  (Q : Int32 → wS → Prop) : Nat → Int32 → Int32 → Int32 → wS → Prop
  | 0, _, _, _, _ => False
  | n + 1, x2, x3, x4, σ => (x4 = 0 → ((∃ m, l_X12_settles_225 p0  Q m x2 x3 (0 : Int32) σ))) ∧ (¬ x4 = 0 → (vp_in x2 256 ∧ (((σ.1 195 (x2).toNatClampNeg) = 0 → (vp_in x2 256 ∧ (∀ s1 : wS, s1 = upI σ 195 (x2).toNatClampNeg (vp_nar .boolean (1 : Int32)) → (w_X12_solves p0 x2 s1 (fun s2 => (¬ (lg_cmp (s2.2 176 29) (0 : Int64)) = 0 → (∀ y4 : Int32, y4 = (x3 + (1 : Int32)) → (w_X12_pusher p0 x2 s2 (fun r6 s5 => (¬ r6 = (-1 : Int32) → (b_X12_settles_91 p0 (fun x2 x3 x4 σ => l_X12_settles_24 p0  Q n x2 x3 x4 σ) Q x2 y4 r6 (-1 : Int32) s5)) ∧ (r6 = (-1 : Int32) → (w_X12_wanted p0 x2 s5 (fun r8 s7 => b_X12_settles_91 p0 (fun x2 x3 x4 σ => l_X12_settles_24 p0  Q n x2 x3 x4 σ) Q x2 y4 r6 r8 s7))))))) ∧ ((lg_cmp (s2.2 176 29) (0 : Int64)) = 0 → (Q (3 : Int32) s2))))))) ∧ (¬ (σ.1 195 (x2).toNatClampNeg) = 0 → (Q (4 : Int32) σ)))))
set_option maxRecDepth 100000 in
set_option maxHeartbeats 4000000 in
theorem wl_X12_settles_24 {X : XT} {Q : Int32 → wS → Prop} {p0 : Nat} (F : Fx X cX12_settles 8 RX12 wvX12_settles 4 98) (hret : Ri X 8 cX12_settles .int Q) (k_p0 : kd p0 = 14)   : ∀ (n : Nat) (x2 : Int32) (x3 : Int32) (x4 : Int32) (σ : wS), l_X12_settles_24 p0  Q n x2 x3 x4 σ → Wx X 8 σ 24 [(0, .ref (ad X 176)), (1, .ref (ad X p0)), (2, .int x2), (3, .int x3), (4, .int x4)] [] := by
  intro n
  induction n with
  | zero =>
    intros
    contradiction
  | succ n ih =>
    intro x2 x3 x4 σ h
    simp only [l_X12_settles_24] at h
    refine x_iload F dX12_settles_24 4 rfl ?_
    refine x_if_eq (tgt := 222) F dX12_settles_26 (by decide) (fun c => ?_) (fun c => ?_)
    · replace h := h.1 c
      refine x_iconst (0 : Int32) F dX12_settles_222 (by decide) ?_
      refine x_istore (lv' := [(5, .int (0 : Int32)), (0, .ref (ad X 176)), (1, .ref (ad X p0)), (2, .int x2), (3, .int x3), (4, .int x4)]) F dX12_settles_223 (by decide) rfl ?_
      refine x_sub (lv' := [(0, .ref (ad X 176)), (1, .ref (ad X p0)), (2, .int x2), (3, .int x3), (5, .int (0 : Int32))]) [1, 2, 3, 4, 0] rfl ?_
      obtain ⟨n2, h⟩ := h
      exact wl_X12_settles_225 F hret k_p0  n2 _ _ _ _ h
    · replace h := h.2 c
      refine x_aload_n F dX12_settles_29 rfl 0 rfl ?_
      refine g_12_30 F kz_176 in_12 (mc bw_8_1) dX12_settles_30 ?_
      refine x_iload_n F dX12_settles_33 rfl 2 rfl ?_
      obtain ⟨hj, h⟩ := h
      refine x_zald F kz_195 nz_195 hj dX12_settles_34 ?_
      refine x_if_eq (tgt := 40) F dX12_settles_35 (by decide) (fun c => ?_) (fun c => ?_)
      · replace h := h.1 c
        refine x_aload_n F dX12_settles_40 rfl 0 rfl ?_
        refine g_12_30 F kz_176 in_12 (mc bw_8_1) dX12_settles_41 ?_
        refine x_iload_n F dX12_settles_44 rfl 2 rfl ?_
        refine x_iconst (1 : Int32) F dX12_settles_45 (by decide) ?_
        obtain ⟨hz, h⟩ := h
        refine x_zast F kz_195 nz_195 hz dX12_settles_46 ?_
        refine x_nmS (fun s1 es1 => ?_)
        replace h := h s1 es1
        refine x_aload_n F dX12_settles_47 rfl 0 rfl ?_
        refine x_aload_n F dX12_settles_48 rfl 1 rfl ?_
        refine x_iload_n F dX12_settles_49 rfl 2 rfl ?_
        refine x_callV_v F (c_X12_solves (xl X) (xg X) (xA X) F.2.2.1 k_p0 h) (bw_V bw_23_18 bw_23_19 bw_23_20 bw_1_5 bw_23_21) rfl cd_X12_solves (Nat.le_of_ble_eq_true rfl) (Nat.le_of_ble_eq_true rfl) (kd_w (by decide) kz_176) rfl (cl_12 kz_176) rfl rfl (Nat.le_of_ble_eq_true rfl) dX12_settles_50 (fun s2 h => ?_)
        refine x_aload_n F dX12_settles_53 rfl 0 rfl ?_
        refine g_12_29 F kz_176 in_12 (mc bw_23_10) dX12_settles_54 ?_
        refine x_lconst (0 : Int64) F dX12_settles_57 (by decide) ?_
        refine x_lcmp F dX12_settles_58 ?_
        refine x_if_ne (tgt := 64) F dX12_settles_59 (by decide) (fun c => ?_) (fun c => ?_)
        · replace h := h.1 c
          obtain ⟨y4, ey4⟩ : ∃ y : Int32, y = (x3 + (1 : Int32)) := ⟨_, rfl⟩
          replace h := h y4 ey4
          refine x_iinc (q := 3) (v := y4) (lv' := [(3, .int y4), (0, .ref (ad X 176)), (1, .ref (ad X p0)), (2, .int x2), (4, .int x4)]) F dX12_settles_64 rfl (by rw [ey4]; rfl) (by decide) rfl ?_
          refine x_aload_n F dX12_settles_67 rfl 1 rfl ?_
          refine x_aload_n F dX12_settles_68 rfl 2 rfl ?_
          refine x_iload_n F dX12_settles_69 rfl 3 rfl ?_
          refine x_callV_i F (c_X12_pusher (xl X) (xg X) (xA X) F.2.2.1 k_p0 h) (bw_V bw_24_18 bw_24_19 bw_24_20 bw_1_5 bw_24_21) rfl cd_X12_pusher (Nat.le_of_ble_eq_true rfl) (Nat.le_of_ble_eq_true rfl) (kd_w (by decide) kz_176) rfl (cl_12 kz_176) rfl rfl (Nat.le_of_ble_eq_true rfl) dX12_settles_70 (fun r6 s5 h => ?_)
          refine x_istore (lv' := [(5, .int r6), (3, .int y4), (0, .ref (ad X 176)), (1, .ref (ad X p0)), (2, .int x2), (4, .int x4)]) F dX12_settles_73 (by decide) rfl ?_
          refine x_iload F dX12_settles_75 0 rfl ?_
          refine x_iconst (-1 : Int32) F dX12_settles_77 (by decide) ?_
          refine x_icmp_ne (tgt := 90) F dX12_settles_78 (by decide) (fun c => ?_) (fun c => ?_)
          · replace h := h.1 c
            refine x_iconst (-1 : Int32) F dX12_settles_90 (by decide) ?_
            refine x_sub (lv' := [(0, .ref (ad X 176)), (1, .ref (ad X p0)), (2, .int x2), (3, .int y4), (5, .int r6)]) [2, 3, 4, 1, 0] rfl ?_
            exact wb_X12_settles_91 F hret k_p0 ih _ _ _ _ _ h
          · replace h := h.2 c
            refine x_aload_n F dX12_settles_81 rfl 2 rfl ?_
            refine x_aload_n F dX12_settles_82 rfl 3 rfl ?_
            refine x_iload_n F dX12_settles_83 rfl 4 rfl ?_
            refine x_callV_i F (c_X12_wanted (xl X) (xg X) (xA X) F.2.2.1 k_p0 h) (bw_V bw_25_2 bw_25_3 bw_25_4 bw_1_5 bw_25_5) rfl cd_X12_wanted (Nat.le_of_ble_eq_true rfl) (Nat.le_of_ble_eq_true rfl) (kd_w (by decide) kz_176) rfl (cl_12 kz_176) rfl rfl (Nat.le_of_ble_eq_true rfl) dX12_settles_84 (fun r8 s7 h => ?_)
            refine x_goto (tgt := 91) F dX12_settles_87 (by decide) ?_
            refine x_sub (lv' := [(0, .ref (ad X 176)), (1, .ref (ad X p0)), (2, .int x2), (3, .int y4), (5, .int r6)]) [2, 3, 4, 1, 0] rfl ?_
            exact wb_X12_settles_91 F hret k_p0 ih _ _ _ _ _ h
        · replace h := h.2 c
          refine x_iconst (3 : Int32) F dX12_settles_62 (by decide) ?_
          exact hret _ _ _ _ h rfl dX12_settles_63
      · replace h := h.2 c
        refine x_iconst (4 : Int32) F dX12_settles_38 (by decide) ?_
        exact hret _ _ _ _ h rfl dX12_settles_39
def w_X12_settles (p0 : Nat)  (σ : wS) (Q : Int32 → wS → Prop) : Prop := w_X12_those p0 (σ.1 176 14) (0 : Int32) σ (fun r2 s1 => ∀ s3 : wS, s3 = upI s1 176 32 (0 : Int32) → (w_X12_forgets  s3 (fun s4 => (∃ m, l_X12_settles_24 p0  Q m r2 (0 : Int32) (1 : Int32) s4))))
set_option maxRecDepth 100000 in
set_option maxHeartbeats 4000000 in
theorem c_X12_settles (l : Launch) (g : wG) (A : Nat → Prop) (hA : adO g A) {p0 : Nat} (k_p0 : kd p0 = 14)  {σ : wS} {Q : Int32 → wS → Prop} (h : w_X12_settles p0  σ Q) : Mi l yX12_settles wvX12_settles 4 98 g A [.ref (g.2.2 176), .ref (g.2.2 p0)] σ Q := by
  refine mt_i (own := RX12) (lv := [(0, .ref (g.2.2 176)), (1, .ref (g.2.2 p0))]) (by decide) rfl rfl hA (Nat.le_of_ble_eq_true rfl) rfl ?_
  intro X hl hg hAA F hret
  subst hl hg hAA
  unfold w_X12_settles at h
  refine x_aload_n F dX12_settles_0 rfl 1 rfl ?_
  refine x_aload_n F dX12_settles_1 rfl 0 rfl ?_
  refine g_12_14 F kz_176 in_12 (mc bw_22_18) dX12_settles_2 ?_
  refine x_iconst (0 : Int32) F dX12_settles_5 (by decide) ?_
  refine x_callT_i F (c_X12_those (xl X) (xg X) (xA X) F.2.2.1 k_p0 h) (bw_S bw_23_11 bw_23_12 bw_1_5 bw_23_13) rfl cd_X12_those (Nat.le_of_ble_eq_true rfl) (Nat.le_of_ble_eq_true rfl) rfl rfl (Nat.le_of_ble_eq_true rfl) dX12_settles_6 (fun r2 s1 h => ?_)
  refine x_istore_n (lv' := [(2, .int r2), (0, .ref (ad X 176)), (1, .ref (ad X p0))]) F dX12_settles_9 rfl (by decide) rfl ?_
  refine x_iconst (0 : Int32) F dX12_settles_10 (by decide) ?_
  refine x_istore_n (lv' := [(3, .int (0 : Int32)), (2, .int r2), (0, .ref (ad X 176)), (1, .ref (ad X p0))]) F dX12_settles_11 rfl (by decide) rfl ?_
  refine x_aload_n F dX12_settles_12 rfl 2 rfl ?_
  refine x_iconst (0 : Int32) F dX12_settles_13 (by decide) ?_
  refine q_12_32 F kz_176 in_12 (mc bw_23_9) dX12_settles_14 ?_
  refine x_nmS (fun s3 es3 => ?_)
  replace h := h s3 es3
  refine x_aload_n F dX12_settles_17 rfl 2 rfl ?_
  refine x_callV_v F (c_X12_forgets (xl X) (xg X) (xA X) F.2.2.1  h) (bw_V bw_23_14 bw_23_15 bw_23_16 bw_1_5 bw_23_17) rfl cd_X12_forgets (Nat.le_of_ble_eq_true rfl) (Nat.le_of_ble_eq_true rfl) (kd_w (by decide) kz_176) rfl (cl_12 kz_176) rfl rfl (Nat.le_of_ble_eq_true rfl) dX12_settles_18 (fun s4 h => ?_)
  refine x_iconst (1 : Int32) F dX12_settles_21 (by decide) ?_
  refine x_istore (lv' := [(4, .int (1 : Int32)), (3, .int (0 : Int32)), (2, .int r2), (0, .ref (ad X 176)), (1, .ref (ad X p0))]) F dX12_settles_22 (by decide) rfl ?_
  refine x_sub (lv' := [(0, .ref (ad X 176)), (1, .ref (ad X p0)), (2, .int r2), (3, .int (0 : Int32)), (4, .int (1 : Int32))]) [3, 4, 2, 1, 0] rfl ?_
  obtain ⟨n2, h⟩ := h
  exact wl_X12_settles_24 F hret k_p0  n2 _ _ _ _ h
/-! X12_copyRow -/
abbrev wvX12_copyRow : List Cond := Cond.code yX12_copyRow cX12_copyRow 5 none :: wsL_law
theorem cd_X12_copyRow : okN yX12_copyRow RX12 4 := by unfold okN; decide +kernel
def l_X12_copyRow_3 (p0 : Nat) (p2 : Nat)  (Q : wS → Prop) : Nat → Int32 → Int32 → Int32 → wS → Prop
  | 0, _, _, _, _ => False
  | n + 1, x1, x3, x4, σ => ((202 : Int32) ≤ x4 → (Q σ)) ∧ (¬ (202 : Int32) ≤ x4 → (vp_in (x1 + x4) (ln p0) ∧ (vp_in (x3 + x4) (ln p2) ∧ (∀ s1 : wS, s1 = upI σ p2 ((x3 + x4)).toNatClampNeg (σ.1 p0 ((x1 + x4)).toNatClampNeg) → (∀ y2 : Int32, y2 = (x4 + (1 : Int32)) → (l_X12_copyRow_3 p0 p2  Q n x1 x3 y2 s1))))))
set_option maxRecDepth 100000 in
set_option maxHeartbeats 4000000 in
theorem wl_X12_copyRow_3 {X : XT} {Q : wS → Prop} {p0 : Nat} {p2 : Nat} (F : Fx X cX12_copyRow 5 RX12 wvX12_copyRow 0 0) (hret : Rv X 5 cX12_copyRow Q) (k_p0 : kd p0 = 14) (k_p2 : kd p2 = 14)   : ∀ (n : Nat) (x1 : Int32) (x3 : Int32) (x4 : Int32) (σ : wS), l_X12_copyRow_3 p0 p2  Q n x1 x3 x4 σ → Wx X 5 σ 3 [(0, .ref (ad X p0)), (1, .int x1), (2, .ref (ad X p2)), (3, .int x3), (4, .int x4)] [] := by
  intro n
  induction n with
  | zero =>
    intros
    contradiction
  | succ n ih =>
    intro x1 x3 x4 σ h
    simp only [l_X12_copyRow_3] at h
    refine x_iload F dX12_copyRow_3 4 rfl ?_
    refine x_sipush (202 : Int32) F dX12_copyRow_5 (by decide) ?_
    refine x_icmp_ge (tgt := 29) F dX12_copyRow_8 (by decide) (fun c => ?_) (fun c => ?_)
    · replace h := h.1 c
      exact hret _ _ _ h dX12_copyRow_29
    · replace h := h.2 c
      refine x_aload_n F dX12_copyRow_11 rfl 2 rfl ?_
      refine x_iload_n F dX12_copyRow_12 rfl 3 rfl ?_
      refine x_iload F dX12_copyRow_13 4 rfl ?_
      refine x_iadd F dX12_copyRow_15 ?_
      refine x_aload_n F dX12_copyRow_16 rfl 0 rfl ?_
      refine x_iload_n F dX12_copyRow_17 rfl 1 rfl ?_
      refine x_iload F dX12_copyRow_18 4 rfl ?_
      refine x_iadd F dX12_copyRow_20 ?_
      obtain ⟨hj, h⟩ := h
      refine x_iald F k_p0 rfl hj dX12_copyRow_21 ?_
      obtain ⟨hz, h⟩ := h
      refine x_iast F k_p2 rfl hz dX12_copyRow_22 ?_
      refine x_nmS (fun s1 es1 => ?_)
      replace h := h s1 es1
      obtain ⟨y2, ey2⟩ : ∃ y : Int32, y = (x4 + (1 : Int32)) := ⟨_, rfl⟩
      replace h := h y2 ey2
      refine x_iinc (q := 4) (v := y2) (lv' := [(4, .int y2), (0, .ref (ad X p0)), (1, .int x1), (2, .ref (ad X p2)), (3, .int x3)]) F dX12_copyRow_23 rfl (by rw [ey2]; rfl) (by decide) rfl ?_
      refine x_goto (tgt := 3) F dX12_copyRow_26 (by decide) ?_
      refine x_sub (lv' := [(0, .ref (ad X p0)), (1, .int x1), (2, .ref (ad X p2)), (3, .int x3), (4, .int y2)]) [1, 2, 3, 4, 0] rfl ?_
      exact ih _ _ _ _ h
def w_X12_copyRow (p0 : Nat) (p2 : Nat) (p1 : Int32) (p3 : Int32) (σ : wS) (Q : wS → Prop) : Prop := (∃ m, l_X12_copyRow_3 p0 p2  Q m p1 p3 (0 : Int32) σ)
set_option maxRecDepth 100000 in
set_option maxHeartbeats 4000000 in
theorem c_X12_copyRow (l : Launch) (g : wG) (A : Nat → Prop) (hA : adO g A) {p0 : Nat} {p2 : Nat} (k_p0 : kd p0 = 14) (k_p2 : kd p2 = 14) {p1 : Int32} {p3 : Int32} {σ : wS} {Q : wS → Prop} (h : w_X12_copyRow p0 p2 p1 p3 σ Q) : Mv l yX12_copyRow wvX12_copyRow 0 0 g A [.ref (g.2.2 p0), .int p1, .ref (g.2.2 p2), .int p3] σ Q := by
  refine mt_v (own := RX12) (lv := [(0, .ref (g.2.2 p0)), (1, .int p1), (2, .ref (g.2.2 p2)), (3, .int p3)]) (by decide) rfl rfl hA (Nat.le_of_ble_eq_true rfl) rfl ?_
  intro X hl hg hAA F hret
  subst hl hg hAA
  unfold w_X12_copyRow at h
  refine x_iconst (0 : Int32) F dX12_copyRow_0 (by decide) ?_
  refine x_istore (lv' := [(4, .int (0 : Int32)), (0, .ref (ad X p0)), (1, .int p1), (2, .ref (ad X p2)), (3, .int p3)]) F dX12_copyRow_1 (by decide) rfl ?_
  refine x_sub (lv' := [(0, .ref (ad X p0)), (1, .int p1), (2, .ref (ad X p2)), (3, .int p3), (4, .int (0 : Int32))]) [1, 2, 3, 4, 0] rfl ?_
  obtain ⟨n2, h⟩ := h
  exact wl_X12_copyRow_3 F hret k_p0 k_p2  n2 _ _ _ _ h
/-! X12_text -/
abbrev wvX12_text : List Cond := Cond.code yX12_text cX12_text 4 (some .int) :: wsL_law
theorem cd_X12_text : okN yX12_text RX12 1 := by unfold okN; decide +kernel
def l_X12_text_239   (Q : Int32 → wS → Prop) : Nat → Int32 → Int32 → wS → Prop
  | 0, _, _, _ => False
  | n + 1, x2, x3, σ => ((3 : Int32) ≤ x3 → (w_X12_settles 189 σ (fun r2 s1 => (r2 = (-1 : Int32) → (w_X12_copyRow 189 188 (0 : Int32) (0 : Int32) s1 (fun s3 => ∀ s5 : wS, s5 = upI s3 176 24 (0 : Int32) → (∀ s6 : wS, s6 = upI s5 176 25 (0 : Int32) → (Q (s6.1 176 14) s6))))) ∧ (¬ r2 = (-1 : Int32) → (w_X12_copyAll 186 181 s1 (fun s7 => w_X12_copyAll 187 179 s7 (fun s9 => ∀ s11 : wS, s11 = upI s9 176 14 x2 → (w_X12_laysWays  s11 (fun s12 => Q (-2 : Int32) s12))))))))) ∧ (¬ (3 : Int32) ≤ x3 → (vp_in ((1 : Int32) + x3) 4 ∧ (vp_in ((16 : Int32) + x3) 202 ∧ (∀ s14 : wS, s14 = upI σ 189 (((16 : Int32) + x3)).toNatClampNeg (σ.1 179 (((1 : Int32) + x3)).toNatClampNeg) → (∀ y15 : Int32, y15 = (x3 + (1 : Int32)) → (l_X12_text_239   Q n x2 y15 s14))))))
set_option maxRecDepth 100000 in
set_option maxHeartbeats 4000000 in
theorem wl_X12_text_239 {X : XT} {Q : Int32 → wS → Prop}  (F : Fx X cX12_text 4 RX12 wvX12_text 10 217) (hret : Ri X 4 cX12_text .int Q)    : ∀ (n : Nat) (x2 : Int32) (x3 : Int32) (σ : wS), l_X12_text_239   Q n x2 x3 σ → Wx X 4 σ 239 [(0, .ref (ad X 176)), (2, .int x2), (3, .int x3)] [] := by
  intro n
  induction n with
  | zero =>
    intros
    contradiction
  | succ n ih =>
    intro x2 x3 σ h
    simp only [l_X12_text_239] at h
    refine x_iload_n F dX12_text_239 rfl 2 rfl ?_
    refine x_iconst (3 : Int32) F dX12_text_240 (by decide) ?_
    refine x_icmp_ge (tgt := 267) F dX12_text_241 (by decide) (fun c => ?_) (fun c => ?_)
    · replace h := h.1 c
      refine x_aload_n F dX12_text_267 rfl 0 rfl ?_
      refine x_aload_n F dX12_text_268 rfl 0 rfl ?_
      refine g_12_20 F kz_176 in_12 (mc bw_7_19) dX12_text_269 ?_
      refine x_callV_i F (c_X12_settles (xl X) (xg X) (xA X) F.2.2.1 kz_189 h) (bw_V bw_23_5 bw_23_6 bw_23_7 bw_1_5 bw_23_8) rfl cd_X12_settles (Nat.le_of_ble_eq_true rfl) (Nat.le_of_ble_eq_true rfl) (kd_w (by decide) kz_176) rfl (cl_12 kz_176) rfl rfl (Nat.le_of_ble_eq_true rfl) dX12_text_272 (fun r2 s1 h => ?_)
      refine x_iconst (-1 : Int32) F dX12_text_275 (by decide) ?_
      refine x_icmp_eq (tgt := 313) F dX12_text_276 (by decide) (fun c => ?_) (fun c => ?_)
      · replace h := h.1 c
        refine x_aload_n F dX12_text_313 rfl 0 rfl ?_
        refine g_12_20 F kz_176 in_12 (mc bw_7_19) dX12_text_314 ?_
        refine x_iconst (0 : Int32) F dX12_text_317 (by decide) ?_
        refine x_aload_n F dX12_text_318 rfl 0 rfl ?_
        refine g_12_19 F kz_176 in_12 (mc bw_7_18) dX12_text_319 ?_
        refine x_iconst (0 : Int32) F dX12_text_322 (by decide) ?_
        refine x_callT_v F (c_X12_copyRow (xl X) (xg X) (xA X) F.2.2.1 kz_189 kz_188 h) (bw_S bw_25_14 bw_25_15 bw_1_5 bw_25_16) rfl cd_X12_copyRow (Nat.le_of_ble_eq_true rfl) (Nat.le_of_ble_eq_true rfl) rfl rfl (Nat.le_of_ble_eq_true rfl) dX12_text_323 (fun s3 h => ?_)
        refine x_aload_n F dX12_text_326 rfl 0 rfl ?_
        refine x_iconst (0 : Int32) F dX12_text_327 (by decide) ?_
        refine q_12_24 F kz_176 in_12 (mc bw_22_19) dX12_text_328 ?_
        refine x_nmS (fun s5 es5 => ?_)
        replace h := h s5 es5
        refine x_aload_n F dX12_text_331 rfl 0 rfl ?_
        refine x_iconst (0 : Int32) F dX12_text_332 (by decide) ?_
        refine q_12_25 F kz_176 (by decide) in_12 (mc bw_22_20) dX12_text_333 ?_
        refine x_nmS (fun s6 es6 => ?_)
        replace h := h s6 es6
        refine x_aload_n F dX12_text_336 rfl 0 rfl ?_
        refine g_12_14 F kz_176 in_12 (mc bw_22_18) dX12_text_337 ?_
        exact hret _ _ _ _ h rfl dX12_text_340
      · replace h := h.2 c
        refine x_aload_n F dX12_text_279 rfl 0 rfl ?_
        refine g_12_17 F kz_176 in_12 (mc bw_7_16) dX12_text_280 ?_
        refine x_aload_n F dX12_text_283 rfl 0 rfl ?_
        refine g_12_8 F kz_176 in_12 (mc bw_7_11) dX12_text_284 ?_
        refine x_callT_v F (c_X12_copyAll (xl X) (xg X) (xA X) F.2.2.1 kz_186 kz_181 h) (bw_S bw_22_22 bw_22_23 bw_1_5 bw_23_0) rfl cd_X12_copyAll (Nat.le_of_ble_eq_true rfl) (Nat.le_of_ble_eq_true rfl) rfl rfl (Nat.le_of_ble_eq_true rfl) dX12_text_287 (fun s7 h => ?_)
        refine x_aload_n F dX12_text_290 rfl 0 rfl ?_
        refine g_12_18 F kz_176 in_12 (mc bw_7_17) dX12_text_291 ?_
        refine x_aload_n F dX12_text_294 rfl 0 rfl ?_
        refine g_12_6 F kz_176 in_12 (mc bw_7_9) dX12_text_295 ?_
        refine x_callT_v F (c_X12_copyAll (xl X) (xg X) (xA X) F.2.2.1 kz_187 kz_179 h) (bw_S bw_22_22 bw_22_23 bw_1_5 bw_23_0) rfl cd_X12_copyAll (Nat.le_of_ble_eq_true rfl) (Nat.le_of_ble_eq_true rfl) rfl rfl (Nat.le_of_ble_eq_true rfl) dX12_text_298 (fun s9 h => ?_)
        refine x_aload_n F dX12_text_301 rfl 0 rfl ?_
        refine x_iload_n F dX12_text_302 rfl 1 rfl ?_
        refine q_12_14 F kz_176 in_12 (mc bw_22_18) dX12_text_303 ?_
        refine x_nmS (fun s11 es11 => ?_)
        replace h := h s11 es11
        refine x_aload_n F dX12_text_306 rfl 0 rfl ?_
        refine x_callV_v F (c_X12_laysWays (xl X) (xg X) (xA X) F.2.2.1  h) (bw_V bw_23_1 bw_23_2 bw_23_3 bw_1_5 bw_23_4) rfl cd_X12_laysWays (Nat.le_of_ble_eq_true rfl) (Nat.le_of_ble_eq_true rfl) (kd_w (by decide) kz_176) rfl (cl_12 kz_176) rfl rfl (Nat.le_of_ble_eq_true rfl) dX12_text_307 (fun s12 h => ?_)
        refine x_bipush (-2 : Int32) F dX12_text_310 (by decide) ?_
        exact hret _ _ _ _ h rfl dX12_text_312
    · replace h := h.2 c
      refine x_aload_n F dX12_text_244 rfl 0 rfl ?_
      refine g_12_20 F kz_176 in_12 (mc bw_7_19) dX12_text_245 ?_
      refine x_bipush (16 : Int32) F dX12_text_248 (by decide) ?_
      refine x_iload_n F dX12_text_250 rfl 2 rfl ?_
      refine x_iadd F dX12_text_251 ?_
      refine x_aload_n F dX12_text_252 rfl 0 rfl ?_
      refine g_12_6 F kz_176 in_12 (mc bw_7_9) dX12_text_253 ?_
      refine x_iconst (1 : Int32) F dX12_text_256 (by decide) ?_
      refine x_iload_n F dX12_text_257 rfl 2 rfl ?_
      refine x_iadd F dX12_text_258 ?_
      obtain ⟨hj, h⟩ := h
      refine x_iald F kz_179 nz_179 hj dX12_text_259 ?_
      obtain ⟨hz, h⟩ := h
      refine x_iast F kz_189 nz_189 hz dX12_text_260 ?_
      refine x_nmS (fun s14 es14 => ?_)
      replace h := h s14 es14
      obtain ⟨y15, ey15⟩ : ∃ y : Int32, y = (x3 + (1 : Int32)) := ⟨_, rfl⟩
      replace h := h y15 ey15
      refine x_iinc (q := 2) (v := y15) (lv' := [(3, .int y15), (0, .ref (ad X 176)), (2, .int x2)]) F dX12_text_261 rfl (by rw [ey15]; rfl) (by decide) rfl ?_
      refine x_goto (tgt := 239) F dX12_text_264 (by decide) ?_
      refine x_sub (lv' := [(0, .ref (ad X 176)), (2, .int x2), (3, .int y15)]) [1, 2, 0] rfl ?_
      exact ih _ _ _ h
def l_X12_text_204   (Q : Int32 → wS → Prop) : Nat → Int32 → Int32 → wS → Prop
  | 0, _, _, _ => False
  | n + 1, x2, x3, σ => ((σ.1 176 14) ≤ x3 → ((∃ m, l_X12_text_239   Q m x2 (0 : Int32) σ))) ∧ (¬ (σ.1 176 14) ≤ x3 → (vp_in (((7 : Int32) * x3) + (5 : Int32)) 56 ∧ (vp_in ((0 : Int32) + x3) 202 ∧ (∀ s1 : wS, s1 = upI σ 189 (((0 : Int32) + x3)).toNatClampNeg (σ.1 181 ((((7 : Int32) * x3) + (5 : Int32))).toNatClampNeg) → (∀ y2 : Int32, y2 = (x3 + (1 : Int32)) → (l_X12_text_204   Q n x2 y2 s1))))))
set_option maxRecDepth 100000 in
set_option maxHeartbeats 4000000 in
theorem wl_X12_text_204 {X : XT} {Q : Int32 → wS → Prop}  (F : Fx X cX12_text 4 RX12 wvX12_text 10 217) (hret : Ri X 4 cX12_text .int Q)    : ∀ (n : Nat) (x2 : Int32) (x3 : Int32) (σ : wS), l_X12_text_204   Q n x2 x3 σ → Wx X 4 σ 204 [(0, .ref (ad X 176)), (2, .int x2), (3, .int x3)] [] := by
  intro n
  induction n with
  | zero =>
    intros
    contradiction
  | succ n ih =>
    intro x2 x3 σ h
    simp only [l_X12_text_204] at h
    refine x_iload_n F dX12_text_204 rfl 2 rfl ?_
    refine x_aload_n F dX12_text_205 rfl 0 rfl ?_
    refine g_12_14 F kz_176 in_12 (mc bw_22_18) dX12_text_206 ?_
    refine x_icmp_ge (tgt := 237) F dX12_text_209 (by decide) (fun c => ?_) (fun c => ?_)
    · replace h := h.1 c
      refine x_iconst (0 : Int32) F dX12_text_237 (by decide) ?_
      refine x_istore_n (lv' := [(3, .int (0 : Int32)), (0, .ref (ad X 176)), (2, .int x2)]) F dX12_text_238 rfl (by decide) rfl ?_
      refine x_sub (lv' := [(0, .ref (ad X 176)), (2, .int x2), (3, .int (0 : Int32))]) [1, 2, 0] rfl ?_
      obtain ⟨n2, h⟩ := h
      exact wl_X12_text_239 F hret   n2 _ _ _ h
    · replace h := h.2 c
      refine x_aload_n F dX12_text_212 rfl 0 rfl ?_
      refine g_12_20 F kz_176 in_12 (mc bw_7_19) dX12_text_213 ?_
      refine x_iconst (0 : Int32) F dX12_text_216 (by decide) ?_
      refine x_iload_n F dX12_text_217 rfl 2 rfl ?_
      refine x_iadd F dX12_text_218 ?_
      refine x_aload_n F dX12_text_219 rfl 0 rfl ?_
      refine g_12_8 F kz_176 in_12 (mc bw_7_11) dX12_text_220 ?_
      refine x_bipush (7 : Int32) F dX12_text_223 (by decide) ?_
      refine x_iload_n F dX12_text_225 rfl 2 rfl ?_
      refine x_imul F dX12_text_226 ?_
      refine x_iconst (5 : Int32) F dX12_text_227 (by decide) ?_
      refine x_iadd F dX12_text_228 ?_
      obtain ⟨hj, h⟩ := h
      refine x_iald F kz_181 nz_181 hj dX12_text_229 ?_
      obtain ⟨hz, h⟩ := h
      refine x_iast F kz_189 nz_189 hz dX12_text_230 ?_
      refine x_nmS (fun s1 es1 => ?_)
      replace h := h s1 es1
      obtain ⟨y2, ey2⟩ : ∃ y : Int32, y = (x3 + (1 : Int32)) := ⟨_, rfl⟩
      replace h := h y2 ey2
      refine x_iinc (q := 2) (v := y2) (lv' := [(3, .int y2), (0, .ref (ad X 176)), (2, .int x2)]) F dX12_text_231 rfl (by rw [ey2]; rfl) (by decide) rfl ?_
      refine x_goto (tgt := 204) F dX12_text_234 (by decide) ?_
      refine x_sub (lv' := [(0, .ref (ad X 176)), (2, .int x2), (3, .int y2)]) [1, 2, 0] rfl ?_
      exact ih _ _ _ h
def l_X12_text_182   (Q : Int32 → wS → Prop) : Nat → Int32 → Int32 → wS → Prop
  | 0, _, _, _ => False
  | n + 1, x2, x3, σ => ((202 : Int32) ≤ x3 → ((∃ m, l_X12_text_204   Q m x2 (0 : Int32) σ))) ∧ (¬ (202 : Int32) ≤ x3 → (vp_in x3 202 ∧ (∀ s1 : wS, s1 = upI σ 189 (x3).toNatClampNeg (0 : Int32) → (∀ y2 : Int32, y2 = (x3 + (1 : Int32)) → (l_X12_text_182   Q n x2 y2 s1)))))
set_option maxRecDepth 100000 in
set_option maxHeartbeats 4000000 in
theorem wl_X12_text_182 {X : XT} {Q : Int32 → wS → Prop}  (F : Fx X cX12_text 4 RX12 wvX12_text 10 217) (hret : Ri X 4 cX12_text .int Q)    : ∀ (n : Nat) (x2 : Int32) (x3 : Int32) (σ : wS), l_X12_text_182   Q n x2 x3 σ → Wx X 4 σ 182 [(0, .ref (ad X 176)), (2, .int x2), (3, .int x3)] [] := by
  intro n
  induction n with
  | zero =>
    intros
    contradiction
  | succ n ih =>
    intro x2 x3 σ h
    simp only [l_X12_text_182] at h
    refine x_iload_n F dX12_text_182 rfl 2 rfl ?_
    refine x_sipush (202 : Int32) F dX12_text_183 (by decide) ?_
    refine x_icmp_ge (tgt := 202) F dX12_text_186 (by decide) (fun c => ?_) (fun c => ?_)
    · replace h := h.1 c
      refine x_iconst (0 : Int32) F dX12_text_202 (by decide) ?_
      refine x_istore_n (lv' := [(3, .int (0 : Int32)), (0, .ref (ad X 176)), (2, .int x2)]) F dX12_text_203 rfl (by decide) rfl ?_
      refine x_sub (lv' := [(0, .ref (ad X 176)), (2, .int x2), (3, .int (0 : Int32))]) [1, 2, 0] rfl ?_
      obtain ⟨n2, h⟩ := h
      exact wl_X12_text_204 F hret   n2 _ _ _ h
    · replace h := h.2 c
      refine x_aload_n F dX12_text_189 rfl 0 rfl ?_
      refine g_12_20 F kz_176 in_12 (mc bw_7_19) dX12_text_190 ?_
      refine x_iload_n F dX12_text_193 rfl 2 rfl ?_
      refine x_iconst (0 : Int32) F dX12_text_194 (by decide) ?_
      obtain ⟨hz, h⟩ := h
      refine x_iast F kz_189 nz_189 hz dX12_text_195 ?_
      refine x_nmS (fun s1 es1 => ?_)
      replace h := h s1 es1
      obtain ⟨y2, ey2⟩ : ∃ y : Int32, y = (x3 + (1 : Int32)) := ⟨_, rfl⟩
      replace h := h y2 ey2
      refine x_iinc (q := 2) (v := y2) (lv' := [(3, .int y2), (0, .ref (ad X 176)), (2, .int x2)]) F dX12_text_196 rfl (by rw [ey2]; rfl) (by decide) rfl ?_
      refine x_goto (tgt := 182) F dX12_text_199 (by decide) ?_
      refine x_sub (lv' := [(0, .ref (ad X 176)), (2, .int x2), (3, .int y2)]) [1, 2, 0] rfl ?_
      exact ih _ _ _ h
def l_X12_text_51   (Q : Int32 → wS → Prop) : Nat → Int32 → wS → Prop
  | 0, _, _ => False
  | n + 1, x2, σ => ((64 : Int32) ≤ x2 → (vp_in (σ.1 176 15) 5 ∧ (∀ s1 : wS, s1 = upI σ 184 ((σ.1 176 15)).toNatClampNeg (σ.1 184 ((4 : Int32)).toNatClampNeg) → (∀ s2 : wS, s2 = upI s1 176 15 ((s1.1 176 15) + (1 : Int32)) → (Q ((s2.1 176 15) - (1 : Int32)) s2))))) ∧ (¬ (64 : Int32) ≤ x2 → (vp_in ((256 : Int32) + x2) 320 ∧ (vp_in (((64 : Int32) * (σ.1 176 15)) + x2) 320 ∧ (∀ s3 : wS, s3 = upI σ 183 ((((64 : Int32) * (σ.1 176 15)) + x2)).toNatClampNeg (σ.1 183 (((256 : Int32) + x2)).toNatClampNeg) → (∀ y4 : Int32, y4 = (x2 + (1 : Int32)) → (l_X12_text_51   Q n y4 s3))))))
set_option maxRecDepth 100000 in
set_option maxHeartbeats 4000000 in
theorem wl_X12_text_51 {X : XT} {Q : Int32 → wS → Prop}  (F : Fx X cX12_text 4 RX12 wvX12_text 10 217) (hret : Ri X 4 cX12_text .int Q)    : ∀ (n : Nat) (x2 : Int32) (σ : wS), l_X12_text_51   Q n x2 σ → Wx X 4 σ 51 [(0, .ref (ad X 176)), (2, .int x2)] [] := by
  intro n
  induction n with
  | zero =>
    intros
    contradiction
  | succ n ih =>
    intro x2 σ h
    simp only [l_X12_text_51] at h
    refine x_iload_n F dX12_text_51 rfl 1 rfl ?_
    refine x_bipush (64 : Int32) F dX12_text_52 (by decide) ?_
    refine x_icmp_ge (tgt := 87) F dX12_text_54 (by decide) (fun c => ?_) (fun c => ?_)
    · replace h := h.1 c
      refine x_aload_n F dX12_text_87 rfl 0 rfl ?_
      refine g_12_11 F kz_176 in_12 (mc bw_7_14) dX12_text_88 ?_
      refine x_aload_n F dX12_text_91 rfl 0 rfl ?_
      refine g_12_15 F kz_176 in_12 (mc bw_22_17) dX12_text_92 ?_
      refine x_aload_n F dX12_text_95 rfl 0 rfl ?_
      refine g_12_11 F kz_176 in_12 (mc bw_7_14) dX12_text_96 ?_
      refine x_iconst (4 : Int32) F dX12_text_99 (by decide) ?_
      refine x_iald F kz_184 nz_184 (by unfold vp_in; decide) dX12_text_100 ?_
      obtain ⟨hz, h⟩ := h
      refine x_iast F kz_184 nz_184 hz dX12_text_101 ?_
      refine x_nmS (fun s1 es1 => ?_)
      replace h := h s1 es1
      refine x_aload_n F dX12_text_102 rfl 0 rfl ?_
      refine x_dup F dX12_text_103 rfl ?_
      refine g_12_15 F kz_176 in_12 (mc bw_22_17) dX12_text_104 ?_
      refine x_iconst (1 : Int32) F dX12_text_107 (by decide) ?_
      refine x_iadd F dX12_text_108 ?_
      refine q_12_15 F kz_176 in_12 (mc bw_22_17) dX12_text_109 ?_
      refine x_nmS (fun s2 es2 => ?_)
      replace h := h s2 es2
      refine x_aload_n F dX12_text_112 rfl 0 rfl ?_
      refine g_12_15 F kz_176 in_12 (mc bw_22_17) dX12_text_113 ?_
      refine x_iconst (1 : Int32) F dX12_text_116 (by decide) ?_
      refine x_isub F dX12_text_117 ?_
      exact hret _ _ _ _ h rfl dX12_text_118
    · replace h := h.2 c
      refine x_aload_n F dX12_text_57 rfl 0 rfl ?_
      refine g_12_10 F kz_176 in_12 (mc bw_7_13) dX12_text_58 ?_
      refine x_bipush (64 : Int32) F dX12_text_61 (by decide) ?_
      refine x_aload_n F dX12_text_63 rfl 0 rfl ?_
      refine g_12_15 F kz_176 in_12 (mc bw_22_17) dX12_text_64 ?_
      refine x_imul F dX12_text_67 ?_
      refine x_iload_n F dX12_text_68 rfl 1 rfl ?_
      refine x_iadd F dX12_text_69 ?_
      refine x_aload_n F dX12_text_70 rfl 0 rfl ?_
      refine g_12_10 F kz_176 in_12 (mc bw_7_13) dX12_text_71 ?_
      refine x_sipush (256 : Int32) F dX12_text_74 (by decide) ?_
      refine x_iload_n F dX12_text_77 rfl 1 rfl ?_
      refine x_iadd F dX12_text_78 ?_
      obtain ⟨hj, h⟩ := h
      refine x_iald F kz_183 nz_183 hj dX12_text_79 ?_
      obtain ⟨hz, h⟩ := h
      refine x_iast F kz_183 nz_183 hz dX12_text_80 ?_
      refine x_nmS (fun s3 es3 => ?_)
      replace h := h s3 es3
      obtain ⟨y4, ey4⟩ : ∃ y : Int32, y = (x2 + (1 : Int32)) := ⟨_, rfl⟩
      replace h := h y4 ey4
      refine x_iinc (q := 1) (v := y4) (lv' := [(2, .int y4), (0, .ref (ad X 176))]) F dX12_text_81 rfl (by rw [ey4]; rfl) (by decide) rfl ?_
      refine x_goto (tgt := 51) F dX12_text_84 (by decide) ?_
      refine x_sub (lv' := [(0, .ref (ad X 176)), (2, .int y4)]) [1, 0] rfl ?_
      exact ih _ _ h
def b_X12_text_28   (Q : Int32 → wS → Prop) (x1 : Int32) (σ : wS) : Prop := w_X12_fault x1 σ (fun r2 s1 => (r2 = (-1 : Int32) → (∀ s3 : wS, s3 = upI s1 176 2 (0 : Int32) → ((¬ x1 = (1 : Int32) → (∀ y4 : Int32, y4 = (s3.1 176 14) → (w_X12_copyAll 181 186 s3 (fun s5 => w_X12_copyAll 179 187 s5 (fun s7 => w_X12_copyAll 180 181 s7 (fun s9 => w_X12_copyAll 178 179 s9 (fun s11 => ∀ s13 : wS, s13 = upI s11 176 14 (s11.1 176 13) → (w_X12_laysWays  s13 (fun s14 => (∃ m, l_X12_text_182   Q m y4 (0 : Int32) s14)))))))))) ∧ (x1 = (1 : Int32) → ((∃ m, l_X12_text_51   Q m (0 : Int32) s3)))))) ∧ (¬ r2 = (-1 : Int32) → (Q (-1 : Int32) s1)))
set_option maxRecDepth 100000 in
set_option maxHeartbeats 4000000 in
theorem wb_X12_text_28 {X : XT} {Q : Int32 → wS → Prop}  (F : Fx X cX12_text 4 RX12 wvX12_text 10 217) (hret : Ri X 4 cX12_text .int Q)    (x1 : Int32) (σ : wS) (h : b_X12_text_28   Q x1 σ) : Wx X 4 σ 28 [(0, .ref (ad X 176)), (1, .int x1)] [] := by
  unfold b_X12_text_28 at h
  refine x_aload_n F dX12_text_28 rfl 0 rfl ?_
  refine x_iload_n F dX12_text_29 rfl 1 rfl ?_
  refine x_callV_i F (c_X12_fault (xl X) (xg X) (xA X) F.2.2.1  h) (bw_V bw_22_21 bw_13_8 bw_13_9 bw_1_5 bw_13_10) rfl cd_X12_fault (Nat.le_of_ble_eq_true rfl) (Nat.le_of_ble_eq_true rfl) (kd_w (by decide) kz_176) rfl (cl_12 kz_176) rfl rfl (Nat.le_of_ble_eq_true rfl) dX12_text_30 (fun r2 s1 h => ?_)
  refine x_iconst (-1 : Int32) F dX12_text_33 (by decide) ?_
  refine x_icmp_eq (tgt := 39) F dX12_text_34 (by decide) (fun c => ?_) (fun c => ?_)
  · replace h := h.1 c
    refine x_aload_n F dX12_text_39 rfl 0 rfl ?_
    refine x_iconst (0 : Int32) F dX12_text_40 (by decide) ?_
    refine q_12_2 F kz_176 in_12 (mc bw_8_22) dX12_text_41 ?_
    refine x_nmS (fun s3 es3 => ?_)
    replace h := h s3 es3
    refine x_iload_n F dX12_text_44 rfl 1 rfl ?_
    refine x_iconst (1 : Int32) F dX12_text_45 (by decide) ?_
    refine x_icmp_ne (tgt := 119) F dX12_text_46 (by decide) (fun c => ?_) (fun c => ?_)
    · replace h := h.1 c
      refine x_aload_n F dX12_text_119 rfl 0 rfl ?_
      refine g_12_14 F kz_176 in_12 (mc bw_22_18) dX12_text_120 ?_
      refine x_topi (fun y4 ey4 => ?_)
      replace h := h y4 ey4
      refine x_istore_n (lv' := [(2, .int y4), (0, .ref (ad X 176)), (1, .int x1)]) F dX12_text_123 rfl (by decide) rfl ?_
      refine x_aload_n F dX12_text_124 rfl 1 rfl ?_
      refine g_12_8 F kz_176 in_12 (mc bw_7_11) dX12_text_125 ?_
      refine x_aload_n F dX12_text_128 rfl 1 rfl ?_
      refine g_12_17 F kz_176 in_12 (mc bw_7_16) dX12_text_129 ?_
      refine x_callT_v F (c_X12_copyAll (xl X) (xg X) (xA X) F.2.2.1 kz_181 kz_186 h) (bw_S bw_22_22 bw_22_23 bw_1_5 bw_23_0) rfl cd_X12_copyAll (Nat.le_of_ble_eq_true rfl) (Nat.le_of_ble_eq_true rfl) rfl rfl (Nat.le_of_ble_eq_true rfl) dX12_text_132 (fun s5 h => ?_)
      refine x_aload_n F dX12_text_135 rfl 1 rfl ?_
      refine g_12_6 F kz_176 in_12 (mc bw_7_9) dX12_text_136 ?_
      refine x_aload_n F dX12_text_139 rfl 1 rfl ?_
      refine g_12_18 F kz_176 in_12 (mc bw_7_17) dX12_text_140 ?_
      refine x_callT_v F (c_X12_copyAll (xl X) (xg X) (xA X) F.2.2.1 kz_179 kz_187 h) (bw_S bw_22_22 bw_22_23 bw_1_5 bw_23_0) rfl cd_X12_copyAll (Nat.le_of_ble_eq_true rfl) (Nat.le_of_ble_eq_true rfl) rfl rfl (Nat.le_of_ble_eq_true rfl) dX12_text_143 (fun s7 h => ?_)
      refine x_aload_n F dX12_text_146 rfl 1 rfl ?_
      refine g_12_7 F kz_176 in_12 (mc bw_7_10) dX12_text_147 ?_
      refine x_aload_n F dX12_text_150 rfl 1 rfl ?_
      refine g_12_8 F kz_176 in_12 (mc bw_7_11) dX12_text_151 ?_
      refine x_callT_v F (c_X12_copyAll (xl X) (xg X) (xA X) F.2.2.1 kz_180 kz_181 h) (bw_S bw_22_22 bw_22_23 bw_1_5 bw_23_0) rfl cd_X12_copyAll (Nat.le_of_ble_eq_true rfl) (Nat.le_of_ble_eq_true rfl) rfl rfl (Nat.le_of_ble_eq_true rfl) dX12_text_154 (fun s9 h => ?_)
      refine x_aload_n F dX12_text_157 rfl 1 rfl ?_
      refine g_12_5 F kz_176 in_12 (mc bw_7_8) dX12_text_158 ?_
      refine x_aload_n F dX12_text_161 rfl 1 rfl ?_
      refine g_12_6 F kz_176 in_12 (mc bw_7_9) dX12_text_162 ?_
      refine x_callT_v F (c_X12_copyAll (xl X) (xg X) (xA X) F.2.2.1 kz_178 kz_179 h) (bw_S bw_22_22 bw_22_23 bw_1_5 bw_23_0) rfl cd_X12_copyAll (Nat.le_of_ble_eq_true rfl) (Nat.le_of_ble_eq_true rfl) rfl rfl (Nat.le_of_ble_eq_true rfl) dX12_text_165 (fun s11 h => ?_)
      refine x_aload_n F dX12_text_168 rfl 1 rfl ?_
      refine x_aload_n F dX12_text_169 rfl 1 rfl ?_
      refine g_12_13 F kz_176 in_12 (mc bw_13_20) dX12_text_170 ?_
      refine q_12_14 F kz_176 in_12 (mc bw_22_18) dX12_text_173 ?_
      refine x_nmS (fun s13 es13 => ?_)
      replace h := h s13 es13
      refine x_aload_n F dX12_text_176 rfl 1 rfl ?_
      refine x_callV_v F (c_X12_laysWays (xl X) (xg X) (xA X) F.2.2.1  h) (bw_V bw_23_1 bw_23_2 bw_23_3 bw_1_5 bw_23_4) rfl cd_X12_laysWays (Nat.le_of_ble_eq_true rfl) (Nat.le_of_ble_eq_true rfl) (kd_w (by decide) kz_176) rfl (cl_12 kz_176) rfl rfl (Nat.le_of_ble_eq_true rfl) dX12_text_177 (fun s14 h => ?_)
      refine x_iconst (0 : Int32) F dX12_text_180 (by decide) ?_
      refine x_istore_n (lv' := [(3, .int (0 : Int32)), (2, .int y4), (0, .ref (ad X 176)), (1, .int x1)]) F dX12_text_181 rfl (by decide) rfl ?_
      refine x_sub (lv' := [(0, .ref (ad X 176)), (2, .int y4), (3, .int (0 : Int32))]) [2, 1, 0] rfl ?_
      obtain ⟨n2, h⟩ := h
      exact wl_X12_text_182 F hret   n2 _ _ _ h
    · replace h := h.2 c
      refine x_iconst (0 : Int32) F dX12_text_49 (by decide) ?_
      refine x_istore_n (lv' := [(2, .int (0 : Int32)), (0, .ref (ad X 176)), (1, .int x1)]) F dX12_text_50 rfl (by decide) rfl ?_
      refine x_sub (lv' := [(0, .ref (ad X 176)), (2, .int (0 : Int32))]) [1, 0] rfl ?_
      obtain ⟨n2, h⟩ := h
      exact wl_X12_text_51 F hret   n2 _ _ h
  · replace h := h.2 c
    refine x_iconst (-1 : Int32) F dX12_text_37 (by decide) ?_
    exact hret _ _ _ _ h rfl dX12_text_38
def w_X12_text  (p0 : Int32) (σ : wS) (Q : Int32 → wS → Prop) : Prop := ∀ s1 : wS, s1 = upI σ 176 0 (0 : Int32) → (w_X12_isIn (p0).toInt64 (0 : Int64) (1 : Int64) s1 (fun r3 s2 => (r3 = 0 → (Q (-1 : Int32) s2)) ∧ (¬ r3 = 0 → ((¬ p0 = (1 : Int32) → (b_X12_text_28   Q p0 s2)) ∧ (p0 = (1 : Int32) → (((s2.1 176 15) = (4 : Int32) → (Q (-1 : Int32) s2)) ∧ (¬ (s2.1 176 15) = (4 : Int32) → (b_X12_text_28   Q p0 s2))))))))
set_option maxRecDepth 100000 in
set_option maxHeartbeats 4000000 in
theorem c_X12_text (l : Launch) (g : wG) (A : Nat → Prop) (hA : adO g A)   {p0 : Int32} {σ : wS} {Q : Int32 → wS → Prop} (h : w_X12_text  p0 σ Q) : Mi l yX12_text wvX12_text 10 217 g A [.ref (g.2.2 176), .int p0] σ Q := by
  refine mt_i (own := RX12) (lv := [(0, .ref (g.2.2 176)), (1, .int p0)]) (by decide) rfl rfl hA (Nat.le_of_ble_eq_true rfl) rfl ?_
  intro X hl hg hAA F hret
  subst hl hg hAA
  unfold w_X12_text at h
  refine x_aload_n F dX12_text_0 rfl 0 rfl ?_
  refine x_iconst (0 : Int32) F dX12_text_1 (by decide) ?_
  refine q_12_0 F kz_176 in_12 (mc bw_8_21) dX12_text_2 ?_
  refine x_nmS (fun s1 es1 => ?_)
  replace h := h s1 es1
  refine x_iload_n F dX12_text_5 rfl 1 rfl ?_
  refine x_i2l F dX12_text_6 ?_
  refine x_lconst (0 : Int64) F dX12_text_7 (by decide) ?_
  refine x_lconst (1 : Int64) F dX12_text_8 (by decide) ?_
  refine x_callT_i F (c_X12_isIn (xl X) (xg X) (xA X) F.2.2.1  h) (bw_S bw_13_13 bw_13_14 bw_1_5 bw_13_15) rfl cd_X12_isIn (Nat.le_of_ble_eq_true rfl) (Nat.le_of_ble_eq_true rfl) rfl rfl (Nat.le_of_ble_eq_true rfl) dX12_text_9 (fun r3 s2 h => ?_)
  refine x_if_eq (tgt := 37) F dX12_text_12 (by decide) (fun c => ?_) (fun c => ?_)
  · replace h := h.1 c
    refine x_iconst (-1 : Int32) F dX12_text_37 (by decide) ?_
    exact hret _ _ _ _ h rfl dX12_text_38
  · replace h := h.2 c
    refine x_iload_n F dX12_text_15 rfl 1 rfl ?_
    refine x_iconst (1 : Int32) F dX12_text_16 (by decide) ?_
    refine x_icmp_ne (tgt := 28) F dX12_text_17 (by decide) (fun c => ?_) (fun c => ?_)
    · replace h := h.1 c
      refine x_sub (lv' := [(0, .ref (ad X 176)), (1, .int p0)]) [0, 1] rfl ?_
      exact wb_X12_text_28 F hret   _ _ h
    · replace h := h.2 c
      refine x_aload_n F dX12_text_20 rfl 0 rfl ?_
      refine g_12_15 F kz_176 in_12 (mc bw_22_17) dX12_text_21 ?_
      refine x_iconst (4 : Int32) F dX12_text_24 (by decide) ?_
      refine x_icmp_eq (tgt := 37) F dX12_text_25 (by decide) (fun c => ?_) (fun c => ?_)
      · replace h := h.1 c
        refine x_iconst (-1 : Int32) F dX12_text_37 (by decide) ?_
        exact hret _ _ _ _ h rfl dX12_text_38
      · replace h := h.2 c
        refine x_sub (lv' := [(0, .ref (ad X 176)), (1, .int p0)]) [0, 1] rfl ?_
        exact wb_X12_text_28 F hret   _ _ h
/-! X12_brokenBits -/
abbrev wvX12_brokenBits : List Cond := Cond.code yX12_brokenBits cX12_brokenBits 3 (some .int) :: wsL_law
theorem cd_X12_brokenBits : okN yX12_brokenBits RX12 0 := by unfold okN; decide +kernel
def l_X12_brokenBits_4   (Q : Int32 → wS → Prop) : Nat → Int32 → Int32 → wS → Prop
  | 0, _, _, _ => False
  | n + 1, x1, x2, σ => ((σ.1 176 32) ≤ x2 → (Q x1 σ)) ∧ (¬ (σ.1 176 32) ≤ x2 → (vp_in x2 8 ∧ (∀ y1 : Int32, y1 = (x1 ||| ((1 : Int32) <<< ((σ.1 196 (x2).toNatClampNeg) &&& 31))) → (∀ y2 : Int32, y2 = (x2 + (1 : Int32)) → (l_X12_brokenBits_4   Q n y1 y2 σ)))))
set_option maxRecDepth 100000 in
set_option maxHeartbeats 4000000 in
theorem wl_X12_brokenBits_4 {X : XT} {Q : Int32 → wS → Prop}  (F : Fx X cX12_brokenBits 3 RX12 wvX12_brokenBits 0 0) (hret : Ri X 3 cX12_brokenBits .int Q)    : ∀ (n : Nat) (x1 : Int32) (x2 : Int32) (σ : wS), l_X12_brokenBits_4   Q n x1 x2 σ → Wx X 3 σ 4 [(0, .ref (ad X 176)), (1, .int x1), (2, .int x2)] [] := by
  intro n
  induction n with
  | zero =>
    intros
    contradiction
  | succ n ih =>
    intro x1 x2 σ h
    simp only [l_X12_brokenBits_4] at h
    refine x_iload_n F dX12_brokenBits_4 rfl 2 rfl ?_
    refine x_aload_n F dX12_brokenBits_5 rfl 0 rfl ?_
    refine g_12_32 F kz_176 in_12 (mc bw_23_9) dX12_brokenBits_6 ?_
    refine x_icmp_ge (tgt := 29) F dX12_brokenBits_9 (by decide) (fun c => ?_) (fun c => ?_)
    · replace h := h.1 c
      refine x_iload_n F dX12_brokenBits_29 rfl 1 rfl ?_
      exact hret _ _ _ _ h rfl dX12_brokenBits_30
    · replace h := h.2 c
      refine x_iload_n F dX12_brokenBits_12 rfl 1 rfl ?_
      refine x_iconst (1 : Int32) F dX12_brokenBits_13 (by decide) ?_
      refine x_aload_n F dX12_brokenBits_14 rfl 0 rfl ?_
      refine g_12_31 F kz_176 in_12 (mc bw_8_2) dX12_brokenBits_15 ?_
      refine x_iload_n F dX12_brokenBits_18 rfl 2 rfl ?_
      obtain ⟨hj, h⟩ := h
      refine x_iald F kz_196 nz_196 hj dX12_brokenBits_19 ?_
      refine x_ishl F dX12_brokenBits_20 ?_
      refine x_ior F dX12_brokenBits_21 ?_
      refine x_topi (fun y1 ey1 => ?_)
      replace h := h y1 ey1
      refine x_istore_n (lv' := [(1, .int y1), (0, .ref (ad X 176)), (2, .int x2)]) F dX12_brokenBits_22 rfl (by decide) rfl ?_
      obtain ⟨y2, ey2⟩ : ∃ y : Int32, y = (x2 + (1 : Int32)) := ⟨_, rfl⟩
      replace h := h y2 ey2
      refine x_iinc (q := 2) (v := y2) (lv' := [(2, .int y2), (1, .int y1), (0, .ref (ad X 176))]) F dX12_brokenBits_23 rfl (by rw [ey2]; rfl) (by decide) rfl ?_
      refine x_goto (tgt := 4) F dX12_brokenBits_26 (by decide) ?_
      refine x_sub (lv' := [(0, .ref (ad X 176)), (1, .int y1), (2, .int y2)]) [2, 1, 0] rfl ?_
      exact ih _ _ _ h
def w_X12_brokenBits   (σ : wS) (Q : Int32 → wS → Prop) : Prop := (∃ m, l_X12_brokenBits_4   Q m (0 : Int32) (0 : Int32) σ)
set_option maxRecDepth 100000 in
set_option maxHeartbeats 4000000 in
theorem c_X12_brokenBits (l : Launch) (g : wG) (A : Nat → Prop) (hA : adO g A)    {σ : wS} {Q : Int32 → wS → Prop} (h : w_X12_brokenBits   σ Q) : Mi l yX12_brokenBits wvX12_brokenBits 0 0 g A [.ref (g.2.2 176)] σ Q := by
  refine mt_i (own := RX12) (lv := [(0, .ref (g.2.2 176))]) (by decide) rfl rfl hA (Nat.le_of_ble_eq_true rfl) rfl ?_
  intro X hl hg hAA F hret
  subst hl hg hAA
  unfold w_X12_brokenBits at h
  refine x_iconst (0 : Int32) F dX12_brokenBits_0 (by decide) ?_
  refine x_istore_n (lv' := [(1, .int (0 : Int32)), (0, .ref (ad X 176))]) F dX12_brokenBits_1 rfl (by decide) rfl ?_
  refine x_iconst (0 : Int32) F dX12_brokenBits_2 (by decide) ?_
  refine x_istore_n (lv' := [(2, .int (0 : Int32)), (1, .int (0 : Int32)), (0, .ref (ad X 176))]) F dX12_brokenBits_3 rfl (by decide) rfl ?_
  refine x_sub (lv' := [(0, .ref (ad X 176)), (1, .int (0 : Int32)), (2, .int (0 : Int32))]) [2, 1, 0] rfl ?_
  obtain ⟨n2, h⟩ := h
  exact wl_X12_brokenBits_4 F hret   n2 _ _ _ h
/-! X12_causes -/
abbrev wvX12_causes : List Cond := Cond.code yX12_causes cX12_causes 2 none :: wsL_law
theorem cd_X12_causes : okN yX12_causes RX12 1 := by unfold okN; decide +kernel
def w_X12_causes  (p0 : Int32) (σ : wS) (Q : wS → Prop) : Prop := vp_in (σ.1 176 34) 4 ∧ (∀ s1 : wS, s1 = upI σ 197 ((σ.1 176 34)).toNatClampNeg p0 → (∀ s2 : wS, s2 = upI s1 176 34 ((s1.1 176 34) + (1 : Int32)) → (Q s2)))
set_option maxRecDepth 100000 in
set_option maxHeartbeats 4000000 in
theorem c_X12_causes (l : Launch) (g : wG) (A : Nat → Prop) (hA : adO g A)   {p0 : Int32} {σ : wS} {Q : wS → Prop} (h : w_X12_causes  p0 σ Q) : Mv l yX12_causes wvX12_causes 0 0 g A [.ref (g.2.2 176), .int p0] σ Q := by
  refine mt_v (own := RX12) (lv := [(0, .ref (g.2.2 176)), (1, .int p0)]) (by decide) rfl rfl hA (Nat.le_of_ble_eq_true rfl) rfl ?_
  intro X hl hg hAA F hret
  subst hl hg hAA
  unfold w_X12_causes at h
  refine x_aload_n F dX12_causes_0 rfl 0 rfl ?_
  refine g_12_33 F kz_176 in_12 (mc bw_8_3) dX12_causes_1 ?_
  refine x_aload_n F dX12_causes_4 rfl 0 rfl ?_
  refine g_12_34 F kz_176 in_12 (mc bw_36_1) dX12_causes_5 ?_
  refine x_iload_n F dX12_causes_8 rfl 1 rfl ?_
  obtain ⟨hz, h⟩ := h
  refine x_iast F kz_197 nz_197 hz dX12_causes_9 ?_
  refine x_nmS (fun s1 es1 => ?_)
  replace h := h s1 es1
  refine x_aload_n F dX12_causes_10 rfl 0 rfl ?_
  refine x_dup F dX12_causes_11 rfl ?_
  refine g_12_34 F kz_176 in_12 (mc bw_36_1) dX12_causes_12 ?_
  refine x_iconst (1 : Int32) F dX12_causes_15 (by decide) ?_
  refine x_iadd F dX12_causes_16 ?_
  refine q_12_34 F kz_176 in_12 (mc bw_36_1) dX12_causes_17 ?_
  refine x_nmS (fun s2 es2 => ?_)
  replace h := h s2 es2
  exact hret _ _ _ h dX12_causes_20
/-! X12_isRope -/
abbrev wvX12_isRope : List Cond := Cond.code yX12_isRope cX12_isRope 2 (some .boolean) :: wsL_law
theorem cd_X12_isRope : okN yX12_isRope RX12 1 := by unfold okN; decide +kernel
def w_X12_isRope  (p0 : Int32) (σ : wS) (Q : Int32 → wS → Prop) : Prop := (p0 < 0 → (Q (0 : Int32) σ)) ∧ (¬ p0 < 0 → (((σ.1 176 14) ≤ p0 → (Q (0 : Int32) σ)) ∧ (¬ (σ.1 176 14) ≤ p0 → (Q (1 : Int32) σ))))
set_option maxRecDepth 100000 in
set_option maxHeartbeats 4000000 in
theorem c_X12_isRope (l : Launch) (g : wG) (A : Nat → Prop) (hA : adO g A)   {p0 : Int32} {σ : wS} {Q : Int32 → wS → Prop} (h : w_X12_isRope  p0 σ Q) : Mi l yX12_isRope wvX12_isRope 0 0 g A [.ref (g.2.2 176), .int p0] σ Q := by
  refine mt_i (own := RX12) (lv := [(0, .ref (g.2.2 176)), (1, .int p0)]) (by decide) rfl rfl hA (Nat.le_of_ble_eq_true rfl) rfl ?_
  intro X hl hg hAA F hret
  subst hl hg hAA
  unfold w_X12_isRope at h
  refine x_iload_n F dX12_isRope_0 rfl 1 rfl ?_
  refine x_if_lt (tgt := 16) F dX12_isRope_1 (by decide) (fun c => ?_) (fun c => ?_)
  · replace h := h.1 c
    refine x_iconst (0 : Int32) F dX12_isRope_16 (by decide) ?_
    exact hret _ _ _ _ h (nar01 (by decide)) dX12_isRope_17
  · replace h := h.2 c
    refine x_iload_n F dX12_isRope_4 rfl 1 rfl ?_
    refine x_aload_n F dX12_isRope_5 rfl 0 rfl ?_
    refine g_12_14 F kz_176 in_12 (mc bw_22_18) dX12_isRope_6 ?_
    refine x_icmp_ge (tgt := 16) F dX12_isRope_9 (by decide) (fun c => ?_) (fun c => ?_)
    · replace h := h.1 c
      refine x_iconst (0 : Int32) F dX12_isRope_16 (by decide) ?_
      exact hret _ _ _ _ h (nar01 (by decide)) dX12_isRope_17
    · replace h := h.2 c
      refine x_iconst (1 : Int32) F dX12_isRope_12 (by decide) ?_
      refine x_goto (tgt := 17) F dX12_isRope_13 (by decide) ?_
      exact hret _ _ _ _ h (nar01 (by decide)) dX12_isRope_17
/-! X12_isGust -/
abbrev wvX12_isGust : List Cond := Cond.code yX12_isGust cX12_isGust 4 (some .boolean) :: wsL_law
theorem cd_X12_isGust : okN yX12_isGust RX12 3 := by unfold okN; decide +kernel
def w_X12_isGust  (p0 : Int32) (p1 : Int32) (p2 : Int32) (σ : wS) (Q : Int32 → wS → Prop) : Prop := w_X12_isIn (p0).toInt64 (-99 : Int64) (99 : Int64) σ (fun r2 s1 => (r2 = 0 → (Q (0 : Int32) s1)) ∧ (¬ r2 = 0 → (w_X12_isIn (p1).toInt64 (-99 : Int64) (99 : Int64) s1 (fun r4 s3 => (r4 = 0 → (Q (0 : Int32) s3)) ∧ (¬ r4 = 0 → (w_X12_isIn (p2).toInt64 (-999 : Int64) (999 : Int64) s3 (fun r6 s5 => (r6 = 0 → (Q (0 : Int32) s5)) ∧ (¬ r6 = 0 → (Q (1 : Int32) s5)))))))))
set_option maxRecDepth 100000 in
set_option maxHeartbeats 4000000 in
theorem c_X12_isGust (l : Launch) (g : wG) (A : Nat → Prop) (hA : adO g A)   {p0 : Int32} {p1 : Int32} {p2 : Int32} {σ : wS} {Q : Int32 → wS → Prop} (h : w_X12_isGust  p0 p1 p2 σ Q) : Mi l yX12_isGust wvX12_isGust 1 25 g A [.ref (g.2.2 176), .int p0, .int p1, .int p2] σ Q := by
  refine mt_i (own := RX12) (lv := [(0, .ref (g.2.2 176)), (1, .int p0), (2, .int p1), (3, .int p2)]) (by decide) rfl rfl hA (Nat.le_of_ble_eq_true rfl) rfl ?_
  intro X hl hg hAA F hret
  subst hl hg hAA
  unfold w_X12_isGust at h
  refine x_iload_n F dX12_isGust_0 rfl 1 rfl ?_
  refine x_i2l F dX12_isGust_1 ?_
  refine x_ldc2 F dX12_isGust_2 (mc bw_36_21) ?_
  refine x_ldc2 F dX12_isGust_5 (mc bw_36_22) ?_
  refine x_callT_i F (c_X12_isIn (xl X) (xg X) (xA X) F.2.2.1  h) (bw_S bw_13_13 bw_13_14 bw_1_5 bw_13_15) rfl cd_X12_isIn (Nat.le_of_ble_eq_true rfl) (Nat.le_of_ble_eq_true rfl) rfl rfl (Nat.le_of_ble_eq_true rfl) dX12_isGust_8 (fun r2 s1 h => ?_)
  refine x_if_eq (tgt := 46) F dX12_isGust_11 (by decide) (fun c => ?_) (fun c => ?_)
  · replace h := h.1 c
    refine x_iconst (0 : Int32) F dX12_isGust_46 (by decide) ?_
    exact hret _ _ _ _ h (nar01 (by decide)) dX12_isGust_47
  · replace h := h.2 c
    refine x_iload_n F dX12_isGust_14 rfl 2 rfl ?_
    refine x_i2l F dX12_isGust_15 ?_
    refine x_ldc2 F dX12_isGust_16 (mc bw_36_21) ?_
    refine x_ldc2 F dX12_isGust_19 (mc bw_36_22) ?_
    refine x_callT_i F (c_X12_isIn (xl X) (xg X) (xA X) F.2.2.1  h) (bw_S bw_13_13 bw_13_14 bw_1_5 bw_13_15) rfl cd_X12_isIn (Nat.le_of_ble_eq_true rfl) (Nat.le_of_ble_eq_true rfl) rfl rfl (Nat.le_of_ble_eq_true rfl) dX12_isGust_22 (fun r4 s3 h => ?_)
    refine x_if_eq (tgt := 46) F dX12_isGust_25 (by decide) (fun c => ?_) (fun c => ?_)
    · replace h := h.1 c
      refine x_iconst (0 : Int32) F dX12_isGust_46 (by decide) ?_
      exact hret _ _ _ _ h (nar01 (by decide)) dX12_isGust_47
    · replace h := h.2 c
      refine x_iload_n F dX12_isGust_28 rfl 3 rfl ?_
      refine x_i2l F dX12_isGust_29 ?_
      refine x_ldc2 F dX12_isGust_30 (mc bw_36_11) ?_
      refine x_ldc2 F dX12_isGust_33 (mc bw_36_12) ?_
      refine x_callT_i F (c_X12_isIn (xl X) (xg X) (xA X) F.2.2.1  h) (bw_S bw_13_13 bw_13_14 bw_1_5 bw_13_15) rfl cd_X12_isIn (Nat.le_of_ble_eq_true rfl) (Nat.le_of_ble_eq_true rfl) rfl rfl (Nat.le_of_ble_eq_true rfl) dX12_isGust_36 (fun r6 s5 h => ?_)
      refine x_if_eq (tgt := 46) F dX12_isGust_39 (by decide) (fun c => ?_) (fun c => ?_)
      · replace h := h.1 c
        refine x_iconst (0 : Int32) F dX12_isGust_46 (by decide) ?_
        exact hret _ _ _ _ h (nar01 (by decide)) dX12_isGust_47
      · replace h := h.2 c
        refine x_iconst (1 : Int32) F dX12_isGust_42 (by decide) ?_
        refine x_goto (tgt := 47) F dX12_isGust_43 (by decide) ?_
        exact hret _ _ _ _ h (nar01 (by decide)) dX12_isGust_47
/-! X12_stops -/
abbrev wvX12_stops : List Cond := Cond.code yX12_stops cX12_stops 7 (some .int) :: wsL_law
theorem cd_X12_stops : okN yX12_stops RX12 5 := by unfold okN; decide +kernel
def b_X12_stops_210 (p0 : Nat)  (Q : Int32 → wS → Prop) (z0 : Int32) (z1 : Int32) (σ : wS) : Prop := (¬ z1 = z0 → (Q (2 : Int32) σ)) ∧ (z1 = z0 → (Q (-1 : Int32) σ))
set_option maxRecDepth 100000 in
set_option maxHeartbeats 4000000 in
theorem wb_X12_stops_210 {X : XT} {Q : Int32 → wS → Prop} {p0 : Nat} (F : Fx X cX12_stops 7 RX12 wvX12_stops 2 48) (hret : Ri X 7 cX12_stops .int Q) (k_p0 : kd p0 = 14)   (z0 : Int32) (z1 : Int32) (σ : wS) (h : b_X12_stops_210 p0  Q z0 z1 σ) : Wx X 7 σ 210 [] [.int z0, .int z1] := by
  unfold b_X12_stops_210 at h
  refine x_icmp_ne (tgt := 217) F dX12_stops_210 (by decide) (fun c => ?_) (fun c => ?_)
  · replace h := h.1 c
    refine x_iconst (2 : Int32) F dX12_stops_217 (by decide) ?_
    exact hret _ _ _ _ h rfl dX12_stops_218
  · replace h := h.2 c
    refine x_iconst (-1 : Int32) F dX12_stops_213 (by decide) ?_
    refine x_goto (tgt := 218) F dX12_stops_214 (by decide) ?_
    exact hret _ _ _ _ h rfl dX12_stops_218
def b_X12_stops_192 (p0 : Nat)  (Q : Int32 → wS → Prop)  (σ : wS) : Prop := Q (2 : Int32) σ
set_option maxRecDepth 100000 in
set_option maxHeartbeats 4000000 in
theorem wb_X12_stops_192 {X : XT} {Q : Int32 → wS → Prop} {p0 : Nat} (F : Fx X cX12_stops 7 RX12 wvX12_stops 2 48) (hret : Ri X 7 cX12_stops .int Q) (k_p0 : kd p0 = 14)    (σ : wS) (h : b_X12_stops_192 p0  Q  σ) : Wx X 7 σ 192 [] [] := by
  unfold b_X12_stops_192 at h
  refine x_iconst (2 : Int32) F dX12_stops_192 (by decide) ?_
  refine x_goto (tgt := 197) F dX12_stops_193 (by decide) ?_
  exact hret _ _ _ _ h rfl dX12_stops_197
def b_X12_stops_131 (p0 : Nat)  (Q : Int32 → wS → Prop) (x2 : Int32) (x3 : Int32) (x4 : Int32) (z0 : Int32) (σ : wS) : Prop := (¬ x2 = (1 : Int32) → ((¬ x2 = (2 : Int32) → (b_X12_stops_210 p0  Q (0 : Int32) z0 σ)) ∧ (x2 = (2 : Int32) → (b_X12_stops_210 p0  Q (1 : Int32) z0 σ)))) ∧ (x2 = (1 : Int32) → (w_X12_isIn (x4).toInt64 (-9 : Int64) (9 : Int64) σ (fun r2 s1 => (r2 = 0 → (Q (1 : Int32) s1)) ∧ (¬ r2 = 0 → (vp_in ((0 : Int32) + x3) (ln p0) ∧ (w_X12_stiffness x3 s1 (fun r4 s3 => w_X12_isIn (((s1.1 p0 (((0 : Int32) + x3)).toNatClampNeg) + (x4 * r4))).toInt64 (-999 : Int64) (999 : Int64) s3 (fun r6 s5 => (¬ r6 = 0 → ((x4 = 0 → (b_X12_stops_192 p0  Q  s5)) ∧ (¬ x4 = 0 → ((¬ z0 = 0 → (Q (-1 : Int32) s5)) ∧ (z0 = 0 → (b_X12_stops_192 p0  Q  s5)))))) ∧ (r6 = 0 → (Q (1 : Int32) s5))))))))))
set_option maxRecDepth 100000 in
set_option maxHeartbeats 4000000 in
theorem wb_X12_stops_131 {X : XT} {Q : Int32 → wS → Prop} {p0 : Nat} (F : Fx X cX12_stops 7 RX12 wvX12_stops 2 48) (hret : Ri X 7 cX12_stops .int Q) (k_p0 : kd p0 = 14)   (x2 : Int32) (x3 : Int32) (x4 : Int32) (z0 : Int32) (σ : wS) (h : b_X12_stops_131 p0  Q x2 x3 x4 z0 σ) : Wx X 7 σ 131 [(0, .ref (ad X 176)), (1, .ref (ad X p0)), (2, .int x2), (3, .int x3), (4, .int x4)] [.int z0] := by
  unfold b_X12_stops_131 at h
  refine x_istore (lv' := [(6, .int z0), (0, .ref (ad X 176)), (1, .ref (ad X p0)), (2, .int x2), (3, .int x3), (4, .int x4)]) F dX12_stops_131 (by decide) rfl ?_
  refine x_iload_n F dX12_stops_133 rfl 3 rfl ?_
  refine x_iconst (1 : Int32) F dX12_stops_134 (by decide) ?_
  refine x_icmp_ne (tgt := 198) F dX12_stops_135 (by decide) (fun c => ?_) (fun c => ?_)
  · replace h := h.1 c
    refine x_iload F dX12_stops_198 0 rfl ?_
    refine x_iload_n F dX12_stops_200 rfl 3 rfl ?_
    refine x_iconst (2 : Int32) F dX12_stops_201 (by decide) ?_
    refine x_icmp_ne (tgt := 209) F dX12_stops_202 (by decide) (fun c => ?_) (fun c => ?_)
    · replace h := h.1 c
      refine x_iconst (0 : Int32) F dX12_stops_209 (by decide) ?_
      refine x_sub (lv' := []) [] rfl ?_
      exact wb_X12_stops_210 F hret k_p0  _ _ _ h
    · replace h := h.2 c
      refine x_iconst (1 : Int32) F dX12_stops_205 (by decide) ?_
      refine x_goto (tgt := 210) F dX12_stops_206 (by decide) ?_
      refine x_sub (lv' := []) [] rfl ?_
      exact wb_X12_stops_210 F hret k_p0  _ _ _ h
  · replace h := h.2 c
    refine x_iload F dX12_stops_138 5 rfl ?_
    refine x_i2l F dX12_stops_140 ?_
    refine x_ldc2 F dX12_stops_141 (mc bw_36_15) ?_
    refine x_ldc2 F dX12_stops_144 (mc bw_36_16) ?_
    refine x_callT_i F (c_X12_isIn (xl X) (xg X) (xA X) F.2.2.1  h) (bw_S bw_13_13 bw_13_14 bw_1_5 bw_13_15) rfl cd_X12_isIn (Nat.le_of_ble_eq_true rfl) (Nat.le_of_ble_eq_true rfl) rfl rfl (Nat.le_of_ble_eq_true rfl) dX12_stops_147 (fun r2 s1 h => ?_)
    refine x_if_eq (tgt := 180) F dX12_stops_150 (by decide) (fun c => ?_) (fun c => ?_)
    · replace h := h.1 c
      refine x_iconst (1 : Int32) F dX12_stops_180 (by decide) ?_
      exact hret _ _ _ _ h rfl dX12_stops_181
    · replace h := h.2 c
      refine x_aload_n F dX12_stops_153 rfl 2 rfl ?_
      refine x_iconst (0 : Int32) F dX12_stops_154 (by decide) ?_
      refine x_iload_n F dX12_stops_155 rfl 4 rfl ?_
      refine x_iadd F dX12_stops_156 ?_
      obtain ⟨hj, h⟩ := h
      refine x_iald F k_p0 rfl hj dX12_stops_157 ?_
      refine x_iload F dX12_stops_158 5 rfl ?_
      refine x_aload_n F dX12_stops_160 rfl 1 rfl ?_
      refine x_iload_n F dX12_stops_161 rfl 4 rfl ?_
      refine x_callV_i F (c_X12_stiffness (xl X) (xg X) (xA X) F.2.2.1  h) (bw_V bw_24_2 bw_24_3 bw_24_4 bw_1_5 bw_24_5) rfl cd_X12_stiffness (Nat.le_of_ble_eq_true rfl) (Nat.le_of_ble_eq_true rfl) (kd_w (by decide) kz_176) rfl (cl_12 kz_176) rfl rfl (Nat.le_of_ble_eq_true rfl) dX12_stops_162 (fun r4 s3 h => ?_)
      refine x_imul F dX12_stops_165 ?_
      refine x_iadd F dX12_stops_166 ?_
      refine x_i2l F dX12_stops_167 ?_
      refine x_ldc2 F dX12_stops_168 (mc bw_36_11) ?_
      refine x_ldc2 F dX12_stops_171 (mc bw_36_12) ?_
      refine x_callT_i F (c_X12_isIn (xl X) (xg X) (xA X) F.2.2.1  h) (bw_S bw_13_13 bw_13_14 bw_1_5 bw_13_15) rfl cd_X12_isIn (Nat.le_of_ble_eq_true rfl) (Nat.le_of_ble_eq_true rfl) rfl rfl (Nat.le_of_ble_eq_true rfl) dX12_stops_174 (fun r6 s5 h => ?_)
      refine x_if_ne (tgt := 182) F dX12_stops_177 (by decide) (fun c => ?_) (fun c => ?_)
      · replace h := h.1 c
        refine x_iload F dX12_stops_182 5 rfl ?_
        refine x_if_eq (tgt := 192) F dX12_stops_184 (by decide) (fun c => ?_) (fun c => ?_)
        · replace h := h.1 c
          refine x_sub (lv' := []) [] rfl ?_
          exact wb_X12_stops_192 F hret k_p0   _ h
        · replace h := h.2 c
          refine x_iload F dX12_stops_187 0 rfl ?_
          refine x_if_ne (tgt := 196) F dX12_stops_189 (by decide) (fun c => ?_) (fun c => ?_)
          · replace h := h.1 c
            refine x_iconst (-1 : Int32) F dX12_stops_196 (by decide) ?_
            exact hret _ _ _ _ h rfl dX12_stops_197
          · replace h := h.2 c
            refine x_sub (lv' := []) [] rfl ?_
            exact wb_X12_stops_192 F hret k_p0   _ h
      · replace h := h.2 c
        refine x_iconst (1 : Int32) F dX12_stops_180 (by decide) ?_
        exact hret _ _ _ _ h rfl dX12_stops_181
def w_X12_stops (p0 : Nat) (p1 : Int32) (p2 : Int32) (p3 : Int32) (p4 : Int32) (σ : wS) (Q : Int32 → wS → Prop) : Prop := (¬ (σ.1 176 14) = 0 → ((¬ p1 = 0 → (w_X12_isRope p2 σ (fun r2 s1 => (¬ r2 = 0 → (vp_in ((8 : Int32) + p2) (ln p0) ∧ (((2 : Int32) ≤ (s1.1 p0 (((8 : Int32) + p2)).toNatClampNeg) → (b_X12_stops_131 p0  Q p1 p2 p3 (0 : Int32) s1)) ∧ (¬ (2 : Int32) ≤ (s1.1 p0 (((8 : Int32) + p2)).toNatClampNeg) → (b_X12_stops_131 p0  Q p1 p2 p3 (1 : Int32) s1))))) ∧ (r2 = 0 → (Q (0 : Int32) s1))))) ∧ (p1 = 0 → (w_X12_isGust p2 p3 p4 σ (fun r4 s3 => (r4 = 0 → (Q (1 : Int32) s3)) ∧ (¬ r4 = 0 → (vp_in (16 : Int32) (ln p0) ∧ (w_X12_isIn (((s3.1 p0 ((16 : Int32)).toNatClampNeg) + p2)).toInt64 (-999 : Int64) (999 : Int64) s3 (fun r6 s5 => (r6 = 0 → (Q (1 : Int32) s5)) ∧ (¬ r6 = 0 → (vp_in (17 : Int32) (ln p0) ∧ (w_X12_isIn (((s5.1 p0 ((17 : Int32)).toNatClampNeg) + p3)).toInt64 (-999 : Int64) (999 : Int64) s5 (fun r8 s7 => (r8 = 0 → (Q (1 : Int32) s7)) ∧ (¬ r8 = 0 → (vp_in (18 : Int32) (ln p0) ∧ (w_X12_isIn (((s7.1 p0 ((18 : Int32)).toNatClampNeg) + p4)).toInt64 (-9999 : Int64) (9999 : Int64) s7 (fun r10 s9 => (¬ r10 = 0 → ((¬ p2 = 0 → (Q (-1 : Int32) s9)) ∧ (p2 = 0 → ((¬ p3 = 0 → (Q (-1 : Int32) s9)) ∧ (p3 = 0 → ((¬ p4 = 0 → (Q (-1 : Int32) s9)) ∧ (p4 = 0 → (Q (2 : Int32) s9)))))))) ∧ (r10 = 0 → (Q (1 : Int32) s9))))))))))))))))))) ∧ ((σ.1 176 14) = 0 → (Q (0 : Int32) σ))
set_option maxRecDepth 100000 in
set_option maxHeartbeats 4000000 in
theorem c_X12_stops (l : Launch) (g : wG) (A : Nat → Prop) (hA : adO g A) {p0 : Nat} (k_p0 : kd p0 = 14) {p1 : Int32} {p2 : Int32} {p3 : Int32} {p4 : Int32} {σ : wS} {Q : Int32 → wS → Prop} (h : w_X12_stops p0 p1 p2 p3 p4 σ Q) : Mi l yX12_stops wvX12_stops 2 48 g A [.ref (g.2.2 176), .ref (g.2.2 p0), .int p1, .int p2, .int p3, .int p4] σ Q := by
  refine mt_i (own := RX12) (lv := [(0, .ref (g.2.2 176)), (1, .ref (g.2.2 p0)), (2, .int p1), (3, .int p2), (4, .int p3), (5, .int p4)]) (by decide) rfl rfl hA (Nat.le_of_ble_eq_true rfl) rfl ?_
  intro X hl hg hAA F hret
  subst hl hg hAA
  unfold w_X12_stops at h
  refine x_aload_n F dX12_stops_0 rfl 0 rfl ?_
  refine g_12_14 F kz_176 in_12 (mc bw_22_18) dX12_stops_1 ?_
  refine x_if_ne (tgt := 9) F dX12_stops_4 (by decide) (fun c => ?_) (fun c => ?_)
  · replace h := h.1 c
    refine x_iload_n F dX12_stops_9 rfl 2 rfl ?_
    refine x_if_ne (tgt := 106) F dX12_stops_10 (by decide) (fun c => ?_) (fun c => ?_)
    · replace h := h.1 c
      refine x_aload_n F dX12_stops_106 rfl 0 rfl ?_
      refine x_iload_n F dX12_stops_107 rfl 3 rfl ?_
      refine x_callV_i F (c_X12_isRope (xl X) (xg X) (xA X) F.2.2.1  h) (bw_V bw_27_21 bw_27_22 bw_27_23 bw_1_5 bw_28_0) rfl cd_X12_isRope (Nat.le_of_ble_eq_true rfl) (Nat.le_of_ble_eq_true rfl) (kd_w (by decide) kz_176) rfl (cl_12 kz_176) rfl rfl (Nat.le_of_ble_eq_true rfl) dX12_stops_108 (fun r2 s1 h => ?_)
      refine x_if_ne (tgt := 116) F dX12_stops_111 (by decide) (fun c => ?_) (fun c => ?_)
      · replace h := h.1 c
        refine x_aload_n F dX12_stops_116 rfl 1 rfl ?_
        refine x_bipush (8 : Int32) F dX12_stops_117 (by decide) ?_
        refine x_iload_n F dX12_stops_119 rfl 3 rfl ?_
        refine x_iadd F dX12_stops_120 ?_
        obtain ⟨hj, h⟩ := h
        refine x_iald F k_p0 rfl hj dX12_stops_121 ?_
        refine x_iconst (2 : Int32) F dX12_stops_122 (by decide) ?_
        refine x_icmp_ge (tgt := 130) F dX12_stops_123 (by decide) (fun c => ?_) (fun c => ?_)
        · replace h := h.1 c
          refine x_iconst (0 : Int32) F dX12_stops_130 (by decide) ?_
          refine x_sub (lv' := [(0, .ref (ad X 176)), (1, .ref (ad X p0)), (2, .int p1), (3, .int p2), (4, .int p3)]) [0, 1, 2, 3, 4] rfl ?_
          exact wb_X12_stops_131 F hret k_p0  _ _ _ _ _ h
        · replace h := h.2 c
          refine x_iconst (1 : Int32) F dX12_stops_126 (by decide) ?_
          refine x_goto (tgt := 131) F dX12_stops_127 (by decide) ?_
          refine x_sub (lv' := [(0, .ref (ad X 176)), (1, .ref (ad X p0)), (2, .int p1), (3, .int p2), (4, .int p3)]) [0, 1, 2, 3, 4] rfl ?_
          exact wb_X12_stops_131 F hret k_p0  _ _ _ _ _ h
      · replace h := h.2 c
        refine x_iconst (0 : Int32) F dX12_stops_114 (by decide) ?_
        exact hret _ _ _ _ h rfl dX12_stops_115
    · replace h := h.2 c
      refine x_aload_n F dX12_stops_13 rfl 0 rfl ?_
      refine x_iload_n F dX12_stops_14 rfl 3 rfl ?_
      refine x_iload F dX12_stops_15 4 rfl ?_
      refine x_iload F dX12_stops_17 5 rfl ?_
      refine x_callV_i F (c_X12_isGust (xl X) (xg X) (xA X) F.2.2.1  h) (bw_V bw_36_17 bw_36_18 bw_36_19 bw_1_5 bw_36_20) rfl cd_X12_isGust (Nat.le_of_ble_eq_true rfl) (Nat.le_of_ble_eq_true rfl) (kd_w (by decide) kz_176) rfl (cl_12 kz_176) rfl rfl (Nat.le_of_ble_eq_true rfl) dX12_stops_19 (fun r4 s3 h => ?_)
      refine x_if_eq (tgt := 84) F dX12_stops_22 (by decide) (fun c => ?_) (fun c => ?_)
      · replace h := h.1 c
        refine x_iconst (1 : Int32) F dX12_stops_84 (by decide) ?_
        exact hret _ _ _ _ h rfl dX12_stops_85
      · replace h := h.2 c
        refine x_aload_n F dX12_stops_25 rfl 1 rfl ?_
        refine x_bipush (16 : Int32) F dX12_stops_26 (by decide) ?_
        obtain ⟨hj, h⟩ := h
        refine x_iald F k_p0 rfl hj dX12_stops_28 ?_
        refine x_iload_n F dX12_stops_29 rfl 3 rfl ?_
        refine x_iadd F dX12_stops_30 ?_
        refine x_i2l F dX12_stops_31 ?_
        refine x_ldc2 F dX12_stops_32 (mc bw_36_11) ?_
        refine x_ldc2 F dX12_stops_35 (mc bw_36_12) ?_
        refine x_callT_i F (c_X12_isIn (xl X) (xg X) (xA X) F.2.2.1  h) (bw_S bw_13_13 bw_13_14 bw_1_5 bw_13_15) rfl cd_X12_isIn (Nat.le_of_ble_eq_true rfl) (Nat.le_of_ble_eq_true rfl) rfl rfl (Nat.le_of_ble_eq_true rfl) dX12_stops_38 (fun r6 s5 h => ?_)
        refine x_if_eq (tgt := 84) F dX12_stops_41 (by decide) (fun c => ?_) (fun c => ?_)
        · replace h := h.1 c
          refine x_iconst (1 : Int32) F dX12_stops_84 (by decide) ?_
          exact hret _ _ _ _ h rfl dX12_stops_85
        · replace h := h.2 c
          refine x_aload_n F dX12_stops_44 rfl 1 rfl ?_
          refine x_bipush (17 : Int32) F dX12_stops_45 (by decide) ?_
          obtain ⟨hj, h⟩ := h
          refine x_iald F k_p0 rfl hj dX12_stops_47 ?_
          refine x_iload F dX12_stops_48 4 rfl ?_
          refine x_iadd F dX12_stops_50 ?_
          refine x_i2l F dX12_stops_51 ?_
          refine x_ldc2 F dX12_stops_52 (mc bw_36_11) ?_
          refine x_ldc2 F dX12_stops_55 (mc bw_36_12) ?_
          refine x_callT_i F (c_X12_isIn (xl X) (xg X) (xA X) F.2.2.1  h) (bw_S bw_13_13 bw_13_14 bw_1_5 bw_13_15) rfl cd_X12_isIn (Nat.le_of_ble_eq_true rfl) (Nat.le_of_ble_eq_true rfl) rfl rfl (Nat.le_of_ble_eq_true rfl) dX12_stops_58 (fun r8 s7 h => ?_)
          refine x_if_eq (tgt := 84) F dX12_stops_61 (by decide) (fun c => ?_) (fun c => ?_)
          · replace h := h.1 c
            refine x_iconst (1 : Int32) F dX12_stops_84 (by decide) ?_
            exact hret _ _ _ _ h rfl dX12_stops_85
          · replace h := h.2 c
            refine x_aload_n F dX12_stops_64 rfl 1 rfl ?_
            refine x_bipush (18 : Int32) F dX12_stops_65 (by decide) ?_
            obtain ⟨hj, h⟩ := h
            refine x_iald F k_p0 rfl hj dX12_stops_67 ?_
            refine x_iload F dX12_stops_68 5 rfl ?_
            refine x_iadd F dX12_stops_70 ?_
            refine x_i2l F dX12_stops_71 ?_
            refine x_ldc2 F dX12_stops_72 (mc bw_36_13) ?_
            refine x_ldc2 F dX12_stops_75 (mc bw_36_14) ?_
            refine x_callT_i F (c_X12_isIn (xl X) (xg X) (xA X) F.2.2.1  h) (bw_S bw_13_13 bw_13_14 bw_1_5 bw_13_15) rfl cd_X12_isIn (Nat.le_of_ble_eq_true rfl) (Nat.le_of_ble_eq_true rfl) rfl rfl (Nat.le_of_ble_eq_true rfl) dX12_stops_78 (fun r10 s9 h => ?_)
            refine x_if_ne (tgt := 86) F dX12_stops_81 (by decide) (fun c => ?_) (fun c => ?_)
            · replace h := h.1 c
              refine x_iload_n F dX12_stops_86 rfl 3 rfl ?_
              refine x_if_ne (tgt := 104) F dX12_stops_87 (by decide) (fun c => ?_) (fun c => ?_)
              · replace h := h.1 c
                refine x_iconst (-1 : Int32) F dX12_stops_104 (by decide) ?_
                exact hret _ _ _ _ h rfl dX12_stops_105
              · replace h := h.2 c
                refine x_iload F dX12_stops_90 4 rfl ?_
                refine x_if_ne (tgt := 104) F dX12_stops_92 (by decide) (fun c => ?_) (fun c => ?_)
                · replace h := h.1 c
                  refine x_iconst (-1 : Int32) F dX12_stops_104 (by decide) ?_
                  exact hret _ _ _ _ h rfl dX12_stops_105
                · replace h := h.2 c
                  refine x_iload F dX12_stops_95 5 rfl ?_
                  refine x_if_ne (tgt := 104) F dX12_stops_97 (by decide) (fun c => ?_) (fun c => ?_)
                  · replace h := h.1 c
                    refine x_iconst (-1 : Int32) F dX12_stops_104 (by decide) ?_
                    exact hret _ _ _ _ h rfl dX12_stops_105
                  · replace h := h.2 c
                    refine x_iconst (2 : Int32) F dX12_stops_100 (by decide) ?_
                    refine x_goto (tgt := 105) F dX12_stops_101 (by decide) ?_
                    exact hret _ _ _ _ h rfl dX12_stops_105
            · replace h := h.2 c
              refine x_iconst (1 : Int32) F dX12_stops_84 (by decide) ?_
              exact hret _ _ _ _ h rfl dX12_stops_85
  · replace h := h.2 c
    refine x_iconst (0 : Int32) F dX12_stops_7 (by decide) ?_
    exact hret _ _ _ _ h rfl dX12_stops_8
/-! X12_changes -/
abbrev wvX12_changes : List Cond := Cond.code yX12_changes cX12_changes 6 none :: wsL_law
theorem cd_X12_changes : okN yX12_changes RX12 5 := by unfold okN; decide +kernel
def w_X12_changes (p0 : Nat) (p1 : Int32) (p2 : Int32) (p3 : Int32) (p4 : Int32) (σ : wS) (Q : wS → Prop) : Prop := (p1 = (0 : Int32) → (vp_in (16 : Int32) (ln p0) ∧ (vp_in (16 : Int32) (ln p0) ∧ (∀ s1 : wS, s1 = upI σ p0 ((16 : Int32)).toNatClampNeg ((σ.1 p0 ((16 : Int32)).toNatClampNeg) + p2) → (vp_in (17 : Int32) (ln p0) ∧ (vp_in (17 : Int32) (ln p0) ∧ (∀ s2 : wS, s2 = upI s1 p0 ((17 : Int32)).toNatClampNeg ((s1.1 p0 ((17 : Int32)).toNatClampNeg) + p3) → (vp_in (18 : Int32) (ln p0) ∧ (vp_in (18 : Int32) (ln p0) ∧ (∀ s3 : wS, s3 = upI s2 p0 ((18 : Int32)).toNatClampNeg ((s2.1 p0 ((18 : Int32)).toNatClampNeg) + p4) → (Q s3))))))))))) ∧ (p1 = (1 : Int32) → (vp_in ((0 : Int32) + p2) (ln p0) ∧ (w_X12_stiffness p2 σ (fun r5 s4 => vp_in ((0 : Int32) + p2) (ln p0) ∧ (∀ s6 : wS, s6 = upI s4 p0 (((0 : Int32) + p2)).toNatClampNeg ((σ.1 p0 (((0 : Int32) + p2)).toNatClampNeg) + (p3 * r5)) → (Q s6)))))) ∧ (p1 = (2 : Int32) → (vp_in ((8 : Int32) + p2) (ln p0) ∧ (∀ s7 : wS, s7 = upI σ p0 (((8 : Int32) + p2)).toNatClampNeg (3 : Int32) → (Q s7)))) ∧ (¬ p1 = (0 : Int32) → ¬ p1 = (1 : Int32) → ¬ p1 = (2 : Int32) → (vp_in (((7 : Int32) * p2) + (5 : Int32)) 56 ∧ (vp_in ((0 : Int32) + p2) (ln p0) ∧ (∀ s8 : wS, s8 = upI σ p0 (((0 : Int32) + p2)).toNatClampNeg (σ.1 181 ((((7 : Int32) * p2) + (5 : Int32))).toNatClampNeg) → (vp_in ((8 : Int32) + p2) (ln p0) ∧ (∀ s9 : wS, s9 = upI s8 p0 (((8 : Int32) + p2)).toNatClampNeg (0 : Int32) → (Q s9)))))))
set_option maxRecDepth 100000 in
set_option maxHeartbeats 4000000 in
theorem c_X12_changes (l : Launch) (g : wG) (A : Nat → Prop) (hA : adO g A) {p0 : Nat} (k_p0 : kd p0 = 14) {p1 : Int32} {p2 : Int32} {p3 : Int32} {p4 : Int32} {σ : wS} {Q : wS → Prop} (h : w_X12_changes p0 p1 p2 p3 p4 σ Q) : Mv l yX12_changes wvX12_changes 1 21 g A [.ref (g.2.2 176), .ref (g.2.2 p0), .int p1, .int p2, .int p3, .int p4] σ Q := by
  refine mt_v (own := RX12) (lv := [(0, .ref (g.2.2 176)), (1, .ref (g.2.2 p0)), (2, .int p1), (3, .int p2), (4, .int p3), (5, .int p4)]) (by decide) rfl rfl hA (Nat.le_of_ble_eq_true rfl) rfl ?_
  intro X hl hg hAA F hret
  subst hl hg hAA
  unfold w_X12_changes at h
  refine x_iload_n F dX12_changes_0 rfl 2 rfl ?_
  by_cases c0 : p1 = (0 : Int32)
  · replace h := h.1 c0
    refine x_tin (off := 27) (tgt := 28) F dX12_changes_1 (by rw [c0]; decide) (by rw [c0]; decide) (by rw [c0]; rfl) (by decide) ?_
    refine x_aload_n F dX12_changes_28 rfl 1 rfl ?_
    refine x_bipush (16 : Int32) F dX12_changes_29 (by decide) ?_
    refine x_dup2_11 F dX12_changes_31 rfl rfl ?_
    obtain ⟨hj, h⟩ := h
    refine x_iald F k_p0 rfl hj dX12_changes_32 ?_
    refine x_iload_n F dX12_changes_33 rfl 3 rfl ?_
    refine x_iadd F dX12_changes_34 ?_
    obtain ⟨hz, h⟩ := h
    refine x_iast F k_p0 rfl hz dX12_changes_35 ?_
    refine x_nmS (fun s1 es1 => ?_)
    replace h := h s1 es1
    refine x_aload_n F dX12_changes_36 rfl 1 rfl ?_
    refine x_bipush (17 : Int32) F dX12_changes_37 (by decide) ?_
    refine x_dup2_11 F dX12_changes_39 rfl rfl ?_
    obtain ⟨hj, h⟩ := h
    refine x_iald F k_p0 rfl hj dX12_changes_40 ?_
    refine x_iload F dX12_changes_41 4 rfl ?_
    refine x_iadd F dX12_changes_43 ?_
    obtain ⟨hz, h⟩ := h
    refine x_iast F k_p0 rfl hz dX12_changes_44 ?_
    refine x_nmS (fun s2 es2 => ?_)
    replace h := h s2 es2
    refine x_aload_n F dX12_changes_45 rfl 1 rfl ?_
    refine x_bipush (18 : Int32) F dX12_changes_46 (by decide) ?_
    refine x_dup2_11 F dX12_changes_48 rfl rfl ?_
    obtain ⟨hj, h⟩ := h
    refine x_iald F k_p0 rfl hj dX12_changes_49 ?_
    refine x_iload F dX12_changes_50 5 rfl ?_
    refine x_iadd F dX12_changes_52 ?_
    obtain ⟨hz, h⟩ := h
    refine x_iast F k_p0 rfl hz dX12_changes_53 ?_
    refine x_nmS (fun s3 es3 => ?_)
    replace h := h s3 es3
    refine x_goto (tgt := 109) F dX12_changes_54 (by decide) ?_
    exact hret _ _ _ h dX12_changes_109
  replace h := h.2
  by_cases c1 : p1 = (1 : Int32)
  · replace h := h.1 c1
    refine x_tin (off := 56) (tgt := 57) F dX12_changes_1 (by rw [c1]; decide) (by rw [c1]; decide) (by rw [c1]; rfl) (by decide) ?_
    refine x_aload_n F dX12_changes_57 rfl 1 rfl ?_
    refine x_iconst (0 : Int32) F dX12_changes_58 (by decide) ?_
    refine x_iload_n F dX12_changes_59 rfl 3 rfl ?_
    refine x_iadd F dX12_changes_60 ?_
    refine x_dup2_11 F dX12_changes_61 rfl rfl ?_
    obtain ⟨hj, h⟩ := h
    refine x_iald F k_p0 rfl hj dX12_changes_62 ?_
    refine x_iload F dX12_changes_63 4 rfl ?_
    refine x_aload_n F dX12_changes_65 rfl 0 rfl ?_
    refine x_iload_n F dX12_changes_66 rfl 3 rfl ?_
    refine x_callV_i F (c_X12_stiffness (xl X) (xg X) (xA X) F.2.2.1  h) (bw_V bw_24_2 bw_24_3 bw_24_4 bw_1_5 bw_24_5) rfl cd_X12_stiffness (Nat.le_of_ble_eq_true rfl) (Nat.le_of_ble_eq_true rfl) (kd_w (by decide) kz_176) rfl (cl_12 kz_176) rfl rfl (Nat.le_of_ble_eq_true rfl) dX12_changes_67 (fun r5 s4 h => ?_)
    refine x_imul F dX12_changes_70 ?_
    refine x_iadd F dX12_changes_71 ?_
    obtain ⟨hz, h⟩ := h
    refine x_iast F k_p0 rfl hz dX12_changes_72 ?_
    refine x_nmS (fun s6 es6 => ?_)
    replace h := h s6 es6
    refine x_goto (tgt := 109) F dX12_changes_73 (by decide) ?_
    exact hret _ _ _ h dX12_changes_109
  replace h := h.2
  by_cases c2 : p1 = (2 : Int32)
  · replace h := h.1 c2
    refine x_tin (off := 75) (tgt := 76) F dX12_changes_1 (by rw [c2]; decide) (by rw [c2]; decide) (by rw [c2]; rfl) (by decide) ?_
    refine x_aload_n F dX12_changes_76 rfl 1 rfl ?_
    refine x_bipush (8 : Int32) F dX12_changes_77 (by decide) ?_
    refine x_iload_n F dX12_changes_79 rfl 3 rfl ?_
    refine x_iadd F dX12_changes_80 ?_
    refine x_iconst (3 : Int32) F dX12_changes_81 (by decide) ?_
    obtain ⟨hz, h⟩ := h
    refine x_iast F k_p0 rfl hz dX12_changes_82 ?_
    refine x_nmS (fun s7 es7 => ?_)
    replace h := h s7 es7
    refine x_goto (tgt := 109) F dX12_changes_83 (by decide) ?_
    exact hret _ _ _ h dX12_changes_109
  replace h := h.2
  replace h := h c0 c1 c2
  refine x_tout (tgt := 86) F dX12_changes_1 (sw_out (fun z h1 h2 hz => ?_)) (by decide) ?_
  · rcases (show z = 0 ∨ z = 1 ∨ z = 2 by omega) with rfl | rfl | rfl
    · exact c0 (Int32.toInt_inj.mp (by rw [hz]; rfl))
    · exact c1 (Int32.toInt_inj.mp (by rw [hz]; rfl))
    · exact c2 (Int32.toInt_inj.mp (by rw [hz]; rfl))
  refine x_aload_n F dX12_changes_86 rfl 1 rfl ?_
  refine x_iconst (0 : Int32) F dX12_changes_87 (by decide) ?_
  refine x_iload_n F dX12_changes_88 rfl 3 rfl ?_
  refine x_iadd F dX12_changes_89 ?_
  refine x_aload_n F dX12_changes_90 rfl 0 rfl ?_
  refine g_12_8 F kz_176 in_12 (mc bw_7_11) dX12_changes_91 ?_
  refine x_bipush (7 : Int32) F dX12_changes_94 (by decide) ?_
  refine x_iload_n F dX12_changes_96 rfl 3 rfl ?_
  refine x_imul F dX12_changes_97 ?_
  refine x_iconst (5 : Int32) F dX12_changes_98 (by decide) ?_
  refine x_iadd F dX12_changes_99 ?_
  obtain ⟨hj, h⟩ := h
  refine x_iald F kz_181 nz_181 hj dX12_changes_100 ?_
  obtain ⟨hz, h⟩ := h
  refine x_iast F k_p0 rfl hz dX12_changes_101 ?_
  refine x_nmS (fun s8 es8 => ?_)
  replace h := h s8 es8
  refine x_aload_n F dX12_changes_102 rfl 1 rfl ?_
  refine x_bipush (8 : Int32) F dX12_changes_103 (by decide) ?_
  refine x_iload_n F dX12_changes_105 rfl 3 rfl ?_
  refine x_iadd F dX12_changes_106 ?_
  refine x_iconst (0 : Int32) F dX12_changes_107 (by decide) ?_
  obtain ⟨hz, h⟩ := h
  refine x_iast F k_p0 rfl hz dX12_changes_108 ?_
  refine x_nmS (fun s9 es9 => ?_)
  replace h := h s9 es9
  exact hret _ _ _ h dX12_changes_109
/-! X12_notes -/
abbrev wvX12_notes : List Cond := Cond.code yX12_notes cX12_notes 6 none :: wsL_law
theorem cd_X12_notes : okN yX12_notes RX12 4 := by unfold okN; decide +kernel
def b_X12_notes_50 (p0 : Nat)  (Q : wS → Prop) (x2 : Int32) (x3 : Int32) (x4 : Int32) (σ : wS) : Prop := vp_in (21 : Int32) (ln p0) ∧ (∀ y1 : Int32, y1 = ((22 : Int32) + ((3 : Int32) * (σ.1 p0 ((21 : Int32)).toNatClampNeg))) → (vp_in y1 (ln p0) ∧ (∀ s2 : wS, s2 = upI σ p0 (y1).toNatClampNeg x2 → (vp_in (y1 + (1 : Int32)) (ln p0) ∧ (∀ s3 : wS, s3 = upI s2 p0 ((y1 + (1 : Int32))).toNatClampNeg x3 → (vp_in (y1 + (2 : Int32)) (ln p0) ∧ (∀ s4 : wS, s4 = upI s3 p0 ((y1 + (2 : Int32))).toNatClampNeg x4 → (vp_in (21 : Int32) (ln p0) ∧ (vp_in (21 : Int32) (ln p0) ∧ (∀ s5 : wS, s5 = upI s4 p0 ((21 : Int32)).toNatClampNeg ((s4.1 p0 ((21 : Int32)).toNatClampNeg) + (1 : Int32)) → (Q s5)))))))))))
set_option maxRecDepth 100000 in
set_option maxHeartbeats 4000000 in
theorem wb_X12_notes_50 {X : XT} {Q : wS → Prop} {p0 : Nat} (F : Fx X cX12_notes 6 RX12 wvX12_notes 0 0) (hret : Rv X 6 cX12_notes Q) (k_p0 : kd p0 = 14)   (x2 : Int32) (x3 : Int32) (x4 : Int32) (σ : wS) (h : b_X12_notes_50 p0  Q x2 x3 x4 σ) : Wx X 6 σ 50 [(1, .ref (ad X p0)), (2, .int x2), (3, .int x3), (4, .int x4)] [] := by
  unfold b_X12_notes_50 at h
  refine x_bipush (22 : Int32) F dX12_notes_50 (by decide) ?_
  refine x_iconst (3 : Int32) F dX12_notes_52 (by decide) ?_
  refine x_aload_n F dX12_notes_53 rfl 0 rfl ?_
  refine x_bipush (21 : Int32) F dX12_notes_54 (by decide) ?_
  obtain ⟨hj, h⟩ := h
  refine x_iald F k_p0 rfl hj dX12_notes_56 ?_
  refine x_imul F dX12_notes_57 ?_
  refine x_iadd F dX12_notes_58 ?_
  refine x_topi (fun y1 ey1 => ?_)
  replace h := h y1 ey1
  refine x_istore (lv' := [(5, .int y1), (1, .ref (ad X p0)), (2, .int x2), (3, .int x3), (4, .int x4)]) F dX12_notes_59 (by decide) rfl ?_
  refine x_aload_n F dX12_notes_61 rfl 1 rfl ?_
  refine x_iload F dX12_notes_62 0 rfl ?_
  refine x_iload_n F dX12_notes_64 rfl 2 rfl ?_
  obtain ⟨hz, h⟩ := h
  refine x_iast F k_p0 rfl hz dX12_notes_65 ?_
  refine x_nmS (fun s2 es2 => ?_)
  replace h := h s2 es2
  refine x_aload_n F dX12_notes_66 rfl 1 rfl ?_
  refine x_iload F dX12_notes_67 0 rfl ?_
  refine x_iconst (1 : Int32) F dX12_notes_69 (by decide) ?_
  refine x_iadd F dX12_notes_70 ?_
  refine x_iload_n F dX12_notes_71 rfl 3 rfl ?_
  obtain ⟨hz, h⟩ := h
  refine x_iast F k_p0 rfl hz dX12_notes_72 ?_
  refine x_nmS (fun s3 es3 => ?_)
  replace h := h s3 es3
  refine x_aload_n F dX12_notes_73 rfl 1 rfl ?_
  refine x_iload F dX12_notes_74 0 rfl ?_
  refine x_iconst (2 : Int32) F dX12_notes_76 (by decide) ?_
  refine x_iadd F dX12_notes_77 ?_
  refine x_iload F dX12_notes_78 4 rfl ?_
  obtain ⟨hz, h⟩ := h
  refine x_iast F k_p0 rfl hz dX12_notes_80 ?_
  refine x_nmS (fun s4 es4 => ?_)
  replace h := h s4 es4
  refine x_aload_n F dX12_notes_81 rfl 1 rfl ?_
  refine x_bipush (21 : Int32) F dX12_notes_82 (by decide) ?_
  refine x_dup2_11 F dX12_notes_84 rfl rfl ?_
  obtain ⟨hj, h⟩ := h
  refine x_iald F k_p0 rfl hj dX12_notes_85 ?_
  refine x_iconst (1 : Int32) F dX12_notes_86 (by decide) ?_
  refine x_iadd F dX12_notes_87 ?_
  obtain ⟨hz, h⟩ := h
  refine x_iast F k_p0 rfl hz dX12_notes_88 ?_
  refine x_nmS (fun s5 es5 => ?_)
  replace h := h s5 es5
  exact hret _ _ _ h dX12_notes_89
def l_X12_notes_12 (p0 : Nat)  (Q : wS → Prop) : Nat → Int32 → Int32 → Int32 → Int32 → wS → Prop
  | 0, _, _, _, _, _ => False
  | n + 1, x2, x3, x4, x5, σ => ((177 : Int32) < x5 → (vp_in (21 : Int32) (ln p0) ∧ (vp_in (21 : Int32) (ln p0) ∧ (∀ s1 : wS, s1 = upI σ p0 ((21 : Int32)).toNatClampNeg ((σ.1 p0 ((21 : Int32)).toNatClampNeg) - (1 : Int32)) → (b_X12_notes_50 p0  Q x2 x3 x4 s1))))) ∧ (¬ (177 : Int32) < x5 → (vp_in (((21 : Int32) + x5) + (3 : Int32)) (ln p0) ∧ (vp_in ((21 : Int32) + x5) (ln p0) ∧ (∀ s2 : wS, s2 = upI σ p0 (((21 : Int32) + x5)).toNatClampNeg (σ.1 p0 ((((21 : Int32) + x5) + (3 : Int32))).toNatClampNeg) → (∀ y3 : Int32, y3 = (x5 + (1 : Int32)) → (l_X12_notes_12 p0  Q n x2 x3 x4 y3 s2))))))
set_option maxRecDepth 100000 in
set_option maxHeartbeats 4000000 in
theorem wl_X12_notes_12 {X : XT} {Q : wS → Prop} {p0 : Nat} (F : Fx X cX12_notes 6 RX12 wvX12_notes 0 0) (hret : Rv X 6 cX12_notes Q) (k_p0 : kd p0 = 14)   : ∀ (n : Nat) (x2 : Int32) (x3 : Int32) (x4 : Int32) (x5 : Int32) (σ : wS), l_X12_notes_12 p0  Q n x2 x3 x4 x5 σ → Wx X 6 σ 12 [(1, .ref (ad X p0)), (2, .int x2), (3, .int x3), (4, .int x4), (5, .int x5)] [] := by
  intro n
  induction n with
  | zero =>
    intros
    contradiction
  | succ n ih =>
    intro x2 x3 x4 x5 σ h
    simp only [l_X12_notes_12] at h
    refine x_iload F dX12_notes_12 4 rfl ?_
    refine x_sipush (177 : Int32) F dX12_notes_14 (by decide) ?_
    refine x_icmp_gt (tgt := 42) F dX12_notes_17 (by decide) (fun c => ?_) (fun c => ?_)
    · replace h := h.1 c
      refine x_aload_n F dX12_notes_42 rfl 0 rfl ?_
      refine x_bipush (21 : Int32) F dX12_notes_43 (by decide) ?_
      refine x_dup2_11 F dX12_notes_45 rfl rfl ?_
      obtain ⟨hj, h⟩ := h
      refine x_iald F k_p0 rfl hj dX12_notes_46 ?_
      refine x_iconst (1 : Int32) F dX12_notes_47 (by decide) ?_
      refine x_isub F dX12_notes_48 ?_
      obtain ⟨hz, h⟩ := h
      refine x_iast F k_p0 rfl hz dX12_notes_49 ?_
      refine x_nmS (fun s1 es1 => ?_)
      replace h := h s1 es1
      refine x_sub (lv' := [(1, .ref (ad X p0)), (2, .int x2), (3, .int x3), (4, .int x4)]) [0, 1, 2, 3] rfl ?_
      exact wb_X12_notes_50 F hret k_p0  _ _ _ _ h
    · replace h := h.2 c
      refine x_aload_n F dX12_notes_20 rfl 0 rfl ?_
      refine x_bipush (21 : Int32) F dX12_notes_21 (by decide) ?_
      refine x_iload F dX12_notes_23 4 rfl ?_
      refine x_iadd F dX12_notes_25 ?_
      refine x_aload_n F dX12_notes_26 rfl 0 rfl ?_
      refine x_bipush (21 : Int32) F dX12_notes_27 (by decide) ?_
      refine x_iload F dX12_notes_29 4 rfl ?_
      refine x_iadd F dX12_notes_31 ?_
      refine x_iconst (3 : Int32) F dX12_notes_32 (by decide) ?_
      refine x_iadd F dX12_notes_33 ?_
      obtain ⟨hj, h⟩ := h
      refine x_iald F k_p0 rfl hj dX12_notes_34 ?_
      obtain ⟨hz, h⟩ := h
      refine x_iast F k_p0 rfl hz dX12_notes_35 ?_
      refine x_nmS (fun s2 es2 => ?_)
      replace h := h s2 es2
      obtain ⟨y3, ey3⟩ : ∃ y : Int32, y = (x5 + (1 : Int32)) := ⟨_, rfl⟩
      replace h := h y3 ey3
      refine x_iinc (q := 4) (v := y3) (lv' := [(5, .int y3), (1, .ref (ad X p0)), (2, .int x2), (3, .int x3), (4, .int x4)]) F dX12_notes_36 rfl (by rw [ey3]; rfl) (by decide) rfl ?_
      refine x_goto (tgt := 12) F dX12_notes_39 (by decide) ?_
      refine x_sub (lv' := [(1, .ref (ad X p0)), (2, .int x2), (3, .int x3), (4, .int x4), (5, .int y3)]) [1, 2, 3, 4, 0] rfl ?_
      exact ih _ _ _ _ _ h
def w_X12_notes (p0 : Nat) (p1 : Int32) (p2 : Int32) (p3 : Int32) (σ : wS) (Q : wS → Prop) : Prop := vp_in (21 : Int32) (ln p0) ∧ ((¬ (σ.1 p0 ((21 : Int32)).toNatClampNeg) = (60 : Int32) → (b_X12_notes_50 p0  Q p1 p2 p3 σ)) ∧ ((σ.1 p0 ((21 : Int32)).toNatClampNeg) = (60 : Int32) → ((∃ m, l_X12_notes_12 p0  Q m p1 p2 p3 (1 : Int32) σ))))
set_option maxRecDepth 100000 in
set_option maxHeartbeats 4000000 in
theorem c_X12_notes (l : Launch) (g : wG) (A : Nat → Prop) (hA : adO g A) {p0 : Nat} (k_p0 : kd p0 = 14) {p1 : Int32} {p2 : Int32} {p3 : Int32} {σ : wS} {Q : wS → Prop} (h : w_X12_notes p0 p1 p2 p3 σ Q) : Mv l yX12_notes wvX12_notes 0 0 g A [.ref (g.2.2 176), .ref (g.2.2 p0), .int p1, .int p2, .int p3] σ Q := by
  refine mt_v (own := RX12) (lv := [(0, .ref (g.2.2 176)), (1, .ref (g.2.2 p0)), (2, .int p1), (3, .int p2), (4, .int p3)]) (by decide) rfl rfl hA (Nat.le_of_ble_eq_true rfl) rfl ?_
  intro X hl hg hAA F hret
  subst hl hg hAA
  unfold w_X12_notes at h
  refine x_aload_n F dX12_notes_0 rfl 1 rfl ?_
  refine x_bipush (21 : Int32) F dX12_notes_1 (by decide) ?_
  obtain ⟨hj, h⟩ := h
  refine x_iald F k_p0 rfl hj dX12_notes_3 ?_
  refine x_bipush (60 : Int32) F dX12_notes_4 (by decide) ?_
  refine x_icmp_ne (tgt := 50) F dX12_notes_6 (by decide) (fun c => ?_) (fun c => ?_)
  · replace h := h.1 c
    refine x_sub (lv' := [(1, .ref (ad X p0)), (2, .int p1), (3, .int p2), (4, .int p3)]) [1, 2, 3, 4] rfl ?_
    exact wb_X12_notes_50 F hret k_p0  _ _ _ _ h
  · replace h := h.2 c
    refine x_iconst (1 : Int32) F dX12_notes_9 (by decide) ?_
    refine x_istore (lv' := [(5, .int (1 : Int32)), (0, .ref (ad X 176)), (1, .ref (ad X p0)), (2, .int p1), (3, .int p2), (4, .int p3)]) F dX12_notes_10 (by decide) rfl ?_
    refine x_sub (lv' := [(1, .ref (ad X p0)), (2, .int p1), (3, .int p2), (4, .int p3), (5, .int (1 : Int32))]) [2, 3, 4, 5, 0] rfl ?_
    obtain ⟨n2, h⟩ := h
    exact wl_X12_notes_12 F hret k_p0  n2 _ _ _ _ _ h
/-! X12_does -/
abbrev wvX12_does : List Cond := Cond.code yX12_does cX12_does 7 (some .int) :: wsL_law
theorem cd_X12_does : okN yX12_does RX12 5 := by unfold okN; decide +kernel
def b_X12_does_78 (p0 : Nat)  (Q : Int32 → wS → Prop) (x6 : Int32) (z0 : Int32) (z1 : Int32) (z2 : Nat) (σ : wS) : Prop := w_X12_brokenBits  σ (fun r2 s1 => w_X12_notes z2 z1 z0 r2 s1 (fun s3 => Q x6 s3))
set_option maxRecDepth 100000 in
set_option maxHeartbeats 4000000 in
theorem wb_X12_does_78 {X : XT} {Q : Int32 → wS → Prop} {p0 : Nat} (F : Fx X cX12_does 7 RX12 wvX12_does 5 125) (hret : Ri X 7 cX12_does .int Q) (k_p0 : kd p0 = 14)   (x6 : Int32) (z0 : Int32) (z1 : Int32) (z2 : Nat) (k_z2 : kd z2 = 14) (σ : wS) (h : b_X12_does_78 p0  Q x6 z0 z1 z2 σ) : Wx X 7 σ 78 [(0, .ref (ad X 176)), (6, .int x6)] [.int z0, .int z1, .ref (ad X z2), .ref (ad X 176)] := by
  unfold b_X12_does_78 at h
  refine x_aload_n F dX12_does_78 rfl 0 rfl ?_
  refine x_callV_i F (c_X12_brokenBits (xl X) (xg X) (xA X) F.2.2.1  h) (bw_V bw_37_3 bw_37_4 bw_37_5 bw_1_5 bw_37_6) rfl cd_X12_brokenBits (Nat.le_of_ble_eq_true rfl) (Nat.le_of_ble_eq_true rfl) (kd_w (by decide) kz_176) rfl (cl_12 kz_176) rfl rfl (Nat.le_of_ble_eq_true rfl) dX12_does_79 (fun r2 s1 h => ?_)
  refine x_callV_v F (c_X12_notes (xl X) (xg X) (xA X) F.2.2.1 k_z2 h) (bw_V bw_37_7 bw_37_8 bw_37_9 bw_1_5 bw_37_10) rfl cd_X12_notes (Nat.le_of_ble_eq_true rfl) (Nat.le_of_ble_eq_true rfl) (kd_w (by decide) kz_176) rfl (cl_12 kz_176) rfl rfl (Nat.le_of_ble_eq_true rfl) dX12_does_82 (fun s3 h => ?_)
  refine x_iload F dX12_does_85 1 rfl ?_
  exact hret _ _ _ _ h rfl dX12_does_87
def b_X12_does_57 (p0 : Nat)  (Q : Int32 → wS → Prop) (x2 : Int32) (x3 : Int32) (x6 : Int32) (z0 : Int32) (σ : wS) : Prop := (z0 = 0 ∨ z0 = 1) ∧ (∀ s1 : wS, s1 = upI σ 176 35 z0 → ((¬ x6 = (-1 : Int32) → (Q x6 s1)) ∧ (x6 = (-1 : Int32) → ((¬ x2 = 0 → (b_X12_does_78 p0  Q x6 x3 x2 p0 s1)) ∧ (x2 = 0 → (b_X12_does_78 p0  Q x6 (-1 : Int32) x2 p0 s1))))))
set_option maxRecDepth 100000 in
set_option maxHeartbeats 4000000 in
theorem wb_X12_does_57 {X : XT} {Q : Int32 → wS → Prop} {p0 : Nat} (F : Fx X cX12_does 7 RX12 wvX12_does 5 125) (hret : Ri X 7 cX12_does .int Q) (k_p0 : kd p0 = 14)   (x2 : Int32) (x3 : Int32) (x6 : Int32) (z0 : Int32) (σ : wS) (h : b_X12_does_57 p0  Q x2 x3 x6 z0 σ) : Wx X 7 σ 57 [(0, .ref (ad X 176)), (1, .ref (ad X p0)), (2, .int x2), (3, .int x3), (6, .int x6)] [.int z0, .ref (ad X 176)] := by
  unfold b_X12_does_57 at h
  obtain ⟨hz, h⟩ := h
  refine q_12_35 F kz_176 hz in_12 (mc bw_36_6) dX12_does_57 ?_
  refine x_nmS (fun s1 es1 => ?_)
  replace h := h s1 es1
  refine x_iload F dX12_does_60 4 rfl ?_
  refine x_iconst (-1 : Int32) F dX12_does_62 (by decide) ?_
  refine x_icmp_ne (tgt := 85) F dX12_does_63 (by decide) (fun c => ?_) (fun c => ?_)
  · replace h := h.1 c
    refine x_iload F dX12_does_85 4 rfl ?_
    exact hret _ _ _ _ h rfl dX12_does_87
  · replace h := h.2 c
    refine x_aload_n F dX12_does_66 rfl 0 rfl ?_
    refine x_aload_n F dX12_does_67 rfl 1 rfl ?_
    refine x_iload_n F dX12_does_68 rfl 2 rfl ?_
    refine x_iload_n F dX12_does_69 rfl 2 rfl ?_
    refine x_if_ne (tgt := 77) F dX12_does_70 (by decide) (fun c => ?_) (fun c => ?_)
    · replace h := h.1 c
      refine x_iload_n F dX12_does_77 rfl 3 rfl ?_
      refine x_sub (lv' := [(0, .ref (ad X 176)), (6, .int x6)]) [0, 4] rfl ?_
      exact wb_X12_does_78 F hret k_p0  _ _ _ _ k_p0 _ h
    · replace h := h.2 c
      refine x_iconst (-1 : Int32) F dX12_does_73 (by decide) ?_
      refine x_goto (tgt := 78) F dX12_does_74 (by decide) ?_
      refine x_sub (lv' := [(0, .ref (ad X 176)), (6, .int x6)]) [0, 4] rfl ?_
      exact wb_X12_does_78 F hret k_p0  _ _ _ _ k_p0 _ h
def w_X12_does (p0 : Nat) (p1 : Int32) (p2 : Int32) (p3 : Int32) (p4 : Int32) (σ : wS) (Q : Int32 → wS → Prop) : Prop := ∀ s1 : wS, s1 = upI σ 176 35 (0 : Int32) → (w_X12_stops p0 p1 p2 p3 p4 s1 (fun r3 s2 => (r3 = (-1 : Int32) → (w_X12_changes p0 p1 p2 p3 p4 s2 (fun s4 => w_X12_settles p0 s4 (fun r7 s6 => (r7 = (-1 : Int32) → (b_X12_does_57 p0  Q p1 p2 r7 (0 : Int32) s6)) ∧ (¬ r7 = (-1 : Int32) → (b_X12_does_57 p0  Q p1 p2 r7 (1 : Int32) s6)))))) ∧ (¬ r3 = (-1 : Int32) → (Q r3 s2))))
set_option maxRecDepth 100000 in
set_option maxHeartbeats 4000000 in
theorem c_X12_does (l : Launch) (g : wG) (A : Nat → Prop) (hA : adO g A) {p0 : Nat} (k_p0 : kd p0 = 14) {p1 : Int32} {p2 : Int32} {p3 : Int32} {p4 : Int32} {σ : wS} {Q : Int32 → wS → Prop} (h : w_X12_does p0 p1 p2 p3 p4 σ Q) : Mi l yX12_does wvX12_does 5 125 g A [.ref (g.2.2 176), .ref (g.2.2 p0), .int p1, .int p2, .int p3, .int p4] σ Q := by
  refine mt_i (own := RX12) (lv := [(0, .ref (g.2.2 176)), (1, .ref (g.2.2 p0)), (2, .int p1), (3, .int p2), (4, .int p3), (5, .int p4)]) (by decide) rfl rfl hA (Nat.le_of_ble_eq_true rfl) rfl ?_
  intro X hl hg hAA F hret
  subst hl hg hAA
  unfold w_X12_does at h
  refine x_aload_n F dX12_does_0 rfl 0 rfl ?_
  refine x_iconst (0 : Int32) F dX12_does_1 (by decide) ?_
  refine q_12_35 F kz_176 (by decide) in_12 (mc bw_36_6) dX12_does_2 ?_
  refine x_nmS (fun s1 es1 => ?_)
  replace h := h s1 es1
  refine x_aload_n F dX12_does_5 rfl 0 rfl ?_
  refine x_aload_n F dX12_does_6 rfl 1 rfl ?_
  refine x_iload_n F dX12_does_7 rfl 2 rfl ?_
  refine x_iload_n F dX12_does_8 rfl 3 rfl ?_
  refine x_iload F dX12_does_9 4 rfl ?_
  refine x_iload F dX12_does_11 5 rfl ?_
  refine x_callV_i F (c_X12_stops (xl X) (xg X) (xA X) F.2.2.1 k_p0 h) (bw_V bw_36_7 bw_36_8 bw_36_9 bw_1_5 bw_36_10) rfl cd_X12_stops (Nat.le_of_ble_eq_true rfl) (Nat.le_of_ble_eq_true rfl) (kd_w (by decide) kz_176) rfl (cl_12 kz_176) rfl rfl (Nat.le_of_ble_eq_true rfl) dX12_does_13 (fun r3 s2 h => ?_)
  refine x_istore (lv' := [(6, .int r3), (0, .ref (ad X 176)), (1, .ref (ad X p0)), (2, .int p1), (3, .int p2), (4, .int p3), (5, .int p4)]) F dX12_does_16 (by decide) rfl ?_
  refine x_iload F dX12_does_18 0 rfl ?_
  refine x_iconst (-1 : Int32) F dX12_does_20 (by decide) ?_
  refine x_icmp_eq (tgt := 27) F dX12_does_21 (by decide) (fun c => ?_) (fun c => ?_)
  · replace h := h.1 c
    refine x_aload_n F dX12_does_27 rfl 1 rfl ?_
    refine x_aload_n F dX12_does_28 rfl 2 rfl ?_
    refine x_iload_n F dX12_does_29 rfl 3 rfl ?_
    refine x_iload_n F dX12_does_30 rfl 4 rfl ?_
    refine x_iload F dX12_does_31 5 rfl ?_
    refine x_iload F dX12_does_33 6 rfl ?_
    refine x_callV_v F (c_X12_changes (xl X) (xg X) (xA X) F.2.2.1 k_p0 h) (bw_V bw_36_23 bw_37_0 bw_37_1 bw_1_5 bw_37_2) rfl cd_X12_changes (Nat.le_of_ble_eq_true rfl) (Nat.le_of_ble_eq_true rfl) (kd_w (by decide) kz_176) rfl (cl_12 kz_176) rfl rfl (Nat.le_of_ble_eq_true rfl) dX12_does_35 (fun s4 h => ?_)
    refine x_aload_n F dX12_does_38 rfl 1 rfl ?_
    refine x_aload_n F dX12_does_39 rfl 2 rfl ?_
    refine x_callV_i F (c_X12_settles (xl X) (xg X) (xA X) F.2.2.1 k_p0 h) (bw_V bw_23_5 bw_23_6 bw_23_7 bw_1_5 bw_23_8) rfl cd_X12_settles (Nat.le_of_ble_eq_true rfl) (Nat.le_of_ble_eq_true rfl) (kd_w (by decide) kz_176) rfl (cl_12 kz_176) rfl rfl (Nat.le_of_ble_eq_true rfl) dX12_does_40 (fun r7 s6 h => ?_)
    refine x_istore (lv' := [(6, .int r7), (0, .ref (ad X 176)), (1, .ref (ad X p0)), (2, .int p1), (3, .int p2), (4, .int p3), (5, .int p4)]) F dX12_does_43 (by decide) rfl ?_
    refine x_aload_n F dX12_does_45 rfl 1 rfl ?_
    refine x_iload F dX12_does_46 0 rfl ?_
    refine x_iconst (-1 : Int32) F dX12_does_48 (by decide) ?_
    refine x_icmp_eq (tgt := 56) F dX12_does_49 (by decide) (fun c => ?_) (fun c => ?_)
    · replace h := h.1 c
      refine x_iconst (0 : Int32) F dX12_does_56 (by decide) ?_
      refine x_sub (lv' := [(0, .ref (ad X 176)), (1, .ref (ad X p0)), (2, .int p1), (3, .int p2), (6, .int r7)]) [1, 2, 3, 4, 0] rfl ?_
      exact wb_X12_does_57 F hret k_p0  _ _ _ _ _ h
    · replace h := h.2 c
      refine x_iconst (1 : Int32) F dX12_does_52 (by decide) ?_
      refine x_goto (tgt := 57) F dX12_does_53 (by decide) ?_
      refine x_sub (lv' := [(0, .ref (ad X 176)), (1, .ref (ad X p0)), (2, .int p1), (3, .int p2), (6, .int r7)]) [1, 2, 3, 4, 0] rfl ?_
      exact wb_X12_does_57 F hret k_p0  _ _ _ _ _ h
  · replace h := h.2 c
    refine x_iload F dX12_does_24 0 rfl ?_
    exact hret _ _ _ _ h rfl dX12_does_26
