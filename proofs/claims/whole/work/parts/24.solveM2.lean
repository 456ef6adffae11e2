def dM (M : Nat → Nat → Int) : Int := M 0 0 * (M 1 1 * M 2 2 - M 1 2 * M 2 1) - M 0 1 * (M 1 0 * M 2 2 - M 1 2 * M 2 0) + M 0 2 * (M 1 0 * M 2 1 - M 1 1 * M 2 0)
def dC (M : Nat → Nat → Int) (f : Nat → Int) (a : Nat) : Int := if a = 0 then f 0 * (M 1 1 * M 2 2 - M 1 2 * M 2 1) - M 0 1 * (f 1 * M 2 2 - M 1 2 * f 2) + M 0 2 * (f 1 * M 2 1 - M 1 1 * f 2) else if a = 1 then M 0 0 * (f 1 * M 2 2 - M 1 2 * f 2) - f 0 * (M 1 0 * M 2 2 - M 1 2 * M 2 0) + M 0 2 * (M 1 0 * f 2 - f 1 * M 2 0) else M 0 0 * (M 1 1 * f 2 - f 1 * M 2 1) - M 0 1 * (M 1 0 * f 2 - f 1 * M 2 0) + f 0 * (M 1 0 * M 2 1 - M 1 1 * M 2 0)
theorem m_det {M : Nat → Nat → Int} {f : Nat → Int} {σ : wS} {Q : Int64 → wS → Prop} (h : MF 192 193 σ M f) (hq : Q (iJ (dM M)) σ) : w_X12_determinant σ Q := by
  obtain ⟨⟨m0, m1, m2, m3, m4, m5, m6, m7, m8⟩, -⟩ := h
  unfold dM at hq
  simp [w_X12_determinant, w_X12_minor, vi_9, c_0, c_1, c_2, c_3, c_4, c_5, c_6, c_7, c_8, m0, m1, m2, m3, m4, m5, m6, m7, m8, iJ_mul, iJ_sub, iJ_add, hq]
theorem m_detBy {M : Nat → Nat → Int} {f : Nat → Int} {σ : wS} {Q : Int64 → wS → Prop} {a : Nat} (ha : a < 3) (h : MF 192 193 σ M f) (hq : ∀ τ, Fr [192] σ τ → τ.1 = σ.1 → MF 192 193 τ M f → Q (iJ (dC M f a)) τ) : w_X12_determinantBy (nI a) σ Q := by
  obtain ⟨⟨m0, m1, m2, m3, m4, m5, m6, m7, m8⟩, u0, u1, u2⟩ := id h
  have n0 : nI 0 = 0 := rfl
  have n1 : nI 1 = 1 := rfl
  have n2 : nI 2 = 2 := rfl
  have F6 : ∀ {k1 k2 k3 k4 k5 k6 : Nat} {x1 x2 x3 x4 x5 x6 : Int64}, Fr [192] σ (upJ (upJ (upJ (upJ (upJ (upJ σ 192 k1 x1) 192 k2 x2) 192 k3 x3) 192 k4 x4) 192 k5 x5) 192 k6 x6) := (((((Fr.rf.upJ (by decide)).upJ (by decide)).upJ (by decide)).upJ (by decide)).upJ (by decide)).upJ (by decide)
  rcases (show a = 0 ∨ a = 1 ∨ a = 2 by omega) with rfl | rfl | rfl
  · rw [n0]
    refine ⟨vi_9.1, fun y1 e1 => ⟨vi_9.2.2.2.1, fun y2 e2 => ⟨vi_9.2.2.2.2.2.2.1, fun y3 e3 => ⟨4, ?_⟩⟩⟩⟩
    subst e1 e2 e3
    simp [l_X12_determinantBy_31, w_X12_determinant, w_X12_minor, vi_9, vi_3, c_0, c_1, c_2, c_3, c_4, c_5, c_6, c_7, c_8, upJ_2, m0, m1, m2, m3, m4, m5, m6, m7, m8, u0, u1, u2, iJ_mul, iJ_sub, iJ_add]
    exact hq _ F6 rfl (by unfold MF; simp [upJ_2, m0, m1, m2, m3, m4, m5, m6, m7, m8, u0, u1, u2])
  · rw [n1]
    refine ⟨vi_9.2.1, fun y1 e1 => ⟨vi_9.2.2.2.2.1, fun y2 e2 => ⟨vi_9.2.2.2.2.2.2.2.1, fun y3 e3 => ⟨4, ?_⟩⟩⟩⟩
    subst e1 e2 e3
    simp [l_X12_determinantBy_31, w_X12_determinant, w_X12_minor, vi_9, vi_3, c_0, c_1, c_2, c_3, c_4, c_5, c_6, c_7, c_8, upJ_2, m0, m1, m2, m3, m4, m5, m6, m7, m8, u0, u1, u2, iJ_mul, iJ_sub, iJ_add]
    exact hq _ F6 rfl (by unfold MF; simp [upJ_2, m0, m1, m2, m3, m4, m5, m6, m7, m8, u0, u1, u2])
  · rw [n2]
    refine ⟨vi_9.2.2.1, fun y1 e1 => ⟨vi_9.2.2.2.2.2.1, fun y2 e2 => ⟨vi_9.2.2.2.2.2.2.2.2, fun y3 e3 => ⟨4, ?_⟩⟩⟩⟩
    subst e1 e2 e3
    simp [l_X12_determinantBy_31, w_X12_determinant, w_X12_minor, vi_9, vi_3, c_0, c_1, c_2, c_3, c_4, c_5, c_6, c_7, c_8, upJ_2, m0, m1, m2, m3, m4, m5, m6, m7, m8, u0, u1, u2, iJ_mul, iJ_sub, iJ_add]
    exact hq _ F6 rfl (by unfold MF; simp [upJ_2, m0, m1, m2, m3, m4, m5, m6, m7, m8, u0, u1, u2])
theorem dM_Lw (μ : MU) (set : Nat) : dM (mat μ set μ.1) = Lw μ set := by
  unfold dM Lw cof
  simp only [Nat.reduceAdd, Nat.reduceMod]
  grind
theorem dC_Sh (μ : MU) (laid wind : Nat → Int) (set : Nat) {a : Nat} (ha : a < 3) : dC (mat μ set μ.1) (frc μ laid wind set μ.1) a = Sh μ laid wind set a := by
  unfold dC Sh cof
  rcases (show a = 0 ∨ a = 1 ∨ a = 2 by omega) with rfl | rfl | rfl <;> simp only [Nat.reduceAdd, Nat.reduceMod] <;> rw [mat_sym μ set μ.1 1 0, mat_sym μ set μ.1 2 0, mat_sym μ set μ.1 2 1] <;> simp <;> grind
theorem mat_nf {μ : MU} (set m : Nat) {a b : Nat} (hf : mu_f μ a = false) : mat μ set m a b = if a = b then 1 else 0 := by
  unfold mat dg mu_wm
  have : sm m (fun r => if set.testBit r = true then mu_k μ r * (if mu_f μ a = true then mu_w μ r a else 0) * (if mu_f μ b = true then mu_w μ r b else 0) else 0) = 0 := by
    induction m with
    | zero => rfl
    | succ m ih => rw [sm, ih]; simp [hf]
  rw [this, hf]
  simp
theorem frc_nf {μ : MU} (laid wind : Nat → Int) (set m : Nat) {a : Nat} (hf : mu_f μ a = false) : frc μ laid wind set m a = 0 := by
  unfold frc mu_wm
  have : sm m (fun r => if set.testBit r = true then laid r * (if mu_f μ a = true then mu_w μ r a else 0) else 0) = 0 := by
    induction m with
    | zero => rfl
    | succ m ih => rw [sm, ih]; simp [hf]
  rw [this, hf]
  simp
theorem Sh_nf {μ : MU} (laid wind : Nat → Int) (set : Nat) {a : Nat} (ha : a < 3) (hf : mu_f μ a = false) : Sh μ laid wind set a = 0 := by
  have m := fun b => mat_nf (b := b) set μ.1 hf
  have m' : ∀ b, mat μ set μ.1 b a = if a = b then 1 else 0 := fun b => by rw [mat_sym]; exact m b
  have f := frc_nf laid wind set μ.1 hf
  unfold Sh cof
  rcases (show a = 0 ∨ a = 1 ∨ a = 2 by omega) with rfl | rfl | rfl <;> simp [m', f]
theorem m_has {set r : Nat} {σ : wS} {Q : Int32 → wS → Prop} (hs : set < 256) (hr : r < 8) : w_X12_has (nI set) (nI r) σ Q = Q (if set.testBit r then 1 else 0) σ := by
  unfold w_X12_has
  rw [bt8 hs hr]
  cases set.testBit r <;> simp
/-- the model's solves: its size and parts -/
theorem m_solves {μ : MU} (hμ : mu_ok μ) {p set : Nat} {laid wind : Nat → Int} {σ : wS} {Q : wS → Prop} (hs : set < 256) (hlp : ln p = 202) (hM : MoM μ σ) (hL : LwM μ.1 laid wind p σ) (hb : bdd μ.1 laid wind)
    (hq : ∀ τ : wS, Fr [176, 192, 193, 194] σ τ → τ.1 = σ.1 → (∀ k, k ≠ 29 → τ.2 176 k = σ.2 176 k) → τ.2 176 29 = iJ (Lw μ set) → (∀ a, a < 3 → τ.2 194 a = iJ (Sh μ laid wind set a)) → Q τ) : w_X12_solves p (nI set) σ Q := by
  have h8 := hμ.1
  refine m_2 (set := set) hμ hlp hM hL hb (fun τ F1 g1 M1 => ?_)
  have key : ∀ (n m : Nat) (τ : wS), m ≤ μ.1 → m + n = μ.1 + 1 → Fr [192, 193] σ τ → τ.1 = σ.1 → MF 192 193 τ (mat μ set m) (frc μ laid wind set m) → l_X12_solves_85 p Q n (nI set) (nI m) τ := by
    intro n
    induction n with
    | zero =>
      intro m τ hm0 hm hF h1 hMF
      omega
    | succ n ih =>
      intro m τ hm0 hm hF h1 hMF
      have e6 : τ.1 176 14 = nI μ.1 := by rw [h1]; exact hM.1
      simp only [l_X12_solves_85, e6]
      refine ⟨fun hc => ?_, fun hc => ?_⟩
      · have hmn : m = μ.1 := by
          have := (nI_leI (by omega) (by omega)).mp hc
          omega
        subst hmn
        refine m_det hMF (fun s3 e3 => ?_)
        have h29 : s3.2 176 29 = iJ (Lw μ set) := by rw [e3, upJ_2, dM_Lw]; simp
        have hk : ∀ k, k ≠ 29 → s3.2 176 k = σ.2 176 k := fun k hk => by
          rw [e3, upJ_2]
          simp [hk]
          rw [(hF 176 (by decide)).2]
        have F3 : Fr [176, 192, 193, 194] σ s3 := by rw [e3]; exact (hF.wk (by decide)).upJ (by decide)
        have g3 : s3.1 = σ.1 := by rw [e3, upJ_1]; exact h1
        have M3 : MF 192 193 s3 (mat μ set μ.1) (frc μ laid wind set μ.1) := by rw [e3]; exact hMF.up (by decide) (by decide)
        -- the three parts
        have step : ∀ (a n : Nat) (τ : wS), a < 3 → τ.1 = σ.1 → Fr [192, 194] s3 τ → MF 192 193 τ (mat μ set μ.1) (frc μ laid wind set μ.1) → (∀ ρ : wS, ρ.1 = σ.1 → Fr [192, 194] s3 ρ → MF 192 193 ρ (mat μ set μ.1) (frc μ laid wind set μ.1) → (∀ b, b ≠ a → ρ.2 194 b = τ.2 194 b) → ρ.2 194 a = iJ (Sh μ laid wind set a) → l_X12_solves_251 p Q n (nI (a + 1)) ρ) → l_X12_solves_251 p Q (n + 1) (nI a) τ := by
          intro a n τ ha h1 hF hMF hk
          simp only [l_X12_solves_251]
          refine ⟨fun h => absurd h (nI_ge ha (by decide)), fun _ => ?_⟩
          rw [isF hμ hM h1 ha]
          have va : vp_in (nI a) 3 := vp_in_nI ha (by decide)
          have ca : (nI a).toNatClampNeg = a := nI_clamp (by omega)
          cases g : mu_f μ a
          · refine ⟨fun _ => ⟨va, fun s1 e1 y e2 => ?_⟩, fun q => absurd rfl q⟩
            rw [e2, nI_1]
            rw [ca] at e1
            refine hk s1 (by rw [e1]; exact h1) (by rw [e1]; exact hF.upJ (by decide)) (by rw [e1]; exact hMF.up (by decide) (by decide)) (fun b hb => by rw [e1, upJ_2]; simp [hb]) ?_
            rw [e1, upJ_2, Sh_nf laid wind set ha g, iJ_0]
            simp
          · refine ⟨fun q => absurd q (by decide), fun _ => ?_⟩
            refine m_detBy ha hMF (fun ρ HF H1 HM => ⟨va, fun s1 e1 y e2 => ?_⟩)
            rw [e2, nI_1]
            rw [ca] at e1
            refine hk s1 (by rw [e1]; exact H1.trans h1) (by rw [e1]; exact (hF.tr (HF.wk (by decide))).upJ (by decide)) (by rw [e1]; exact HM.up (by decide) (by decide)) (fun b hb => by rw [e1, upJ_2]; simp [hb]; rw [(HF 194 (by decide)).2]) ?_
            rw [e1, upJ_2, dC_Sh μ laid wind set ha]
            simp
        refine ⟨4, ?_⟩
        refine step 0 3 s3 (by decide) g3 Fr.rf M3 (fun t0 a0 a1 a2 a3 a4 => ?_)
        refine step 1 2 t0 (by decide) a0 a1 a2 (fun t1 b0 b1 b2 b3 b4 => ?_)
        refine step 2 1 t1 (by decide) b0 b1 b2 (fun t2 d0 d1 d2 d3 d4 => ?_)
        simp only [l_X12_solves_251]
        refine ⟨fun _ => ?_, fun h => absurd (by decide) h⟩
        refine hq t2 (F3.tr (d1.wk (by decide))) d0 (fun k hk9 => by rw [(d1 176 (by decide)).2]; exact hk k hk9) (by rw [(d1 176 (by decide)).2]; exact h29) ?_
        intro a ha
        rcases (show a = 0 ∨ a = 1 ∨ a = 2 by omega) with rfl | rfl | rfl
        · rw [d3 0 (by decide), b3 0 (by decide)]; exact a4
        · rw [d3 1 (by decide)]; exact b4
        · exact d4
      · have hmn : m < μ.1 := by
          rcases Nat.lt_or_ge m μ.1 with q | q
          · exact q
          · exact absurd (nI_le q (by omega)) hc
        rw [m_has hs (show m < 8 by omega)]
        cases hb1 : set.testBit m
        · refine ⟨fun q => absurd rfl q, fun _ y e => ?_⟩
          have hb2 : ¬ set.testBit m = true := by rw [hb1]; decide
          rw [e, nI_1]
          refine ih (m + 1) τ (by omega) (by omega) hF h1 ?_
          unfold MF at hMF ⊢
          simp only [mat_n _ _ _ _ _ hb2, frc_n _ _ _ _ _ _ hb2]
          exact hMF
        · refine ⟨fun _ => ?_, fun q => absurd q (by decide)⟩
          refine m_107 hμ hlp (by unfold MoM; rw [h1]; exact hM) (by unfold LwM; rw [h1]; exact hL) hb hmn hb1 hMF (fun t HF H1 HM => ?_)
          exact ih (m + 1) t (by omega) (by omega) (hF.tr HF) (H1.trans h1) HM
  exact ⟨μ.1 + 1, key (μ.1 + 1) 0 τ (by omega) (by omega) F1 g1 M1⟩
/-- a pull by the model's shift -/
theorem m_pullOf {μ : MU} (hμ : mu_ok μ) {p r : Nat} {laid wind : Nat → Int} {S : Nat → Int} {lw : Int} {σ : wS} {Q : Int64 → wS → Prop} (hlp : ln p = 202) (hM : MoM μ σ) (hL : LwM μ.1 laid wind p σ) (hb : bdd μ.1 laid wind) (hr : r < μ.1) (h29 : σ.2 176 29 = iJ lw) (hS : ∀ a, a < 3 → σ.2 194 a = iJ (S a)) (hq : Q (iJ (laid r * lw - mu_k μ r * (mu_w μ r 0 * S 0 + mu_w μ r 1 * S 1 + mu_w μ r 2 * S 2))) σ) : w_X12_pullOf p (nI r) σ Q := by
  have hr8 : r < 8 := Nat.lt_of_lt_of_le hr hμ.1
  have ix := ix3 hr8
  have v0 : vp_in (nI r) 202 := by
    have h : ∀ r, r < 8 → vp_in (nI r) 202 := by unfold vp_in; decide +kernel
    exact h r hr8
  have s0 := hS 0 (by decide)
  have s1 := hS 1 (by decide)
  have s2 := hS 2 (by decide)
  have w0 := hM.2.2.2 r hr 0 (by decide)
  have w1 := hM.2.2.2 r hr 1 (by decide)
  have w2 := hM.2.2.2 r hr 2 (by decide)
  have k0 := hM.2.1 r hr 0 (by decide)
  have l0 := hL.1 r hr
  have a0 : (iI (mu_w μ r 0)).toInt64 = iJ (mu_w μ r 0) := iI_J (by have := (wm_ab hμ hr 0 (by decide)).1; unfold sc at this; simp at this; omega)
  have a1 : (iI (mu_w μ r 1)).toInt64 = iJ (mu_w μ r 1) := iI_J (by have := (wm_ab hμ hr 1 (by decide)).1; unfold sc at this; simp at this; omega)
  have a2 : (iI (mu_w μ r 2)).toInt64 = iJ (mu_w μ r 2) := iI_J (by have := (wm_ab hμ hr 2 (by decide)).1; unfold sc at this; simp at this; omega)
  have ak : (iI (μ.2.1 r 0)).toInt64 = iJ (mu_k μ r) := iI_J (by have := hμ.2.1 r hr; omega)
  have al : (iI (laid r)).toInt64 = iJ (laid r) := iI_J (by have := hb.1 r hr; omega)
  simp only [Nat.add_zero] at w0 k0
  refine ⟨4, ?_⟩
  simp [l_X12_pullOf_5, ix, vi_3, hlp, v0, stf hr8, h29, s0, s1, s2, w0, w1, w2, k0, l0, a0, a1, a2, ak, al, c_0, c_1, c_2, iJ_add, iJ_mul, iJ_sub]
  exact hq
