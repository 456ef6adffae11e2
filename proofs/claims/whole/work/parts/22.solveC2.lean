theorem s_putPulls {μ : MU} {p h : Nat} {laid : Nat → Int} {S : Nat → Int} {lw : Int} {wind : Nat → Int} {σ : wS} {Q : wS → Prop} (hμ : mu_ok μ) (hM : MoC μ p σ) (hL : LwC μ.1 laid wind h σ) (hb : bdd μ.1 laid wind) (h41 : σ.2 41 4 = iJ lw) (s0 : σ.2 44 0 = iJ (S 0)) (s1 : σ.2 44 1 = iJ (S 1)) (s2 : σ.2 44 2 = iJ (S 2))
    (hq : ∀ τ : wS, Fr [45] σ τ → τ.1 = σ.1 → (∀ r, r < μ.1 → τ.2 45 r = iJ (laid r * lw - mu_k μ r * (mu_w μ r 0 * S 0 + mu_w μ r 1 * S 1 + mu_w μ r 2 * S 2))) → Q τ) : w_X0_putPulls p h σ Q := by
  have key : ∀ (n m : Nat) (τ : wS), m ≤ μ.1 → m + n = μ.1 + 1 → Fr [45] σ τ → τ.1 = σ.1 → (∀ r, r < m → τ.2 45 r = iJ (laid r * lw - mu_k μ r * (mu_w μ r 0 * S 0 + mu_w μ r 1 * S 1 + mu_w μ r 2 * S 2))) → l_X0_putPulls_2 p h Q n (nI m) τ := by
    have h8 := hμ.1
    intro n
    induction n with
    | zero =>
      intro m τ hm0 hm hF h1 hP
      omega
    | succ n ih =>
      intro m τ hm0 hm hF h1 hP
      have e6 : τ.1 p 6 = nI μ.1 := by rw [h1]; exact hM.1
      simp only [l_X0_putPulls_2, e6]
      refine ⟨fun hc => hq τ hF h1 (fun r hr => hP r ?_), fun hc => ?_⟩
      · have := (nI_leI (by omega) (by omega)).mp hc
        omega
      · have hmn : m < μ.1 := by
          rcases Nat.lt_or_ge m μ.1 with q | q
          · exact q
          · exact absurd (nI_le q (by omega)) hc
        have ix := ix3 (show m < 8 by omega)
        have F := hF 41 (by decide)
        have F4 := hF 44 (by decide)
        have w0 := hM.2.2.2.1 m hmn 0 (by decide)
        have w1 := hM.2.2.2.1 m hmn 1 (by decide)
        have w2 := hM.2.2.2.1 m hmn 2 (by decide)
        have k0 := (hM.2.2.2.2.1 m hmn).1
        have l0 := hL.1 m hmn
        have a0 : (iI (mu_w μ m 0)).toInt64 = iJ (mu_w μ m 0) := iI_J (by have := (wm_ab hμ hmn 0 (by decide)).1; unfold sc at this; simp at this; omega)
        have a1 : (iI (mu_w μ m 1)).toInt64 = iJ (mu_w μ m 1) := iI_J (by have := (wm_ab hμ hmn 1 (by decide)).1; unfold sc at this; simp at this; omega)
        have a2 : (iI (mu_w μ m 2)).toInt64 = iJ (mu_w μ m 2) := iI_J (by have := (wm_ab hμ hmn 2 (by decide)).1; unfold sc at this; simp at this; omega)
        have ak : (iI (mu_k μ m)).toInt64 = iJ (mu_k μ m) := iI_J (by have := hμ.2.1 m hmn; unfold mu_k; omega)
        have al : (iI (laid m)).toInt64 = iJ (laid m) := iI_J (by have := hb.1 m hmn; omega)
        simp only [Nat.add_zero] at w0
        refine ⟨4, ?_⟩
        simp [l_X0_putPulls_16, ix, vi_3, h1, F.2, F4.2, h41, s0, s1, s2, w0, w1, w2, k0, l0, a0, a1, a2, ak, al, c_0, c_1, c_2, iJ_add, iJ_mul, iJ_sub]
        rw [nI_1]
        refine ih (m + 1) _ (by omega) (by omega) (hF.upJ (by decide)) h1 ?_
        intro r hr
        rw [upJ_2]
        by_cases hrm : r = m
        · subst hrm
          simp
        · simp [hrm]
          exact hP r (by omega)
  exact ⟨μ.1 + 1, key (μ.1 + 1) 0 σ (by omega) (by omega) Fr.rf rfl (fun r hr => absurd hr (by omega))⟩
theorem s_100 {μ : MU} {p h set : Nat} {laid wind : Nat → Int} {σ : wS} {Q : Int32 → wS → Prop} (hμ : mu_ok μ) (hM : MoC μ p σ) (hL : LwC μ.1 laid wind h σ) (hb : bdd μ.1 laid wind) (h41 : σ.2 41 4 = iJ (Lw μ set)) (hF0 : MF 42 43 σ (mat μ set μ.1) (frc μ laid wind set μ.1))
    (hq : ∀ τ : wS, Fr [44, 45] σ τ → τ.1 = σ.1 → (∀ a, a < 3 → τ.2 44 a = iJ (Sh μ laid wind set a)) → (∀ r, r < μ.1 → τ.2 45 r = iJ (Pl μ laid wind set r)) → Q 1 τ) : ∃ m, l_X0_solve_100 p h Q m 0 σ := by
  have mv : ∀ {τ : wS}, Fr [44] σ τ → MF 42 43 τ (mat μ set μ.1) (frc μ laid wind set μ.1) := by
    intro τ hF
    unfold MF at hF0 ⊢
    rw [(hF 42 (by decide)).2, (hF 43 (by decide)).2]
    exact hF0
  refine ⟨4, ?_⟩
  simp only [l_X0_solve_100]
  refine ⟨fun h => absurd h (by decide), fun _ => ⟨by simp [vi_3], fun s3 e3 => ?_⟩⟩
  have F3 : Fr [44] σ s3 := by rw [e3]; exact Fr.rf.upJ (by decide)
  refine e_117 (i := 0) (by decide) (mv F3) (by rw [e3]; simp [upJ_2, c_0]) (fun t0 G0 g0 k0 v0 => ?_)
  refine ⟨fun h => absurd h (by decide), fun _ => ⟨vp_in_nI (by decide) (by decide), fun s4 e4 => ?_⟩⟩
  have F4 : Fr [44] σ s4 := by rw [e4]; exact (F3.tr G0).upJ (by decide)
  refine e_117 (i := 1) (by decide) (mv F4) (by rw [e4]; simp [upJ_2, nI_clamp]) (fun t1 G1 g1 k1 v1 => ?_)
  refine ⟨fun h => absurd h (by decide), fun _ => ⟨vp_in_nI (by decide) (by decide), fun s5 e5 => ?_⟩⟩
  have F5 : Fr [44] σ s5 := by rw [e5]; exact (F4.tr G1).upJ (by decide)
  refine e_117 (i := 2) (by decide) (mv F5) (by rw [e5]; simp [upJ_2, nI_clamp]) (fun t2 G2 g2 k2 v2 => ?_)
  have h1 : t2.1 = σ.1 := by rw [g2, e5, upJ_1, g1, e4, upJ_1, g0, e3, upJ_1]
  have GG := F5.tr G2
  have z2 : t2.2 44 2 = iJ (Sh μ laid wind set 2) := v2
  have z1 : t2.2 44 1 = iJ (Sh μ laid wind set 1) := by
    rw [k2 1 (by decide), e5]
    simp [upJ_2, nI_clamp]
    exact v1
  have z0 : t2.2 44 0 = iJ (Sh μ laid wind set 0) := by
    rw [k2 0 (by decide), e5]
    simp [upJ_2, nI_clamp]
    rw [k1 0 (by decide), e4]
    simp [upJ_2, nI_clamp]
    exact v0
  refine ⟨fun _ => ?_, fun h => absurd (by decide) h⟩
  refine s_putPulls (S := Sh μ laid wind set) (lw := Lw μ set) hμ (by unfold MoC; rw [h1]; exact hM) (by unfold LwC; rw [h1]; exact hL) hb (by rw [(GG 41 (by decide)).2]; exact h41) z0 z1 z2 (fun τ HF H1 HP => ?_)
  refine hq τ ((GG.wk (by decide)).tr (HF.wk (by decide))) (H1.trans h1) ?_ (fun r hr => HP r hr)
  intro a ha
  rw [(HF 44 (by decide)).2]
  rcases (show a = 0 ∨ a = 1 ∨ a = 2 by omega) with rfl | rfl | rfl
  · exact z0
  · exact z1
  · exact z2
theorem cmp_gt (x y : Int64) : 0 < lg_cmp x y ↔ y < x := by
  have h := cmp_le x y
  rw [← Int32.not_le, h, Int64.not_le]
/-- Balance.solve: 1 and all of it, if the determinant is above 0; else 0 -/
theorem s_solve {μ : MU} {p h set : Nat} {laid wind : Nat → Int} {σ : wS} {Q : Int32 → wS → Prop} (hμ : mu_ok μ) (hs : set < 256) (hM : MoC μ p σ) (hL : LwC μ.1 laid wind h σ) (hb : bdd μ.1 laid wind)
    (hq : ∀ τ : wS, Fr [41, 42, 43, 44, 45] σ τ → τ.1 = σ.1 → τ.2 41 4 = iJ (Lw μ set) → (0 < Lw μ set → (∀ a, a < 3 → τ.2 44 a = iJ (Sh μ laid wind set a)) ∧ ∀ r, r < μ.1 → τ.2 45 r = iJ (Pl μ laid wind set r)) → Q (if 0 < Lw μ set then 1 else 0) τ) : w_X0_solve p h (nI set) σ Q := by
  have h8 := hμ.1
  have hLb := Lw_ab hμ set
  have key : ∀ (n m : Nat) (τ : wS), m ≤ μ.1 → m + n = μ.1 + 1 → Fr [42, 43] σ τ → τ.1 = σ.1 → MF 42 43 τ (mat μ set m) (frc μ laid wind set m) → l_X0_solve_9 p h Q n (nI set) (nI m) τ := by
    intro n
    induction n with
    | zero =>
      intro m τ hm0 hm hF h1 hMF
      omega
    | succ n ih =>
      intro m τ hm0 hm hF h1 hMF
      have e6 : τ.1 p 6 = nI μ.1 := by rw [h1]; exact hM.1
      simp only [l_X0_solve_9, e6]
      refine ⟨fun hc => ?_, fun hc => ?_⟩
      · have hmn : m = μ.1 := by
          have := (nI_leI (by omega) (by omega)).mp hc
          omega
        subst hmn
        refine s_cof 0 0 (by decide) (by decide) hMF (s_cof 0 1 (by decide) (by decide) hMF (s_cof 0 2 (by decide) (by decide) hMF ?_))
        intro s7 e7
        obtain ⟨⟨m0, m1, m2, -⟩, -⟩ := id hMF
        have h41 : s7.2 41 4 = iJ (Lw μ set) := by
          rw [e7]
          simp [upJ_2, c_0, c_1, c_2, m0, m1, m2, iJ_mul, iJ_add, Lw]
        have F7 : Fr [41, 42, 43] σ s7 := by rw [e7]; exact (hF.wk (by decide)).upJ (by decide)
        have g7 : s7.1 = σ.1 := by rw [e7, upJ_1]; exact h1
        have hM7 : MF 42 43 s7 (mat μ set μ.1) (frc μ laid wind set μ.1) := by rw [e7]; exact hMF.up (by decide) (by decide)
        rw [h41, cmp_gt]
        have hlt : (0 : Int64) < iJ (Lw μ set) ↔ 0 < Lw μ set := by
          have := iJ_lt (a := 0) (b := Lw μ set) (by decide) (by omega)
          rw [iJ_0] at this
          exact this
        rw [hlt]
        refine ⟨fun hp => ?_, fun hp => ?_⟩
        · refine s_100 hμ (by unfold MoC; rw [g7]; exact hM) (by unfold LwC; rw [g7]; exact hL) hb h41 hM7 (fun t HF H1 HS HP => ?_)
          have := hq t ((F7.wk (by decide)).tr (HF.wk (by decide))) (H1.trans g7) (by rw [(HF 41 (by decide)).2]; exact h41) (fun _ => ⟨HS, HP⟩)
          rwa [if_pos hp] at this
        · have := hq s7 (F7.wk (by decide)) g7 h41 (fun q => absurd q hp)
          rwa [if_neg hp] at this
      · have hmn : m < μ.1 := by
          rcases Nat.lt_or_ge m μ.1 with q | q
          · exact q
          · exact absurd (nI_le q (by omega)) hc
        rw [bt8 hs (show m < 8 by omega)]
        by_cases hb1 : set.testBit m = true
        · simp only [hb1, if_true]
          refine ⟨fun q => absurd q (by decide), fun _ => ?_⟩
          refine s_addRope hμ (by unfold MoC; rw [h1]; exact hM) (by unfold LwC; rw [h1]; exact hL) hb hmn hb1 hMF (fun t HF H1 HM => ?_)
          simp only [b_X0_solve_35, forall_eq]
          rw [nI_1]
          exact ih (m + 1) t (by omega) (by omega) (hF.tr HF) (H1.trans h1) HM
        · simp only [hb1]
          refine ⟨fun _ => ?_, fun q => absurd rfl q⟩
          simp only [b_X0_solve_35, forall_eq]
          rw [nI_1]
          refine ih (m + 1) τ (by omega) (by omega) hF h1 ?_
          unfold MF at hMF ⊢
          simp only [mat_n _ _ _ _ _ hb1, frc_n _ _ _ _ _ _ hb1]
          exact hMF
  refine s_begin set hM hL hb (fun τ HF H1 HM => ⟨μ.1 + 1, key (μ.1 + 1) 0 τ (by omega) (by omega) HF H1 HM⟩)
