theorem hok_wind {μ : MU} {h : HS} {a b c : Int} {t e : Nat} (hk : hok μ h) (hw : wok (wadd h.2.1 a b c)) : hok μ (h.1, wadd h.2.1 a b c, (h.2.2.1.1, h.2.2.1.2.1, h.2.2.1.2.2), t, e) := ⟨⟨hk.1.1, hw⟩, hk.2⟩
theorem hok_laid {μ : MU} {h : HS} {r : Nat} {v : Int} {t e : Nat} (hk : hok μ h) (hv : v.natAbs ≤ 999) : hok μ (u1 h.1 r v, h.2.1, (h.2.2.1.1, h.2.2.1.2.1, h.2.2.1.2.2), t, e) := by
  refine ⟨⟨fun j hj => ?_, hk.1.2⟩, hk.2⟩
  show (if j = r then v else h.1 j).natAbs ≤ 999
  split
  · exact hv
  · exact hk.1.1 j hj
theorem tb_clr {s b : Nat} (hs : s < 256) (hb : b < 8) (r : Nat) : (clr s b).testBit r = (s.testBit r && decide (r ≠ b)) := by
  rcases Nat.lt_or_ge r 8 with q | q
  · exact (clr_ok hs hb).2.2 r q
  · rw [tb_big (clr_ok hs hb).2.1 q, tb_big hs q]; rfl
theorem tb_adb {s b : Nat} (hs : s < 256) (hb : b < 8) (r : Nat) : (adb s b).testBit r = (s.testBit r || decide (r = b)) := by
  rcases Nat.lt_or_ge r 8 with q | q
  · exact (adb_ok hs hb).2.2 r q
  · rw [tb_big (adb_ok hs hb).2.1 q, tb_big hs q, decide_eq_false (by omega)]; rfl
theorem hok_cast {μ : MU} (hμ : mu_ok μ) {h : HS} {r : Nat} {t e : Nat} (hk : hok μ h) (hr : r < μ.1) (hf : (h.2.2.1.2.1.testBit r || h.2.2.1.2.2.testBit r) = false) : hok μ (h.1, h.2.1, (clr h.2.2.1.1 r, h.2.2.1.2.1, adb h.2.2.1.2.2 r), t, e) := by
  obtain ⟨k0, k1, k2, k3, k4, k5, k6⟩ := hk
  have h8 := hμ.1
  have hr8 : r < 8 := by omega
  refine ⟨k0, (clr_ok k1 hr8).2.1, k2, (adb_ok k3 hr8).2.1, fun j hj => ?_, fun j hj => ?_, fun j hj => ?_⟩
  · have := k4 j hj
    show (clr h.2.2.1.1 r).testBit j = false ∧ _ ∧ (adb h.2.2.1.2.2 r).testBit j = false
    rw [tb_clr k1 hr8, tb_adb k3 hr8, this.1, this.2.2, decide_eq_false (show ¬ j = r by omega)]
    exact ⟨rfl, this.2.1, rfl⟩
  · have hj : (clr h.2.2.1.1 r).testBit j = true := hj
    rw [tb_clr k1 hr8] at hj
    simp at hj
    show h.2.2.1.2.1.testBit j = false ∧ (adb h.2.2.1.2.2 r).testBit j = false
    rw [tb_adb k3 hr8, (k5 j hj.1).2, decide_eq_false hj.2]
    exact ⟨(k5 j hj.1).1, rfl⟩
  · show (adb h.2.2.1.2.2 r).testBit j = false
    have hj : h.2.2.1.2.1.testBit j = true := hj
    have hne : ¬ j = r := fun q => by subst q; rw [hj] at hf; simp at hf
    rw [tb_adb k3 hr8, k6 j hj, decide_eq_false hne]; rfl
theorem hok_renew {μ : MU} (hμ : mu_ok μ) {h : HS} {r : Nat} {t e : Nat} (hk : hok μ h) (hr : r < μ.1) : hok μ (u1 h.1 r (μ.2.1 r 5), h.2.1, (adb h.2.2.1.1 r, clr h.2.2.1.2.1 r, clr h.2.2.1.2.2 r), t, e) := by
  have hl := hok_laid (t := t) (e := e) (r := r) (v := μ.2.1 r 5) hk (by have := hμ.2.1 r hr; omega)
  obtain ⟨k0, k1, k2, k3, k4, k5, k6⟩ := hk
  have h8 := hμ.1
  have hr8 : r < 8 := by omega
  refine ⟨hl.1, (adb_ok k1 hr8).2.1, (clr_ok k2 hr8).2.1, (clr_ok k3 hr8).2.1, fun j hj => ?_, fun j hj => ?_, fun j hj => ?_⟩
  · have := k4 j hj
    show (adb h.2.2.1.1 r).testBit j = false ∧ (clr h.2.2.1.2.1 r).testBit j = false ∧ (clr h.2.2.1.2.2 r).testBit j = false
    rw [tb_clr k2 hr8, tb_clr k3 hr8, tb_adb k1 hr8, this.1, this.2.1, this.2.2, decide_eq_false (show ¬ j = r by omega)]
    exact ⟨rfl, rfl, rfl⟩
  · have hj : (adb h.2.2.1.1 r).testBit j = true := hj
    rw [tb_adb k1 hr8] at hj
    show (clr h.2.2.1.2.1 r).testBit j = false ∧ (clr h.2.2.1.2.2 r).testBit j = false
    rw [tb_clr k2 hr8, tb_clr k3 hr8]
    by_cases q : j = r
    · subst q; simp
    · rw [decide_eq_false q, Bool.or_false] at hj
      rw [(k5 j hj).1, (k5 j hj).2]
      exact ⟨rfl, rfl⟩
  · have hj : (clr h.2.2.1.2.1 r).testBit j = true := hj
    rw [tb_clr k2 hr8] at hj
    simp at hj
    show (clr h.2.2.1.2.2 r).testBit j = false
    rw [tb_clr k3 hr8, k6 j hj.1]; rfl
theorem LwC.row {n h : Nat} {laid wind : Nat → Int} {σ τ : wS} (hh : LwC n laid wind h σ) (h1 : τ.1 (h + 1) = σ.1 (h + 1)) (h2 : τ.1 (h + 2) = σ.1 (h + 2)) : LwC n laid wind h τ := by
  unfold LwC at hh ⊢
  rw [h1, h2]
  exact hh
theorem rp {x : Int32} {n : Nat} (hn : n ≤ 8) (h0 : 0 ≤ x.toInt) (h1 : x.toInt < (n : Int)) : x = nI x.toInt.toNat ∧ x.toInt.toNat < n := by
  refine ⟨?_, by omega⟩
  rw [iI_n, show ((x.toInt.toNat : Nat) : Int) = x.toInt by omega, ii]
theorem nI8 {n : Nat} (hn : n ≤ 8) : (nI n).toInt = n := nI_toInt (by omega)
/-- Crew.attempt on the work hold -/
theorem s_attempt {μ : MU} (hμ : mu_ok μ) {h : HS} {p sort : Nat} {x y z : Int32} {σ : wS} {Q : Int32 → wS → Prop} (hn : 0 < μ.1) (hp : p + 6 < 32) (hs : sort < 4) (hk : hok μ h) (hM : MoC μ p σ) (hH : HC μ h 32 σ)
    (hq : ∀ τ, CA μ (att μ h sort x.toInt y.toInt z.toInt) σ τ → Q (iI (att μ h sort x.toInt y.toInt z.toInt).1) τ) : w_X1_attempt p 32 (nI sort) x y z σ Q := by
  have h8 := hμ.1
  intro s1 e1 s2 e2
  have F2 : Fr aW σ s2 := by rw [e2, e1]; exact (Fr.rf.upI (by decide)).upI (by decide)
  have g7 : s2.1 32 7 = σ.1 32 7 := by rw [e2, e1]; simp [upI_1]
  have g3 : s2.1 38 3 = 0 := by rw [e2, e1]; simp [upI_1]
  have g4 : s2.1 38 4 = 0 := by rw [e2, e1]; simp [upI_1]
  have M2 : MoC μ p s2 := by rw [e2, e1]; exact (hM.up (by omega)).up (by omega)
  have H2 : HC μ h 32 s2 := by
    obtain ⟨a1, a2, a3, a4, a5, a6⟩ := hH
    rw [e2, e1]
    exact ⟨(a1.up (by decide) (by decide)).up (by decide) (by decide), by simp [upI_1]; exact a2, by simp [upI_1]; exact a3, by simp [upI_1]; exact a4, by simp [upI_1]; exact a5, by simp [upI_1]; exact a6⟩
  clear e1 e2 hM hH
  obtain ⟨L2, v2, v3, v4, v5, v6⟩ := H2
  -- refusals
  have ref : ∀ w : Int, 0 ≤ w ∧ w ≤ 2 → att μ h sort x.toInt y.toInt z.toInt = (w, h, []) → ∀ τ : wS, Fr aW s2 τ → τ.1 32 7 = s2.1 32 7 → τ.1 38 = s2.1 38 → b_X1_attempt_97 p 32 Q (iI w) τ := by
    intro w hw he τ hF h7 h38
    rw [he] at hq
    exact a_ref hw (F2.tr hF) (h7.trans g7) (by rw [h38]; exact g3) (by rw [h38]; exact g4) hq
  have e46 : ∀ τ, b_X1_attempt_97 p 32 Q (iI 0) τ → b_X1_attempt_46 p 32 Q τ := fun τ h => h
  have n6 : s2.1 p 6 = nI μ.1 := M2.1
  refine ⟨fun hs0 => ?_, fun hs0 => ?_⟩
  · -- winch, cast off, renew
    have hsn : sort ≠ 0 := fun q => by subst q; exact hs0 rfl
    have ex : (x < 0) ↔ x.toInt < 0 := by rw [Int32.lt_iff_toInt_lt]; rfl
    rw [ex, n6]
    refine ⟨fun hneg => e46 _ (ref 0 (by decide) ?_ s2 Fr.rf rfl rfl), fun hneg => ?_⟩
    · unfold att; rw [if_neg hsn, if_pos (by omega)]
    have el : (x < nI μ.1) ↔ x.toInt < (μ.1 : Int) := by rw [Int32.lt_iff_toInt_lt, nI8 h8]
    rw [el]
    refine ⟨fun hlt => ?_, fun hge => e46 _ (ref 0 (by decide) ?_ s2 Fr.rf rfl rfl)⟩
    rotate_left
    · unfold att; rw [if_neg hsn, if_pos (by omega)]
    obtain ⟨xr, hr⟩ := rp h8 (by omega) hlt
    have hin : ¬ ¬ (0 ≤ x.toInt ∧ x.toInt < (μ.1 : Int)) := by omega
    generalize x.toInt.toNat = r at xr hr
    have hr8 : r < 8 := by omega
    have ex : x.toInt = (r : Int) := by rw [xr]; exact nI_toInt (by omega)
    have ert : x.toInt.toNat = r := by omega
    have ix := ix3 hr8
    have k2 := hk.2.2.1
    have k3 := hk.2.2.2.1
    have esort : (nI sort = 1 ↔ sort = 1) ∧ (nI sort = 2 ↔ sort = 2) := ⟨nI_eq (b := 1) (by omega) (by decide), nI_eq (b := 2) (by omega) (by decide)⟩
    rw [esort.1, esort.2]
    refine ⟨fun hs1 => ⟨fun hs2 => ?_, fun hs2 => ?_⟩, fun hs1 => ?_⟩
    · -- renew
      have hatt : att μ h sort x.toInt y.toInt z.toInt = if (h.2.2.1.2.1.testBit r || h.2.2.1.2.2.testBit r) = true then fin μ (u1 h.1 r (μ.2.1 r 5)) h.2.1 (adb h.2.2.1.1 r) (clr h.2.2.1.2.1 r) (clr h.2.2.1.2.2 r) h.2.2.2.2 else (2, h, []) := by
        unfold att; rw [if_neg hsn, if_neg hin, if_neg hs1, if_neg hs2, ert]
      unfold w_X1_takeAgain
      rw [xr, isFs k2 k3 hr8 v3 v4]
      cases hf : (h.2.2.1.2.1.testBit r || h.2.2.1.2.2.testBit r)
      · refine ⟨fun q => absurd q (by decide), fun _ => ?_⟩
        rw [hf] at hatt
        exact ref 2 (by decide) hatt s2 Fr.rf rfl rfl
      · rw [hf] at hatt
        simp only [if_true] at hatt
        refine ⟨fun _ s3 e3 s4 e4 s5 e5 => ?_, fun q => absurd rfl q⟩
        rw [v3, (clr_ok k2 hr8).1] at e3
        have w4 : s3.1 32 4 = nI h.2.2.1.2.2 := by rw [e3, upI_1]; simp; exact v4
        rw [w4, (clr_ok k3 hr8).1] at e4
        have w2 : s4.1 32 2 = nI h.2.2.1.1 := by rw [e4, e3, upI_1, upI_1]; simp; exact v2
        rw [w2, (adb_ok hk.2.1 hr8).1] at e5
        have hv : ∀ r, r < 8 → vp_in ((7 : Int32) * nI r + 5) 56 ∧ ((7 : Int32) * nI r + 5).toNatClampNeg = 7 * r + 5 := by unfold vp_in; decide +kernel
        have M5 : MoC μ p s5 := by rw [e5, e4, e3]; exact ((M2.up hp).up hp).up hp
        refine ⟨(hv r hr8).1, ix.2.2.2.2.2.2.1, fun s8 e8 => ?_⟩
        rw [(hv r hr8).2, M5.2.1 r hr 5 (by decide), ix.2.2.2.2.2.2.2] at e8
        rw [hatt] at hq
        refine a_set (t := 0) (e := 0) hμ hp (hok_renew hμ hk hr) (by rw [e8]; exact M5.up (by omega)) ?_ ?_ ?_ ?_ ?_ ?_ ?_ hq
        · have L5 : LwC μ.1 h.1 h.2.1 32 s5 := by rw [e5, e4, e3]; exact ((L2.up (by decide) (by decide)).up (by decide) (by decide)).up (by decide) (by decide)
          refine ⟨fun j hj => ?_, fun a ha => ?_⟩
          · rw [e8, upI_1]
            show (if 33 = 33 ∧ j = r then _ else _) = iI (if j = r then _ else _)
            by_cases q : j = r
            · simp [q]
            · simp [q]; exact L5.1 j hj
          · rw [e8, upI_1]; simp; exact L5.2 a ha
        · rw [e8, e5, e4, e3]; simp [upI_1]
        · rw [e8, e5, e4, e3]; simp [upI_1]
        · rw [e8, e5, e4, e3]; simp [upI_1]
        · rw [e8, e5, e4, e3]; simp [upI_1]; exact v6
        · rw [e8, e5, e4, e3]; exact (((F2.upI (by decide)).upI (by decide)).upI (by decide)).upI (by decide)
        · rw [e8, e5, e4, e3]; simp [upI_1]; exact g7
    · -- cast off
      have hatt : att μ h sort x.toInt y.toInt z.toInt = if (h.2.2.1.2.1.testBit r || h.2.2.1.2.2.testBit r) = true then (2, h, []) else fin μ h.1 h.2.1 (clr h.2.2.1.1 r) h.2.2.1.2.1 (adb h.2.2.1.2.2 r) h.2.2.2.2 := by
        unfold att; rw [if_neg hsn, if_neg hin, if_neg hs1, if_pos hs2, ert]
      unfold w_X1_castOff
      rw [xr, isFs k2 k3 hr8 v3 v4]
      cases hf : (h.2.2.1.2.1.testBit r || h.2.2.1.2.2.testBit r)
      · rw [hf] at hatt
        simp only [Bool.false_eq_true, if_false] at hatt
        refine ⟨fun _ s3 e3 s4 e4 => ?_, fun q => absurd q (by decide)⟩
        rw [v2, (clr_ok hk.2.1 hr8).1] at e3
        have w4 : s3.1 32 4 = nI h.2.2.1.2.2 := by rw [e3, upI_1]; simp; exact v4
        rw [w4, (adb_ok k3 hr8).1] at e4
        rw [hatt] at hq
        refine a_set (t := 0) (e := 0) hμ hp (hok_cast hμ hk hr hf) (by rw [e4, e3]; exact (M2.up hp).up hp) (by rw [e4, e3]; exact (L2.up (by decide) (by decide)).up (by decide) (by decide)) ?_ ?_ ?_ ?_ ?_ ?_ hq
        · rw [e4, e3]; simp [upI_1]
        · rw [e4, e3]; simp [upI_1]; exact v3
        · rw [e4, e3]; simp [upI_1]
        · rw [e4, e3]; simp [upI_1]; exact v6
        · rw [e4, e3]; exact (F2.upI (by decide)).upI (by decide)
        · rw [e4, e3]; simp [upI_1]; exact g7
      · refine ⟨fun q => absurd rfl q, fun _ => ?_⟩
        rw [hf] at hatt
        exact ref 2 (by decide) hatt s2 Fr.rf rfl rfl
    · -- winch
      have hatt : att μ h sort x.toInt y.toInt z.toInt = if ¬ (-9 ≤ y.toInt ∧ y.toInt ≤ 9) then (1, h, []) else if ¬ (h.1 r + y.toInt * mu_k μ r).natAbs ≤ 999 then (1, h, []) else if y.toInt = 0 ∨ (h.2.2.1.2.1.testBit r || h.2.2.1.2.2.testBit r) = true then (2, h, []) else fin μ (u1 h.1 r (h.1 r + y.toInt * mu_k μ r)) h.2.1 h.2.2.1.1 h.2.2.1.2.1 h.2.2.1.2.2 h.2.2.2.2 := by
        unfold att; rw [if_neg hsn, if_neg hin, if_pos hs1, ert]
      unfold w_X1_turn
      rw [show (-9 : Int32) = iI (-9) by decide, show (9 : Int32) = iI 9 by decide, isW (by decide) (by decide)]
      by_cases hy : -9 ≤ y.toInt ∧ y.toInt ≤ 9
      · rw [if_pos hy]
        rw [if_neg (by simpa using hy)] at hatt
        refine ⟨fun _ => ?_, fun q => absurd q (by decide)⟩
        rw [xr]
        refine ⟨ix.2.2.2.2.2.2.1, ix.2.2.2.2.2.2.1, ix.2.2.2.2.2.2.1, fun s3 e3 => ⟨ix.2.2.2.2.2.2.1, ?_⟩⟩
        have yI : y = iI y.toInt := (ii y).symm
        have el := L2.1 r hr
        have ek := (M2.2.2.2.2.1 r hr).1
        have hkb : (mu_k μ r).natAbs ≤ 9 := by have := hμ.2.1 r hr; unfold mu_k; omega
        have hlb := hk.1.1 r hr
        have hyk := ab_mul (a := 9) (b := 9) (show y.toInt.natAbs ≤ 9 by omega) hkb
        have e3' : s3 = upI s2 33 r (iI (h.1 r + y.toInt * mu_k μ r)) := by
          have el' : s2.1 33 r = iI (h.1 r) := el
          rw [e3, ix.2.2.2.2.2.2.2, show (32 + 1) = 33 from rfl, el', ek]
          congr 1
          rw [yI, iI_mul, iI_add, ii]
        have x33 : s3.1 33 r = iI (h.1 r + y.toInt * mu_k μ r) := by rw [e3', upI_1]; simp
        rw [ix.2.2.2.2.2.2.2, show (32 + 1) = 33 from rfl, x33, show (-999 : Int32) = iI (-999) by decide, show (999 : Int32) = iI 999 by decide, isW (by decide) (by decide), iI_T (by omega)]
        have hF3 : Fr aW s2 s3 := by rw [e3']; exact Fr.rf.upI (by decide)
        have h73 : s3.1 32 7 = s2.1 32 7 := by rw [e3', upI_1]; simp
        have h383 : s3.1 38 = s2.1 38 := by rw [e3']; rfl
        by_cases hl : (h.1 r + y.toInt * mu_k μ r).natAbs ≤ 999
        · rw [if_pos (by omega)]
          rw [if_neg (by simpa using hl)] at hatt
          refine ⟨fun _ => ?_, fun q => absurd q (by decide)⟩
          have ey : y = 0 ↔ y.toInt = 0 := by rw [← Int32.toInt_inj]; rfl
          rw [ey]
          refine ⟨fun hy0 => ?_, fun hy0 => ?_⟩
          · rw [if_pos (Or.inl hy0)] at hatt
            exact ref 2 (by decide) hatt s3 hF3 h73 h383
          · rw [isFs k2 k3 hr8 (by rw [e3', upI_1]; simp; exact v3) (by rw [e3', upI_1]; simp; exact v4)]
            cases hf : (h.2.2.1.2.1.testBit r || h.2.2.1.2.2.testBit r)
            · refine ⟨fun _ => ?_, fun q => absurd q (by decide)⟩
              rw [if_neg (by rw [hf]; rintro (q | q); exact hy0 q; cases q)] at hatt
              rw [hatt] at hq
              refine a_set (t := 0) (e := 0) hμ hp (hok_laid hk hl) (by rw [e3']; exact M2.up (by omega)) ?_ ?_ ?_ ?_ ?_ (F2.tr hF3) (h73.trans g7) hq
              · refine ⟨fun j hj => ?_, fun a ha => ?_⟩
                · rw [e3', upI_1]
                  show (if 33 = 33 ∧ j = r then _ else _) = iI (if j = r then _ else _)
                  by_cases q : j = r
                  · simp [q]
                  · simp [q]; exact L2.1 j hj
                · rw [e3', upI_1]; simp; exact L2.2 a ha
              · rw [e3', upI_1]; simp; exact v2
              · rw [e3', upI_1]; simp; exact v3
              · rw [e3', upI_1]; simp; exact v4
              · rw [e3', upI_1]; simp; exact v6
            · refine ⟨fun q => absurd rfl q, fun _ => ?_⟩
              rw [if_pos (Or.inr hf)] at hatt
              exact ref 2 (by decide) hatt s3 hF3 h73 h383
        · rw [if_neg (by omega)]
          rw [if_pos hl] at hatt
          refine ⟨fun q => absurd rfl q, fun _ => ?_⟩
          exact ref 1 (by decide) hatt s3 hF3 h73 h383
      · rw [if_neg hy]
        rw [if_pos hy] at hatt
        refine ⟨fun q => absurd rfl q, fun _ => ?_⟩
        exact ref 1 (by decide) hatt s2 Fr.rf rfl rfl
  · -- wind
    have hse : sort = 0 := (nI_eq (b := 0) (by omega) (by decide)).mp hs0
    have hatt : att μ h sort x.toInt y.toInt z.toInt = if ¬ gst x.toInt y.toInt z.toInt then (1, h, []) else if ¬ wok (wadd h.2.1 x.toInt y.toInt z.toInt) then (1, h, []) else if x.toInt = 0 ∧ y.toInt = 0 ∧ z.toInt = 0 then (2, h, []) else fin μ h.1 (wadd h.2.1 x.toInt y.toInt z.toInt) h.2.2.1.1 h.2.2.1.2.1 h.2.2.1.2.2 h.2.2.2.2 := by
      unfold att; rw [if_pos hse, if_neg (by omega)]
    unfold w_X1_blow
    rw [n6]
    refine ⟨fun _ => ?_, fun q => absurd q (nI_ne0 hn (by omega))⟩
    rw [isGW]
    by_cases hg : gst x.toInt y.toInt z.toInt
    · rw [if_pos hg]
      rw [if_neg (fun q => q hg)] at hatt
      refine ⟨fun _ s3 e3 s4 e4 s5 e5 => ?_, fun q => absurd q (by decide)⟩
      obtain ⟨g1, g2, g3'⟩ := id hg
      have hw := hk.1.2
      have w0 : s2.1 34 0 = iI (h.2.1 0) := L2.2 0 (by decide)
      have w1 : s2.1 34 1 = iI (h.2.1 1) := L2.2 1 (by decide)
      have w2 : s2.1 34 2 = iI (h.2.1 2) := L2.2 2 (by decide)
      have e3' : s3 = upI s2 34 0 (iI (h.2.1 0 + x.toInt)) := by
        rw [e3, c_0, show (32 + 2) = 34 from rfl, w0]
        congr 1
        rw [← iI_add, ii]
      have e4' : s4 = upI s3 34 1 (iI (h.2.1 1 + y.toInt)) := by
        have : s3.1 34 1 = iI (h.2.1 1) := by rw [e3', upI_1]; simp; exact w1
        rw [e4, c_1, show (32 + 2) = 34 from rfl, this]
        congr 1
        rw [← iI_add, ii]
      have e5' : s5 = upI s4 34 2 (iI (h.2.1 2 + z.toInt)) := by
        have : s4.1 34 2 = iI (h.2.1 2) := by rw [e4', e3', upI_1, upI_1]; simp; exact w2
        rw [e5, c_2, show (32 + 2) = 34 from rfl, this]
        congr 1
        rw [← iI_add, ii]
      have q0 : s5.1 34 0 = iI (wadd h.2.1 x.toInt y.toInt z.toInt 0) := by rw [e5', e4', e3']; simp [upI_1, wadd]
      have q1 : s5.1 34 1 = iI (wadd h.2.1 x.toInt y.toInt z.toInt 1) := by rw [e5', e4', e3']; simp [upI_1, wadd]
      have q2 : s5.1 34 2 = iI (wadd h.2.1 x.toInt y.toInt z.toInt 2) := by rw [e5', e4', e3']; simp [upI_1, wadd]
      have b0 : (wadd h.2.1 x.toInt y.toInt z.toInt 0).natAbs < 2 ^ 31 := by simp [wadd]; omega
      have b1 : (wadd h.2.1 x.toInt y.toInt z.toInt 1).natAbs < 2 ^ 31 := by simp [wadd]; omega
      have b2 : (wadd h.2.1 x.toInt y.toInt z.toInt 2).natAbs < 2 ^ 31 := by simp [wadd]; omega
      have hF5 : Fr aW s2 s5 := by rw [e5', e4', e3']; exact ((Fr.rf.upI (by decide)).upI (by decide)).upI (by decide)
      have h75 : s5.1 32 7 = s2.1 32 7 := by rw [e5', e4', e3']; simp [upI_1]
      have h385 : s5.1 38 = s2.1 38 := by rw [e5', e4', e3']; rfl
      have H5 : ∀ k, s5.1 32 k = s2.1 32 k := fun k => by rw [e5', e4', e3']; simp [upI_1]
      have L5 : LwC μ.1 h.1 (wadd h.2.1 x.toInt y.toInt z.toInt) 32 s5 := by
        refine ⟨fun r hr => ?_, fun a ha => ?_⟩
        · rw [e5', e4', e3']; simp [upI_1]; exact L2.1 r hr
        · rcases (show a = 0 ∨ a = 1 ∨ a = 2 by omega) with rfl | rfl | rfl
          · exact q0
          · exact q1
          · exact q2
      have M5 : MoC μ p s5 := by rw [e5', e4', e3']; exact ((M2.up (by omega)).up (by omega)).up (by omega)
      generalize wadd h.2.1 x.toInt y.toInt z.toInt = wn at hatt q0 q1 q2 b0 b1 b2 L5
      have no : ¬ wok wn → b_X1_attempt_97 p 32 Q (iI 1) s5 := fun hn => ref 1 (by decide) (by rw [hatt, if_pos hn]) s5 hF5 h75 h385
      refine ⟨4, ?_⟩
      simp only [l_X1_blow_55]
      refine ⟨fun q => absurd q (by decide), fun _ => ⟨vi_3.1, vi_3.1, vi_3.1, ?_⟩⟩
      rw [c_0, show (32 + 2) = 34 from rfl, q0, stv_0.2.2.2.1, iI_neg, isW (by decide) (by decide), iI_T b0]
      by_cases t0 : (wn 0).natAbs ≤ 999
      rotate_left
      · rw [if_neg (by omega)]
        exact ⟨fun q => absurd rfl q, fun _ => no (fun q => t0 q.1)⟩
      rw [if_pos (by omega)]
      refine ⟨fun _ y0 ey0 => ?_, fun q => absurd q (by decide)⟩
      subst ey0
      refine ⟨fun q => absurd q (by decide), fun _ => ⟨vi_3.2.1, vi_3.2.1, vi_3.2.1, ?_⟩⟩
      rw [show ((0 : Int32) + 1).toNatClampNeg = 1 by decide, q1, stv_0.2.2.2.2.1, iI_neg, isW (by decide) (by decide), iI_T b1]
      by_cases t1 : (wn 1).natAbs ≤ 999
      rotate_left
      · rw [if_neg (by omega)]
        exact ⟨fun q => absurd rfl q, fun _ => no (fun q => t1 q.2.1)⟩
      rw [if_pos (by omega)]
      refine ⟨fun _ y0 ey0 => ?_, fun q => absurd q (by decide)⟩
      subst ey0
      refine ⟨fun q => absurd q (by decide), fun _ => ⟨vi_3.2.2, vi_3.2.2, vi_3.2.2, ?_⟩⟩
      rw [show ((0 : Int32) + 1 + 1).toNatClampNeg = 2 by decide, q2, stv_0.2.2.2.2.2, iI_neg, isW (by decide) (by decide), iI_T b2]
      by_cases t2 : (wn 2).natAbs ≤ 9999
      rotate_left
      · rw [if_neg (by omega)]
        exact ⟨fun q => absurd rfl q, fun _ => no (fun q => t2 q.2.2)⟩
      rw [if_pos (by omega)]
      refine ⟨fun _ y0 ey0 => ?_, fun q => absurd q (by decide)⟩
      subst ey0
      rw [if_neg (fun q => q ⟨t0, t1, t2⟩)] at hatt
      have exx : ∀ v : Int32, v = 0 ↔ v.toInt = 0 := fun v => by rw [← Int32.toInt_inj]; rfl
      refine ⟨fun _ => ?_, fun q => absurd (by decide) q⟩
      have fin' : ¬ (x.toInt = 0 ∧ y.toInt = 0 ∧ z.toInt = 0) → b_X1_attempt_97 p 32 Q (-1) s5 := by
        intro hne
        rw [if_neg hne] at hatt
        rw [hatt] at hq
        refine a_set (t := 0) (e := 0) hμ hp ⟨⟨hk.1.1, t0, t1, t2⟩, hk.2⟩ M5 L5 (by rw [H5]; exact v2) (by rw [H5]; exact v3) (by rw [H5]; exact v4) (by rw [H5]; exact v6) (F2.tr hF5) (h75.trans g7) hq
      rw [exx x, exx y, exx z]
      refine ⟨fun hx => fin' (fun q => hx q.1), fun hx => ⟨fun hy => fin' (fun q => hy q.2.1), fun hy => ⟨fun hz => fin' (fun q => hz q.2.2), fun hz => ?_⟩⟩⟩
      exact ref 2 (by decide) (by rw [hatt, if_pos ⟨hx, hy, hz⟩]) s5 hF5 h75 h385
    · rw [if_neg hg]
      rw [if_pos hg] at hatt
      refine ⟨fun q => absurd rfl q, fun _ => ?_⟩
      exact ref 1 (by decide) hatt s2 Fr.rf rfl rfl
