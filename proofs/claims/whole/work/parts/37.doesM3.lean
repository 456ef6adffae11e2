theorem srt_hold (bk cs set r : Nat) : (2 : Int32) ≤ nI (srt bk cs set r) ↔ (bk.testBit r || cs.testBit r) = true := by
  unfold srt
  cases bk.testBit r <;> cases cs.testBit r <;> cases set.testBit r <;> decide
theorem srt_lt4 (bk cs set r : Nat) : srt bk cs set r < 4 := by
  unfold srt
  cases bk.testBit r <;> cases cs.testBit r <;> cases set.testBit r <;> decide
theorem z0p {r : Nat} (hr : r < 8) : vp_in ((0 : Int32) + nI r) 202 ∧ ((0 : Int32) + nI r).toNatClampNeg = r := by
  rw [Int32.zero_add]
  exact v202 (by omega)
theorem c16 : (16 : Int32).toNatClampNeg = 16 ∧ (17 : Int32).toNatClampNeg = 17 ∧ (18 : Int32).toNatClampNeg = 18 ∧ vp_in 16 202 ∧ vp_in 17 202 ∧ vp_in 18 202 := by unfold vp_in; decide
/-- a row whose laid ropes, wind and sorts change -/
theorem RowM.to {μ : MU} {h : HS} {lg : List LE} {f g : Nat → Int32} {laid wind : Nat → Int} {set bk cs : Nat} (hR : RowM μ h lg f) (h1 : ∀ r, r < μ.1 → g r = iI (laid r)) (h2 : ∀ a, a < 3 → g (16 + a) = iI (wind a)) (h3 : ∀ r, r < μ.1 → g (8 + r) = nI (srt bk cs set r)) (h4 : ∀ k, 19 ≤ k → g k = f k) : RowM μ (laid, wind, (set, bk, cs), h.2.2.2.1, h.2.2.2.2) lg g := by
  obtain ⟨-, -, -, r4, r5, r6, r7, r8⟩ := hR
  refine ⟨h1, h2, h3, by rw [h4 19 (by omega)]; exact r4, by rw [h4 20 (by omega)]; exact r5, by rw [h4 21 (by omega)]; exact r6, r7, fun j hj => ?_⟩
  rw [h4 (22 + 3 * j) (by omega), h4 (23 + 3 * j) (by omega), h4 (24 + 3 * j) (by omega)]
  exact r8 j hj
/-- the model's does -/
theorem m_does {μ : MU} (hμ : mu_ok μ) {h : HS} {lg : List LE} {sort : Nat} {x y z : Int32} {σ : wS} {Q : Int32 → wS → Prop} (hn : 0 < μ.1) (hs : sort < 4) (hk : hok μ h) (hM : MoM μ σ) (hR : RowM μ h lg (σ.1 189))
    (hq : ∀ τ, DA μ (att μ h sort x.toInt y.toInt z.toInt) lg sort (if sort = 0 then none else some x.toInt.toNat) σ τ → Q (iI (att μ h sort x.toInt y.toInt z.toInt).1) τ) : w_X12_does 189 (nI sort) x y z σ Q := by
  have h8 := hμ.1
  intro s1 e1
  have F1 : Fr dW σ s1 := by rw [e1]; exact Fr.rf.upI (by decide)
  have K1 : ∀ k, k ≠ 35 → s1.1 176 k = σ.1 176 k := fun k hk => by rw [e1, upI_1]; simp [hk]
  have g35 : s1.1 176 35 = 0 := by rw [e1, upI_1]; simp
  have g1 : s1.2 = σ.2 := by rw [e1]; rfl
  have M1 : MoM μ s1 := hM.mv (K1 14 (by decide)) (by rw [e1]; rfl) (by rw [e1]; rfl) (by rw [e1]; rfl)
  have R1 : RowM μ h lg (s1.1 189) := by
    have : s1.1 189 = σ.1 189 := by rw [e1]; rfl
    rw [this]; exact hR
  clear e1
  have ref : ∀ w : Int, 0 ≤ w ∧ w ≤ 2 → att μ h sort x.toInt y.toInt z.toInt = (w, h, []) → Q (iI w) s1 := by
    intro w hw he
    rw [he] at hq
    refine hq s1 ⟨F1, fun k _ h2 => K1 k h2, fun k _ => by rw [g1], ?_, fun q => ?_, fun q => ?_⟩
    · show s1.1 176 35 = if w = 3 ∨ w = 4 then 1 else 0
      rw [g35, if_neg (by omega)]
    · exfalso
      rcases q with q | q | q
      · have : w = -1 := q; omega
      · have : w = 3 := q; omega
      · have : w = 4 := q; omega
    · exfalso
      have : w = -1 := q; omega
  have wn : ∀ w : Int, 0 ≤ w ∧ w ≤ 2 → ¬ iI w = -1 := fun w hw => by rw [show (-1 : Int32) = iI (-1) by decide, iI_eq (by omega) (by decide)]; omega
  obtain ⟨r1, r2, r3, -⟩ := id R1
  unfold w_X12_stops
  rw [M1.1]
  refine ⟨fun _ => ?_, fun q => absurd q (nI_ne0 hn (by omega))⟩
  refine ⟨fun hs0 => ?_, fun hs0 => ?_⟩
  · have hsn : sort ≠ 0 := fun q => by subst q; exact hs0 rfl
    rw [isRM h8 M1.1]
    by_cases hin : 0 ≤ x.toInt ∧ x.toInt < (μ.1 : Int)
    rotate_left
    · rw [if_neg hin]
      refine ⟨fun q => absurd rfl q, fun _ => ⟨fun q => absurd q (by decide), fun _ => ref 0 (by decide) ?_⟩⟩
      unfold att; rw [if_neg hsn, if_pos hin]
    rw [if_pos hin]
    refine ⟨fun _ => ?_, fun q => absurd q (by decide)⟩
    obtain ⟨xr, hr⟩ := rp h8 hin.1 hin.2
    generalize x.toInt.toNat = r at xr hr
    subst xr
    have hr8 : r < 8 := by omega
    have ex : (nI r).toInt = (r : Int) := nI_toInt (by omega)
    have ert : (nI r).toInt.toNat = r := by omega
    have k2 := hk.2.2.1
    have k3 := hk.2.2.2.1
    rw [ert, if_neg hsn] at hq
    have hox : oI (some r) = if sort = 0 then -1 else nI r := by rw [if_neg hsn]; rfl
    have hd := fun (laid wind : Nat → Int) (set bk cs t e : Nat) (σ' : wS) hk' hM' hR' hF' h176 hg hq' => d_set (rp := some r) (x := nI r) (lg := lg) (σ0 := σ) (σ := σ') (Q := Q) hμ hox hs (laid := laid) (wind := wind) (set := set) (bk := bk) (cs := cs) (t := t) (e := e) (ever := h.2.2.2.2) hk' hM' hR' hF' h176 hg hq'
    have v8 := v8p hr8
    have l189 : ln 189 = 202 := rfl
    rw [l189, v8.2, r3 r hr, srt_hold]
    have esort : (nI sort = 1 ↔ sort = 1) ∧ (nI sort = 2 ↔ sort = 2) := ⟨nI_eq (b := 1) (by omega) (by decide), nI_eq (b := 2) (by omega) (by decide)⟩
    have body : ∀ (z0 : Int32), (z0 = if (h.2.2.1.2.1.testBit r || h.2.2.1.2.2.testBit r) = true then 0 else 1) → b_X12_stops_131 189 (fun r3 s2 => (r3 = (-1 : Int32) → (w_X12_changes 189 (nI sort) (nI r) y z s2 (fun s4 => w_X12_settles 189 s4 (fun r7 s6 => (r7 = (-1 : Int32) → (b_X12_does_57 189 Q (nI sort) (nI r) r7 (0 : Int32) s6)) ∧ (¬ r7 = (-1 : Int32) → (b_X12_does_57 189 Q (nI sort) (nI r) r7 (1 : Int32) s6)))))) ∧ (¬ r3 = (-1 : Int32) → (Q r3 s2))) (nI sort) (nI r) y z0 s1 := by
      intro z0 hz0
      unfold b_X12_stops_131 b_X12_stops_210 b_X12_stops_192 w_X12_changes
      have n0 : ¬ nI sort = 0 := hs0
      rw [esort.1, esort.2]
      refine ⟨fun hs1 => ⟨fun hs2 => ?_, fun hs2 => ?_⟩, fun hs1 => ?_⟩
      · -- renew
        have hatt : att μ h sort (nI r).toInt y.toInt z.toInt = if (h.2.2.1.2.1.testBit r || h.2.2.1.2.2.testBit r) = true then fin μ (u1 h.1 r (μ.2.1 r 5)) h.2.1 (adb h.2.2.1.1 r) (clr h.2.2.1.2.1 r) (clr h.2.2.1.2.2 r) h.2.2.2.2 else (2, h, []) := by
          unfold att; rw [if_neg hsn, if_neg (fun q => q hin), if_neg hs1, if_neg hs2, ert]
        cases hf : (h.2.2.1.2.1.testBit r || h.2.2.1.2.2.testBit r)
        · rw [hf] at hatt hz0
          rw [hz0]
          exact ⟨fun _ => ⟨fun q => absurd q (by decide), fun _ => ref 2 (by decide) hatt⟩, fun q => absurd q (by decide)⟩
        · rw [hf] at hatt hz0
          simp only [if_true] at hatt hz0
          subst hz0
          rw [hatt] at hq
          refine ⟨fun q => absurd rfl q, fun _ => ⟨fun _ => ⟨fun q => absurd q n0, fun q => absurd q hs1, fun q => absurd q hs2, fun _ _ _ => ?_⟩, fun q => absurd rfl q⟩⟩
          have hv : ∀ r, r < 8 → vp_in ((7 : Int32) * nI r + 5) 56 ∧ ((7 : Int32) * nI r + 5).toNatClampNeg = 7 * r + 5 := by unfold vp_in; decide +kernel
          rw [l189, v8.2, (z0p hr8).2, (hv r hr8).2, M1.2.1 r hr 5 (by decide)]
          refine ⟨(hv r hr8).1, (z0p hr8).1, fun s8 e8 => ⟨v8.1, fun s9 e9 => ?_⟩⟩
          have ef : ∀ k, s9.1 189 k = if k = 8 + r then 0 else if k = r then iI (μ.2.1 r 5) else s1.1 189 k := fun k => by rw [e9, e8, upI_1, upI_1]; simp
          refine hd _ _ _ _ _ h.2.2.2.1 0 s9 (hok_renew hμ hk hr) (M1.mv (by rw [e9, e8]; rfl) (by rw [e9, e8]; rfl) (by rw [e9, e8]; rfl) (by rw [e9, e8]; rfl)) ?_ (by rw [e9, e8]; exact (F1.upI (by decide)).upI (by decide)) (fun k hk => by rw [← K1 k hk, e9, e8]; rfl) (by rw [e9, e8]; exact g1) hq
          refine R1.to (fun j hj => ?_) (fun a ha => ?_) (fun j hj => ?_) (fun k hk => ?_)
          · rw [ef, if_neg (by omega)]
            show _ = iI (if j = r then _ else _)
            by_cases q : j = r
            · rw [if_pos q, if_pos q]
            · rw [if_neg q, if_neg q]; exact r1 j hj
          · rw [ef, if_neg (by omega), if_neg (by omega)]; exact r2 a ha
          · rw [ef]
            unfold srt
            rw [tb_clr k2 hr8, tb_clr k3 hr8, tb_adb hk.2.1 hr8]
            by_cases q : j = r
            · subst q; simp; rfl
            · rw [if_neg (by omega), if_neg (by omega), r3 j hj]
              unfold srt
              simp [q]
          · rw [ef, if_neg (by omega), if_neg (by omega)]
      · -- cast off
        have hatt : att μ h sort (nI r).toInt y.toInt z.toInt = if (h.2.2.1.2.1.testBit r || h.2.2.1.2.2.testBit r) = true then (2, h, []) else fin μ h.1 h.2.1 (clr h.2.2.1.1 r) h.2.2.1.2.1 (adb h.2.2.1.2.2 r) h.2.2.2.2 := by
          unfold att; rw [if_neg hsn, if_neg (fun q => q hin), if_neg hs1, if_pos hs2, ert]
        cases hf : (h.2.2.1.2.1.testBit r || h.2.2.1.2.2.testBit r)
        · rw [hf] at hatt hz0
          simp only [Bool.false_eq_true, if_false] at hatt hz0
          subst hz0
          rw [hatt] at hq
          refine ⟨fun q => absurd rfl q, fun _ => ⟨fun _ => ⟨fun q => absurd q n0, fun q => absurd q hs1, fun _ => ?_, fun _ _ q => absurd hs2 q⟩, fun q => absurd rfl q⟩⟩
          rw [l189, v8.2]
          refine ⟨v8.1, fun s9 e9 => ?_⟩
          have ef : ∀ k, s9.1 189 k = if k = 8 + r then 3 else s1.1 189 k := fun k => by rw [e9, upI_1]; simp
          refine hd _ _ _ _ _ h.2.2.2.1 0 s9 (hok_cast hμ hk hr hf) (M1.mv (by rw [e9]; rfl) (by rw [e9]; rfl) (by rw [e9]; rfl) (by rw [e9]; rfl)) ?_ (by rw [e9]; exact F1.upI (by decide)) (fun k hk => by rw [← K1 k hk, e9]; rfl) (by rw [e9]; exact g1) hq
          refine R1.to (fun j hj => ?_) (fun a ha => ?_) (fun j hj => ?_) (fun k hk => ?_)
          · rw [ef, if_neg (by omega)]; exact r1 j hj
          · rw [ef, if_neg (by omega)]; exact r2 a ha
          · rw [ef]
            unfold srt
            rw [tb_clr hk.2.1 hr8, tb_adb k3 hr8]
            by_cases q : j = r
            · subst q
              have : h.2.2.1.2.1.testBit j = false := by cases hh : h.2.2.1.2.1.testBit j; rfl; rw [hh] at hf; cases hf
              rw [this]; simp; rfl
            · rw [if_neg (by omega), r3 j hj]
              unfold srt
              simp [q]
          · rw [ef, if_neg (by omega)]
        · rw [hf] at hatt hz0
          rw [hz0]
          exact ⟨fun _ => ⟨fun q => absurd q (by decide), fun _ => ref 2 (by decide) hatt⟩, fun q => absurd q (by decide)⟩
      · -- winch
        have hatt : att μ h sort (nI r).toInt y.toInt z.toInt = if ¬ (-9 ≤ y.toInt ∧ y.toInt ≤ 9) then (1, h, []) else if ¬ (h.1 r + y.toInt * mu_k μ r).natAbs ≤ 999 then (1, h, []) else if y.toInt = 0 ∨ (h.2.2.1.2.1.testBit r || h.2.2.1.2.2.testBit r) = true then (2, h, []) else fin μ (u1 h.1 r (h.1 r + y.toInt * mu_k μ r)) h.2.1 h.2.2.1.1 h.2.2.1.2.1 h.2.2.1.2.2 h.2.2.2.2 := by
          unfold att; rw [if_neg hsn, if_neg (fun q => q hin), if_pos hs1, ert]
        rw [lJ.2.2.2.2.2.2.1, lJ.2.2.2.2.2.2.2, isI (by decide) (by decide)]
        by_cases hy : -9 ≤ y.toInt ∧ y.toInt ≤ 9
        rotate_left
        · rw [if_neg hy]
          rw [if_pos hy] at hatt
          exact ⟨fun _ => ⟨fun q => absurd q (by decide), fun _ => ref 1 (by decide) hatt⟩, fun q => absurd rfl q⟩
        rw [if_pos hy]
        rw [if_neg (fun q => q hy)] at hatt
        refine ⟨fun q => absurd q (by decide), fun _ => ⟨(z0p hr8).1, ?_⟩⟩
        have ek : s1.1 181 (7 * r) = iI (mu_k μ r) := by have := M1.2.1 r hr 0 (by decide); exact this
        have hkb : (mu_k μ r).natAbs ≤ 9 := by have := hμ.2.1 r hr; unfold mu_k; omega
        have hlb := hk.1.1 r hr
        have hyk := ab_mul (a := 9) (b := 9) (show y.toInt.natAbs ≤ 9 by omega) hkb
        have es : iI (h.1 r) + y * iI (mu_k μ r) = iI (h.1 r + y.toInt * mu_k μ r) := by
          rw [← iI_add, ← iI_mul, ii]
        rw [stf hr8, (z0p hr8).2, r1 r hr, ek, es, lJ.2.2.1, lJ.2.2.2.1, isI (by decide) (by decide), iI_T (by omega)]
        by_cases hl : (h.1 r + y.toInt * mu_k μ r).natAbs ≤ 999
        rotate_left
        · rw [if_neg (by omega)]
          rw [if_pos hl] at hatt
          exact ⟨fun q => absurd rfl q, fun _ => ⟨fun q => absurd q (by decide), fun _ => ref 1 (by decide) hatt⟩⟩
        rw [if_pos (by omega)]
        rw [if_neg (fun q => q hl)] at hatt
        refine ⟨fun _ => ?_, fun q => absurd q (by decide)⟩
        have ey : y = 0 ↔ y.toInt = 0 := by rw [← Int32.toInt_inj]; rfl
        rw [ey]
        refine ⟨fun hy0 => ?_, fun hy0 => ?_⟩
        · rw [if_pos (Or.inl hy0)] at hatt
          exact ⟨fun q => absurd q (by decide), fun _ => ref 2 (by decide) hatt⟩
        · cases hf : (h.2.2.1.2.1.testBit r || h.2.2.1.2.2.testBit r)
          · rw [hf] at hz0
            simp only [Bool.false_eq_true, if_false] at hz0
            subst hz0
            rw [if_neg (by rw [hf]; rintro (q | q); exact hy0 q; cases q)] at hatt
            rw [hatt] at hq
            refine ⟨fun _ => ⟨fun _ => ⟨fun q => absurd q n0, fun _ => ?_, fun q => absurd (q.symm.trans hs1) (by decide), fun _ q => absurd hs1 q⟩, fun q => absurd rfl q⟩, fun q => absurd q (by decide)⟩
            rw [stf hr8, l189, r1 r hr, ek, es]
            refine ⟨(z0p hr8).1, (z0p hr8).1, fun s9 e9 => ?_⟩
            have ef : ∀ k, s9.1 189 k = if k = r then iI (h.1 r + y.toInt * mu_k μ r) else s1.1 189 k := fun k => by rw [e9, upI_1]; simp
            refine hd _ _ _ _ _ h.2.2.2.1 0 s9 (hok_laid hk hl) (M1.mv (by rw [e9]; rfl) (by rw [e9]; rfl) (by rw [e9]; rfl) (by rw [e9]; rfl)) ?_ (by rw [e9]; exact F1.upI (by decide)) (fun k hk => by rw [← K1 k hk, e9]; rfl) (by rw [e9]; exact g1) hq
            refine R1.to (fun j hj => ?_) (fun a ha => ?_) (fun j hj => ?_) (fun k hk => ?_)
            · rw [ef]
              show _ = iI (if j = r then _ else _)
              by_cases q : j = r
              · rw [if_pos q, if_pos q]
              · rw [if_neg q, if_neg q]; exact r1 j hj
            · rw [ef, if_neg (by omega)]; exact r2 a ha
            · rw [ef, if_neg (by omega)]; exact r3 j hj
            · rw [ef, if_neg (by omega)]
          · rw [hf] at hz0
            simp only [if_true] at hz0
            subst hz0
            rw [if_pos (Or.inr hf)] at hatt
            exact ⟨fun q => absurd rfl q, fun _ => ⟨fun q => absurd q (by decide), fun _ => ref 2 (by decide) hatt⟩⟩
    refine ⟨v8.1, fun hf => body 0 (by rw [if_pos hf]), fun hf => body 1 (by rw [if_neg hf])⟩
  · -- wind
    have hse : sort = 0 := (nI_eq (b := 0) (by omega) (by decide)).mp hs0
    have hatt : att μ h sort x.toInt y.toInt z.toInt = if ¬ gst x.toInt y.toInt z.toInt then (1, h, []) else if ¬ wok (wadd h.2.1 x.toInt y.toInt z.toInt) then (1, h, []) else if x.toInt = 0 ∧ y.toInt = 0 ∧ z.toInt = 0 then (2, h, []) else fin μ h.1 (wadd h.2.1 x.toInt y.toInt z.toInt) h.2.2.1.1 h.2.2.1.2.1 h.2.2.1.2.2 h.2.2.2.2 := by
      unfold att; rw [if_pos hse, if_neg (by omega)]
    rw [isGM]
    by_cases hg : gst x.toInt y.toInt z.toInt
    rotate_left
    · rw [if_neg hg]
      rw [if_pos hg] at hatt
      exact ⟨fun _ => ⟨fun q => absurd q (by decide), fun _ => ref 1 (by decide) hatt⟩, fun q => absurd rfl q⟩
    rw [if_pos hg]
    rw [if_neg (fun q => q hg)] at hatt
    refine ⟨fun q => absurd q (by decide), fun _ => ⟨c16.2.2.2.1, ?_⟩⟩
    obtain ⟨g1', g2', g3'⟩ := id hg
    have hw := hk.1.2
    have w0 : s1.1 189 16 = iI (h.2.1 0) := r2 0 (by decide)
    have w1 : s1.1 189 17 = iI (h.2.1 1) := r2 1 (by decide)
    have w2 : s1.1 189 18 = iI (h.2.1 2) := r2 2 (by decide)
    have ad : ∀ (a : Int) (v : Int32), iI a + v = iI (a + v.toInt) := fun a v => by rw [← iI_add, ii]
    have no : ¬ wok (wadd h.2.1 x.toInt y.toInt z.toInt) → Q (iI 1) s1 := fun hn => ref 1 (by decide) (by rw [hatt, if_pos hn])
    have u0 : wadd h.2.1 x.toInt y.toInt z.toInt 0 = h.2.1 0 + x.toInt := by simp [wadd]
    have u1' : wadd h.2.1 x.toInt y.toInt z.toInt 1 = h.2.1 1 + y.toInt := by simp [wadd]
    have u2 : wadd h.2.1 x.toInt y.toInt z.toInt 2 = h.2.1 2 + z.toInt := by simp [wadd]
    rw [c16.1, w0, ad, lJ.2.2.1, lJ.2.2.2.1, isI (by decide) (by decide), iI_T (by omega)]
    by_cases t0 : (h.2.1 0 + x.toInt).natAbs ≤ 999
    rotate_left
    · rw [if_neg (by omega)]
      exact ⟨fun _ => ⟨fun q => absurd q (by decide), fun _ => no (fun q => t0 (by rw [← u0]; exact q.1))⟩, fun q => absurd rfl q⟩
    rw [if_pos (by omega)]
    refine ⟨fun q => absurd q (by decide), fun _ => ⟨c16.2.2.2.2.1, ?_⟩⟩
    rw [c16.2.1, w1, ad, isI (by decide) (by decide), iI_T (by omega)]
    by_cases t1 : (h.2.1 1 + y.toInt).natAbs ≤ 999
    rotate_left
    · rw [if_neg (by omega)]
      exact ⟨fun _ => ⟨fun q => absurd q (by decide), fun _ => no (fun q => t1 (by rw [← u1']; exact q.2.1))⟩, fun q => absurd rfl q⟩
    rw [if_pos (by omega)]
    refine ⟨fun q => absurd q (by decide), fun _ => ⟨c16.2.2.2.2.2, ?_⟩⟩
    rw [c16.2.2.1, w2, ad, lJ.2.2.2.2.1, lJ.2.2.2.2.2.1, isI (by decide) (by decide), iI_T (by omega)]
    by_cases t2 : (h.2.1 2 + z.toInt).natAbs ≤ 9999
    rotate_left
    · rw [if_neg (by omega)]
      exact ⟨fun q => absurd rfl q, fun _ => ⟨fun q => absurd q (by decide), fun _ => no (fun q => t2 (by rw [← u2]; exact q.2.2))⟩⟩
    rw [if_pos (by omega)]
    refine ⟨fun _ => ?_, fun q => absurd q (by decide)⟩
    have hwk : wok (wadd h.2.1 x.toInt y.toInt z.toInt) := ⟨by rw [u0]; exact t0, by rw [u1']; exact t1, by rw [u2]; exact t2⟩
    rw [if_neg (fun q => q hwk)] at hatt
    have exx : ∀ v : Int32, v = 0 ↔ v.toInt = 0 := fun v => by rw [← Int32.toInt_inj]; rfl
    have fin' : ¬ (x.toInt = 0 ∧ y.toInt = 0 ∧ z.toInt = 0) → w_X12_changes 189 (nI sort) x y z s1 (fun s4 => w_X12_settles 189 s4 (fun r7 s6 => (r7 = (-1 : Int32) → (b_X12_does_57 189 Q (nI sort) x r7 (0 : Int32) s6)) ∧ (¬ r7 = (-1 : Int32) → (b_X12_does_57 189 Q (nI sort) x r7 (1 : Int32) s6)))) := by
      intro hne
      rw [if_neg hne] at hatt
      rw [hatt, if_pos hse] at hq
      unfold w_X12_changes
      rw [show ln 189 = 202 from rfl, c16.1, c16.2.1, c16.2.2.1, w0]
      refine ⟨fun _ => ⟨c16.2.2.2.1, c16.2.2.2.1, fun s2 e2 => ⟨c16.2.2.2.2.1, c16.2.2.2.2.1, fun s3 e3 => ⟨c16.2.2.2.2.2, c16.2.2.2.2.2, fun s4 e4 => ?_⟩⟩⟩, fun q => absurd (hs0.symm.trans q) (by decide), fun q => absurd (hs0.symm.trans q) (by decide), fun q => absurd hs0 q⟩
      have x1 : s2.1 189 17 = iI (h.2.1 1) := by rw [e2, upI_1]; simp; exact w1
      have x2 : s3.1 189 18 = iI (h.2.1 2) := by rw [e3, e2, upI_1, upI_1]; simp; exact w2
      rw [ad] at e2
      rw [x1, ad] at e3
      rw [x2, ad] at e4
      have ef : ∀ k, s4.1 189 k = if k = 18 then iI (h.2.1 2 + z.toInt) else if k = 17 then iI (h.2.1 1 + y.toInt) else if k = 16 then iI (h.2.1 0 + x.toInt) else s1.1 189 k := fun k => by rw [e4, e3, e2, upI_1, upI_1, upI_1]; simp
      refine d_set (rp := none) (lg := lg) (σ0 := σ) (t := h.2.2.2.1) (e := 0) hμ (by rw [if_pos hse]; rfl) hs (hok_wind hk hwk) (M1.mv (by rw [e4, e3, e2]; rfl) (by rw [e4, e3, e2]; rfl) (by rw [e4, e3, e2]; rfl) (by rw [e4, e3, e2]; rfl)) ?_ (by rw [e4, e3, e2]; exact ((F1.upI (by decide)).upI (by decide)).upI (by decide)) (fun k hk => by rw [← K1 k hk, e4, e3, e2]; rfl) (by rw [e4, e3, e2]; exact g1) hq
      refine R1.to (fun j hj => ?_) (fun a ha => ?_) (fun j hj => ?_) (fun k hk => ?_)
      · rw [ef, if_neg (by omega), if_neg (by omega), if_neg (by omega)]; exact r1 j hj
      · rw [ef]
        rcases (show a = 0 ∨ a = 1 ∨ a = 2 by omega) with rfl | rfl | rfl
        · rw [u0]; rfl
        · rw [u1']; rfl
        · rw [u2]; rfl
      · rw [ef, if_neg (by omega), if_neg (by omega), if_neg (by omega)]; exact r3 j hj
      · rw [ef, if_neg (by omega), if_neg (by omega), if_neg (by omega)]
    rw [exx x, exx y, exx z]
    have hm : ∀ (P R : Prop), P → (((-1 : Int32) = -1 → P) ∧ (¬ (-1 : Int32) = -1 → R)) := fun P R h => ⟨fun _ => h, fun q => absurd rfl q⟩
    refine ⟨fun hx => hm _ _ (fin' (fun q => hx q.1)), fun hx => ⟨fun hy => hm _ _ (fin' (fun q => hy q.2.1)), fun hy => ⟨fun hz => hm _ _ (fin' (fun q => hz q.2.2)), fun hz => ?_⟩⟩⟩
    exact ⟨fun q => absurd q (by decide), fun _ => ref 2 (by decide) (by rw [hatt, if_pos ⟨hx, hy, hz⟩])⟩
/-- a row is copied -/
theorem m_copy {p q f t : Nat} {σ : wS} {Q : wS → Prop} (hpq : p ≠ q) (hf : f + 202 ≤ ln p) (ht : t + 202 ≤ ln q) (hlp : ln p < 2 ^ 31) (hlq : ln q < 2 ^ 31) (hq : ∀ τ : wS, Fr [q] σ τ → τ.2 = σ.2 → (∀ k, k < 202 → τ.1 q (t + k) = σ.1 p (f + k)) → (∀ k, (k < t ∨ t + 202 ≤ k) → τ.1 q k = σ.1 q k) → Q τ) : w_X12_copyRow p q (nI f) (nI t) σ Q := by
  have key : ∀ (k m : Nat) (τ : wS), m ≤ 202 → m + k = 203 → Fr [q] σ τ → τ.2 = σ.2 → (∀ k, k < m → τ.1 q (t + k) = σ.1 p (f + k)) → (∀ k, (k < t ∨ t + m ≤ k) → τ.1 q k = σ.1 q k) → l_X12_copyRow_3 p q Q k (nI f) (nI t) (nI m) τ := by
    intro k
    induction k with
    | zero => intro m τ h1 h2; omega
    | succ k ih =>
      intro m τ h1 h2 hF hg hC hK
      simp only [l_X12_copyRow_3]
      have ec : ((202 : Int32) ≤ nI m) ↔ 202 ≤ m := nI_leI (a := 202) (by decide) (by omega)
      rw [ec]
      refine ⟨fun hc => ?_, fun hc => ?_⟩
      · have : m = 202 := by omega
        subst this
        exact hq τ hF hg hC hK
      · rw [nI_add, nI_add, nI_clamp (by omega), nI_clamp (by omega)]
        refine ⟨vp_in_nI (by omega) hlp, vp_in_nI (by omega) hlq, fun s1 e1 y2 e2 => ?_⟩
        rw [e2, nI_1]
        refine ih (m + 1) s1 (by omega) (by omega) (by rw [e1]; exact hF.upI (by simp)) (by rw [e1]; exact hg) (fun k hk => ?_) (fun k hk => ?_)
        · rw [e1, upI_1]
          by_cases e : k = m
          · subst e
            rw [if_pos ⟨rfl, rfl⟩, (hF p (by simpa using hpq)).1]
          · rw [if_neg (by omega)]; exact hC k (by omega)
        · rw [e1, upI_1, if_neg (by omega)]; exact hK k (by omega)
  exact ⟨203, key 203 0 σ (by decide) (by decide) Fr.rf rfl (fun k hk => absurd hk (by omega)) (fun _ _ => rfl)⟩
theorem m_copy0 {p q : Nat} {σ : wS} {Q : wS → Prop} (hpq : p ≠ q) (hf : ln p = 202) (ht : ln q = 202) (hq : ∀ τ : wS, Fr [q] σ τ → τ.2 = σ.2 → (∀ k, k < 202 → τ.1 q k = σ.1 p k) → Q τ) : w_X12_copyRow p q 0 0 σ Q := by
  refine m_copy (f := 0) (t := 0) hpq (by omega) (by omega) (by omega) (by omega) (fun τ h1 h2 h3 _ => hq τ h1 h2 (fun k hk => ?_))
  have := h3 k hk
  simpa using this
theorem RowM.mv {μ : MU} {h : HS} {lg : List LE} {f g : Nat → Int32} (hμ : μ.1 ≤ 8) (hR : RowM μ h lg f) (hg : ∀ k, k < 202 → g k = f k) : RowM μ h lg g := by
  obtain ⟨r1, r2, r3, r4, r5, r6, r7, r8⟩ := hR
  refine ⟨fun r hr => ?_, fun a ha => ?_, fun r hr => ?_, ?_, ?_, ?_, r7, fun j hj => ?_⟩
  · rw [hg r (by omega)]; exact r1 r hr
  · rw [hg (16 + a) (by omega)]; exact r2 a ha
  · rw [hg (8 + r) (by omega)]; exact r3 r hr
  · rw [hg 19 (by omega)]; exact r4
  · rw [hg 20 (by omega)]; exact r5
  · rw [hg 21 (by omega)]; exact r6
  · rw [hg (22 + 3 * j) (by omega), hg (23 + 3 * j) (by omega), hg (24 + 3 * j) (by omega)]
    exact r8 j hj
