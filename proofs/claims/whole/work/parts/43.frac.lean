/-! WHOLE FRACTIONS in lowest terms -/
theorem iJ_div {a b : Nat} (ha : a < 2 ^ 63) (hb : b < 2 ^ 63) : iJ a / iJ b = iJ ((a / b : Nat) : Int) := by
  have h1 : (Int64.minValue).toInt = -2 ^ 63 := by decide
  have h2 : (Int64.maxValue).toInt = 2 ^ 63 - 1 := by decide
  unfold iJ
  rw [← Int64.ofInt_tdiv (by omega) (by omega) (by omega) (by omega)]
  congr 1
theorem iJ_rem {a b : Nat} (ha : a < 2 ^ 63) (hb : b < 2 ^ 63) : iJ a - iJ a / iJ b * iJ b = iJ ((a % b : Nat) : Int) := by
  rw [iJ_div ha hb, iJ_mul, iJ_sub]
  congr 1
  have := Nat.div_add_mod' a b
  have e : ((a / b : Nat) : Int) * (b : Int) = ((a / b * b : Nat) : Int) := by simp
  omega
theorem iJ_z {b : Nat} (hb : b < 2 ^ 63) : (lg_cmp (iJ b) 0 = 0 ↔ b = 0) ∧ (iJ b = 0 ↔ b = 0) := by
  have : iJ b = 0 ↔ b = 0 := by rw [show (0 : Int64) = iJ 0 by decide, iJ_eq (by omega) (by decide)]; omega
  rw [cmp_eq]
  exact ⟨this, this⟩
theorem gcd_st (a b : Nat) : Nat.gcd b (a % b) = Nat.gcd a b := by rw [Nat.gcd_comm b, ← Nat.gcd_rec, Nat.gcd_comm]
theorem half {b c : Nat} (h0 : 0 < c) (h : c < b) : 2 * (b % c) < b := by
  have h1 := Nat.mod_lt b h0
  have h2 := Nat.div_add_mod b c
  have h3 : 1 ≤ b / c := (Nat.le_div_iff_mul_le h0).mpr (by omega)
  have h4 : c * 1 ≤ c * (b / c) := Nat.mul_le_mul_left c h3
  omega
theorem s_gcd0 {Q : Int64 → wS → Prop} {σ : wS} {n : Nat} {a : Int64} {i : Int32} (hn : 0 < n) (hq : Q a σ) : l_X2_commonDivisor_9 Q n a (iJ ((0 : Nat) : Int)) i σ := by
  obtain ⟨n, rfl⟩ : ∃ m, n = m + 1 := ⟨n - 1, by omega⟩
  simp only [l_X2_commonDivisor_9]
  exact ⟨fun _ => hq, fun _ => ⟨fun _ => hq, fun q => absurd ((iJ_z (by decide)).1.mpr rfl) q⟩⟩
theorem s_gcd1 {Q : Int64 → wS → Prop} {σ : wS} {n a b i : Nat} (ha : a < 2 ^ 63) (hb : b < 2 ^ 63) (h0 : 0 < b) (hi : i < 200) (h : l_X2_commonDivisor_9 Q n (iJ b) (iJ ((a % b : Nat) : Int)) (nI (i + 1)) σ) : l_X2_commonDivisor_9 Q (n + 1) (iJ a) (iJ b) (nI i) σ := by
  simp only [l_X2_commonDivisor_9]
  have e : ((200 : Int32) ≤ nI i) ↔ 200 ≤ i := nI_leI (a := 200) (by decide) (by omega)
  rw [e, (iJ_z hb).1, (iJ_z hb).2]
  refine ⟨fun q => by omega, fun _ => ⟨fun q => by omega, fun _ => ⟨by omega, fun y1 e1 y2 e2 => ?_⟩⟩⟩
  rw [iJ_rem ha hb] at e1
  rw [e1, e2, nI_1]
  exact h
theorem s_gcd {Q : Int64 → wS → Prop} {σ : wS} : ∀ (k a b i n : Nat), a < 2 ^ 63 → b < 2 ^ 63 → b < 2 ^ k → i + 2 * k ≤ 200 → 2 * k < n → Q (iJ (Nat.gcd a b : Nat)) σ → l_X2_commonDivisor_9 Q n (iJ a) (iJ b) (nI i) σ := by
  intro k
  induction k with
  | zero =>
    intro a b i n ha hb hk hi hn hq
    have : b = 0 := by omega
    subst this
    rw [Nat.gcd_zero_right] at hq
    exact s_gcd0 (by omega) hq
  | succ k ih =>
    intro a b i n ha hb hk hi hn hq
    rcases Nat.eq_zero_or_pos b with q | q
    · subst q
      rw [Nat.gcd_zero_right] at hq
      exact s_gcd0 (by omega) hq
    · obtain ⟨n, rfl⟩ : ∃ m, n = m + 2 := ⟨n - 2, by omega⟩
      have hc := Nat.mod_lt a q
      rw [← gcd_st] at hq
      refine s_gcd1 ha hb q (by omega) ?_
      rcases Nat.eq_zero_or_pos (a % b) with q2 | q2
      · rw [q2] at hq ⊢
        rw [Nat.gcd_zero_right] at hq
        exact s_gcd0 (by omega) hq
      · rw [← gcd_st] at hq
        have h2 := half q2 hc
        have h3 : 2 ^ (k + 1) = 2 * 2 ^ k := by rw [Nat.pow_succ]; omega
        refine s_gcd1 hb (by omega) q2 (by omega) ?_
        exact ih (a % b) (b % (a % b)) (i + 1 + 1) n (by omega) (by have := Nat.mod_lt b q2; omega) (by omega) (by omega) (by omega) hq
theorem m_gcd {Q : Int64 → wS → Prop} {σ : wS} : ∀ (n a b : Nat), a < 2 ^ 63 → b < 2 ^ 63 → b < n → Q (iJ (Nat.gcd a b : Nat)) σ → l_X12_common_17 Q n (iJ a) (iJ b) σ := by
  intro n
  induction n with
  | zero => intro a b _ _ h; omega
  | succ n ih =>
    intro a b ha hb hn hq
    simp only [l_X12_common_17]
    rw [(iJ_z hb).1, (iJ_z hb).2]
    refine ⟨fun q => ?_, fun q => ⟨q, fun y1 e1 => ?_⟩⟩
    · rw [q, Nat.gcd_zero_right] at hq; exact hq
    · rw [iJ_rem ha hb] at e1
      rw [e1]
      have := Nat.mod_lt a (show 0 < b by omega)
      rw [← gcd_st] at hq
      exact ih b (a % b) hb (by omega) (by omega) hq
theorem ab_J {u : Int} (hu : u.natAbs < 2 ^ 63) : (if 0 < iJ u then iJ u else -iJ u) = iJ (u.natAbs : Nat) := by
  have e : (0 < iJ u) ↔ 0 < u := by rw [show (0 : Int64) = iJ 0 by decide, iJ_lt (by decide) (by omega)]
  by_cases q : 0 < u
  · rw [if_pos (e.mpr q)]; congr 1; omega
  · rw [if_neg (fun r => q (e.mp r)), iJ_neg]; congr 1; omega
/-- the upper or the lower number -/
def gd (u l : Int) : Nat := Nat.gcd u.natAbs l.natAbs
def tl (u l : Int) (w : Int32) : Int64 := if w = 0 then iJ u / iJ (gd u l) else iJ l / iJ (gd u l)
theorem gd_ok {u l : Int} (hl : 0 < l) (hl2 : l.natAbs < 2 ^ 63) : 0 < gd u l ∧ gd u l < 2 ^ 63 := by
  have h1 : 0 < gd u l := Nat.gcd_pos_of_pos_right _ (by omega)
  have h2 : gd u l ≤ l.natAbs := Nat.le_of_dvd (by omega) (Nat.gcd_dvd_right _ _)
  omega
theorem s_put {i : Nat} {u l : Int} {σ : wS} {Q : wS → Prop} (hl : 0 < l) (hu : u.natAbs < 2 ^ 63) (hl2 : l.natAbs < 2 ^ 63) (hq : ∀ τ : wS, Fr [i] σ τ → τ.1 = σ.1 → τ.2 i 0 = iJ u / iJ (gd u l) → τ.2 i 1 = iJ l / iJ (gd u l) → Q τ) : w_X2_put i (iJ u) (iJ l) σ Q := by
  have hg := gd_ok (u := u) hl hl2
  unfold w_X2_put
  rw [ab_J hu]
  have el : iJ l = iJ (l.natAbs : Nat) := by congr 1; omega
  refine ⟨200, ?_⟩
  have e0 : (0 : Int32) = nI 0 := rfl
  rw [e0]
  conv => arg 4; rw [el]
  refine s_gcd 63 u.natAbs l.natAbs 0 200 hu hl2 hl2 (by decide) (by decide) ?_
  have c1 : ¬ lg_cmp (iJ l) 0 ≤ 0 := by rw [cmp_le, show (0 : Int64) = iJ 0 by decide, iJ_le (by omega) (by decide)]; omega
  have g0 : ¬ iJ ((gd u l : Nat) : Int) = 0 := by rw [(iJ_z hg.2).2]; omega
  have c2 : 0 < lg_cmp (iJ ((gd u l : Nat) : Int)) 0 := by
    have : ¬ lg_cmp (iJ ((gd u l : Nat) : Int)) 0 ≤ 0 := by rw [cmp_le, show (0 : Int64) = iJ 0 by decide, iJ_le (by omega) (by decide)]; omega
    exact Int32.not_le.mp this
  refine ⟨fun q => absurd q c1, fun _ => ⟨fun _ => ⟨g0, fun s3 e3 => ⟨g0, fun s4 e4 => ?_⟩⟩, fun q => absurd c2 q⟩⟩
  refine hq s4 (by rw [e4, e3]; exact (Fr.rf.upJ (by simp)).upJ (by simp)) (by rw [e4, e3]; rfl) ?_ ?_
  · rw [e4, e3]; simp [upJ_2]; rfl
  · rw [e4, e3]; simp [upJ_2]; rfl
theorem s_told {u l : Int} {w : Int32} {i : Nat} {σ : wS} {Q : Int64 → wS → Prop} (h0 : σ.2 i 0 = iJ u / iJ (gd u l)) (h1 : σ.2 i 1 = iJ l / iJ (gd u l)) (hq : Q (tl u l w) σ) : w_X2_told i w σ Q := by
  unfold w_X2_told
  rw [h0, h1]
  unfold tl at hq
  refine ⟨fun q => by rw [if_neg q] at hq; exact hq, fun q => by rw [if_pos q] at hq; exact hq⟩
theorem m_told {u l : Int} {w : Int32} {σ : wS} {Q : Int64 → wS → Prop} (hl : 0 < l) (hu : u.natAbs < 2 ^ 63) (hl2 : l.natAbs < 2 ^ 63) (hq : Q (tl u l w) σ) : w_X12_told (iJ u) (iJ l) w σ Q := by
  have hg := gd_ok (u := u) hl hl2
  have g0 : ¬ iJ ((gd u l : Nat) : Int) = 0 := by rw [(iJ_z hg.2).2]; omega
  unfold tl at hq
  have el : iJ l = iJ (l.natAbs : Nat) := by congr 1; omega
  have fin : b_X12_common_12 (fun r2 s1 => (¬ w = 0 → (¬ r2 = 0 ∧ (Q (iJ l / r2) s1))) ∧ (w = 0 → (¬ r2 = 0 ∧ (Q (iJ u / r2) s1)))) (iJ l) (iJ (u.natAbs : Nat)) σ := by
    refine ⟨l.natAbs + 1, ?_⟩
    conv => arg 4; rw [el]
    exact m_gcd (l.natAbs + 1) u.natAbs l.natAbs hu hl2 (by omega) ⟨fun q => ⟨g0, by rw [if_neg q] at hq; exact hq⟩, fun q => ⟨g0, by rw [if_pos q] at hq; exact hq⟩⟩
  unfold w_X12_told w_X12_common
  have c : (0 ≤ lg_cmp (iJ u) 0) ↔ 0 ≤ u := by rw [cmp_ge, show (0 : Int64) = iJ 0 by decide, iJ_le (by decide) (by omega)]
  rw [c, iJ_neg]
  refine ⟨fun q => ?_, fun q => ?_⟩
  · rw [show (u.natAbs : Int) = u by omega] at fin; exact fin
  · rw [show (u.natAbs : Int) = -u by omega] at fin; exact fin
theorem tl01 (w : Int32) (hw : 0 ≤ w.toInt ∧ w.toInt ≤ 1) : tl 0 1 w = w.toInt64 := by
  obtain ⟨k, rfl, hk, -⟩ := nn hw.1
  rcases (show k = 0 ∨ k = 1 by omega) with rfl | rfl <;> decide
