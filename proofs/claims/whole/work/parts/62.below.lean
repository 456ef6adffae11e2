/-! which of two fractions is less -/
def bwB (t : Bool) (a b c d : Nat) : Bool := if t then decide (c * b < a * d) else decide (a * d < c * b)
theorem bw_eq {a b c d : Nat} (he : a / b = c / d) : (a * d < c * b ↔ (a % b) * d < (c % d) * b) ∧ (c * b < a * d ↔ (c % d) * b < (a % b) * d) := by
  have e1 : a * d = b * d * (a / b) + (a % b) * d := by
    have := Nat.div_add_mod a b
    calc a * d = (b * (a / b) + a % b) * d := by rw [this]
      _ = b * d * (a / b) + (a % b) * d := by rw [Nat.add_mul, Nat.mul_right_comm]
  have e2 : c * b = b * d * (a / b) + (c % d) * b := by
    have := Nat.div_add_mod c d
    calc c * b = (d * (c / d) + c % d) * b := by rw [this]
      _ = b * d * (a / b) + (c % d) * b := by rw [Nat.add_mul, he, Nat.mul_right_comm, Nat.mul_comm d b]
  rw [e1, e2]
  generalize b * d * (a / b) = x
  generalize (a % b) * d = y
  generalize (c % d) * b = z
  omega
theorem bw_lt {a b c d : Nat} (hb : 0 < b) (hd : 0 < d) (h : a / b < c / d) : a * d < c * b := by
  have h1 : a < (c / d) * b := (Nat.div_lt_iff_lt_mul hb).mp h
  have h2 : (c / d) * d ≤ c := Nat.div_mul_le_self c d
  calc a * d < (c / d) * b * d := Nat.mul_lt_mul_of_pos_right h1 hd
    _ = (c / d) * d * b := by rw [Nat.mul_right_comm]
    _ ≤ c * b := Nat.mul_le_mul_right b h2
theorem bw_st {t : Bool} {a b c d : Nat} (he : a / b = c / d) : bwB (!t) b (a % b) d (c % d) = bwB t a b c d := by
  obtain ⟨h1, h2⟩ := bw_eq he
  unfold bwB
  cases t
  · simp only [Bool.not_false, if_true, Bool.false_eq_true, if_false]
    rw [decide_eq_decide, h1, Nat.mul_comm d, Nat.mul_comm b]
  · simp only [Bool.not_true, if_true, Bool.false_eq_true, if_false]
    rw [decide_eq_decide, h2, Nat.mul_comm d, Nat.mul_comm b]
theorem iJ_p {b : Nat} (hb : b < 2 ^ 63) : (lg_cmp (iJ b) 0 ≤ 0 ↔ b = 0) := by
  rw [cmp_le, show (0 : Int64) = iJ 0 by decide, iJ_le (by omega) (by decide)]; omega
theorem qJ {a b c d : Nat} (ha : a < 2 ^ 63) (hb : b < 2 ^ 63) (hc : c < 2 ^ 63) (hd : d < 2 ^ 63) : (lg_cmp (iJ a / iJ b) (iJ c / iJ d) = 0 ↔ a / b = c / d) ∧ (0 ≤ lg_cmp (iJ a / iJ b) (iJ c / iJ d) ↔ c / d ≤ a / b) ∧ (lg_cmp (iJ a / iJ b) (iJ c / iJ d) ≤ 0 ↔ a / b ≤ c / d) := by
  have h1 := Nat.div_le_self a b
  have h2 := Nat.div_le_self c d
  rw [iJ_div ha hb, iJ_div hc hd]
  generalize a / b = x at h1
  generalize c / d = y at h2
  rw [cmp_eq, cmp_ge, cmp_le, iJ_eq (by omega) (by omega), iJ_le (by omega) (by omega), iJ_le (by omega) (by omega)]
  omega
abbrev tI (t : Bool) : Int32 := if t then 1 else 0
theorem s_bel1 {i0 p0 : Nat} {Q : Int32 → wS → Prop} {σ : wS} {n a b c d i : Nat} {t : Bool} (ha : a < 2 ^ 63) (hb : b < 2 ^ 63) (hc : c < 2 ^ 63) (hd : d < 2 ^ 63) (b0 : 0 < b) (d0 : 0 < d) (hi : i < 200)
    (h : a / b = c / d → 0 < a % b → 0 < c % d → l_X2_isBelow_29 i0 p0 Q n (iJ b) (iJ ((a % b : Nat) : Int)) (iJ d) (iJ ((c % d : Nat) : Int)) (tI (!t)) (nI (i + 1)) σ) (hq : Q (tI (bwB t a b c d)) σ) : l_X2_isBelow_29 i0 p0 Q (n + 1) (iJ a) (iJ b) (iJ c) (iJ d) (tI t) (nI i) σ := by
  have e : ((200 : Int32) ≤ nI i) ↔ 200 ≤ i := nI_leI (a := 200) (by decide) (by omega)
  obtain ⟨q0, q1, q2⟩ := qJ ha hb hc hd
  have hb0 : ¬ iJ (b : Int) = 0 := by rw [(iJ_z hb).2]; omega
  have hd0 : ¬ iJ (d : Int) = 0 := by rw [(iJ_z hd).2]; omega
  have rb := Nat.mod_lt a b0
  have rd := Nat.mod_lt c d0
  simp only [l_X2_isBelow_29]
  rw [e, iJ_p hb, iJ_p hd, q0, q1]
  refine ⟨fun q => by omega, fun _ => ⟨fun q => by omega, fun _ => ⟨fun q => by omega, fun _ => ⟨hb0, hd0, fun he => ⟨hb0, fun y1 e1 => ⟨hd0, fun y2 e2 => ?_⟩⟩, fun hne => ⟨hb0, hd0, fun hge => ?_, fun hlt => ?_⟩⟩⟩⟩⟩
  · rw [iJ_rem ha hb] at e1
    rw [iJ_rem hc hd] at e2
    subst e1 e2
    obtain ⟨w1, w2⟩ := bw_eq he
    have fin : (a % b = 0 ∨ c % d = 0) → b_X2_isBelow_120 i0 p0 Q (tI t) (iJ ((a % b : Nat) : Int)) (iJ ((c % d : Nat) : Int)) σ := by
      intro hz
      have ez : lg_cmp (iJ ((a % b : Nat) : Int)) (iJ ((c % d : Nat) : Int)) = 0 ↔ a % b = c % d := by
        rw [cmp_eq, iJ_eq (by omega) (by omega)]; omega
      unfold b_X2_isBelow_120
      rw [ez, (iJ_z (by omega)).1]
      have val : bwB t a b c d = (decide (a % b ≠ c % d) && (decide (a % b = 0) != t)) := by
        unfold bwB
        have p1 : a % b = 0 → 0 < c % d → 0 < (c % d) * b := fun _ h => Nat.mul_pos h b0
        have p2 : c % d = 0 → 0 < a % b → 0 < (a % b) * d := fun _ h => Nat.mul_pos h d0
        rcases Nat.eq_zero_or_pos (a % b) with z1 | z1
        · rcases Nat.eq_zero_or_pos (c % d) with z2 | z2
          · have hA : ¬ a * d < c * b := by rw [w1, z1, z2]; omega
            have hB : ¬ c * b < a * d := by rw [w2, z1, z2]; omega
            have hn : ¬ a % b ≠ c % d := fun q => q (by omega)
            cases t
            · rw [if_neg (by decide), decide_eq_false hA, decide_eq_false hn]; rfl
            · rw [if_pos rfl, decide_eq_false hB, decide_eq_false hn]; rfl
          · have := p1 z1 z2
            have hA : a * d < c * b := by rw [w1, z1, Nat.zero_mul]; exact this
            have hB : ¬ c * b < a * d := by omega
            have hn : a % b ≠ c % d := by omega
            cases t
            · rw [if_neg (by decide), decide_eq_true hA, decide_eq_true hn, decide_eq_true z1]; rfl
            · rw [if_pos rfl, decide_eq_false hB, decide_eq_true hn, decide_eq_true z1]; rfl
        · rcases Nat.eq_zero_or_pos (c % d) with z2 | z2
          · have := p2 z2 z1
            have hB : c * b < a * d := by rw [w2, z2, Nat.zero_mul]; exact this
            have hA : ¬ a * d < c * b := by omega
            have hn : a % b ≠ c % d := by omega
            have z3 : ¬ a % b = 0 := by omega
            cases t
            · rw [if_neg (by decide), decide_eq_false hA, decide_eq_true hn, decide_eq_false z3]; rfl
            · rw [if_pos rfl, decide_eq_true hB, decide_eq_true hn, decide_eq_false z3]; rfl
          · omega
      rw [val] at hq
      have b140 : ∀ z : Bool, decide (a % b = 0) = z → a % b ≠ c % d → b_X2_isBelow_140 i0 p0 Q (tI t) (tI z) σ := by
        intro z hz2 hn
        rw [hz2, decide_eq_true hn] at hq
        unfold b_X2_isBelow_140
        cases z <;> cases t
        · exact ⟨fun _ => hq, fun q => absurd rfl q⟩
        · exact ⟨fun q => absurd q (by decide), fun _ => hq⟩
        · exact ⟨fun q => absurd q (by decide), fun _ => hq⟩
        · exact ⟨fun _ => hq, fun q => absurd rfl q⟩
      refine ⟨fun q => ?_, fun q => ⟨fun q2 => b140 false (decide_eq_false q2) q, fun q2 => b140 true (decide_eq_true q2) q⟩⟩
      rw [decide_eq_false (fun n => n q)] at hq
      exact hq
    rw [(iJ_z (by omega)).1, (iJ_z (by omega)).1]
    refine ⟨fun z => fin (Or.inl z), fun n1 => ⟨fun n2 => ?_, fun z => fin (Or.inr z)⟩⟩
    have h := h he (by omega) (by omega)
    cases t
    · refine ⟨fun q => absurd rfl q, fun _ y3 e3 => ?_⟩
      rw [e3, nI_1]; exact h
    · refine ⟨fun _ y3 e3 => ?_, fun q => absurd q (by decide)⟩
      rw [e3, nI_1]; exact h
  · have : c * b < a * d := bw_lt d0 b0 (by omega)
    unfold bwB at hq
    cases t
    · rw [if_neg (by decide), decide_eq_false (by omega)] at hq
      exact ⟨fun _ => hq, fun q => absurd rfl q⟩
    · rw [if_pos rfl, decide_eq_true this] at hq
      exact ⟨fun q => absurd q (by decide), fun _ => hq⟩
  · have : a * d < c * b := bw_lt b0 d0 (by omega)
    unfold bwB at hq
    cases t
    · rw [if_neg (by decide), decide_eq_true this] at hq
      exact ⟨fun q => absurd q (by decide), fun _ => hq⟩
    · rw [if_pos rfl, decide_eq_false (by omega)] at hq
      exact ⟨fun _ => hq, fun q => absurd rfl q⟩
theorem s_bel {i0 p0 : Nat} {Q : Int32 → wS → Prop} {σ : wS} : ∀ (k a b c d i n : Nat) (t : Bool), a < 2 ^ 63 → b < 2 ^ 63 → c < 2 ^ 63 → d < 2 ^ 63 → 0 < b → 0 < d → b < 2 ^ k → i + 2 * k ≤ 200 → 2 * k < n → Q (tI (bwB t a b c d)) σ → l_X2_isBelow_29 i0 p0 Q n (iJ a) (iJ b) (iJ c) (iJ d) (tI t) (nI i) σ := by
  intro k
  induction k with
  | zero => intro a b c d i n t ha hb hc hd b0 d0 hk; exfalso; omega
  | succ k ih =>
    intro a b c d i n t ha hb hc hd b0 d0 hk hi hn hq
    obtain ⟨n, rfl⟩ : ∃ m, n = m + 2 := ⟨n - 2, by omega⟩
    refine s_bel1 ha hb hc hd b0 d0 (by omega) (fun e1 p1 p2 => ?_) hq
    have r1 := Nat.mod_lt a b0
    have r2 := Nat.mod_lt c d0
    rw [← bw_st e1] at hq
    refine s_bel1 hb (by omega) hd (by omega) p1 p2 (by omega) (fun e2 p3 p4 => ?_) hq
    have r3 := Nat.mod_lt b p1
    have r4 := Nat.mod_lt d p2
    rw [← bw_st e2] at hq
    have h2 := half p1 r1
    have h3 : 2 ^ (k + 1) = 2 * 2 ^ k := by rw [Nat.pow_succ]; omega
    exact ih (a % b) (b % (a % b)) (c % d) (d % (c % d)) (i + 1 + 1) n (!!t) (by omega) (by omega) (by omega) (by omega) p3 p4 (by omega) (by omega) (by omega) hq
theorem m_les {Q : Int32 → wS → Prop} {σ : wS} : ∀ (n a b c d : Nat) (t : Bool), a < 2 ^ 63 → b < 2 ^ 63 → c < 2 ^ 63 → d < 2 ^ 63 → 0 < b → 0 < d → b < n → Q (tI (bwB t a b c d)) σ → l_X12_isLess_17 Q n (iJ a) (iJ b) (iJ c) (iJ d) (tI t) σ := by
  intro n
  induction n with
  | zero => intro a b c d t _ _ _ _ _ _ h; omega
  | succ n ih =>
    intro a b c d t ha hb hc hd b0 d0 hn hq
    obtain ⟨q0, q1, q2⟩ := qJ ha hb hc hd
    have hb0 : ¬ iJ (b : Int) = 0 := by rw [(iJ_z hb).2]; omega
    have hd0 : ¬ iJ (d : Int) = 0 := by rw [(iJ_z hd).2]; omega
    have rb := Nat.mod_lt a b0
    have rd := Nat.mod_lt c d0
    simp only [l_X12_isLess_17]
    rw [q0, q1, q2]
    refine ⟨hb0, hd0, fun hne => ⟨fun ht => ⟨hb0, hd0, fun hge => ?_, fun hlt => ?_⟩, fun ht => ⟨hb0, hd0, fun hge => ?_, fun hlt => ?_⟩⟩, fun he => ⟨hb0, fun y1 e1 => ⟨hd0, fun y2 e2 => ?_⟩⟩⟩
    · have : c * b < a * d := bw_lt d0 b0 (by omega)
      unfold bwB at hq
      cases t
      · rw [if_neg (by decide), decide_eq_false (by omega)] at hq; exact hq
      · exact absurd ht (by decide)
    · have : a * d < c * b := bw_lt b0 d0 (by omega)
      unfold bwB at hq
      cases t
      · rw [if_neg (by decide), decide_eq_true this] at hq; exact hq
      · exact absurd ht (by decide)
    · have : a * d < c * b := bw_lt b0 d0 (by omega)
      unfold bwB at hq
      cases t
      · exact absurd rfl ht
      · rw [if_pos rfl, decide_eq_false (by omega)] at hq; exact hq
    · have : c * b < a * d := bw_lt d0 b0 (by omega)
      unfold bwB at hq
      cases t
      · exact absurd rfl ht
      · rw [if_pos rfl, decide_eq_true this] at hq; exact hq
    · rw [iJ_rem ha hb] at e1
      rw [iJ_rem hc hd] at e2
      subst e1 e2
      obtain ⟨w1, w2⟩ := bw_eq he
      have fin : (a % b = 0 ∨ c % d = 0) → b_X12_isLess_59 Q (tI t) (iJ ((a % b : Nat) : Int)) (iJ ((c % d : Nat) : Int)) σ := by
        intro hz
        have p1 : 0 < c % d → 0 < (c % d) * b := fun h => Nat.mul_pos h b0
        have p2 : 0 < a % b → 0 < (a % b) * d := fun h => Nat.mul_pos h d0
        unfold bwB at hq
        unfold b_X12_isLess_59 b_X12_isLess_82
        rw [(iJ_z (by omega)).1, (iJ_z (by omega)).1]
        cases t
        · rw [if_neg (by decide)] at hq
          refine ⟨fun _ => ⟨fun n1 => ?_, fun z1 => ⟨fun z2 => ?_, fun n2 => ?_⟩⟩, fun q => absurd rfl q⟩
          · have z2 : c % d = 0 := by omega
            rw [decide_eq_false (by rw [w1, z2]; omega)] at hq; exact hq
          · rw [decide_eq_false (by rw [w1, z2]; omega)] at hq; exact hq
          · rw [decide_eq_true (by rw [w1, z1]; have := p1 (by omega); omega)] at hq; exact hq
        · rw [if_pos rfl] at hq
          refine ⟨fun q => absurd q (by decide), fun _ => ⟨fun n1 => ?_, fun z1 => ⟨fun z2 => ?_, fun n2 => ?_⟩⟩⟩
          · have z2 : a % b = 0 := by omega
            rw [decide_eq_false (by rw [w2, z2]; omega)] at hq; exact hq
          · rw [decide_eq_false (by rw [w2, z2]; omega)] at hq; exact hq
          · rw [decide_eq_true (by rw [w2, z1]; have := p2 (by omega); omega)] at hq; exact hq
      rw [(iJ_z (by omega)).1, (iJ_z (by omega)).1]
      refine ⟨fun z => fin (Or.inl z), fun n1 => ⟨fun n2 => ?_, fun z => fin (Or.inr z)⟩⟩
      rw [← bw_st he] at hq
      have := ih b (a % b) d (c % d) (!t) hb (by omega) hd (by omega) (by omega) (by omega) (by omega) hq
      cases t
      · exact ⟨fun q => absurd rfl q, fun _ => this⟩
      · exact ⟨fun _ => this, fun q => absurd q (by decide)⟩
/-- a fraction and the same without a common divisor -/
theorem bw_red {a b c d g k : Nat} (hg : 0 < g) (hk : 0 < k) (ga : g ∣ a) (gb : g ∣ b) (kc : k ∣ c) (kd : k ∣ d) : bwB false (a / g) (b / g) (c / k) (d / k) = bwB false a b c d := by
  obtain ⟨a, rfl⟩ := ga
  obtain ⟨b, rfl⟩ := gb
  obtain ⟨c, rfl⟩ := kc
  obtain ⟨d, rfl⟩ := kd
  unfold bwB
  rw [if_neg (by decide), if_neg (by decide), decide_eq_decide, Nat.mul_div_cancel_left a hg, Nat.mul_div_cancel_left b hg, Nat.mul_div_cancel_left c hk, Nat.mul_div_cancel_left d hk]
  have e1 : g * a * (k * d) = g * k * (a * d) := by rw [Nat.mul_assoc, Nat.mul_left_comm a, ← Nat.mul_assoc]
  have e2 : k * c * (g * b) = g * k * (c * b) := by rw [Nat.mul_comm g k, Nat.mul_assoc, Nat.mul_left_comm c, ← Nat.mul_assoc]
  rw [e1, e2]
  exact (Nat.mul_lt_mul_left (Nat.mul_pos hg hk)).symm
