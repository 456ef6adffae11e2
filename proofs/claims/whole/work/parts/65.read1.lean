/-! READING a tape: signs, blanks, numbers -/
def tpk (T : TP) : Prop := T.1 ≤ 240 ∧ ∀ k, k < T.1 → ∃ b, 1 ≤ b ∧ b < 256 ∧ T.2 k = bI b
def chr (T : TP) (a : Nat) : Int32 := if a < T.1 then T.2 a &&& 255 else -1
theorem bI_ok {b : Nat} (hb : b < 256) : bI b &&& 255 = nI b ∧ (bI b = 32 ↔ nI b = 32) := by
  have h : ∀ b, b < 256 → bI b &&& 255 = nI b ∧ (bI b = 32 ↔ nI b = 32) := by decide +kernel
  exact h b hb
theorem chr_ge {T : TP} {a : Nat} (h : T.1 ≤ a) : chr T a = -1 := by unfold chr; rw [if_neg (by omega)]
theorem chr_lt {T : TP} {a : Nat} (hT : tpk T) (h : a < T.1) : ∃ b, 1 ≤ b ∧ b < 256 ∧ chr T a = nI b ∧ (T.2 a = 32 ↔ chr T a = 32) := by
  obtain ⟨b, b1, b2, b3⟩ := hT.2 a h
  have e : chr T a = nI b := by unfold chr; rw [if_pos h, b3]; exact (bI_ok b2).1
  exact ⟨b, b1, b2, e, by rw [e, b3]; exact (bI_ok b2).2⟩
theorem chr_in {T : TP} {a : Nat} (h : ¬ chr T a = -1) : a < T.1 := by
  rcases Nat.lt_or_ge a T.1 with q | q
  · exact q
  · exact absurd (chr_ge q) h
theorem chr_m1 {T : TP} {a : Nat} (hT : tpk T) : chr T a = -1 ↔ T.1 ≤ a := by
  refine ⟨fun h => ?_, chr_ge⟩
  rcases Nat.lt_or_ge a T.1 with q | q
  · obtain ⟨b, b1, b2, b3, -⟩ := chr_lt hT q
    rw [b3] at h
    exact absurd h (nI_m1 (by omega))
  · exact q
def skf (T : TP) : Nat → Nat → Nat
  | 0, a => a
  | f + 1, a => if chr T a = 32 then skf T f (a + 1) else a
def sk (T : TP) (a : Nat) : Nat := skf T (T.1 - a) a
theorem sk_id {T : TP} {a : Nat} (h : ¬ chr T a = 32) : sk T a = a := by
  unfold sk
  cases T.1 - a with
  | zero => rfl
  | succ f => rw [skf, if_neg h]
theorem sk_st {T : TP} {a : Nat} (h : chr T a = 32) : sk T a = sk T (a + 1) := by
  have ha : a < T.1 := chr_in (by rw [h]; decide)
  unfold sk
  obtain ⟨f, hf⟩ : ∃ f, T.1 - a = f + 1 := ⟨T.1 - a - 1, by omega⟩
  rw [hf, skf, if_pos h, show T.1 - (a + 1) = f by omega]
theorem sk_ok {T : TP} {a : Nat} (ha : a ≤ T.1) : a ≤ sk T a ∧ sk T a ≤ T.1 ∧ ¬ chr T (sk T a) = 32 := by
  obtain ⟨f, hf⟩ : ∃ f, T.1 - a = f := ⟨_, rfl⟩
  induction f generalizing a with
  | zero =>
    have : ¬ chr T a = 32 := by rw [chr_ge (by omega)]; decide
    rw [sk_id this]
    exact ⟨Nat.le_refl _, ha, this⟩
  | succ f ih =>
    by_cases h : chr T a = 32
    · rw [sk_st h]
      obtain ⟨i1, i2, i3⟩ := ih (a := a + 1) (by omega) (by omega)
      exact ⟨by omega, i2, i3⟩
    · rw [sk_id h]
      exact ⟨Nat.le_refl _, ha, h⟩
theorem sk_sk {T : TP} {a : Nat} (ha : a ≤ T.1) : sk T (sk T a) = sk T a := sk_id (sk_ok ha).2.2
def isd (T : TP) (a : Nat) : Bool := decide (¬ chr T a < 48 ∧ ¬ 57 < chr T a)
def dv (T : TP) (a : Nat) : Nat := (chr T a).toInt.toNat - 48
theorem isd_ok {T : TP} {a : Nat} (hT : tpk T) (h : isd T a = true) : a < T.1 ∧ dv T a ≤ 9 ∧ chr T a = nI (48 + dv T a) := by
  unfold isd at h
  rw [decide_eq_true_eq] at h
  have ha : a < T.1 := chr_in (fun q => by rw [q] at h; exact h.1 (by decide))
  obtain ⟨b, b1, b2, b3, -⟩ := chr_lt hT ha
  have e1 : (nI b < 48) ↔ b < 48 := nI_ltI (b := 48) (by omega) (by decide)
  have e2 : ((57 : Int32) < nI b) ↔ 57 < b := nI_ltI (a := 57) (by decide) (by omega)
  rw [b3, e1, e2] at h
  have ed : dv T a = b - 48 := by unfold dv; rw [b3, nI_toInt (by omega), Int.toNat_natCast]
  exact ⟨ha, by omega, by rw [b3, ed]; congr 1; omega⟩
theorem isd_0 {T : TP} {a : Nat} (h : isd T a = false) : chr T a < 48 ∨ (¬ chr T a < 48 ∧ 57 < chr T a) := by
  unfold isd at h
  rw [decide_eq_false_iff_not] at h
  by_cases q : chr T a < 48
  · exact Or.inl q
  · refine Or.inr ⟨q, Classical.byContradiction fun n => h ⟨q, n⟩⟩
theorem isd_1 {T : TP} {a : Nat} (h : isd T a = true) : ¬ chr T a < 48 ∧ ¬ 57 < chr T a := by
  unfold isd at h
  rwa [decide_eq_true_eq] at h
def dgl (T : TP) : Nat → Nat → Nat → Nat → Nat × Nat × Nat
  | 0, a, v, d => (a, v, d)
  | f + 1, a, v, d => if isd T a then dgl T f (a + 1) (10 * v + dv T a) (d + 1) else (a, v, d)
theorem dgl_ok {T : TP} (hT : tpk T) : ∀ (f a v d k : Nat), a ≤ T.1 → v < 10 ^ k → (dgl T f a v d).1 ≤ T.1 ∧ a ≤ (dgl T f a v d).1 ∧ (dgl T f a v d).1 = a + ((dgl T f a v d).2.2 - d) ∧ d ≤ (dgl T f a v d).2.2 ∧ (dgl T f a v d).2.1 < 10 ^ (k + f) ∧ (dgl T f a v d).2.2 ≤ d + f := by
  intro f
  induction f with
  | zero =>
    intro a v d k ha hv
    exact ⟨ha, Nat.le_refl _, by show a = a + (d - d); omega, Nat.le_refl _, hv, Nat.le_refl _⟩
  | succ f ih =>
    intro a v d k ha hv
    rw [dgl]
    split
    · rename_i h
      obtain ⟨h1, h2, h3⟩ := isd_ok hT h
      have hp : 10 ^ (k + 1) = 10 * 10 ^ k := by rw [Nat.pow_succ]; omega
      obtain ⟨i1, i2, i3, i4, i5, i6⟩ := ih (a + 1) (10 * v + dv T a) (d + 1) (k + 1) (by omega) (by omega)
      rw [show k + (f + 1) = k + 1 + f by omega]
      exact ⟨i1, by omega, by omega, by omega, i5, by omega⟩
    · have hp : 10 ^ k ≤ 10 ^ (k + (f + 1)) := Nat.pow_le_pow_right (by decide) (by omega)
      exact ⟨ha, Nat.le_refl _, by show a = a + (d - d); omega, Nat.le_refl _, Nat.lt_of_lt_of_le hv hp, by show d ≤ _; omega⟩
def sgn (ng : Bool) (v : Nat) : Int := if ng then -(v : Int) else (v : Int)
def nm2 (T : TP) (ng : Bool) (l m : Int) (R : Nat × Nat × Nat) : Nat × Option Int := if R.2.2 = 0 then (R.1, none) else if isd T R.1 = true then (R.1, none) else if l ≤ sgn ng R.2.1 ∧ sgn ng R.2.1 ≤ m then (R.1, some (sgn ng R.2.1)) else (R.1 - 1, none)
def nga (T : TP) (a : Nat) : Nat := if chr T (sk T a) = 45 then sk T a + 1 else sk T a
def num (T : TP) (a : Nat) (l m : Int) : Nat × Option Int := nm2 T (decide (chr T (sk T a) = 45)) l m (dgl T 3 (nga T a) 0 0)
theorem nga_le {T : TP} {a : Nat} (ha : a ≤ T.1) : nga T a ≤ T.1 := by
  have := (sk_ok ha).2.1
  unfold nga
  split
  · rename_i h
    have : sk T a < T.1 := chr_in (by rw [h]; decide)
    omega
  · exact this
theorem num_ok {T : TP} (hT : tpk T) {a : Nat} (ha : a ≤ T.1) (l m : Int) : (num T a l m).1 ≤ T.1 ∧ ∀ v, (num T a l m).2 = some v → l ≤ v ∧ v ≤ m := by
  obtain ⟨d1, d2, d3, d4, d5, d6⟩ := dgl_ok hT 3 (nga T a) 0 0 0 (nga_le ha) (by decide)
  unfold num nm2
  split
  · exact ⟨d1, fun v h => by cases h⟩
  · split
    · exact ⟨d1, fun v h => by cases h⟩
    · split
      · rename_i h
        exact ⟨d1, fun v hv => by rw [← Option.some.inj hv]; exact h⟩
      · exact ⟨by show _ - 1 ≤ _; omega, fun v h => by cases h⟩
/-! the class -/
def RK (σ τ : wS) : Prop := (∀ i, i ≠ 3 → τ.1 i = σ.1 i) ∧ τ.1 3 3 = σ.1 3 3
theorem RK.rf {σ : wS} : RK σ σ := ⟨fun _ _ => rfl, rfl⟩
theorem RK.tr {σ τ ρ : wS} (h1 : RK σ τ) (h2 : RK τ ρ) : RK σ ρ := ⟨fun i hi => (h2.1 i hi).trans (h1.1 i hi), h2.2.trans h1.2⟩
theorem RK.up {σ τ : wS} {k : Nat} {x : Int32} (h : RK σ τ) (hk : k ≠ 3) : RK σ (upI τ 3 k x) := by
  refine ⟨fun i hi => ?_, ?_⟩
  · show (setI τ 3 _).1 i = _
    rw [(setI_ne hi).1]; exact h.1 i hi
  · rw [upI_1, if_neg (by omega)]; exact h.2
theorem RK.cT {T : TP} {σ τ : wS} (h : RK σ τ) (hT : cT T σ) : cT T τ := hT.mv (h.1 1 (by decide)) (h.1 2 (by decide))
theorem nI_n0 {a : Nat} (h : a < 2 ^ 31) : ¬ nI a < 0 := by rw [xlt0, nI_toInt h]; omega
theorem s_sign {T : TP} {a : Nat} {σ : wS} {Q : Int32 → wS → Prop} (hT : tpk T) (hC : cT T σ) (ha : a ≤ T.1) (h3 : σ.1 3 1 = nI a) : w_X7_sign σ Q = Q (chr T a) σ := by
  have h240 := hT.1
  unfold w_X7_sign
  rw [h3, hC.1, nI_leI (by omega) (by omega), nI_clamp (by omega)]
  have n0 := nI_n0 (a := a) (by omega)
  rcases Nat.lt_or_ge a T.1 with q | q
  · have e : chr T a = T.2 a &&& 255 := by unfold chr; rw [if_pos q]
    rw [hC.2 a q, e]
    apply propext
    exact ⟨fun h => ((h.2 n0).2 (by omega)).2, fun h => ⟨fun z => absurd z n0, fun _ => ⟨fun z => by omega, fun _ => ⟨vp_in_nI (by omega) (by decide), h⟩⟩⟩⟩
  · rw [chr_ge q]
    apply propext
    exact ⟨fun h => (h.2 n0).1 q, fun h => ⟨fun z => absurd z n0, fun _ => ⟨fun _ => h, fun z => absurd q z⟩⟩⟩
theorem s_skip {T : TP} {a : Nat} {σ : wS} {Q : wS → Prop} (hT : tpk T) (hC : cT T σ) (ha : a ≤ T.1) (h3 : σ.1 3 1 = nI a) (hq : ∀ τ : wS, RK σ τ → τ.1 3 1 = nI (sk T a) → Q τ) : w_X7_skipBlanks σ Q := by
  have h240 := hT.1
  refine ⟨T.1 + 1 - a, ?_⟩
  have key : ∀ (f a : Nat) (ρ : wS), a + f = T.1 + 1 → a ≤ T.1 → RK σ ρ → ρ.1 3 1 = nI a → (∀ τ : wS, RK σ τ → τ.1 3 1 = nI (sk T a) → Q τ) → l_X7_skipBlanks_0 Q f ρ := by
    intro f
    induction f with
    | zero => intro a ρ h1 h2; exfalso; omega
    | succ f ih =>
      intro a ρ h1 h2 K1 e3 hq
      have C1 := K1.cT hC
      rw [l_X7_skipBlanks_0, e3, C1.1, nI_leI (by omega) (by omega), nI_clamp (by omega)]
      refine ⟨fun z => absurd z (nI_n0 (by omega)), fun _ => ⟨fun q => ?_, fun q => ⟨vp_in_nI (by omega) (by decide), ?_⟩⟩⟩
      · rw [sk_id (by rw [chr_ge q]; decide)] at hq
        exact hq ρ K1 e3
      · obtain ⟨b, b1, b2, b3, b4⟩ := chr_lt hT (show a < T.1 by omega)
        rw [C1.2 a (by omega), b4]
        refine ⟨fun n => ?_, fun y s1 e1 => ?_⟩
        · rw [sk_id n] at hq
          exact hq ρ K1 e3
        · rw [sk_st y] at hq
          refine ih (a + 1) s1 (by omega) (by omega) (by rw [e1]; exact K1.up (by decide)) (by rw [e1, upI_1]; simp; exact nI_1 a) hq
  exact key (T.1 + 1 - a) a σ (by omega) ha RK.rf h3 hq
theorem s_look {T : TP} {a : Nat} {σ : wS} {Q : Int32 → wS → Prop} (hT : tpk T) (hC : cT T σ) (ha : a ≤ T.1) (h3 : σ.1 3 1 = nI a) (hq : ∀ τ : wS, RK σ τ → τ.1 3 1 = nI (sk T a) → Q (chr T (sk T a)) τ) : w_X7_skipBlanks σ (fun s1 => w_X7_sign s1 Q) := by
  refine s_skip hT hC ha h3 (fun τ K1 e1 => ?_)
  rw [s_sign hT (K1.cT hC) (sk_ok ha).2.1 e1]
  exact hq τ K1 e1
theorem s_dgl {T : TP} {σ : wS} {x1 x2 x4 : Int32} {Q : Int32 → wS → Prop} (hT : tpk T) (hC : cT T σ) : ∀ (f a v d : Nat) (ρ : wS), d + f = 3 → a ≤ T.1 → v < 10 ^ d → RK σ ρ → ρ.1 3 1 = nI a → (∀ τ : wS, RK σ τ → τ.1 3 1 = nI (dgl T f a v d).1 → b_X7_readNumber_99 Q x1 x2 (chr T (dgl T f a v d).1) x4 (nI (dgl T f a v d).2.1) (nI (dgl T f a v d).2.2) τ) → l_X7_readNumber_48 Q (f + 1) x1 x2 (chr T a) x4 (nI v) (nI d) ρ := by
  have h240 := hT.1
  intro f
  induction f with
  | zero =>
    intro a v d ρ hd ha hv K1 e1 hq
    have e3 : ((3 : Int32) ≤ nI d) ↔ 3 ≤ d := nI_leI (a := 3) (by decide) (by omega)
    rw [l_X7_readNumber_48, e3]
    exact ⟨fun _ => hq ρ K1 e1, fun q => absurd (by omega) q⟩
  | succ f ih =>
    intro a v d ρ hd ha hv K1 e1 hq
    have e3 : ((3 : Int32) ≤ nI d) ↔ 3 ≤ d := nI_leI (a := 3) (by decide) (by omega)
    rw [l_X7_readNumber_48, e3]
    refine ⟨fun q => by omega, fun _ => ?_⟩
    cases hi : isd T a
    · rw [dgl, hi] at hq
      have hq := hq ρ K1 e1
      rcases isd_0 hi with q | ⟨q1, q2⟩
      · exact ⟨fun _ => hq, fun n => absurd q n⟩
      · exact ⟨fun z => absurd z q1, fun _ => ⟨fun _ => hq, fun n => absurd q2 n⟩⟩
    · obtain ⟨h1, h2, h3⟩ := isd_ok hT hi
      obtain ⟨q1, q2⟩ := isd_1 hi
      have hp : 10 ^ (d + 1) = 10 * 10 ^ d := by rw [Nat.pow_succ]; omega
      refine ⟨fun z => absurd z q1, fun _ => ⟨fun z => absurd z q2, fun _ y1 ey1 y2 ey2 s3 es => ?_⟩⟩
      have K2 : RK σ s3 := by rw [es]; exact K1.up (by decide)
      have e2 : s3.1 3 1 = nI (a + 1) := by rw [es, upI_1]; simp; rw [e1]; exact nI_1 a
      have ev : y1 = nI (10 * v + dv T a) := by
        rw [ey1, h3, show (10 : Int32) = nI 10 from rfl, pk_mul, nI_add, show (48 : Int32) = nI 48 from rfl, iI_n, iI_n, iI_sub, iI_n]
        congr 1; omega
      rw [s_sign hT (K2.cT hC) (by omega) e2, ev, ey2, nI_1]
      rw [dgl, hi] at hq
      exact ih (a + 1) (10 * v + dv T a) (d + 1) s3 (by omega) (by omega) (by omega) K2 e2 hq
theorem s_num {T : TP} {a : Nat} {l m : Int} {σ : wS} {Q : Int32 → wS → Prop} (hT : tpk T) (hC : cT T σ) (ha : a ≤ T.1) (h3 : σ.1 3 1 = nI a) (hl : l.natAbs < 2 ^ 31) (hm : m.natAbs < 2 ^ 31)
    (hq0 : ∀ τ : wS, (num T a l m).2 = none → RK σ τ → τ.1 3 1 = nI (num T a l m).1 → Q 0 τ) (hq1 : ∀ (τ : wS) (v : Int), (num T a l m).2 = some v → RK σ τ → τ.1 3 1 = nI (num T a l m).1 → τ.1 3 2 = iI v → Q 1 τ) : w_X7_readNumber (iI l) (iI m) σ Q := by
  have h240 := hT.1
  have hs := (sk_ok ha).2.1
  refine s_look hT hC ha h3 (fun τ K1 e1 => ?_)
  have go : ∀ (ng : Bool) (ρ : wS), ng = decide (chr T (sk T a) = 45) → RK σ ρ → ρ.1 3 1 = nI (nga T a) → b_X7_readNumber_42 Q (iI l) (iI m) (chr T (nga T a)) (tI ng) ρ := by
    intro ng ρ hng K2 e2
    refine ⟨4, s_dgl hT hC 3 (nga T a) 0 0 ρ rfl (nga_le ha) (by decide) K2 e2 (fun s4 K4 e4 => ?_)⟩
    obtain ⟨d1, d2, d3, d4, d5, d6⟩ := dgl_ok hT 3 (nga T a) 0 0 0 (nga_le ha) (by decide)
    unfold num nm2 at hq0 hq1
    rw [← hng] at hq0 hq1
    generalize dgl T 3 (nga T a) 0 0 = R at d1 d2 d3 d4 d5 d6 hq0 hq1 e4 ⊢
    obtain ⟨ra, rv, rd⟩ := R
    simp only at d1 d2 d3 d4 d5 d6 hq0 hq1 e4 ⊢
    have er : nI rd = 0 ↔ rd = 0 := nI_eq (b := 0) (by omega) (by decide)
    unfold b_X7_readNumber_99
    rw [er]
    refine ⟨fun z => ?_, fun nz => ?_⟩
    · rw [if_pos z] at hq0
      exact hq0 s4 rfl K4 e4
    · rw [if_neg nz] at hq0 hq1
      cases hi : isd T ra
      · rw [hi, if_neg (by decide)] at hq0 hq1
        have ev : ∀ z : Int32, z = iI (sgn ng rv) → b_X7_readNumber_132 Q (iI l) (iI m) z s4 := by
          intro z hz s1 es
          have hb : (sgn ng rv).natAbs < 2 ^ 31 := by unfold sgn; split <;> omega
          have e5 : s1.1 3 2 = iI (sgn ng rv) := by rw [es, upI_1]; simp; exact hz
          have K5 : RK σ s1 := by rw [es]; exact K4.up (by decide)
          have e6 : s1.1 3 1 = nI ra := by rw [es, upI_1]; simp; exact e4
          rw [e5, iI_lt hb hl, iI_le hb hm]
          have bad : ¬ (l ≤ sgn ng rv ∧ sgn ng rv ≤ m) → b_X7_readNumber_151 Q s1 := by
            intro hn s6 es6
            rw [if_neg hn] at hq0
            refine hq0 s6 rfl (by rw [es6]; exact K5.up (by decide)) ?_
            rw [es6, upI_1]
            simp
            rw [e6, show (1 : Int32) = iI 1 by decide, iI_n, iI_sub, iI_n]
            congr 1; omega
          refine ⟨fun q => bad (by omega), fun q => ⟨fun q2 => ?_, fun q2 => bad (by omega)⟩⟩
          rw [if_pos (by omega)] at hq1
          exact hq1 s1 _ rfl K5 e6 e5
        have g118 : b_X7_readNumber_118 Q (iI l) (iI m) (tI ng) (nI rv) s4 := by
          unfold b_X7_readNumber_118
          cases ng
          · exact ⟨fun _ => ev _ (by rw [iI_n]; rfl), fun q => absurd rfl q⟩
          · exact ⟨fun q => absurd q (by decide), fun _ => ev _ (by rw [iI_n, iI_neg]; rfl)⟩
        rcases isd_0 hi with q | ⟨q1, q2⟩
        · exact ⟨fun _ => g118, fun n => absurd q n⟩
        · exact ⟨fun z => absurd z q1, fun _ => ⟨fun _ => g118, fun n => absurd q2 n⟩⟩
      · rw [hi, if_pos rfl] at hq0
        obtain ⟨q1, q2⟩ := isd_1 hi
        exact ⟨fun z => absurd z q1, fun _ => ⟨fun z => absurd z q2, fun _ => hq0 s4 rfl K4 e4⟩⟩
  refine ⟨fun n => ⟨fun _ => ?_, fun q => absurd rfl q⟩, fun y => ⟨fun q => absurd q (by decide), fun _ s1 es => ?_⟩⟩
  · have : nga T a = sk T a := by unfold nga; rw [if_neg n]
    have g := go false τ (decide_eq_false n).symm K1 (by rw [this]; exact e1)
    rw [this] at g
    exact g
  · have e : nga T a = sk T a + 1 := by unfold nga; rw [if_pos y]
    have K2 : RK σ s1 := by rw [es]; exact K1.up (by decide)
    have e2 : s1.1 3 1 = nI (nga T a) := by rw [es, upI_1]; simp; rw [e1, e]; exact nI_1 _
    rw [s_sign hT (K2.cT hC) (nga_le ha) e2]
    exact go true s1 (decide_eq_true y).symm K2 e2
/-! the model -/
def MK (σ τ : wS) : Prop := (∀ i, i ≠ 176 → τ.1 i = σ.1 i) ∧ ∀ k, k ≠ 3 → k ≠ 4 → τ.1 176 k = σ.1 176 k
theorem MK.rf {σ : wS} : MK σ σ := ⟨fun _ _ => rfl, fun _ _ _ => rfl⟩
theorem MK.tr {σ τ ρ : wS} (h1 : MK σ τ) (h2 : MK τ ρ) : MK σ ρ := ⟨fun i hi => (h2.1 i hi).trans (h1.1 i hi), fun k a b => (h2.2 k a b).trans (h1.2 k a b)⟩
theorem MK.up {σ τ : wS} {k : Nat} {x : Int32} (h : MK σ τ) (hk : k = 3 ∨ k = 4) : MK σ (upI τ 176 k x) := by
  refine ⟨fun i hi => ?_, fun j h3 h4 => ?_⟩
  · show (setI τ 176 _).1 i = _
    rw [(setI_ne hi).1]; exact h.1 i hi
  · rw [upI_1, if_neg (by omega)]; exact h.2 j h3 h4
theorem MK.tp {T : TP} {σ τ : wS} (h : MK σ τ) (hT : dT T σ) : dT T τ := by
  unfold dT at hT ⊢
  rw [h.2 2 (by decide) (by decide), h.1 177 (by decide)]
  exact hT
theorem m_here {T : TP} {a : Nat} {σ : wS} {Q : Int32 → wS → Prop} (hT : tpk T) (hC : dT T σ) (ha : a ≤ T.1) (h3 : σ.1 176 3 = nI a) : w_X12_here σ Q = Q (chr T a) σ := by
  have h240 := hT.1
  unfold w_X12_here
  rw [h3, hC.1, nI_leI (by omega) (by omega), nI_clamp (by omega)]
  rcases Nat.lt_or_ge a T.1 with q | q
  · have e : chr T a = T.2 a &&& 255 := by unfold chr; rw [if_pos q]
    rw [hC.2 a q, e]
    apply propext
    exact ⟨fun h => (h.2 (by omega)).2, fun h => ⟨fun z => by omega, fun _ => ⟨vp_in_nI (by omega) (by decide), h⟩⟩⟩
  · rw [chr_ge q]
    apply propext
    exact ⟨fun h => h.1 q, fun h => ⟨fun _ => h, fun z => absurd q z⟩⟩
theorem m_look {T : TP} {a : Nat} {σ : wS} {Q : Int32 → wS → Prop} (hT : tpk T) (hC : dT T σ) (ha : a ≤ T.1) (h3 : σ.1 176 3 = nI a) (hq : ∀ τ : wS, MK σ τ → τ.1 176 3 = nI (sk T a) → τ.1 176 4 = σ.1 176 4 → Q (chr T (sk T a)) τ) : w_X12_look σ Q := by
  have h240 := hT.1
  refine ⟨T.1 + 1 - a, ?_⟩
  have key : ∀ (f a : Nat) (ρ : wS), a + f = T.1 + 1 → a ≤ T.1 → MK σ ρ → ρ.1 176 3 = nI a → ρ.1 176 4 = σ.1 176 4 → (∀ τ : wS, MK σ τ → τ.1 176 3 = nI (sk T a) → τ.1 176 4 = σ.1 176 4 → Q (chr T (sk T a)) τ) → l_X12_look_0 Q f ρ := by
    intro f
    induction f with
    | zero => intro a ρ h1 h2; exfalso; omega
    | succ f ih =>
      intro a ρ h1 h2 K1 e3 e4 hq
      have C1 := K1.tp hC
      rw [l_X12_look_0, m_here hT C1 h2 e3]
      refine ⟨fun n => ?_, fun y s5 e5 => ?_⟩
      · rw [m_here hT C1 h2 e3]
        rw [sk_id n] at hq
        exact hq ρ K1 e3 e4
      · have hlt : a < T.1 := chr_in (by rw [y]; decide)
        rw [sk_st y] at hq
        exact ih (a + 1) s5 (by omega) (by omega) (by rw [e5]; exact K1.up (by decide)) (by rw [e5, upI_1]; simp; rw [e3]; exact nI_1 a) (by rw [e5, upI_1]; simp; exact e4) hq
  exact key (T.1 + 1 - a) a σ (by omega) ha MK.rf h3 rfl hq
theorem m_fails {σ : wS} {a : Nat} {Q : wS → Prop} (h3 : σ.1 176 3 = nI a) (h4 : σ.1 176 4 = -1) (hq : ∀ τ : wS, MK σ τ → τ.1 176 3 = nI a → τ.1 176 4 = nI a → Q τ) : w_X12_fails σ Q := by
  refine ⟨fun n => absurd h4 n, fun _ s1 e1 => ?_⟩
  refine hq s1 (by rw [e1]; exact MK.rf.up (by decide)) (by rw [e1, upI_1]; simp; exact h3) (by rw [e1, upI_1]; simp; exact h3)
theorem m_isd {T : TP} {a : Nat} {σ : wS} {Q : Int32 → wS → Prop} (hT : tpk T) (hC : dT T σ) (ha : a ≤ T.1) (h3 : σ.1 176 3 = nI a) : w_X12_isDigit σ Q = Q (tI (isd T a)) σ := by
  unfold w_X12_isDigit
  rw [m_here hT hC ha h3, m_here hT hC ha h3]
  cases hi : isd T a
  · rcases isd_0 hi with q | ⟨q1, q2⟩
    · apply propext
      exact ⟨fun h => h.1 q, fun h => ⟨fun _ => h, fun n => absurd q n⟩⟩
    · apply propext
      exact ⟨fun h => (h.2 q1).1 q2, fun h => ⟨fun z => absurd z q1, fun _ => ⟨fun _ => h, fun n => absurd q2 n⟩⟩⟩
  · obtain ⟨q1, q2⟩ := isd_1 hi
    apply propext
    exact ⟨fun h => (h.2 q1).2 q2, fun h => ⟨fun z => absurd z q1, fun _ => ⟨fun z => absurd z q2, fun _ => h⟩⟩⟩
theorem m_dgl {T : TP} {σ : wS} {x1 x2 x3 : Int32} {Q : Int32 → wS → Prop} (hT : tpk T) (hC : dT T σ) (h4 : σ.1 176 4 = -1) : ∀ (f a v d : Nat) (ρ : wS), d + f = 3 → a ≤ T.1 → MK σ ρ → ρ.1 176 3 = nI a → ρ.1 176 4 = -1 → (∀ τ : wS, MK σ τ → τ.1 176 3 = nI (dgl T f a v d).1 → τ.1 176 4 = -1 → b_X12_number_92 Q x1 x2 x3 (nI (dgl T f a v d).2.1) τ) → l_X12_number_48 Q (f + 1) x1 x2 x3 (nI v) (nI d) ρ := by
  have h240 := hT.1
  intro f
  induction f with
  | zero =>
    intro a v d ρ hd ha K1 e1 e4 hq
    have e3 : ((3 : Int32) ≤ nI d) ↔ 3 ≤ d := nI_leI (a := 3) (by decide) (by omega)
    rw [l_X12_number_48, e3]
    exact ⟨fun _ => hq ρ K1 e1 e4, fun q => absurd (by omega) q⟩
  | succ f ih =>
    intro a v d ρ hd ha K1 e1 e4 hq
    have e3 : ((3 : Int32) ≤ nI d) ↔ 3 ≤ d := nI_leI (a := 3) (by decide) (by omega)
    rw [l_X12_number_48, e3, m_isd hT (K1.tp hC) ha e1]
    refine ⟨fun q => by omega, fun _ => ?_⟩
    cases hi : isd T a
    · rw [dgl, hi] at hq
      exact ⟨fun _ => hq ρ K1 e1 e4, fun n => absurd rfl n⟩
    · obtain ⟨h1, h2, h3⟩ := isd_ok hT hi
      refine ⟨fun z => absurd z (by decide), fun _ => ?_⟩
      rw [m_here hT (K1.tp hC) ha e1]
      intro y5 ey s6 es y7 ey7
      have ev : y5 = nI (10 * v + dv T a) := by
        rw [ey, h3, show (10 : Int32) = nI 10 from rfl, pk_mul, nI_add, show (48 : Int32) = nI 48 from rfl, iI_n, iI_n, iI_sub, iI_n]
        congr 1; omega
      rw [ev, ey7, nI_1]
      rw [dgl, hi] at hq
      exact ih (a + 1) (10 * v + dv T a) (d + 1) s6 (by omega) (by omega) (by rw [es]; exact K1.up (by decide)) (by rw [es, upI_1]; simp; rw [e1]; exact nI_1 a) (by rw [es, upI_1]; simp; exact e4) hq
theorem m_num {T : TP} {a : Nat} {l m : Int} {σ : wS} {Q : Int32 → wS → Prop} (hT : tpk T) (hC : dT T σ) (ha : a ≤ T.1) (h3 : σ.1 176 3 = nI a) (h4 : σ.1 176 4 = -1) (hl : l.natAbs < 2 ^ 31) (hm : m.natAbs < 2 ^ 31)
    (hq0 : ∀ (x : Int32) (τ : wS), (num T a l m).2 = none → MK σ τ → τ.1 176 3 = nI (num T a l m).1 → τ.1 176 4 = nI (num T a l m).1 → Q x τ) (hq1 : ∀ (τ : wS) (v : Int), (num T a l m).2 = some v → MK σ τ → τ.1 176 3 = nI (num T a l m).1 → τ.1 176 4 = -1 → Q (iI v) τ) : w_X12_number (iI l) (iI m) σ Q := by
  have h240 := hT.1
  have hs := (sk_ok ha).2.1
  refine m_look hT hC ha h3 (fun τ K1 e1 f1 => ?_)
  rw [h4] at f1
  have go : ∀ (ng : Bool) (ρ : wS), ng = decide (chr T (sk T a) = 45) → MK σ ρ → ρ.1 176 3 = nI (nga T a) → ρ.1 176 4 = -1 → b_X12_number_29 Q (iI l) (iI m) (tI ng) ρ := by
    intro ng ρ hng K2 e2 f2
    unfold b_X12_number_29
    rw [m_isd hT (K2.tp hC) (nga_le ha) e2]
    obtain ⟨d1, d2, d3, d4, d5, d6⟩ := dgl_ok hT 3 (nga T a) 0 0 0 (nga_le ha) (by decide)
    unfold num nm2 at hq0 hq1
    rw [← hng] at hq0 hq1
    cases hi0 : isd T (nga T a)
    · refine ⟨fun n => absurd rfl n, fun _ => ?_⟩
      have er : dgl T 3 (nga T a) 0 0 = (nga T a, 0, 0) := by rw [dgl, hi0]; rfl
      rw [er] at hq0
      refine m_fails e2 f2 (fun s3 K3 e3 f3 => ?_)
      exact hq0 0 s3 rfl (K2.tr K3) e3 f3
    · refine ⟨fun _ => ⟨4, ?_⟩, fun n => absurd n (by decide)⟩
      have hd1 : 1 ≤ (dgl T 3 (nga T a) 0 0).2.2 := by
        rw [dgl, hi0]
        obtain ⟨h1, h2, h3⟩ := isd_ok hT hi0
        have := (dgl_ok hT 2 (nga T a + 1) (10 * 0 + dv T (nga T a)) (0 + 1) 1 (by omega) (by omega)).2.2.2.1
        exact this
      refine m_dgl hT hC h4 3 (nga T a) 0 0 ρ rfl (nga_le ha) K2 e2 f2 (fun s4 K4 e4 f4 => ?_)
      generalize dgl T 3 (nga T a) 0 0 = R at d1 d2 d3 d4 d5 d6 hd1 hq0 hq1 e4 ⊢
      obtain ⟨ra, rv, rd⟩ := R
      simp only at d1 d2 d3 d4 d5 d6 hd1 hq0 hq1 e4 ⊢
      rw [if_neg (by omega)] at hq0 hq1
      have ev : ∀ z : Int32, z = iI (sgn ng rv) → b_X12_number_104 Q (iI l) (iI m) z s4 := by
        intro z hz
        have hb : (sgn ng rv).natAbs < 2 ^ 31 := by unfold sgn; split <;> omega
        unfold b_X12_number_104
        rw [m_isd hT (K4.tp hC) d1 e4]
        cases hi : isd T ra
        · rw [hi, if_neg (by decide)] at hq0 hq1
          refine ⟨fun _ => ?_, fun n => absurd rfl n⟩
          rw [hz, isI' (l := l) (m := m) (iI_J hl) (iI_J hm) hl hm, iI_T hb]
          by_cases hc : l ≤ sgn ng rv ∧ sgn ng rv ≤ m
          · rw [if_pos hc] at hq1 ⊢
            exact ⟨fun _ => hq1 s4 _ rfl K4 e4 f4, fun n => absurd n (by decide)⟩
          · rw [if_neg hc] at hq0 ⊢
            refine ⟨fun n => absurd rfl n, fun _ s5 e5 => ?_⟩
            have e6 : s5.1 176 3 = nI (ra - 1) := by
              rw [e5, upI_1]
              simp
              rw [e4, show (1 : Int32) = iI 1 by decide, iI_n, iI_sub, iI_n]
              congr 1; omega
            have f6 : s5.1 176 4 = -1 := by rw [e5, upI_1]; simp; exact f4
            have K5 : MK σ s5 := by rw [e5]; exact K4.up (by decide)
            refine m_fails e6 f6 (fun s6 K6 e7 f7 => ?_)
            exact hq0 _ s6 rfl (K5.tr K6) e7 f7
        · rw [hi, if_pos rfl] at hq0
          refine ⟨fun n => absurd n (by decide), fun _ => ?_⟩
          refine m_fails e4 f4 (fun s6 K6 e7 f7 => ?_)
          exact hq0 _ s6 rfl (K4.tr K6) e7 f7
      unfold b_X12_number_92
      cases ng
      · exact ⟨fun _ => ev _ (by rw [iI_n]; rfl), fun q => absurd rfl q⟩
      · exact ⟨fun q => absurd q (by decide), fun _ => ev _ (by rw [iI_n, iI_neg]; rfl)⟩
  refine ⟨fun n => ⟨fun _ => ?_, fun q => absurd rfl q⟩, fun y => ⟨fun q => absurd q (by decide), fun _ s1 es => ?_⟩⟩
  · have : nga T a = sk T a := by unfold nga; rw [if_neg n]
    exact go false τ (decide_eq_false n).symm K1 (by rw [this]; exact e1) f1
  · have e : nga T a = sk T a + 1 := by unfold nga; rw [if_pos y]
    exact go true s1 (decide_eq_true y).symm (by rw [es]; exact K1.up (by decide)) (by rw [es, upI_1]; simp; rw [e1, e]; exact nI_1 _) (by rw [es, upI_1]; simp; exact f1)
