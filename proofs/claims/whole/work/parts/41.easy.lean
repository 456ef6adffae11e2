/-! CALLS, one by one: the class' answer and the model's are one function of the state -/
theorem gok.n8 {γ : GS} {bd : Nat} (h : gok γ bd) : γ.2.1.1 ≤ 8 := by
  rcases Nat.eq_zero_or_pos γ.2.1.1 with q | q
  · omega
  · exact (h.2.2.2.2.2.2.2 q).1.1
theorem nn {x : Int32} (h0 : 0 ≤ x.toInt) : ∃ k : Nat, x = nI k ∧ (k : Int) = x.toInt ∧ k < 2 ^ 31 := by
  refine ⟨x.toInt.toNat, ?_, by omega, by have := Int32.toInt_lt x; omega⟩
  rw [iI_n, show ((x.toInt.toNat : Nat) : Int) = x.toInt by omega, ii]
theorem x0 (x : Int32) : x = 0 ↔ x.toInt = 0 := by rw [← Int32.toInt_inj]; rfl
theorem xlt0 (x : Int32) : x < 0 ↔ x.toInt < 0 := by rw [Int32.lt_iff_toInt_lt]; rfl
theorem xnle (x : Int32) {n : Nat} (hn : n < 2 ^ 31) : (nI n ≤ x ↔ (n : Int) ≤ x.toInt) ∧ (x ≤ nI n ↔ x.toInt ≤ (n : Int)) := by
  rw [Int32.le_iff_toInt_le, Int32.le_iff_toInt_le, nI_toInt hn]; exact ⟨Iff.rfl, Iff.rfl⟩
theorem isW' {x : Int32} {l m : Int} {a b : Int32} {σ : wS} {Q : Int32 → wS → Prop} (ha : a = iI l) (hb : b = iI m) (hl : l.natAbs < 2 ^ 31) (hm : m.natAbs < 2 ^ 31) : w_X11_isWithin x a b σ Q = Q (if l ≤ x.toInt ∧ x.toInt ≤ m then 1 else 0) σ := by rw [ha, hb, isW hl hm]
theorem isI' {x : Int32} {l m : Int} {a b : Int64} {σ : wS} {Q : Int32 → wS → Prop} (ha : a = iJ l) (hb : b = iJ m) (hl : l.natAbs < 2 ^ 31) (hm : m.natAbs < 2 ^ 31) : w_X12_isIn x.toInt64 a b σ Q = Q (if l ≤ x.toInt ∧ x.toInt ≤ m then 1 else 0) σ := by rw [ha, hb, isI hl hm]
theorem w0_1 {x : Int32} {σ : wS} {Q : Int32 → wS → Prop} : w_X11_isWithin x 0 1 σ Q = Q (if 0 ≤ x.toInt ∧ x.toInt ≤ 1 then 1 else 0) σ := isW (l := 0) (m := 1) (by decide) (by decide)
theorem i0_1 {x : Int32} {σ : wS} {Q : Int32 → wS → Prop} : w_X12_isIn x.toInt64 0 1 σ Q = Q (if 0 ≤ x.toInt ∧ x.toInt ≤ 1 then 1 else 0) σ := isI (l := 0) (m := 1) (by decide) (by decide)
theorem w0_2 {x : Int32} {σ : wS} {Q : Int32 → wS → Prop} : w_X11_isWithin x 0 2 σ Q = Q (if 0 ≤ x.toInt ∧ x.toInt ≤ 2 then 1 else 0) σ := isW (l := 0) (m := 2) (by decide) (by decide)
theorem i0_2 {x : Int32} {σ : wS} {Q : Int32 → wS → Prop} : w_X12_isIn x.toInt64 0 2 σ Q = Q (if 0 ≤ x.toInt ∧ x.toInt ≤ 2 then 1 else 0) σ := isI (l := 0) (m := 2) (by decide) (by decide)
theorem w0_3 {x : Int32} {σ : wS} {Q : Int32 → wS → Prop} : w_X11_isWithin x 0 3 σ Q = Q (if 0 ≤ x.toInt ∧ x.toInt ≤ 3 then 1 else 0) σ := isW (l := 0) (m := 3) (by decide) (by decide)
theorem i0_3 {x : Int32} {σ : wS} {Q : Int32 → wS → Prop} : w_X12_isIn x.toInt64 0 3 σ Q = Q (if 0 ≤ x.toInt ∧ x.toInt ≤ 3 then 1 else 0) σ := isI (l := 0) (m := 3) (by decide) (by decide)
theorem w0_4 {x : Int32} {σ : wS} {Q : Int32 → wS → Prop} : w_X11_isWithin x 0 4 σ Q = Q (if 0 ≤ x.toInt ∧ x.toInt ≤ 4 then 1 else 0) σ := isW (l := 0) (m := 4) (by decide) (by decide)
theorem i0_4 {x : Int32} {σ : wS} {Q : Int32 → wS → Prop} : w_X12_isIn x.toInt64 0 4 σ Q = Q (if 0 ≤ x.toInt ∧ x.toInt ≤ 4 then 1 else 0) σ := isI (l := 0) (m := 4) (by decide) (by decide)
theorem w0_8 {x : Int32} {σ : wS} {Q : Int32 → wS → Prop} : w_X11_isWithin x 0 8 σ Q = Q (if 0 ≤ x.toInt ∧ x.toInt ≤ 8 then 1 else 0) σ := isW (l := 0) (m := 8) (by decide) (by decide)
theorem i0_8 {x : Int32} {σ : wS} {Q : Int32 → wS → Prop} : w_X12_isIn x.toInt64 0 8 σ Q = Q (if 0 ≤ x.toInt ∧ x.toInt ≤ 8 then 1 else 0) σ := isI (l := 0) (m := 8) (by decide) (by decide)
theorem w0_999 {x : Int32} {σ : wS} {Q : Int32 → wS → Prop} : w_X11_isWithin x 0 999 σ Q = Q (if 0 ≤ x.toInt ∧ x.toInt ≤ 999 then 1 else 0) σ := isW (l := 0) (m := 999) (by decide) (by decide)
theorem i0_999 {x : Int32} {σ : wS} {Q : Int32 → wS → Prop} : w_X12_isIn x.toInt64 0 999 σ Q = Q (if 0 ≤ x.toInt ∧ x.toInt ≤ 999 then 1 else 0) σ := isI (l := 0) (m := 999) (by decide) (by decide)
theorem w0_100 {x : Int32} {σ : wS} {Q : Int32 → wS → Prop} : w_X11_isWithin x 0 100 σ Q = Q (if 0 ≤ x.toInt ∧ x.toInt ≤ 100 then 1 else 0) σ := isW (l := 0) (m := 100) (by decide) (by decide)
theorem i0_100 {x : Int32} {σ : wS} {Q : Int32 → wS → Prop} : w_X12_isIn x.toInt64 0 100 σ Q = Q (if 0 ≤ x.toInt ∧ x.toInt ≤ 100 then 1 else 0) σ := isI (l := 0) (m := 100) (by decide) (by decide)
theorem w1_3 {x : Int32} {σ : wS} {Q : Int32 → wS → Prop} : w_X11_isWithin x 1 3 σ Q = Q (if 1 ≤ x.toInt ∧ x.toInt ≤ 3 then 1 else 0) σ := isW (l := 1) (m := 3) (by decide) (by decide)
theorem i1_3 {x : Int32} {σ : wS} {Q : Int32 → wS → Prop} : w_X12_isIn x.toInt64 1 3 σ Q = Q (if 1 ≤ x.toInt ∧ x.toInt ≤ 3 then 1 else 0) σ := isI (l := 1) (m := 3) (by decide) (by decide)
theorem w1_6 {x : Int32} {σ : wS} {Q : Int32 → wS → Prop} : w_X11_isWithin x 1 6 σ Q = Q (if 1 ≤ x.toInt ∧ x.toInt ≤ 6 then 1 else 0) σ := isW (l := 1) (m := 6) (by decide) (by decide)
theorem i1_6 {x : Int32} {σ : wS} {Q : Int32 → wS → Prop} : w_X12_isIn x.toInt64 1 6 σ Q = Q (if 1 ≤ x.toInt ∧ x.toInt ≤ 6 then 1 else 0) σ := isI (l := 1) (m := 6) (by decide) (by decide)
theorem w1_40 {x : Int32} {σ : wS} {Q : Int32 → wS → Prop} : w_X11_isWithin x 1 40 σ Q = Q (if 1 ≤ x.toInt ∧ x.toInt ≤ 40 then 1 else 0) σ := isW (l := 1) (m := 40) (by decide) (by decide)
theorem i1_40 {x : Int32} {σ : wS} {Q : Int32 → wS → Prop} : w_X12_isIn x.toInt64 1 40 σ Q = Q (if 1 ≤ x.toInt ∧ x.toInt ≤ 40 then 1 else 0) σ := isI (l := 1) (m := 40) (by decide) (by decide)
/-- a switch on 0 or not -/
theorem sw {A B : Prop} {c : Prop} [Decidable c] (h1 : c → A) (h2 : ¬ c → B) : (((if c then (1 : Int32) else 0) = 0 → B) ∧ (¬ (if c then (1 : Int32) else 0) = 0 → A)) := by
  by_cases hc : c
  · rw [if_pos hc]; exact ⟨fun q => absurd q (by decide), fun _ => h1 hc⟩
  · rw [if_neg hc]; exact ⟨fun _ => h2 hc, fun q => absurd rfl q⟩
theorem sw' {A B : Prop} {c : Prop} [Decidable c] (h1 : c → A) (h2 : ¬ c → B) : ((¬ (if c then (1 : Int32) else 0) = 0 → A) ∧ ((if c then (1 : Int32) else 0) = 0 → B)) := ⟨(sw h1 h2).2, (sw h1 h2).1⟩
theorem s_hasM {γ : GS} {bd : Nat} {σ : wS} {Q : Int32 → wS → Prop} (hg : gok γ bd) (hC : C γ σ) : w_X11_hasMooring σ Q = Q (if 0 < γ.2.1.1 then 1 else 0) σ := by
  have h8 := hg.n8
  have e : (σ.1 (mo (σ.1 0 2)) 6 ≤ 0) ↔ ¬ 0 < γ.2.1.1 := by
    rw [hC.2.1.2.1, show (0 : Int32) = nI 0 from rfl, nI_leI (by omega) (by decide)]; omega
  unfold w_X11_hasMooring
  rw [e]
  by_cases h : 0 < γ.2.1.1
  · simp [h]
  · simp [h]
abbrev rpe (n : Nat) (x : Int32) : Prop := 0 ≤ x.toInt ∧ x.toInt < (n : Int)
theorem s_isRope {γ : GS} {bd : Nat} {σ : wS} {x : Int32} {Q : Int32 → wS → Prop} (hg : gok γ bd) (hC : C γ σ) : w_X11_isRope x σ Q = Q (if rpe γ.2.1.1 x then 1 else 0) σ := by
  have h8 := hg.n8
  unfold w_X11_isRope
  rw [hC.2.1.2.1, xlt0, (xnle x (by omega)).1]
  by_cases h1 : x.toInt < 0
  · simp [h1, show ¬ rpe γ.2.1.1 x by omega]
  · by_cases h2 : (γ.2.1.1 : Int) ≤ x.toInt
    · simp [h1, h2, show ¬ rpe γ.2.1.1 x by omega]
    · rw [if_pos (show rpe γ.2.1.1 x by omega)]; simp [h1, h2]
/-! count -/
def f_count (p : Int32) (γ : GS) : Int32 × GS := (if p = 0 then nI γ.2.1.1 else if p = 1 then nI γ.2.2.2.2.2.1.length else if p = 2 then nI γ.1.1 else if p = 3 then nI γ.2.2.1.2.1.length else if p = 4 then nI γ.2.2.2.1.length else -1000000, γ)
theorem min60 {N : Nat} (h : N < 2 ^ 31) : (if (60 : Int32) < nI N then (60 : Int32) else nI N) = nI (min N 60) := by
  have e : ((60 : Int32) < nI N) ↔ 60 < N := nI_ltI (a := 60) (by decide) h
  by_cases q : 60 < N
  · rw [if_pos (e.mpr q), Nat.min_eq_right (by omega)]; rfl
  · rw [if_neg (fun r => q (e.mp r)), Nat.min_eq_left (by omega)]
theorem c21 : (21 : Int32).toNatClampNeg = 21 ∧ (19 : Int32).toNatClampNeg = 19 ∧ (20 : Int32).toNatClampNeg = 20 ∧ (22 : Int32).toNatClampNeg = 22 := by decide
theorem o_count {bd : Nat} {σ : wS} {p : Int32} (hb : bd < 2 ^ 30) (hI : In bd σ) : w_X11_count p σ (fun r s => w_X12_count p s (fun r' s' => r = r' ∧ In (bd + 40) s')) := by
  refine prI (f := f_count p) (w1 := w_X11_count p) (w2 := w_X12_count p) (fun γ σ Q hC hg hq => ?_) (fun γ σ Q hD hg hq => ?_) (fun γ hg => hg.wk (by omega)) hI
  · have hq := hq σ hC Fcm.rf
    unfold f_count at hq
    unfold w_X11_count
    obtain ⟨a1, a2, a3, ⟨nx, -, -, a4, -⟩, a5, a6, a7, a8⟩ := hC
    have hN := hg.2.2.2.2.2.1
    rw [a2.2.1, a7.1, a1.1, a3.2, a4, min60 (by omega), ← a5.1.1]
    refine ⟨fun h => ?_, fun h => ?_, fun h => ?_, fun h => ?_, fun h => ?_, fun h0 h1 h2 h3 h4 => ?_⟩
    · subst h; exact hq
    · subst h; exact hq
    · subst h; exact hq
    · subst h; exact hq
    · subst h; exact hq
    · simp only [h0, h1, h2, h3, h4, if_false] at hq; exact hq
  · intro s1 e1
    have D1 : D γ s1 := by rw [e1]; exact hD.up (by decide)
    have hq := hq s1 D1 (by rw [e1]; exact Fdm.rf.up (by decide))
    unfold f_count at hq
    obtain ⟨a1, a2, ⟨-, -, -, -, -, a3, -⟩, ⟨fi, -, -, a4, -⟩, a5, a6, a7⟩ := D1
    rw [a2.1, a6.1, a1.1, c21.1, a3, a4]
    refine ⟨fun h => ?_, fun h => ?_, fun h => ?_, fun h => ?_, fun h => ?_, fun h0 h1 h2 h3 h4 => ?_⟩
    · subst h; exact hq
    · subst h; exact hq
    · subst h; exact hq
    · subst h; exact hq
    · subst h; exact hq
    · simp only [h0, h1, h2, h3, h4, if_false] at hq; exact hq
/-! status -/
def f_status (p : Int32) (γ : GS) : Int32 × GS := (if 0 ≤ p.toInt ∧ p.toInt ≤ 4 then γ.2.2.2.2.2.2.2 p.toInt.toNat else -1, γ)
theorem o_status {bd : Nat} {σ : wS} {p : Int32} (hI : In bd σ) : w_X11_status p σ (fun r s => w_X12_status p s (fun r' s' => r = r' ∧ In (bd + 40) s')) := by
  refine prI (f := f_status p) (w1 := w_X11_status p) (w2 := w_X12_status p) (fun γ σ Q hC hg hq => ?_) (fun γ σ Q hD hg hq => ?_) (fun γ hg => hg.wk (by omega)) hI
  · have hq := hq σ hC Fcm.rf
    unfold f_status at hq
    unfold w_X11_status
    rw [w0_4]
    refine sw (fun hc => ?_) (fun hc => by rw [if_neg hc] at hq; exact hq)
    rw [if_pos hc] at hq
    obtain ⟨k, rfl, hk, -⟩ := nn hc.1
    rw [nI_clamp (by omega), hC.2.2.2.2.2.2.2.2.2 k (by omega)]
    rw [← hk] at hq
    exact ⟨vp_in_nI (by omega) (by decide), hq⟩
  · intro s1 e1
    have D1 : D γ s1 := by rw [e1]; exact hD.up (by decide)
    have hq := hq s1 D1 (by rw [e1]; exact Fdm.rf.up (by decide))
    unfold f_status at hq
    rw [i0_4]
    refine sw (fun hc => ?_) (fun hc => by rw [if_neg hc] at hq; exact hq)
    rw [if_pos hc] at hq
    obtain ⟨k, rfl, hk, -⟩ := nn hc.1
    rw [nI_clamp (by omega), D1.2.2.2.2.2.2.2.2 k (by omega)]
    rw [← hk] at hq
    exact ⟨vp_in_nI (by omega) (by decide), hq⟩
/-! cause -/
def f_cause (p : Int32) (γ : GS) : Int32 × GS := (if 0 ≤ p.toInt ∧ p.toInt < (γ.2.2.2.2.2.2.1.length : Int) then γ.2.2.2.2.2.2.1.getD p.toInt.toNat 0 else -1, γ)
theorem o_cause {bd : Nat} {σ : wS} {p : Int32} (hI : In bd σ) : w_X11_cause p σ (fun r s => w_X12_cause p s (fun r' s' => r = r' ∧ In (bd + 40) s')) := by
  refine prI (f := f_cause p) (w1 := w_X11_cause p) (w2 := w_X12_cause p) (fun γ σ Q hC hg hq => ?_) (fun γ σ Q hD hg hq => ?_) (fun γ hg => hg.wk (by omega)) hI
  · have hq := hq σ hC Fcm.rf
    have hl := hg.2.2.2.1
    unfold f_cause at hq
    unfold w_X11_cause w_X8_causeAt
    obtain ⟨-, -, -, -, -, -, -, a1, a2, a3⟩ := hC
    rw [a1, xlt0, (xnle p (by omega)).1]
    refine ⟨fun h => by rw [if_neg (by omega)] at hq; exact hq, fun h => ⟨fun h2 => by rw [if_neg (by omega)] at hq; exact hq, fun h2 => ?_⟩⟩
    rw [if_pos (by omega)] at hq
    obtain ⟨k, rfl, hk, -⟩ := nn (x := p) (by omega)
    rw [← hk] at hq
    have e4 : ((4 : Int32) ≤ nI k) ↔ 4 ≤ k := nI_leI (a := 4) (by decide) (by omega)
    rw [e4]
    refine ⟨fun q => by omega, fun _ => ?_⟩
    rw [nI_clamp (by omega), a2 k (by omega)]
    exact ⟨vp_in_nI (by omega) (by decide), hq⟩
  · intro s1 e1
    have D1 : D γ s1 := by rw [e1]; exact hD.up (by decide)
    have hq := hq s1 D1 (by rw [e1]; exact Fdm.rf.up (by decide))
    have hl := hg.2.2.2.1
    unfold f_cause at hq
    obtain ⟨-, -, -, -, -, -, a1, a2, a3⟩ := D1
    have em : (s1.1 176 34 - 1).toInt64 = iJ ((γ.2.2.2.2.2.2.1.length : Int) - 1) := by
      rw [a1, iI_n, show (1 : Int32) = iI 1 by decide, iI_sub, iI_J (by omega)]
    rw [isI' (l := 0) (a := 0) rfl em (by decide) (by omega)]
    refine sw (fun hc => ?_) (fun hc => by rw [if_neg (by omega)] at hq; exact hq)
    rw [if_pos (by omega)] at hq
    obtain ⟨k, rfl, hk, -⟩ := nn (x := p) (by omega)
    rw [← hk] at hq
    rw [nI_clamp (by omega), a2 k (by omega)]
    exact ⟨vp_in_nI (by omega) (by decide), hq⟩
/-! end -/
def f_end (p : Int32) (γ : GS) : Int32 × GS := if 0 ≤ p.toInt ∧ p.toInt ≤ (γ.1.1 : Int) then (1, (p.toInt.toNat, γ.1.2), γ.2) else (0, γ)
theorem o_end {bd : Nat} {σ : wS} {p : Int32} (hI : In bd σ) : w_X11_end p σ (fun r s => w_X12_end p s (fun r' s' => r = r' ∧ In (bd + 40) s')) := by
  refine prI (f := f_end p) (w1 := w_X11_end p) (w2 := w_X12_end p) (fun γ σ Q hC hg hq => ?_) (fun γ σ Q hD hg hq => ?_) (fun γ hg => ?_) hI
  · have hl := hg.1.1
    unfold f_end at hq
    unfold w_X11_end
    rw [hC.1.1, xlt0, (xnle p (by omega)).2]
    refine ⟨fun h => by rw [if_neg (by omega)] at hq; exact hq σ hC Fcm.rf, fun h => ⟨fun h2 s1 e1 => ?_, fun h2 => by rw [if_neg (by omega)] at hq; exact hq σ hC Fcm.rf⟩⟩
    rw [if_pos (by omega)] at hq
    obtain ⟨k, rfl, hk, -⟩ := nn (x := p) (by omega)
    rw [← hk] at hq
    refine hq s1 ?_ (by rw [e1]; exact Fcm.rf.up (by decide))
    obtain ⟨a1, a2, a3, a4, a5, a6, a7, a8⟩ := hC
    have ef : ∀ i, i ≠ 1 → s1.1 i = σ.1 i := fun i hi => by rw [e1]; exact (setI_ne hi).1
    refine ⟨⟨by rw [e1, upI_1]; simp, fun j hj => by rw [ef 2 (by decide)]; exact a1.2 j (by simp at hj; omega)⟩, a2.mv (by rw [ef 0 (by decide)]; exact ⟨rfl, rfl⟩) (fun i h1 h2 => ef i (by omega)), a3.mv (fun j h1 h2 => ef j (by omega)), a4.mv (ef 50 (by decide)) (fun i h1 h2 => ef i (by omega)), a5.mv (ef 49 (by decide)), a6.mv (by rw [ef 0 (by decide)]) (fun i h1 h2 => ef i (by omega)) (ef 55 (by decide)), a7.mv hg.2.2.1.1 (by rw [ef 0 (by decide)]) (fun i h1 h2 => ef i (by omega)), a8.mv (ef 52 (by decide)) (ef 53 (by decide)) (ef 54 (by decide))⟩
  · intro s1 e1
    have D1 : D γ s1 := by rw [e1]; exact hD.up (by decide)
    have F1 : Fdm σ s1 := by rw [e1]; exact Fdm.rf.up (by decide)
    have hl := hg.1.1
    unfold f_end at hq
    rw [D1.1.1, xlt0, (xnle p (by omega)).2]
    refine ⟨fun h => by rw [if_neg (by omega)] at hq; exact hq s1 D1 F1, fun h => ⟨fun h2 s2 e2 => ?_, fun h2 => by rw [if_neg (by omega)] at hq; exact hq s1 D1 F1⟩⟩
    rw [if_pos (by omega)] at hq
    obtain ⟨k, rfl, hk, -⟩ := nn (x := p) (by omega)
    rw [← hk] at hq
    refine hq s2 ?_ (by rw [e2]; exact F1.up (by decide))
    obtain ⟨a1, a2, a3, a4, a5, a6, a7⟩ := D1
    have ef : ∀ i, i ≠ 176 → s2.1 i = s1.1 i := fun i hi => by rw [e2]; exact (setI_ne hi).1
    have ek : ∀ k, k ≠ 2 → s2.1 176 k = s1.1 176 k := fun k hk => by rw [e2, upI_1]; simp [hk]
    refine ⟨⟨by rw [e2, upI_1]; simp, fun j hj => by rw [ef 177 (by decide)]; exact a1.2 j (by simp at hj; omega)⟩, a2.mv (ek 14 (by decide)) (ef 181 (by decide)) (ef 179 (by decide)) (ef 182 (by decide)), by rw [ef 188 (by decide)]; exact a3, a4.mv (ek 23 (by decide)) (ek 24 (by decide)) (ef 191 (by decide)), a5.mv (ek 25 (by decide)) (ef 190 (by decide)), ?_, ?_⟩
    · unfold dS at a6 ⊢; rw [ek 15 (by decide), ef 184 (by decide), ef 183 (by decide)]; exact a6
    · unfold dR at a7 ⊢; rw [ek 34 (by decide), ef 197 (by decide), ef 185 (by decide)]; exact a7
  · unfold f_end
    split
    · rename_i h
      obtain ⟨h1, h2, h3, h4, h5, h6, h7⟩ := hg
      exact ⟨⟨show p.toInt.toNat ≤ 240 by omega, fun k hk => h1.2 k (by have hk : k < p.toInt.toNat := hk; omega)⟩, h2, h3, h4, h5, show γ.2.2.1.2.2 ≤ bd + 40 by omega, h7⟩
    · exact hg.wk (by omega)
