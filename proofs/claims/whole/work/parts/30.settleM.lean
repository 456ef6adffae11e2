/-! THE MODEL SETTLES (on its trial row, 189) -/
theorem vn_b : vp_nar .boolean (0 : Int32) = 0 ∧ vp_nar .boolean (1 : Int32) = 1 := by decide
theorem m_forgets {σ : wS} {Q : wS → Prop} (hq : ∀ τ : wS, Fr [195] σ τ → τ.2 = σ.2 → (∀ s, s < 256 → τ.1 195 s = 0) → Q τ) : w_X12_forgets σ Q := by
  have key : ∀ (k m : Nat) (τ : wS), m ≤ 256 → m + k = 257 → Fr [195] σ τ → τ.2 = σ.2 → (∀ j, j < m → τ.1 195 j = 0) → l_X12_forgets_2 Q k (nI m) τ := by
    intro k
    induction k with
    | zero => intro m τ h1 h2; omega
    | succ k ih =>
      intro m τ h1 h2 hF hg hz
      simp only [l_X12_forgets_2]
      refine ⟨fun hc => hq τ hF hg (fun j hj => hz j ?_), fun hc => ?_⟩
      · have := (nI_leI (a := 256) (by decide) (by omega)).mp hc
        omega
      · have hm : m < 256 := by
          rcases Nat.lt_or_ge m 256 with q | q
          · exact q
          · exact absurd (nI_le q (by omega)) hc
        rw [nI_clamp (by omega), vn_b.1]
        refine ⟨vp_in_nI hm (by decide), fun s1 e1 y e2 => ?_⟩
        rw [e2, nI_1, e1]
        refine ih (m + 1) _ (by omega) (by omega) (hF.upI (by decide)) hg (fun j hj => ?_)
        rw [upI_1]
        by_cases e : j = m
        · simp [e]
        · simp [e]; exact hz j (by omega)
  exact ⟨257, key 257 0 σ (by decide) (by decide) Fr.rf rfl (fun j hj => absurd hj (by omega))⟩
/-- bits told by a test -/
def mkm (f : Nat → Bool) : Nat → Nat
  | 0 => 0
  | n + 1 => if f n then adb (mkm f n) n else mkm f n
theorem mkm_ok {f : Nat → Bool} : ∀ {n : Nat}, n ≤ 8 → mkm f n < 256 ∧ ∀ r, (mkm f n).testBit r = (decide (r < n) && f r) := by
  intro n
  induction n with
  | zero => intro _; exact ⟨show 0 < 256 by decide, fun r => by simp [mkm]⟩
  | succ n ih =>
    intro hn
    obtain ⟨i1, i2⟩ := ih (by omega)
    rw [mkm]
    cases hf : f n
    · refine ⟨i1, fun r => ?_⟩
      simp only [Bool.false_eq_true, if_false]
      rw [i2 r]
      by_cases e : r = n
      · subst e; simp [hf]
      · congr 1
        by_cases q : r < n
        · rw [decide_eq_true q, decide_eq_true (by omega)]
        · rw [decide_eq_false q, decide_eq_false (by omega)]
    · obtain ⟨-, a2, a3⟩ := adb_ok i1 (show n < 8 by omega)
      simp only [if_true]
      refine ⟨a2, fun r => ?_⟩
      rcases Nat.lt_or_ge r 8 with q | q
      · rw [a3 r q, i2 r]
        by_cases e : r = n
        · subst e; simp [hf]
        · rw [decide_eq_false e, Bool.or_false]
          congr 1
          by_cases q : r < n
          · rw [decide_eq_true q, decide_eq_true (by omega)]
          · rw [decide_eq_false q, decide_eq_false (by omega)]
      · rw [tb_big a2 q, decide_eq_false (by omega)]; rfl
theorem v8p {r : Nat} (hr : r < 8) : vp_in ((8 : Int32) + nI r) 202 ∧ ((8 : Int32) + nI r).toNatClampNeg = 8 + r := by
  have h : ∀ r, r < 8 → vp_in ((8 : Int32) + nI r) 202 ∧ ((8 : Int32) + nI r).toNatClampNeg = 8 + r := by unfold vp_in; decide +kernel
  exact h r hr
theorem m_those {p n c : Nat} {so : Nat → Nat} {σ : wS} {Q : Int32 → wS → Prop} (hlp : ln p = 202) (hn : n ≤ 8) (hc : c < 4) (hso : ∀ r, r < n → σ.1 p (8 + r) = nI (so r) ∧ so r < 4) (hq : Q (nI (mkm (fun r => decide (so r = c)) n)) σ) : w_X12_those p (nI n) (nI c) σ Q := by
  have key : ∀ (k m : Nat), m ≤ n → m + k = n + 1 → l_X12_those_5 p Q k (nI n) (nI c) (nI (mkm (fun r => decide (so r = c)) m)) (nI m) σ := by
    intro k
    induction k with
    | zero => intro m h1 h2; omega
    | succ k ih =>
      intro m h1 h2
      simp only [l_X12_those_5]
      refine ⟨fun hc => ?_, fun hc2 => ?_⟩
      · have : m = n := by
          have := (nI_leI (by omega) (by omega)).mp hc
          omega
        subst this
        exact hq
      · have hm : m < n := by
          rcases Nat.lt_or_ge m n with q | q
          · exact q
          · exact absurd (nI_le q (by omega)) hc2
        have ih := ih (m + 1) (by omega) (by omega)
        rw [mkm] at ih
        obtain ⟨v1, v2⟩ := v8p (show m < 8 by omega)
        rw [hlp, v2, (hso m hm).1]
        refine ⟨v1, ?_⟩
        have e : (nI (so m) = nI c) ↔ so m = c := nI_eq (by have := (hso m hm).2; omega) (by omega)
        rw [e]
        refine ⟨fun hne => ?_, fun heq => ?_⟩
        · simp only [b_X12_those_31, forall_eq]
          rw [decide_eq_false hne] at ih
          rw [nI_1]
          have : nI (mkm (fun r => decide (so r = c)) m) ||| (0 : Int32) = nI (mkm (fun r => decide (so r = c)) m) := Int32.or_zero
          rw [this]
          exact ih
        · simp only [b_X12_those_31, forall_eq]
          rw [decide_eq_true heq] at ih
          rw [nI_1, (adb_ok (mkm_ok (show m ≤ 8 by omega)).1 (show m < 8 by omega)).1]
          exact ih
  exact ⟨n + 1, key (n + 1) 0 (by omega) (by omega)⟩
/-- what a rope is, by the sets -/
def srt (bk cs set r : Nat) : Nat := if bk.testBit r then 2 else if cs.testBit r then 3 else if set.testBit r then 0 else 1
def SL (n bk cs : Nat) (so : Nat → Nat) : Prop := ∀ r, r < n → so r < 4 ∧ bk.testBit r = decide (so r = 2) ∧ cs.testBit r = decide (so r = 3)
/-- the model's settling state -/
def MS (μ : MU) (laid wind : Nat → Int) (cs bk : Nat) (so : Nat → Nat) (ord : List Nat) (vis : Nat → Bool) (σ : wS) : Prop := MoM μ σ ∧ LwM μ.1 laid wind 189 σ ∧ (∀ r, r < μ.1 → σ.1 189 (8 + r) = nI (so r)) ∧ SL μ.1 bk cs so ∧ σ.1 176 32 = nI ord.length ∧ (∀ j, j < ord.length → σ.1 196 j = nI (ord.getD j 0)) ∧ ∀ s, s < 256 → σ.1 195 s = if vis s then 1 else 0
abbrev sM : List Nat := [189, 176, 192, 193, 194, 195, 196]
def JL (σ0 σ : wS) : Prop := Fr sM σ0 σ ∧ (∀ k, k ≠ 32 → σ.1 176 k = σ0.1 176 k) ∧ (∀ k, k ≠ 29 → σ.2 176 k = σ0.2 176 k) ∧ ∀ k, k < 8 ∨ 16 ≤ k → σ.1 189 k = σ0.1 189 k
def ME (μ : MU) (cs : Nat) (R : SR) (σ0 τ : wS) : Prop := Fr sM σ0 τ ∧ (∀ k, k ≠ 32 → τ.1 176 k = σ0.1 176 k) ∧ (∀ k, k ≠ 29 → τ.2 176 k = σ0.2 176 k) ∧ τ.1 176 32 = nI R.2.2.2.1.length ∧ (∀ j, j < R.2.2.2.1.length → τ.1 196 j = nI (R.2.2.2.1.getD j 0)) ∧ (R.1 = -1 → (∀ k, k < 8 ∨ 16 ≤ k → k ≠ 19 → k ≠ 20 → τ.1 189 k = σ0.1 189 k) ∧ τ.1 189 19 = nI R.2.2.2.2 ∧ τ.1 189 20 = σ0.1 189 20 + nI R.2.2.2.1.length ∧ ∀ r, r < μ.1 → τ.1 189 (8 + r) = nI (srt R.2.2.1 cs R.2.1 r))
theorem m_225 {μ : MU} (hμ : mu_ok μ) {laid wind : Nat → Int} {cs bk set tr : Nat} {so : Nat → Nat} {ord : List Nat} {vis : Nat → Bool} {σ0 σ : wS} {Q : Int32 → wS → Prop} (hs : set < 256) (hC : MS μ laid wind cs bk so ord vis σ) (hI : JL σ0 σ)
    (hq : ∀ τ, ME μ cs (-1, set, bk, ord, tr) σ0 τ → Q (-1) τ) : ∃ m, l_X12_settles_225 189 Q m (nI set) (nI tr) 0 σ := by
  have h8 := hμ.1
  obtain ⟨c1, c2, c3, c4, c5, c6, c7⟩ := hC
  have key : ∀ (k m : Nat) (τ : wS), m ≤ μ.1 → m + k = μ.1 + 1 → Fr [189] σ τ → τ.2 = σ.2 → (∀ j, j < 8 ∨ 8 + m ≤ j → τ.1 189 j = σ.1 189 j) → (∀ r, r < m → τ.1 189 (8 + r) = nI (srt bk cs set r)) → l_X12_settles_225 189 Q k (nI set) (nI tr) (nI m) τ := by
    intro k
    induction k with
    | zero => intro m τ h1 h2; omega
    | succ k ih =>
      intro m τ h1 h2 hF hg hK hR
      have e14 : τ.1 176 14 = nI μ.1 := by rw [(hF 176 (by decide)).1]; exact c1.1
      simp only [l_X12_settles_225, e14]
      refine ⟨fun hc => ?_, fun hc => ?_⟩
      · have hm : m = μ.1 := by
          have := (nI_leI (by omega) (by omega)).mp hc
          omega
        subst hm
        have v19 : vp_in 19 202 ∧ vp_in 20 202 := by unfold vp_in; decide
        have c19 : (19 : Int32).toNatClampNeg = 19 ∧ (20 : Int32).toNatClampNeg = 20 := by decide
        have l189 : ln 189 = 202 := rfl
        rw [c19.1, c19.2, l189]
        refine ⟨v19.1, fun s1 e1 => ⟨v19.2, v19.2, fun s2 e2 => ?_⟩⟩
        have x20 : s1.1 189 20 = σ0.1 189 20 := by rw [e1, upI_1]; simp; rw [hK 20 (by omega), hI.2.2.2 20 (by omega)]
        have x32 : s1.1 176 32 = nI ord.length := by rw [e1, upI_1]; simp; rw [(hF 176 (by decide)).1]; exact c5
        rw [x20, x32] at e2
        refine hq s2 ⟨?_, ?_, ?_, ?_, ?_, fun _ => ⟨?_, ?_, ?_, ?_⟩⟩
        · rw [e2, e1]; exact ((hI.1.tr (hF.wk (by decide))).upI (by decide)).upI (by decide)
        · intro k hk; rw [e2, e1]; simp [upI_1]; rw [(hF 176 (by decide)).1]; exact hI.2.1 k hk
        · intro k hk; rw [e2, e1, upI_2, upI_2, hg]; exact hI.2.2.1 k hk
        · rw [e2, e1]; simp [upI_1]; rw [(hF 176 (by decide)).1]; exact c5
        · intro j hj; rw [e2, e1]; simp only [upI_1]; simp; rw [(hF 196 (by decide)).1]; rw [c6 j hj]; simp
        · intro k hk h19 h20; rw [e2, e1]; simp [upI_1, h19, h20]; rw [hK k (by omega)]; exact hI.2.2.2 k hk
        · rw [e2, e1]; simp [upI_1]
        · rw [e2, e1]; simp [upI_1]
        · intro r hr; rw [e2, e1]; simp [upI_1, show 8 + r ≠ 19 by omega, show 8 + r ≠ 20 by omega]; exact hR r hr
      · have hm : m < μ.1 := by
          rcases Nat.lt_or_ge m μ.1 with q | q
          · exact q
          · exact absurd (nI_le q (by omega)) hc
        have hm8 : m < 8 := by omega
        obtain ⟨v1, v2⟩ := v8p hm8
        have l189 : ln 189 = 202 := rfl
        obtain ⟨o1, o2, o3⟩ := c4 m hm
        rw [v2, l189, hK (8 + m) (by omega), c3 m hm]
        have e2 : (2 : Int32) ≤ nI (so m) ↔ 2 ≤ so m := nI_leI (a := 2) (by decide) (by omega)
        rw [e2]
        refine ⟨v1, fun h2 => ?_, fun h2 => ?_⟩
        · simp only [b_X12_settles_266, forall_eq]
          rw [nI_1]
          refine ih (m + 1) τ (by omega) (by omega) hF hg (fun j hj => hK j (by omega)) (fun r hr => ?_)
          rcases Nat.lt_or_ge r m with q | q
          · exact hR r q
          · have : r = m := by omega
            subst this
            rw [hK (8 + r) (by omega), c3 r hm]
            unfold srt
            rw [o2, o3]
            rcases (show so r = 2 ∨ so r = 3 by omega) with q | q <;> rw [q] <;> rfl
        · rw [m_has hs hm8]
          have go : ∀ z : Nat, z = srt bk cs set m → b_X12_settles_265 189 (fun x2 x3 x5 σ => l_X12_settles_225 189 Q k x2 x3 x5 σ) Q (nI set) (nI tr) (nI m) (nI z) ((8 : Int32) + nI m) 189 τ := by
            intro z hz
            refine ⟨by rw [l189]; exact v1, fun s1 e1 => ?_⟩
            rw [v2] at e1
            simp only [b_X12_settles_266, forall_eq]
            rw [nI_1]
            refine ih (m + 1) s1 (by omega) (by omega) (by rw [e1]; exact hF.upI (by decide)) (by rw [e1]; exact hg) (fun j hj => ?_) (fun r hr => ?_)
            · rw [e1, upI_1]; simp [show j ≠ 8 + m by omega]; exact hK j (by omega)
            · rw [e1, upI_1]
              by_cases e : r = m
              · subst e; simp; rw [hz]
              · simp [e]; exact hR r (by omega)
          have nb : bk.testBit m = false ∧ cs.testBit m = false := by rw [o2, o3]; exact ⟨decide_eq_false (by omega), decide_eq_false (by omega)⟩
          cases hb : set.testBit m
          · exact ⟨fun _ => go 1 (by unfold srt; rw [nb.1, nb.2, hb]; rfl), fun q => absurd rfl q⟩
          · exact ⟨fun q => absurd q (by decide), fun _ => go 0 (by unfold srt; rw [nb.1, nb.2, hb]; rfl)⟩
  exact ⟨μ.1 + 1, key (μ.1 + 1) 0 σ (by omega) (by omega) Fr.rf rfl (fun _ _ => rfl) (fun r hr => absurd hr (by omega))⟩
