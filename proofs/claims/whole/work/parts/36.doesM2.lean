abbrev dW : List Nat := [189, 176, 192, 193, 194, 195, 196]
/-- behind does: res as the mathematics tells it -/
def DA (μ : MU) (res : AR) (lg : List LE) (sort : Nat) (rp : Option Nat) (σ τ : wS) : Prop := Fr dW σ τ ∧ (∀ k, k ≠ 32 → k ≠ 35 → τ.1 176 k = σ.1 176 k) ∧ (∀ k, k ≠ 29 → τ.2 176 k = σ.2 176 k) ∧ τ.1 176 35 = (if res.1 = 3 ∨ res.1 = 4 then 1 else 0) ∧ (res.1 = -1 ∨ res.1 = 3 ∨ res.1 = 4 → τ.1 176 32 = nI res.2.2.length ∧ ∀ j, j < res.2.2.length → τ.1 196 j = nI (res.2.2.getD j 0)) ∧ (res.1 = -1 → RowM μ res.2.1 (addL lg (sort, rp, msk res.2.2)) (τ.1 189))
theorem srt_SL {n set bk cs : Nat} (h : ∀ r, r < n → bk.testBit r = true → cs.testBit r = false) : SL n bk cs (srt bk cs set) := by
  intro r hr
  have hd := h r hr
  unfold srt
  cases hb : bk.testBit r
  · cases hc : cs.testBit r
    · cases set.testBit r <;> simp
    · simp
  · rw [hd hb]; simp
/-- the end of does: it settles, is noted -/
theorem d_set {μ : MU} (hμ : mu_ok μ) {laid wind : Nat → Int} {set bk cs ever t e sort : Nat} {rp : Option Nat} {x : Int32} {lg : List LE} {σ0 σ : wS} {Q : Int32 → wS → Prop} (hx : oI rp = if sort = 0 then -1 else x) (hs4 : sort < 4) (hk : hok μ (laid, wind, (set, bk, cs), t, e)) (hM : MoM μ σ) (hR : RowM μ (laid, wind, (set, bk, cs), t, ever) lg (σ.1 189)) (hF : Fr dW σ0 σ) (h176 : ∀ k, k ≠ 35 → σ.1 176 k = σ0.1 176 k) (hg : σ.2 = σ0.2)
    (hq : ∀ τ, DA μ (fin μ laid wind set bk cs ever) lg sort rp σ0 τ → Q (iI (fin μ laid wind set bk cs ever).1) τ) : w_X12_settles 189 σ (fun r7 s6 => (r7 = (-1 : Int32) → (b_X12_does_57 189 Q (nI sort) x r7 (0 : Int32) s6)) ∧ (¬ r7 = (-1 : Int32) → (b_X12_does_57 189 Q (nI sort) x r7 (1 : Int32) s6))) := by
  have hfo := fin_ok (ever := ever) hμ hk
  have h6 := hk.2.2.2.2.2.2
  obtain ⟨r1, r2, r3, r4, r5, r6, r7, r8⟩ := hR
  have hz : ∀ r, r < μ.1 → set.testBit r = decide (srt bk cs set r = 0) := by
    intro r hr
    have h5 := hk.2.2.2.2.2.1 r
    unfold srt
    cases hs : set.testBit r
    · cases bk.testBit r <;> cases cs.testBit r <;> simp
    · have := h5 hs
      simp only at this
      rw [this.1, this.2]; simp
  refine m_settles (so := srt bk cs set) hμ hk.1 (hok_sok hμ hk) hM ⟨r1, r2⟩ r3 (srt_SL (fun r _ => h6 r)) hz (fun τ hE => ?_)
  obtain ⟨E1, E2, E3, E4, E5, E6⟩ := hE
  have hR1 : (stf0 μ laid wind cs bk set).1 = (fin μ laid wind set bk cs ever).1 := rfl
  have hm1 : (-1 : Int32) = iI (-1) := by decide
  have hb : (fin μ laid wind set bk cs ever).1.natAbs < 2 ^ 31 := by rcases hfo.1 with q | q | q <;> rw [q] <;> decide
  have e1 : (iI (stf0 μ laid wind cs bk set).1 = -1) ↔ (fin μ laid wind set bk cs ever).1 = -1 := by rw [hm1, hR1, iI_eq hb (by decide)]
  rw [e1]
  have F1 : ∀ z, Fr dW σ0 (upI τ 176 35 z) := fun z => (hF.tr (E1.wk (by decide))).upI (by decide)
  have K1 : ∀ z k, k ≠ 32 → k ≠ 35 → (upI τ 176 35 z).1 176 k = σ0.1 176 k := fun z k h1 h2 => by rw [upI_1]; simp [h2]; rw [E2 k h1]; exact h176 k h2
  have K2 : ∀ k, k ≠ 29 → τ.2 176 k = σ0.2 176 k := fun k hk => by rw [E3 k hk, hg]
  have K3 : ∀ z, (upI τ 176 35 z).1 176 32 = nI (fin μ laid wind set bk cs ever).2.2.length := fun z => by rw [upI_1]; simp; exact E4
  have K4 : ∀ z j, j < (fin μ laid wind set bk cs ever).2.2.length → (upI τ 176 35 z).1 196 j = nI ((fin μ laid wind set bk cs ever).2.2.getD j 0) := fun z j hj => by rw [upI_1]; simp; rw [E5 j hj]; rfl
  refine ⟨fun hm => ⟨Or.inl rfl, fun s1 es => ?_⟩, fun hm => ⟨Or.inr rfl, fun s1 es => ?_⟩⟩
  · rw [e1]
    refine ⟨fun q => absurd hm q, fun _ => ?_⟩
    have hq2 := fun τ h => hq τ h
    have go : ∀ (w : Int32), w = oI rp → b_X12_does_78 189 Q (iI (stf0 μ laid wind cs bk set).1) w (nI sort) 189 s1 := by
      intro w hw
      obtain ⟨a1, a2, a3, a4⟩ := E6 hm
      refine m_brokenBits (ord := (fin μ laid wind set bk cs ever).2.2) hfo.2.2.1 hfo.2.1 (by rw [es]; exact K3 0) (fun j hj => by rw [es]; exact K4 0 j hj) ?_
      rw [hw]
      refine m_notes (e := (sort, rp, msk (fin μ laid wind set bk cs ever).2.2)) (lg := lg) (h := (fin μ laid wind set bk cs ever).2.1) hμ ?_ (fun ρ G1 G2 G3 => ?_)
      · rw [es]
        refine ⟨fun r hr => ?_, fun a ha => ?_, fun r hr => ?_, ?_, ?_, ?_, r7, fun j hj => ?_⟩
        · rw [upI_1]; simp; have := hμ.1; rw [a1 r (by omega) (by omega) (by omega)]; exact r1 r hr
        · rw [upI_1]; simp; rw [a1 (16 + a) (by omega) (by omega) (by omega)]; exact r2 a ha
        · rw [upI_1]; simp; exact a4 r hr
        · rw [upI_1]; simp; exact a2
        · rw [upI_1]; simp; rw [a3, r5, nI_add]; rfl
        · rw [upI_1]; simp; rw [a1 21 (by omega) (by omega) (by omega)]; exact r6
        · have := r8 j hj
          rw [upI_1, upI_1, upI_1]
          simp only [show ¬ (189 = 176 ∧ 22 + 3 * j = 35) by omega, show ¬ (189 = 176 ∧ 23 + 3 * j = 35) by omega, show ¬ (189 = 176 ∧ 24 + 3 * j = 35) by omega, if_false]
          rw [a1 (22 + 3 * j) (by omega) (by omega) (by omega), a1 (23 + 3 * j) (by omega) (by omega) (by omega), a1 (24 + 3 * j) (by omega) (by omega) (by omega)]
          exact this
      · rw [es] at G1 G2
        refine hq ρ ⟨(F1 0).tr (G1.wk (by decide)), fun k h1 h2 => ?_, fun k hk => ?_, ?_, fun _ => ⟨?_, fun j hj => ?_⟩, fun _ => G3⟩
        · rw [(G1 176 (by decide)).1]; exact K1 0 k h1 h2
        · rw [G2]; exact K2 k hk
        · rw [(G1 176 (by decide)).1, upI_1, if_pos ⟨rfl, rfl⟩, if_neg (by rw [hm]; decide)]
        · rw [(G1 176 (by decide)).1]; exact K3 0
        · rw [(G1 196 (by decide)).1]; exact K4 0 j hj
    have es0 : (nI sort = 0) ↔ sort = 0 := nI_eq (b := 0) (by omega) (by decide)
    rw [es0]
    refine ⟨fun hne => go x (by rw [hx, if_neg hne]), fun heq => go (-1) (by rw [hx, if_pos heq])⟩
  · rw [e1]
    refine ⟨fun _ => ?_, fun q => absurd q hm⟩
    have h34 : (fin μ laid wind set bk cs ever).1 = 3 ∨ (fin μ laid wind set bk cs ever).1 = 4 := by
      rcases hfo.1 with q | q
      · exact absurd q hm
      · exact q
    rw [es]
    refine hq _ ⟨F1 1, fun k h1 h2 => K1 1 k h1 h2, fun k hk => K2 k hk, ?_, fun _ => ⟨K3 1, fun j hj => K4 1 j hj⟩, fun q => absurd q hm⟩
    rw [if_pos h34, upI_1]; simp
