/-! AN ACT, as mathematics: how ropes are laid, the wind, (taut, broken, cast off), tries, how many ever broke -/
abbrev HS : Type := (Nat → Int) × (Nat → Int) × (Nat × Nat × Nat) × Nat × Nat
def u1 (f : Nat → Int) (r : Nat) (v : Int) : Nat → Int := fun j => if j = r then v else f j
abbrev AR : Type := Int × HS × List Nat
def fin (μ : MU) (laid wind : Nat → Int) (set bk cs ever : Nat) : AR := ((stf0 μ laid wind cs bk set).1, (laid, wind, ((stf0 μ laid wind cs bk set).2.1, (stf0 μ laid wind cs bk set).2.2.1, cs), (stf0 μ laid wind cs bk set).2.2.2.2, ever + (stf0 μ laid wind cs bk set).2.2.2.1.length), (stf0 μ laid wind cs bk set).2.2.2.1)
abbrev gst (a b c : Int) : Prop := (-99 ≤ a ∧ a ≤ 99) ∧ (-99 ≤ b ∧ b ≤ 99) ∧ (-999 ≤ c ∧ c ≤ 999)
def wadd (w : Nat → Int) (a b c : Int) : Nat → Int := fun j => if j = 0 then w 0 + a else if j = 1 then w 1 + b else w 2 + c
abbrev wok (w : Nat → Int) : Prop := (w 0).natAbs ≤ 999 ∧ (w 1).natAbs ≤ 999 ∧ (w 2).natAbs ≤ 9999
def att (μ : MU) (h : HS) (sort : Nat) (a b c : Int) : AR :=
  if sort = 0 then
    if μ.1 = 0 then (0, h, []) else if ¬ gst a b c then (1, h, []) else if ¬ wok (wadd h.2.1 a b c) then (1, h, []) else if a = 0 ∧ b = 0 ∧ c = 0 then (2, h, []) else fin μ h.1 (wadd h.2.1 a b c) h.2.2.1.1 h.2.2.1.2.1 h.2.2.1.2.2 h.2.2.2.2
  else if ¬ (0 ≤ a ∧ a < (μ.1 : Int)) then (0, h, []) else
    if sort = 1 then
      if ¬ (-9 ≤ b ∧ b ≤ 9) then (1, h, []) else if ¬ (h.1 a.toNat + b * mu_k μ a.toNat).natAbs ≤ 999 then (1, h, []) else if b = 0 ∨ (h.2.2.1.2.1.testBit a.toNat || h.2.2.1.2.2.testBit a.toNat) = true then (2, h, []) else fin μ (u1 h.1 a.toNat (h.1 a.toNat + b * mu_k μ a.toNat)) h.2.1 h.2.2.1.1 h.2.2.1.2.1 h.2.2.1.2.2 h.2.2.2.2
    else if sort = 2 then
      if (h.2.2.1.2.1.testBit a.toNat || h.2.2.1.2.2.testBit a.toNat) = true then (2, h, []) else fin μ h.1 h.2.1 (clr h.2.2.1.1 a.toNat) h.2.2.1.2.1 (adb h.2.2.1.2.2 a.toNat) h.2.2.2.2
    else
      if (h.2.2.1.2.1.testBit a.toNat || h.2.2.1.2.2.testBit a.toNat) = true then fin μ (u1 h.1 a.toNat (μ.2.1 a.toNat 5)) h.2.1 (adb h.2.2.1.1 a.toNat) (clr h.2.2.1.2.1 a.toNat) (clr h.2.2.1.2.2 a.toNat) h.2.2.2.2 else (2, h, [])
/-- a hold as it can be -/
def hok (μ : MU) (h : HS) : Prop := bdd μ.1 h.1 h.2.1 ∧ h.2.2.1.1 < 256 ∧ h.2.2.1.2.1 < 256 ∧ h.2.2.1.2.2 < 256 ∧ (∀ r, μ.1 ≤ r → h.2.2.1.1.testBit r = false ∧ h.2.2.1.2.1.testBit r = false ∧ h.2.2.1.2.2.testBit r = false) ∧ (∀ r, h.2.2.1.1.testBit r = true → h.2.2.1.2.1.testBit r = false ∧ h.2.2.1.2.2.testBit r = false) ∧ ∀ r, h.2.2.1.2.1.testBit r = true → h.2.2.1.2.2.testBit r = false
theorem hok_sok {μ : MU} (hμ : mu_ok μ) {laid wind : Nat → Int} {set bk cs t e : Nat} (h : hok μ (laid, wind, (set, bk, cs), t, e)) : sok μ cs bk set [] (fun _ => false) := by
  obtain ⟨-, h1, h2, h3, h4, h5, -⟩ := h
  refine ⟨h1, h2, h3, fun r hr => (h4 r hr).1, h5, rfl, ?_, fun r hr => absurd hr List.not_mem_nil⟩
  have : alive μ cs bk ≤ μ.1 := cnt_le _ _
  have := hμ.1
  simp
  omega
/-- where it settles: what holds then -/
theorem stl_ok {μ : MU} (hμ : mu_ok μ) {laid wind : Nat → Int} {cs : Nat} {R : SR} (hcs : ∀ r, μ.1 ≤ r → cs.testBit r = false) : ∀ (f set bk : Nat) (ord : List Nat) (vis : Nat → Bool) (tr : Nat), sok μ cs bk set ord vis → (∀ r, μ.1 ≤ r → bk.testBit r = false) → (∀ r, bk.testBit r = true → cs.testBit r = false) → stl μ laid wind cs f set bk ord vis tr = some R → (R.1 = -1 ∨ R.1 = 3 ∨ R.1 = 4) ∧ (∀ r ∈ R.2.2.2.1, r < 8) ∧ R.2.2.2.1.length ≤ 8 ∧ (R.1 = -1 → (∃ v, sok μ cs R.2.2.1 R.2.1 R.2.2.2.1 v) ∧ (∀ r, μ.1 ≤ r → R.2.2.1.testBit r = false) ∧ (∀ r, R.2.2.1.testBit r = true → cs.testBit r = false) ∧ 0 < Lw μ R.2.1 ∧ ∀ r, R.2.1.testBit r = true → 0 ≤ Pl μ laid wind R.2.1 r) := by
  intro f
  induction f with
  | zero => intro set bk ord vis tr _ _ _ h; cases h
  | succ f ih =>
    intro set bk ord vis tr hk hb1 hb2 hR
    have hLn := Lw_nn hμ set
    have h7 := hk.2.2.2.2.2.2.1
    have hl8 : ord.length ≤ 8 := by omega
    rw [stl] at hR
    by_cases h0 : Lw μ set = 0
    · rw [if_pos h0] at hR
      cases hR
      exact ⟨Or.inr (Or.inl rfl), hk.2.2.2.2.2.2.2, hl8, fun q => absurd q (show ¬ (3 : Int) = -1 by decide)⟩
    · rw [if_neg h0] at hR
      by_cases h1 : nxS μ laid wind cs bk set ≠ set
      · rw [if_pos h1] at hR
        cases hv : vis (nxS μ laid wind cs bk set)
        · rw [hv] at hR
          simp only [Bool.false_eq_true, if_false] at hR
          exact ih _ _ _ _ _ (sok_nx hμ hk h1 hv).1 hb1 hb2 hR
        · rw [hv] at hR
          simp only [if_true] at hR
          cases hR
          exact ⟨Or.inr (Or.inr rfl), hk.2.2.2.2.2.2.2, hl8, fun q => absurd q (show ¬ (4 : Int) = -1 by decide)⟩
      · rw [if_neg h1] at hR
        have h1 : nxS μ laid wind cs bk set = set := by simpa using h1
        cases hw : wrS μ laid wind set with
        | none =>
          rw [hw] at hR
          have hLp : 0 < Lw μ set := by omega
          cases hR
          refine ⟨Or.inl rfl, hk.2.2.2.2.2.2.2, hl8, fun _ => ⟨⟨vis, hk⟩, hb1, hb2, hLp, fun r hr => ?_⟩⟩
          have hr : set.testBit r = true := hr
          show 0 ≤ Pl μ laid wind set r
          have hrn : r < μ.1 := by
            rcases Nat.lt_or_ge r μ.1 with q | q
            · exact q
            · rw [hk.2.2.2.1 r q] at hr; cases hr
          unfold nxS at h1
          obtain ⟨p1, p2⟩ := sel_sp (lt_wo μ laid wind set (fun r => set.testBit r) μ.1) (Nat.le_refl _)
          cases hs : sel (ltP μ laid wind set) (fun r => set.testBit r) μ.1 with
          | none => have := p1 hs r hrn; rw [hr] at this; cases this
          | some b =>
            rw [hs] at h1
            simp only at h1
            obtain ⟨b1, b2, b3, -⟩ := p2 b hs
            have h8 := hμ.1
            by_cases hn : Pl μ laid wind set b < 0
            · rw [if_pos hn] at h1
              have := (clr_ok hk.1 (show b < 8 by omega)).2.2 b (by omega)
              rw [h1] at this
              simp only at b2
              rw [b2] at this
              simp at this
            · have := b3 r hrn hr
              simp [ltP] at this
              omega
        | some w =>
          rw [hw] at hR
          obtain ⟨w1, w2⟩ := ws_in hw
          have h8 := hμ.1
          have ab := adb_ok hk.2.1 (show w < 8 by omega)
          refine ih _ _ _ _ _ (sok_ws hμ hk hw).1 (fun r hr => ?_) (fun r hr => ?_) hR
          · rcases Nat.lt_or_ge r 8 with q | q
            · rw [ab.2.2 r q, hb1 r hr, decide_eq_false (by omega)]; rfl
            · exact tb_big ab.2.1 q
          · rcases Nat.lt_or_ge r 8 with q | q
            · rw [ab.2.2 r q] at hr
              by_cases e : r = w
              · subst e; exact (hk.2.2.2.2.1 r w2).2
              · rw [decide_eq_false e, Bool.or_false] at hr
                exact hb2 r hr
            · rw [tb_big ab.2.1 q] at hr; cases hr
/-- what comes of fin -/
theorem fin_ok {μ : MU} (hμ : mu_ok μ) {laid wind : Nat → Int} {set bk cs t e ever : Nat} (h : hok μ (laid, wind, (set, bk, cs), t, e)) : ((fin μ laid wind set bk cs ever).1 = -1 ∨ (fin μ laid wind set bk cs ever).1 = 3 ∨ (fin μ laid wind set bk cs ever).1 = 4) ∧ (∀ r ∈ (fin μ laid wind set bk cs ever).2.2, r < 8) ∧ (fin μ laid wind set bk cs ever).2.2.length ≤ 8 ∧ ((fin μ laid wind set bk cs ever).1 = -1 → hok μ (fin μ laid wind set bk cs ever).2.1 ∧ 0 < Lw μ (fin μ laid wind set bk cs ever).2.1.2.2.1.1 ∧ ∀ r, (fin μ laid wind set bk cs ever).2.1.2.2.1.1.testBit r = true → 0 ≤ Pl μ laid wind (fin μ laid wind set bk cs ever).2.1.2.2.1.1 r) := by
  have hk := hok_sok hμ h
  obtain ⟨hb, h1, h2, h3, h4, h5, h6⟩ := h
  obtain ⟨r1, r2, r3, r4⟩ := stl_ok hμ (fun r hr => (h4 r hr).2.2) 2400 set bk [] (fun _ => false) 0 hk (fun r hr => (h4 r hr).2.1) h6 (stf0_eq hμ hk (laid := laid) (wind := wind))
  refine ⟨r1, r2, r3, fun hr => ?_⟩
  obtain ⟨⟨v, s1, s2, s3, s4, s5, -⟩, t1, t2, t3, t4⟩ := r4 hr
  exact ⟨⟨hb, s1, s2, s3, fun r hr => ⟨s4 r hr, t1 r hr, (h4 r hr).2.2⟩, s5, t2⟩, t3, t4⟩
