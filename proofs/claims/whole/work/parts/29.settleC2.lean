/-! one bit of a long: after kit/laws/BITS.to-paste -/
theorem ts_bit {w : Int64} {s : UInt64} {j : Nat} (hj : j < 64) (hs : s.toNat = j) : ((w.toUInt64 >>> s).toInt64 &&& 1) = 0 ↔ w.toBitVec.getLsbD j = false := by
  have e : (w.toUInt64 >>> s).toInt64.toBitVec = w.toBitVec >>> j := by
    apply BitVec.eq_of_toNat_eq
    show (w.toUInt64 >>> s).toNat = _
    rw [UInt64.toNat_shiftRight, hs, Nat.mod_eq_of_lt hj, BitVec.toNat_ushiftRight]
    rfl
  rw [← Int64.toBitVec_inj, Int64.toBitVec_and, e]
  show w.toBitVec >>> j &&& 1#64 = 0#64 ↔ _
  constructor
  · intro h
    have t := congrArg (fun x => x.getLsbD 0) h
    simpa using t
  · intro h
    apply BitVec.eq_of_getLsbD_eq
    intro i hi
    cases i with
    | zero => simp [h]
    | succ i => simp
theorem wb_c1 : ∀ k, k < 64 → ((nI k).toInt64.toUInt64 &&& Int64.toUInt64 63).toNat = k := by decide +kernel
theorem wb_p1 : ∀ k, k < 64 → ((1 : Int64) <<< ((nI k).toInt64 &&& 63)).toBitVec = BitVec.twoPow 64 k := by decide +kernel
theorem bj_at {x : Int64} {k : Nat} (hk : k < 64) : (lg_cmp ((x.toUInt64 >>> ((nI k).toInt64.toUInt64 &&& Int64.toUInt64 63)).toInt64 &&& (1 : Int64)) (0 : Int64)) = 0 ↔ x.toBitVec.getLsbD k = false := by
  rw [cmp_eq]
  exact ts_bit hk (wb_c1 k hk)
theorem bj_or {x : Int64} {b k : Nat} (hb : b < 64) (hk : k < 64) : (x ||| ((1 : Int64) <<< ((nI b).toInt64 &&& 63))).toBitVec.getLsbD k = (x.toBitVec.getLsbD k || decide (k = b)) := by
  rw [Int64.toBitVec_or, wb_p1 b hb, BitVec.getLsbD_or, BitVec.getLsbD_twoPow]
  congr 1
  by_cases e : b = k
  · simp [e, hk]
  · simp [e, Ne.symm e]
theorem q64 {s : Nat} (hs : s < 256) : ((nI s >>> ((6 : Int32) &&& 31)) &&& (3 : Int32)) = nI (s / 64) ∧ (nI s &&& (63 : Int32)) = nI (s % 64) ∧ vp_in (nI (s / 64)) 4 ∧ (nI (s / 64)).toNatClampNeg = s / 64 := by
  have h : ∀ s, s < 256 → ((nI s >>> ((6 : Int32) &&& 31)) &&& (3 : Int32)) = nI (s / 64) ∧ (nI s &&& (63 : Int32)) = nI (s % 64) ∧ vp_in (nI (s / 64)) 4 ∧ (nI (s / 64)).toNatClampNeg = s / 64 := by unfold vp_in; decide +kernel
  exact h s hs
/-- rows that settling writes -/
abbrev sW : List Nat := [32, 38, 39, 40, 41, 42, 43, 44, 45]
def IL (σ0 σ : wS) : Prop := Fr sW σ0 σ ∧ σ.1 32 7 = σ0.1 32 7 ∧ σ.1 32 6 = σ0.1 32 6 ∧ σ.1 38 5 = σ0.1 38 5
theorem MoC.up {μ : MU} {p i k : Nat} {x : Int32} {σ : wS} (h : MoC μ p σ) (hp : p + 6 < i) : MoC μ p (upI σ i k x) := by
  have e : ∀ j, j ≤ p + 6 → (upI σ i k x).1 j = σ.1 j := fun j hj => (setI_ne (f := upd (σ.1 i) k x) (show j ≠ i by omega)).1
  unfold MoC at h ⊢
  rw [e p (by omega), e (p + 1) (by omega), e (p + 2) (by omega), e (p + 3) (by omega), e (p + 4) (by omega), e (p + 5) (by omega), e (p + 6) (by omega)]
  exact h
theorem LwC.up {n h i k : Nat} {laid wind : Nat → Int} {x : Int32} {σ : wS} (hh : LwC n laid wind h σ) (h1 : h + 1 ≠ i) (h2 : h + 2 ≠ i) : LwC n laid wind h (upI σ i k x) := by
  unfold LwC at hh ⊢
  rw [show (upI σ i k x).1 (h + 1) = σ.1 (h + 1) from (setI_ne h1).1, show (upI σ i k x).1 (h + 2) = σ.1 (h + 2) from (setI_ne h2).1]
  exact hh
theorem s_breakWorst {μ : MU} (hμ : mu_ok μ) {laid wind : Nat → Int} {p cs bk set : Nat} {ord : List Nat} {vis vis2 : Nat → Bool} {σ0 σ : wS} {Q : Int32 → wS → Prop} (hp : p + 6 < 32) (hb : bdd μ.1 laid wind) (hk : sok μ cs bk set ord vis) (hC : CS μ laid wind p cs bk set ord vis2 σ) (hI : IL σ0 σ) (hP : ∀ r, r < μ.1 → σ.2 45 r = iJ (Pl μ laid wind set r)) (h41 : σ.2 41 4 = iJ (Lw μ set))
    (hq0 : wrS μ laid wind set = none → Q 0 σ) (hq1 : ∀ w, wrS μ laid wind set = some w → ∀ τ, CS μ laid wind p cs (adb bk w) (clr set w) (ord ++ [w]) (fun _ => false) τ → IL σ0 τ → Q 1 τ) : w_X1_breakWorst p 32 σ Q := by
  have h8 := hμ.1
  have hk0 := hk
  obtain ⟨k1, k2, k3, k4, k5, k6, k7, k9⟩ := hk
  have hPb : ∀ r, r < μ.1 → (Pl μ laid wind set r).natAbs ≤ PB := fun r hr => Pl_ab hμ set hb.1 hb.2 hr
  have hpb := PB_lt
  have hL := Lw_ab hμ set
  unfold w_X1_breakWorst
  rw [hC.2.2.1]
  refine s_mostLoaded (n := μ.1) (bt := ldP μ laid wind set) (T := mu_t μ) k1 h8 k4 hP (fun r hr => (hC.1.2.2.2.2.1 r hr).2) (fun r b hr hbn => sgL hμ hb set hr hbn) ?_
  cases hs : sel (ldP μ laid wind set) (fun r => set.testBit r) μ.1 with
  | none =>
    refine ⟨fun _ => hq0 ?_, fun q => absurd rfl q⟩
    unfold wrS; rw [hs]
  | some b =>
    obtain ⟨hbl, hbs⟩ := sel_lt hs
    have hb8 : b < 8 := by omega
    have ob := oI_s hb8
    have hw : wrS μ laid wind set = if mu_t μ b * Lw μ set < Pl μ laid wind set b then some b else none := by unfold wrS; rw [hs]
    have hal : 1 ≤ alive μ cs bk := by
      have h5 := k5 b hbs
      have : cnt (fun r => !(bk.testBit r || cs.testBit r) && decide (r ≠ b)) μ.1 + 1 = alive μ cs bk := by
        unfold alive
        refine cnt_one (k := b) hbl (by simp [h5]) (by simp) (fun r _ hr => by simp [hr])
      omega
    have hol : ord.length < 8 := by omega
    have c4 : σ.1 38 4 = nI ord.length := hC.2.2.2.2.2.2.1
    refine ⟨fun q => absurd q ob.1, fun _ => ?_⟩
    rw [c4]
    refine ⟨fun q => absurd q (nI_ge hol (by decide)), fun _ => ⟨ob.2.1, ob.2.1, ?_⟩⟩
    have ht := t_b hμ hbl
    have hm2 : (mu_t μ b * Lw μ set).natAbs < 2 ^ 62 := by
      have := ab_mul (a := 999) (show (mu_t μ b).natAbs ≤ 999 by omega) hL
      omega
    rw [ob.2.2, hP b hbl, (hC.1.2.2.2.2.1 b hbl).2, t_J hμ hbl, h41, iJ_mul, cmp_gt, iJ_lt (by omega) (by have := hPb b hbl; omega)]
    refine ⟨fun hgt s3 e3 s4 e4 s5 e5 => ?_, fun hgt => hq0 (by rw [hw, if_neg hgt])⟩
    have hw1 : wrS μ laid wind set = some b := by rw [hw, if_pos hgt]
    have eo : oI (some b) = nI b := rfl
    have cl := clr_ok k1 hb8
    have ab := adb_ok k2 hb8
    have am := adb_ok (msk_lt k9) hb8
    have x3 : s3 = upI σ 32 2 (nI (clr set b)) := by rw [e3, hC.2.2.1, eo, cl.1]
    have x4 : s4 = upI s3 32 3 (nI (adb bk b)) := by
      have : s3.1 32 3 = nI bk := by rw [x3, upI_1]; simp; exact hC.2.2.2.1
      rw [e4, this, eo, ab.1]
    have x5 : s5 = upI s4 38 3 (nI (msk (ord ++ [b]))) := by
      have : s4.1 38 3 = nI (msk ord) := by rw [x4, x3, upI_1, upI_1]; simp; exact hC.2.2.2.2.2.1
      rw [e5, this, msk_app, eo, am.1]
    have y4 : s5.1 38 4 = nI ord.length := by rw [x5, x4, x3, upI_1, upI_1, upI_1]; simp; exact c4
    rw [y4, nI_clamp (by omega)]
    refine ⟨vp_in_nI hol (by decide), fun s6 e6 s7 e7 => ?_⟩
    have y6 : s6.1 38 4 = nI ord.length := by rw [e6, upI_1]; simp; exact y4
    rw [y6, nI_1] at e7
    refine s_fill (n := 4) rfl (by decide) (fun τ F g z => ?_)
    have g1 : τ.1 = (upI (upI (upI (upI (upI σ 32 2 (nI (clr set b))) 32 3 (nI (adb bk b))) 38 3 (nI (msk (ord ++ [b])))) 39 ord.length (nI b)) 38 4 (nI (ord.length + 1))).1 := by
      rw [g, e7, e6, x5, x4, x3]
      rfl
    refine hq1 b hw1 τ ⟨?_, ?_, ?_, ?_, ?_, ?_, ?_, ?_, ?_⟩ ⟨?_, ?_, ?_, ?_⟩
    · unfold MoC
      rw [g1]
      exact ((((hC.1.up hp).up hp).up (by omega)).up (by omega)).up (by omega)
    · unfold LwC
      rw [g1]
      exact ((((hC.2.1.up (by decide) (by decide)).up (by decide) (by decide)).up (by decide) (by decide)).up (by decide) (by decide)).up (by decide) (by decide)
    · rw [g1]; simp [upI_1]
    · rw [g1]; simp [upI_1]
    · rw [g1]; simp [upI_1]; exact hC.2.2.2.2.1
    · rw [g1]; simp [upI_1]
    · rw [g1]; simp [upI_1]
    · intro j hj
      rw [List.length_append, List.length_singleton] at hj
      rw [g1]
      by_cases e : j = ord.length
      · subst e; simp [upI_1]
      · simp [upI_1, e]
        rw [hC.2.2.2.2.2.2.2.1 j (by omega)]
        simp [List.getElem?_append_left (show j < ord.length by omega)]
    · intro s hs
      rw [z (s / 64) (by omega)]
      simp
    · intro j hj
      have hn : j ∉ [32, 38, 39] := fun q => hj (by simp at q ⊢; omega)
      have F1 : Fr [32, 38, 39] σ s7 := by rw [e7, e6, x5, x4, x3]; exact ((((Fr.rf.upI (by decide)).upI (by decide)).upI (by decide)).upI (by decide)).upI (by decide)
      have F2 := F j (fun q => hj (by simp at q ⊢; omega))
      have F3 := F1 j hn
      have F4 := hI.1 j hj
      exact ⟨F2.1.trans (F3.1.trans F4.1), F2.2.trans (F3.2.trans F4.2)⟩
    · rw [g1]; simp [upI_1]; exact hI.2.1
    · rw [g1]; simp [upI_1]; exact hI.2.2.1
    · rw [g1]; simp [upI_1]; exact hI.2.2.2
/-- what is so behind settling -/
def CE (μ : MU) (laid wind : Nat → Int) (R : SR) (σ0 τ : wS) : Prop := Fr sW σ0 τ ∧ τ.1 32 7 = σ0.1 32 7 ∧ τ.1 32 4 = σ0.1 32 4 ∧ τ.1 38 5 = σ0.1 38 5 ∧ τ.1 38 3 = nI (msk R.2.2.2.1) ∧ τ.1 38 4 = nI R.2.2.2.1.length ∧ (∀ j, j < R.2.2.2.1.length → τ.1 39 j = nI (R.2.2.2.1.getD j 0)) ∧ (R.1 = -1 → τ.1 32 2 = nI R.2.1 ∧ τ.1 32 3 = nI R.2.2.1 ∧ τ.1 32 5 = nI R.2.2.2.2 ∧ τ.1 32 6 = σ0.1 32 6 + nI R.2.2.2.1.length ∧ (∀ r, r < μ.1 → τ.2 45 r = iJ (Pl μ laid wind R.2.1 r)) ∧ τ.2 41 4 = iJ (Lw μ R.2.1))
theorem s_loop {μ : MU} (hμ : mu_ok μ) {laid wind : Nat → Int} {p cs : Nat} {σ0 : wS} {Q : Int32 → wS → Prop} {R : SR} (hp : p + 6 < 32) (hb : bdd μ.1 laid wind) (hcs : σ0.1 32 4 = nI cs)
    (hq : ∀ τ, CE μ laid wind R σ0 τ → Q (iI R.1) τ) : ∀ (f set bk : Nat) (ord : List Nat) (vis : Nat → Bool) (tr : Nat) (σ : wS), tr + f ≤ 4096 → stl μ laid wind cs f set bk ord vis tr = some R → sok μ cs bk set ord vis → CS μ laid wind p cs bk set ord vis σ → IL σ0 σ → l_X1_settle_20 p 32 Q f (nI (tr + 1)) σ := by
  intro f
  induction f with
  | zero => intro set bk ord vis tr σ _ h; cases h
  | succ f ih =>
    intro set bk ord vis tr σ htr hR hk hC hI
    have h8 := hμ.1
    simp only [l_X1_settle_20]
    refine ⟨fun q => absurd q (nI_nlt (a := 4096) (b := tr + 1) (by omega) (by decide)), fun _ => ?_⟩
    rw [hC.2.2.1]
    refine s_solve hμ hk.1 hC.1 hC.2.1 hb (fun s1 F1 g1 h41 hPS => ?_)
    have hC1 : CS μ laid wind p cs bk set ord vis s1 := hC.mv g1 (F1 40 (by decide)).2
    have hI1 : IL σ0 s1 := ⟨hI.1.tr (F1.wk (by decide)), by rw [g1]; exact hI.2.1, by rw [g1]; exact hI.2.2.1, by rw [g1]; exact hI.2.2.2⟩
    rw [stl] at hR
    have hnn := Lw_nn hμ set
    by_cases h0 : Lw μ set = 0
    · rw [if_pos h0] at hR
      rw [if_neg (show ¬ 0 < Lw μ set by omega)]
      refine ⟨fun q => absurd rfl q, fun _ => ?_⟩
      have e : R = (3, set, bk, ord, tr + 1) := (Option.some.inj hR).symm
      have := hq s1 ?_
      · rw [e] at this
        exact this
      · rw [e]
        exact ⟨hI1.1, hI1.2.1, by rw [hC1.2.2.2.2.1, hcs], hI1.2.2.2, hC1.2.2.2.2.2.1, hC1.2.2.2.2.2.2.1, hC1.2.2.2.2.2.2.2.1, fun q => absurd q (show ¬ (3 : Int) = -1 by decide)⟩
    · rw [if_neg h0] at hR
      have hpos : 0 < Lw μ set := by omega
      rw [if_pos hpos]
      obtain ⟨-, hP⟩ := hPS hpos
      have q6 := q64 hk.1
      rw [hC1.2.2.1, q6.1, q6.2.1, q6.2.2.2]
      refine ⟨fun _ => ⟨q6.2.2.1, q6.2.2.1, fun s3 e3 => ?_⟩, fun q => absurd q (by decide)⟩
      have hC3 : CS μ laid wind p cs bk set ord (fun s => vis s || decide (s = set)) s3 := by
        refine ⟨by unfold MoC; rw [e3, upJ_1]; exact hC1.1, by unfold LwC; rw [e3, upJ_1]; exact hC1.2.1, by rw [e3, upJ_1]; exact hC1.2.2.1, by rw [e3, upJ_1]; exact hC1.2.2.2.1, by rw [e3, upJ_1]; exact hC1.2.2.2.2.1, by rw [e3, upJ_1]; exact hC1.2.2.2.2.2.1, by rw [e3, upJ_1]; exact hC1.2.2.2.2.2.2.1, by rw [e3, upJ_1]; exact hC1.2.2.2.2.2.2.2.1, fun s hs => ?_⟩
        have hv := hC1.2.2.2.2.2.2.2.2
        show _ = (vis s || decide (s = set))
        rw [e3, upJ_2]
        by_cases e : s / 64 = set / 64
        · rw [if_pos ⟨rfl, e⟩, bj_or (by omega) (by omega), ← e, hv s hs]
          congr 1
          by_cases e2 : s = set
          · simp [e2]
          · rw [decide_eq_false e2, decide_eq_false (by omega)]
        · rw [if_neg (by simp [e]), hv s hs, decide_eq_false (by intro q; rw [q] at e; exact e rfl), Bool.or_false]
      have hI3 : IL σ0 s3 := by rw [e3]; exact ⟨hI1.1.upJ (by decide), hI1.2.1, hI1.2.2.1, hI1.2.2.2⟩
      have hP3 : ∀ r, r < μ.1 → s3.2 45 r = iJ (Pl μ laid wind set r) := fun r hr => by rw [e3, upJ_2]; simp; exact hP r hr
      have h413 : s3.2 41 4 = iJ (Lw μ set) := by rw [e3, upJ_2]; simp; exact h41
      refine s_nextSet hμ hb hk hC3 hP3 ?_
      rw [hC3.2.2.1]
      have n1 := (nx_ok hμ hk (laid := laid) (wind := wind)).1
      have enx : (nI (nxS μ laid wind cs bk set) = nI set) ↔ nxS μ laid wind cs bk set = set := nI_eq (by omega) (by have := hk.1; omega)
      rw [enx]
      refine ⟨fun heq => ?_, fun hne => ?_⟩
      · rw [if_neg (by simpa using heq)] at hR
        refine s_breakWorst hμ hp hb hk hC3 hI3 hP3 h413 (fun hw => ?_) (fun w hw τ hCτ hIτ => ?_)
        · rw [hw] at hR
          have e : R = (-1, set, bk, ord, tr + 1) := (Option.some.inj hR).symm
          refine ⟨fun q => absurd rfl q, fun _ s8 e8 s9 e9 => ?_⟩
          have g6 : s8.1 32 6 = σ0.1 32 6 := by rw [e8, upI_1]; simp; exact hI3.2.2.1
          have g4 : s8.1 38 4 = nI ord.length := by rw [e8, upI_1]; simp; exact hC3.2.2.2.2.2.2.1
          rw [g6, g4] at e9
          have := hq s9 ?_
          · rw [e] at this
            exact this
          · rw [e]
            refine ⟨?_, ?_, ?_, ?_, ?_, ?_, ?_, fun _ => ⟨?_, ?_, ?_, ?_, ?_, ?_⟩⟩
            · rw [e9, e8]; exact (hI3.1.upI (by decide)).upI (by decide)
            · rw [e9, e8]; simp [upI_1]; exact hI3.2.1
            · rw [e9, e8]; simp [upI_1]; rw [hC3.2.2.2.2.1, hcs]
            · rw [e9, e8]; simp [upI_1]; exact hI3.2.2.2
            · rw [e9, e8]; simp [upI_1]; exact hC3.2.2.2.2.2.1
            · rw [e9, e8]; simp [upI_1]; exact hC3.2.2.2.2.2.2.1
            · intro j hj
              rw [e9, e8]; simp [upI_1]; rw [hC3.2.2.2.2.2.2.2.1 j hj]; simp
            · rw [e9, e8]; simp [upI_1]; exact hC3.2.2.1
            · rw [e9, e8]; simp [upI_1]; exact hC3.2.2.2.1
            · rw [e9, e8]; simp [upI_1]
            · rw [e9, e8]; simp [upI_1]
            · intro r hr
              rw [e9, e8]; exact hP3 r hr
            · rw [e9, e8]; exact h413
        · rw [hw] at hR
          obtain ⟨k1, k2⟩ := sok_ws hμ hk hw
          refine ⟨fun _ => ?_, fun q => absurd q (by decide)⟩
          intro y ey
          rw [ey, nI_1]
          exact ih _ _ _ _ (tr + 1) τ (by omega) hR k1 hCτ hIτ
      · rw [if_pos hne] at hR
        have q7 := q64 n1
        rw [q7.1, q7.2.1, q7.2.2.2]
        refine ⟨q7.2.2.1, ?_⟩
        rw [bj_at (by omega), hC3.2.2.2.2.2.2.2.2 _ n1]
        have ev : (fun s => vis s || decide (s = set)) (nxS μ laid wind cs bk set) = vis (nxS μ laid wind cs bk set) := by show (vis _ || decide _) = _; rw [decide_eq_false hne, Bool.or_false]
        rw [ev]
        cases hv : vis (nxS μ laid wind cs bk set)
        · refine ⟨fun _ s10 e10 => ?_, fun q => absurd rfl q⟩
          rw [hv] at hR
          simp only [Bool.false_eq_true, if_false] at hR
          obtain ⟨k1, k2⟩ := sok_nx hμ hk hne hv
          intro y ey
          rw [ey, nI_1]
          refine ih _ _ _ _ (tr + 1) s10 (by omega) hR k1 ?_ ?_
          · rw [e10]
            refine ⟨hC3.1.up hp, hC3.2.1.up (by decide) (by decide), by simp [upI_1], by simp [upI_1]; exact hC3.2.2.2.1, by simp [upI_1]; exact hC3.2.2.2.2.1, by simp [upI_1]; exact hC3.2.2.2.2.2.1, by simp [upI_1]; exact hC3.2.2.2.2.2.2.1, fun j hj => by simp [upI_1]; rw [hC3.2.2.2.2.2.2.2.1 j hj]; simp, hC3.2.2.2.2.2.2.2.2⟩
          · rw [e10]
            exact ⟨hI3.1.upI (by decide), by simp [upI_1]; exact hI3.2.1, by simp [upI_1]; exact hI3.2.2.1, by simp [upI_1]; exact hI3.2.2.2⟩
        · refine ⟨fun q => absurd q (by decide), fun _ => ?_⟩
          rw [hv] at hR
          simp only [if_true] at hR
          have e : R = (4, set, bk, ord, tr + 1) := (Option.some.inj hR).symm
          have := hq s3 ?_
          · rw [e] at this
            exact this
          · rw [e]
            exact ⟨hI3.1, hI3.2.1, by rw [hC3.2.2.2.2.1, hcs], hI3.2.2.2, hC3.2.2.2.2.2.1, hC3.2.2.2.2.2.2.1, hC3.2.2.2.2.2.2.2.1, fun q => absurd q (show ¬ (4 : Int) = -1 by decide)⟩
theorem ar2 {a u : Nat} (h1 : a ≤ 8) (h2 : u ≤ 256) : a * 257 + u < 2400 := Nat.lt_of_le_of_lt (Nat.add_le_add (Nat.mul_le_mul_right 257 h1) h2) (by decide)
theorem stf0_eq {μ : MU} (hμ : mu_ok μ) {laid wind : Nat → Int} {cs bk set : Nat} (hk : sok μ cs bk set [] (fun _ => false)) : stl μ laid wind cs 2400 set bk [] (fun _ => false) 0 = some (stf0 μ laid wind cs bk set) := by
  have ha : alive μ cs bk ≤ 8 := Nat.le_trans (cnt_le _ _) hμ.1
  have hu : unv (fun _ => false) ≤ 256 := cnt_le _ _
  obtain ⟨R, hR⟩ := stl_some hμ (laid := laid) (wind := wind) 2400 set bk [] (fun _ => false) 0 hk (ar2 ha hu)
  unfold stf0
  rw [hR]
  rfl
/-- Crew.settle -/
theorem s_settle {μ : MU} (hμ : mu_ok μ) {laid wind : Nat → Int} {p cs bk set : Nat} {σ : wS} {Q : Int32 → wS → Prop} (hp : p + 6 < 32) (hb : bdd μ.1 laid wind) (hk : sok μ cs bk set [] (fun _ => false)) (hM : MoC μ p σ) (hL : LwC μ.1 laid wind 32 σ) (h2 : σ.1 32 2 = nI set) (h3 : σ.1 32 3 = nI bk) (h4 : σ.1 32 4 = nI cs)
    (hq : ∀ τ, CE μ laid wind (stf0 μ laid wind cs bk set) σ τ → Q (iI (stf0 μ laid wind cs bk set).1) τ) : w_X1_settle p 32 σ Q := by
  intro s1 e1 s2 e2
  refine s_fill (n := 4) rfl (by decide) (fun τ F g z => ⟨2400, ?_⟩)
  have g2 : τ.1 = (upI (upI σ 38 3 0) 38 4 0).1 := by rw [g, e2, e1]
  refine s_loop hμ hp hb h4 hq 2400 set bk [] (fun _ => false) 0 τ (by decide) (stf0_eq hμ hk) hk ⟨?_, ?_, ?_, ?_, ?_, ?_, ?_, ?_, ?_⟩ ⟨?_, ?_, ?_, ?_⟩
  · unfold MoC; rw [g2]; exact (hM.up (by omega)).up (by omega)
  · unfold LwC; rw [g2]; exact (hL.up (by decide) (by decide)).up (by decide) (by decide)
  · rw [g2]; simp [upI_1]; exact h2
  · rw [g2]; simp [upI_1]; exact h3
  · rw [g2]; simp [upI_1]; exact h4
  · rw [g2]; simp [upI_1]; rfl
  · rw [g2]; simp [upI_1]; rfl
  · intro j hj; exact absurd hj (by simp)
  · intro s hs
    rw [z (s / 64) (by omega)]
    simp
  · intro j hj
    have F2 := F j (fun q => hj (by simp at q ⊢; omega))
    have F3 : Fr [38] σ s2 := by rw [e2, e1]; exact (Fr.rf.upI (by decide)).upI (by decide)
    have F3 := F3 j (fun q => hj (by simp at q ⊢; omega))
    exact ⟨F2.1.trans F3.1, F2.2.trans F3.2⟩
  · rw [g2]; simp [upI_1]
  · rw [g2]; simp [upI_1]
  · rw [g2]; simp [upI_1]
