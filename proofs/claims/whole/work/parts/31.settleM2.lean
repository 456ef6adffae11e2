theorem MoM.mv {μ : MU} {σ τ : wS} (h : MoM μ σ) (h1 : τ.1 176 14 = σ.1 176 14) (h2 : τ.1 181 = σ.1 181) (h3 : τ.1 179 = σ.1 179) (h4 : τ.1 182 = σ.1 182) : MoM μ τ := by
  unfold MoM at h ⊢
  rw [h1, h2, h3, h4]
  exact h
/-- out: who would push -/
def outO (μ : MU) (laid wind : Nat → Int) (set : Nat) : Option Nat := match sel (ltP μ laid wind set) (fun r => set.testBit r) μ.1 with
  | none => none
  | some b => if Pl μ laid wind set b < 0 then some b else none
def inO (μ : MU) (laid wind : Nat → Int) (cs bk set : Nat) : Option Nat := match sel (gtP μ laid wind set) (fun r => !set.testBit r && !(bk.testBit r || cs.testBit r)) μ.1 with
  | none => none
  | some b => if 0 < Pl μ laid wind set b then some b else none
theorem nxS_eq (μ : MU) (laid wind : Nat → Int) (cs bk set : Nat) : nxS μ laid wind cs bk set = match outO μ laid wind set with
    | some b => clr set b
    | none => match inO μ laid wind cs bk set with
      | some b => adb set b
      | none => set := by
  unfold nxS outO jnS inO
  cases sel (ltP μ laid wind set) (fun r => set.testBit r) μ.1 with
  | none =>
    simp only
    cases sel (gtP μ laid wind set) (fun r => !set.testBit r && !(bk.testBit r || cs.testBit r)) μ.1 with
    | none => rfl
    | some b => simp only; split <;> rfl
  | some b =>
    simp only
    split
    · rfl
    · simp only
      cases sel (gtP μ laid wind set) (fun r => !set.testBit r && !(bk.testBit r || cs.testBit r)) μ.1 with
      | none => rfl
      | some b => simp only; split <;> rfl
theorem out_sel (μ : MU) (laid wind : Nat → Int) (set : Nat) : sel (fun r b => decide (Pl μ laid wind set r < Pl μ laid wind set b)) (fun r => set.testBit r && decide (Pl μ laid wind set r < 0)) μ.1 = outO μ laid wind set := by
  have := sel_top (T := fun r => decide (Pl μ laid wind set r < 0)) (lt_wo μ laid wind set (fun r => set.testBit r) μ.1) (fun r b _ _ _ _ h1 h2 => by simp [ltP] at h1 h2 ⊢; omega)
  show sel (ltP μ laid wind set) (fun r => set.testBit r && decide (Pl μ laid wind set r < 0)) μ.1 = _
  rw [this]
  unfold outO
  cases sel (ltP μ laid wind set) (fun r => set.testBit r) μ.1 with
  | none => rfl
  | some b => simp
theorem in_sel {μ : MU} (laid wind : Nat → Int) {set cs bk : Nat} {so : Nat → Nat} (hS : SL μ.1 bk cs so) : sel (fun r b => decide (Pl μ laid wind set b < Pl μ laid wind set r)) (fun r => (!set.testBit r && decide (so r < 2)) && decide (0 < Pl μ laid wind set r)) μ.1 = inO μ laid wind cs bk set := by
  have := sel_top (T := fun r => decide (0 < Pl μ laid wind set r)) (gt_wo μ laid wind set (fun r => !set.testBit r && !(bk.testBit r || cs.testBit r)) μ.1) (fun r b _ _ _ _ h1 h2 => by simp [gtP] at h1 h2 ⊢; omega)
  have e : sel (gtP μ laid wind set) (fun r => (!set.testBit r && decide (so r < 2)) && decide (0 < Pl μ laid wind set r)) μ.1 = sel (gtP μ laid wind set) (fun r => (!set.testBit r && !(bk.testBit r || cs.testBit r)) && decide (0 < Pl μ laid wind set r)) μ.1 := by
    refine sel_ext (fun r hr => ?_) (fun _ _ _ _ _ _ => rfl)
    obtain ⟨o1, o2, o3⟩ := hS r hr
    have : decide (so r < 2) = !(bk.testBit r || cs.testBit r) := by
      rw [o2, o3]
      rcases (show so r = 0 ∨ so r = 1 ∨ so r = 2 ∨ so r = 3 by omega) with q | q | q | q <;> rw [q] <;> rfl
    rw [this]
  show sel (gtP μ laid wind set) _ μ.1 = _
  rw [e, this]
  unfold inO
  cases sel (gtP μ laid wind set) (fun r => !set.testBit r && !(bk.testBit r || cs.testBit r)) μ.1 with
  | none => rfl
  | some b => simp
theorem wr_sel {μ : MU} (hμ : mu_ok μ) (laid wind : Nat → Int) (set : Nat) : sel (fun r b => decide (Pl μ laid wind set b * mu_t μ r < Pl μ laid wind set r * mu_t μ b)) (fun r => set.testBit r && decide ((1 : Int32) = 0 ∨ mu_t μ r * Lw μ set < Pl μ laid wind set r)) μ.1 = wrS μ laid wind set := by
  have hLn := Lw_nn hμ set
  have := sel_top (T := fun r => decide (mu_t μ r * Lw μ set < Pl μ laid wind set r)) (ld_wo hμ laid wind set (fun r => set.testBit r)) (fun r b hr hb _ _ h1 h2 => by
    simp only [decide_eq_true_eq, decide_eq_false_iff_not, Int.not_lt, ldP] at h1 h2 ⊢
    have tr := t_b hμ hr
    have tb := t_b hμ hb
    have a1 : Pl μ laid wind set b * mu_t μ r ≤ mu_t μ b * Lw μ set * mu_t μ r := Int.mul_le_mul_of_nonneg_right h2 (by omega)
    have a2 : mu_t μ r * Lw μ set * mu_t μ b < Pl μ laid wind set r * mu_t μ b := Int.mul_lt_mul_of_pos_right h1 (by omega)
    have a3 : mu_t μ b * Lw μ set * mu_t μ r = mu_t μ r * Lw μ set * mu_t μ b := by grind
    omega)
  have e : sel (ldP μ laid wind set) (fun r => set.testBit r && decide ((1 : Int32) = 0 ∨ mu_t μ r * Lw μ set < Pl μ laid wind set r)) μ.1 = sel (ldP μ laid wind set) (fun r => set.testBit r && decide (mu_t μ r * Lw μ set < Pl μ laid wind set r)) μ.1 := by
    refine sel_ext (fun r hr => ?_) (fun _ _ _ _ _ _ => rfl)
    congr 1
    simp
  show sel (ldP μ laid wind set) _ μ.1 = _
  rw [e, this]
  unfold wrS
  cases sel (ldP μ laid wind set) (fun r => set.testBit r) μ.1 with
  | none => rfl
  | some b => simp
theorem out_in {μ : MU} {laid wind : Nat → Int} {set b : Nat} (h : outO μ laid wind set = some b) : b < μ.1 ∧ set.testBit b = true := by
  unfold outO at h
  cases hs : sel (ltP μ laid wind set) (fun r => set.testBit r) μ.1 with
  | none => rw [hs] at h; cases h
  | some c =>
    rw [hs] at h
    simp only at h
    split at h
    · cases h; exact sel_lt hs
    · cases h
theorem in_in {μ : MU} {laid wind : Nat → Int} {cs bk set b : Nat} (h : inO μ laid wind cs bk set = some b) : b < μ.1 ∧ set.testBit b = false := by
  unfold inO at h
  cases hs : sel (gtP μ laid wind set) (fun r => !set.testBit r && !(bk.testBit r || cs.testBit r)) μ.1 with
  | none => rw [hs] at h; cases h
  | some c =>
    rw [hs] at h
    simp only at h
    split at h
    · cases h
      have := sel_lt hs
      simp at this
      exact ⟨this.1, this.2.1⟩
    · cases h
theorem m_loop {μ : MU} (hμ : mu_ok μ) {laid wind : Nat → Int} {cs : Nat} {σ0 : wS} {Q : Int32 → wS → Prop} {R : SR} (hb : bdd μ.1 laid wind)
    (hq : ∀ τ, ME μ cs R σ0 τ → Q (iI R.1) τ) : ∀ (f set bk : Nat) (ord : List Nat) (vis : Nat → Bool) (tr : Nat) (so : Nat → Nat) (σ : wS), stl μ laid wind cs f set bk ord vis tr = some R → sok μ cs bk set ord vis → MS μ laid wind cs bk so ord vis σ → JL σ0 σ → l_X12_settles_24 189 Q (f + 1) (nI set) (nI tr) 1 σ := by
  intro f
  induction f with
  | zero => intro set bk ord vis tr so σ h; cases h
  | succ f ih =>
    intro set bk ord vis tr so σ hR hk hC hI
    have h8 := hμ.1
    have hs := hk.1
    simp only [l_X12_settles_24]
    have vs : vp_in (nI set) 256 ∧ (nI set).toNatClampNeg = set := ⟨vp_in_nI hs (by decide), nI_clamp (by omega)⟩
    refine ⟨fun q => absurd q (by decide), fun _ => ⟨vs.1, ?_⟩⟩
    rw [vs.2, hC.2.2.2.2.2.2 set hs, hk.2.2.2.2.2.1, vn_b.2]
    refine ⟨fun _ => ⟨vs.1, fun s1 e1 => ?_⟩, fun q => absurd rfl q⟩
    have M1 : MoM μ s1 := by rw [e1]; exact hC.1.mv (by simp [upI_1]) rfl rfl rfl
    have L1 : LwM μ.1 laid wind 189 s1 := by rw [e1]; exact hC.2.1
    refine m_solves hμ hs rfl M1 L1 hb (fun s2 F2 g2 k2 h29 hS => ?_)
    have hLb := Lw_ab hμ set
    have ez : (lg_cmp (s2.2 176 29) (0 : Int64) = 0) ↔ Lw μ set = 0 := by
      rw [h29, cmp_eq, ← iJ_0, iJ_eq (by omega) (by decide)]
    rw [ez]
    have hI2 : JL σ0 s2 := by
      refine ⟨?_, ?_, ?_, ?_⟩
      · rw [e1] at F2; exact (hI.1.upI (by decide)).tr (F2.wk (by decide))
      · intro k hk; rw [g2, e1, upI_1]; simp; exact hI.2.1 k hk
      · intro k hk; rw [k2 k hk, e1, upI_2]; exact hI.2.2.1 k hk
      · intro k hk; rw [g2, e1, upI_1]; simp; exact hI.2.2.2 k hk
    have hC2 : MS μ laid wind cs bk so ord (fun s => vis s || decide (s = set)) s2 := by
      refine ⟨M1.mv (by rw [g2]) (by rw [g2]) (by rw [g2]) (by rw [g2]), by unfold LwM; rw [g2]; exact L1, fun r hr => ?_, hC.2.2.2.1, ?_, fun j hj => ?_, fun s hs => ?_⟩
      · rw [g2, e1, upI_1]; simp; exact hC.2.2.1 r hr
      · rw [g2, e1, upI_1]; simp; exact hC.2.2.2.2.1
      · rw [g2, e1, upI_1]; simp; rw [hC.2.2.2.2.2.1 j hj]; simp
      · rw [g2, e1, upI_1]
        by_cases e : s = set
        · simp [e]
        · simp [e]; rw [hC.2.2.2.2.2.2 s hs]
    have Ph : PhM μ laid wind set 189 s2 := ⟨rfl, hC2.1, hC2.2.1, h29, hS⟩
    rw [stl] at hR
    refine ⟨fun hne => ?_, fun h0 => ?_⟩
    · rw [if_neg hne] at hR
      intro y ey
      rw [ey, nI_1]
      refine m_pusher hμ hs hb Ph ?_
      rw [out_sel]
      have hnx := nxS_eq μ laid wind cs bk set
      cases ho : outO μ laid wind set with
      | some b =>
        rw [ho] at hnx
        simp only at hnx
        obtain ⟨b1, b2⟩ := out_in ho
        have ob := oI_s (show b < 8 by omega)
        have cl := clr_ok hs (show b < 8 by omega)
        refine ⟨fun _ => ⟨fun _ => ?_, fun q => absurd q ob.1⟩, fun q => absurd q ob.1⟩
        refine ⟨fun q => absurd q ob.1, fun _ z ez => ?_⟩
        have ez' : z = nI (clr set b) := by rw [ez]; exact cl.1
        rw [ez']
        refine ⟨fun _ => ⟨fun _ => ⟨fun _ => ?_, fun q => absurd q ob.1⟩, fun q => absurd rfl q⟩, fun q => absurd rfl q⟩
        have hne2 : nxS μ laid wind cs bk set ≠ set := by
          rw [hnx]
          intro q
          have := cl.2.2 b (by omega)
          rw [q, b2] at this
          simp at this
        rw [if_pos hne2] at hR
        show l_X12_settles_24 189 Q (f + 1) (nI (clr set b)) (nI (tr + 1)) 1 s2
        rw [← hnx]
        cases hv : vis (nxS μ laid wind cs bk set)
        · rw [hv] at hR
          simp only [Bool.false_eq_true, if_false] at hR
          exact ih _ _ _ _ _ _ _ hR (sok_nx hμ hk hne2 hv).1 hC2 hI2
        · rw [hv] at hR
          simp only [if_true] at hR
          have n1 := (nx_ok hμ hk (laid := laid) (wind := wind)).1
          simp only [l_X12_settles_24]
          have vs2 : vp_in (nI (nxS μ laid wind cs bk set)) 256 ∧ (nI (nxS μ laid wind cs bk set)).toNatClampNeg = nxS μ laid wind cs bk set := ⟨vp_in_nI n1 (by decide), nI_clamp (by omega)⟩
          refine ⟨fun q => absurd q (by decide), fun _ => ⟨vs2.1, ?_⟩⟩
          rw [vs2.2, hC2.2.2.2.2.2.2 _ n1, show (if (fun s => vis s || decide (s = set)) (nxS μ laid wind cs bk set) = true then (1 : Int32) else 0) = 1 by simp [hv]]
          refine ⟨fun q => absurd q (by decide), fun _ => ?_⟩
          have e : R = (4, set, bk, ord, tr + 1) := (Option.some.inj hR).symm
          have := hq s2 (by rw [e]; exact ⟨hI2.1, hI2.2.1, hI2.2.2.1, hC2.2.2.2.2.1, hC2.2.2.2.2.2.1, fun q => absurd q (show ¬ (4 : Int) = -1 by decide)⟩)
          rw [e] at this
          exact this
      | none =>
        rw [ho] at hnx
        simp only at hnx
        refine ⟨fun q => absurd rfl q, fun _ => ?_⟩
        refine m_wanted hμ (so := so) hs hb Ph (fun r hr => ⟨hC2.2.2.1 r hr, (hC.2.2.2.1 r hr).1⟩) ?_
        rw [in_sel laid wind hC.2.2.2.1]
        cases hi : inO μ laid wind cs bk set with
        | some b =>
          rw [hi] at hnx
          simp only at hnx
          obtain ⟨b1, b2⟩ := in_in hi
          have ob := oI_s (show b < 8 by omega)
          have ab := adb_ok hs (show b < 8 by omega)
          refine ⟨fun q => absurd rfl q, fun _ => ⟨fun _ => ?_, fun q => absurd q ob.1⟩⟩
          refine ⟨fun _ => ⟨fun q => absurd q ob.1, fun _ z ez => ?_⟩, fun q => absurd rfl q⟩
          have ez' : z = nI (adb set b) := by rw [ez]; exact ab.1
          rw [ez']
          refine ⟨fun _ => ⟨fun q => absurd rfl q, fun _ => ⟨fun _ => ?_, fun q => absurd q ob.1⟩⟩, fun q => absurd rfl q⟩
          have hne2 : nxS μ laid wind cs bk set ≠ set := by
            rw [hnx]
            intro q
            have := ab.2.2 b (by omega)
            rw [q, b2] at this
            simp at this
          rw [if_pos hne2] at hR
          show l_X12_settles_24 189 Q (f + 1) (nI (adb set b)) (nI (tr + 1)) 1 s2
          rw [← hnx]
          cases hv : vis (nxS μ laid wind cs bk set)
          · rw [hv] at hR
            simp only [Bool.false_eq_true, if_false] at hR
            exact ih _ _ _ _ _ _ _ hR (sok_nx hμ hk hne2 hv).1 hC2 hI2
          · rw [hv] at hR
            simp only [if_true] at hR
            have n1 := (nx_ok hμ hk (laid := laid) (wind := wind)).1
            simp only [l_X12_settles_24]
            have vs2 : vp_in (nI (nxS μ laid wind cs bk set)) 256 ∧ (nI (nxS μ laid wind cs bk set)).toNatClampNeg = nxS μ laid wind cs bk set := ⟨vp_in_nI n1 (by decide), nI_clamp (by omega)⟩
            refine ⟨fun q => absurd q (by decide), fun _ => ⟨vs2.1, ?_⟩⟩
            rw [vs2.2, hC2.2.2.2.2.2.2 _ n1, show (if (fun s => vis s || decide (s = set)) (nxS μ laid wind cs bk set) = true then (1 : Int32) else 0) = 1 by simp [hv]]
            refine ⟨fun q => absurd q (by decide), fun _ => ?_⟩
            have e : R = (4, set, bk, ord, tr + 1) := (Option.some.inj hR).symm
            have := hq s2 (by rw [e]; exact ⟨hI2.1, hI2.2.1, hI2.2.2.1, hC2.2.2.2.2.1, hC2.2.2.2.2.2.1, fun q => absurd q (show ¬ (4 : Int) = -1 by decide)⟩)
            rw [e] at this
            exact this
        | none =>
          rw [hi] at hnx
          simp only at hnx
          rw [if_neg (by rw [hnx]; simp)] at hR
          refine ⟨fun q => absurd rfl q, fun _ => ⟨fun q => absurd rfl q, fun _ => ?_⟩⟩
          refine m_worstOf hμ hs hb Ph ?_
          rw [wr_sel hμ]
          cases hw : wrS μ laid wind set with
          | none =>
            rw [hw] at hR
            refine ⟨fun _ => ⟨fun _ => ⟨fun _ => ⟨fun q => absurd rfl q, fun _ => ⟨fun q => absurd rfl q, fun _ => ⟨fun _ => ?_, fun q => absurd rfl q⟩⟩⟩, fun q => absurd rfl q⟩, fun q => absurd rfl q⟩, fun q => absurd rfl q⟩
            show l_X12_settles_24 189 Q (f + 1) (nI set) (nI (tr + 1)) 0 s2
            simp only [l_X12_settles_24]
            refine ⟨fun _ => ?_, fun q => absurd trivial q⟩
            have e : R = (-1, set, bk, ord, tr + 1) := (Option.some.inj hR).symm
            rw [e] at hq
            exact m_225 hμ hs hC2 hI2 hq
          | some w =>
            rw [hw] at hR
            obtain ⟨w1, w2⟩ := ws_in hw
            have hw8 : w < 8 := by omega
            have ob := oI_s hw8
            have cl := clr_ok hs hw8
            refine ⟨fun _ => ⟨fun _ => ⟨fun q => absurd q ob.1, fun _ z ez => ?_⟩, fun q => absurd rfl q⟩, fun q => absurd rfl q⟩
            have ez' : z = nI (clr set w) := by rw [ez]; exact cl.1
            rw [ez']
            have v8 := v8p hw8
            have eo : oI (some w) = nI w := rfl
            rw [eo, v8.2, show ln 189 = 202 from rfl]
            refine ⟨v8.1, fun s3 e3 => ?_⟩
            have hol : ord.length < 8 := by
              obtain ⟨-, h2⟩ := sok_ws hμ hk hw
              have := hk.2.2.2.2.2.2.1
              omega
            have x32 : s3.1 176 32 = nI ord.length := by rw [e3, upI_1]; simp; exact hC2.2.2.2.2.1
            rw [x32, nI_clamp (by omega)]
            refine ⟨vp_in_nI hol (by decide), fun s4 e4 s5 e5 => ?_⟩
            have y32 : s4.1 176 32 = nI ord.length := by rw [e4, upI_1]; simp; exact x32
            rw [y32, nI_1] at e5
            refine m_forgets (fun s6 F6 g6 z6 => ?_)
            have hi6 : ∀ i, i ≠ 195 → s6.1 i = (upI (upI (upI s2 189 (8 + w) 2) 196 ord.length (nI w)) 176 32 (nI (ord.length + 1))).1 i := fun i hi => by
              rw [(F6 i (by simp; exact hi)).1, e5, e4, e3]
            have hJ : JL σ0 s6 := by
              refine ⟨?_, fun k hk => ?_, fun k hk => ?_, fun k hk => ?_⟩
              · have : Fr sM σ0 s5 := by rw [e5, e4, e3]; exact ((hI2.1.upI (by decide)).upI (by decide)).upI (by decide)
                exact this.tr (F6.wk (by decide))
              · rw [hi6 176 (by decide), upI_1]; simp [hk, upI_1]; exact hI2.2.1 k hk
              · rw [g6, e5, e4, e3]; exact hI2.2.2.1 k hk
              · rw [hi6 189 (by decide)]; simp [upI_1, show k ≠ 8 + w by omega]; exact hI2.2.2.2 k hk
            have hS6 : MS μ laid wind cs (adb bk w) (fun r => if r = w then 2 else so r) (ord ++ [w]) (fun _ => false) s6 := by
              have ab := adb_ok hk.2.1 hw8
              refine ⟨hC2.1.mv (by rw [hi6 176 (by decide)]; simp [upI_1]) (by rw [hi6 181 (by decide)]; rfl) (by rw [hi6 179 (by decide)]; rfl) (by rw [hi6 182 (by decide)]; rfl), ⟨fun r hr => ?_, fun a ha => ?_⟩, fun r hr => ?_, fun r hr => ?_, ?_, fun j hj => ?_, fun s hs => z6 s hs⟩
              · rw [hi6 189 (by decide)]; simp [upI_1, show r ≠ 8 + w by omega]; exact hC2.2.1.1 r hr
              · rw [hi6 189 (by decide)]; simp [upI_1, show 16 + a ≠ 8 + w by omega]; exact hC2.2.1.2 a ha
              · rw [hi6 189 (by decide)]
                by_cases e : r = w
                · simp [upI_1, e]; rfl
                · simp [upI_1, e]; exact hC2.2.2.1 r hr
              · obtain ⟨o1, o2, o3⟩ := hC.2.2.2.1 r hr
                rw [ab.2.2 r (by omega)]
                by_cases e : r = w
                · subst e
                  have := (hk.2.2.2.2.1 r w2).2
                  simp [this]
                · simp [e, o1, o2, o3]
              · rw [hi6 176 (by decide)]; simp [upI_1]
              · rw [List.length_append, List.length_singleton] at hj
                rw [hi6 196 (by decide)]
                by_cases e : j = ord.length
                · subst e; simp [upI_1]
                · simp [upI_1, e]
                  rw [hC2.2.2.2.2.2.1 j (by omega)]
                  simp [List.getElem?_append_left (show j < ord.length by omega)]
            refine ⟨fun q => absurd rfl q, fun _ => ⟨fun q => absurd rfl q, fun _ => ⟨fun q => absurd q ob.1, fun _ => ?_⟩⟩⟩
            show l_X12_settles_24 189 Q (f + 1) (nI (clr set w)) (nI (tr + 1)) 1 s6
            exact ih _ _ _ _ _ _ _ hR (sok_ws hμ hk hw).1 hS6 hJ
    · rw [if_pos h0] at hR
      have e : R = (3, set, bk, ord, tr + 1) := (Option.some.inj hR).symm
      have := hq s2 (by rw [e]; exact ⟨hI2.1, hI2.2.1, hI2.2.2.1, hC2.2.2.2.2.1, hC2.2.2.2.2.2.1, fun q => absurd q (show ¬ (3 : Int) = -1 by decide)⟩)
      rw [e] at this
      exact this
/-- the model's settles, on its trial row -/
theorem m_settles {μ : MU} (hμ : mu_ok μ) {laid wind : Nat → Int} {cs bk set : Nat} {so : Nat → Nat} {σ : wS} {Q : Int32 → wS → Prop} (hb : bdd μ.1 laid wind) (hk : sok μ cs bk set [] (fun _ => false)) (hM : MoM μ σ) (hL : LwM μ.1 laid wind 189 σ) (hso : ∀ r, r < μ.1 → σ.1 189 (8 + r) = nI (so r)) (hS : SL μ.1 bk cs so) (h0 : ∀ r, r < μ.1 → set.testBit r = decide (so r = 0))
    (hq : ∀ τ, ME μ cs (stf0 μ laid wind cs bk set) σ τ → Q (iI (stf0 μ laid wind cs bk set).1) τ) : w_X12_settles 189 σ Q := by
  have h8 := hμ.1
  unfold w_X12_settles
  rw [hM.1]
  refine m_those (so := so) (c := 0) rfl h8 (by decide) (fun r hr => ⟨hso r hr, (hS r hr).1⟩) ?_
  have em : mkm (fun r => decide (so r = 0)) μ.1 = set := by
    obtain ⟨k1, k2⟩ := mkm_ok (f := fun r => decide (so r = 0)) h8
    refine tb_ext k1 hk.1 (fun r _ => ?_)
    rw [k2 r]
    rcases Nat.lt_or_ge r μ.1 with q | q
    · rw [decide_eq_true q, h0 r q]; rfl
    · rw [decide_eq_false (by omega), hk.2.2.2.1 r q]; rfl
  rw [em]
  intro s3 e3
  refine m_forgets (fun s4 F4 g4 z4 => ⟨2401, ?_⟩)
  have hi : ∀ i, i ≠ 195 → s4.1 i = (upI σ 176 32 0).1 i := fun i hi => by rw [(F4 i (by simp; exact hi)).1, e3]
  refine m_loop hμ hb hq 2400 set bk [] (fun _ => false) 0 so s4 (stf0_eq hμ hk) hk ⟨?_, ⟨?_, ?_⟩, ?_, hS, ?_, ?_, ?_⟩ ⟨?_, ?_, ?_, ?_⟩
  · exact hM.mv (by rw [hi 176 (by decide)]; simp [upI_1]) (by rw [hi 181 (by decide)]; rfl) (by rw [hi 179 (by decide)]; rfl) (by rw [hi 182 (by decide)]; rfl)
  · intro r hr; rw [hi 189 (by decide)]; exact hL.1 r hr
  · intro a ha; rw [hi 189 (by decide)]; exact hL.2 a ha
  · intro r hr; rw [hi 189 (by decide)]; exact hso r hr
  · rw [hi 176 (by decide)]; simp [upI_1]; rfl
  · intro j hj; exact absurd hj (by simp)
  · intro s hs; exact z4 s hs
  · have : Fr sM σ s3 := by rw [e3]; exact Fr.rf.upI (by decide)
    exact this.tr (F4.wk (by decide))
  · intro k hk; rw [hi 176 (by decide)]; simp [upI_1, hk]
  · intro k hk; rw [g4, e3]; rfl
  · intro k hk; rw [hi 189 (by decide)]; rfl
