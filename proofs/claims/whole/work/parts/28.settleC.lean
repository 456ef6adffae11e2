/-! THE CLASS SETTLES -/
theorem s_fill {p : Nat} {σ : wS} {Q : wS → Prop} {n : Nat} (hn : ln p = n) (hn2 : n < 2 ^ 31) (hq : ∀ τ : wS, Fr [p] σ τ → τ.1 = σ.1 → (∀ j, j < n → τ.2 p j = 0) → Q τ) : w_J7_fill_d0a16 p 0 σ Q := by
  have key : ∀ (k m : Nat) (τ : wS), m ≤ n → m + k = n + 1 → Fr [p] σ τ → τ.1 = σ.1 → (∀ j, j < m → τ.2 p j = 0) → l_J7_fill_d0a16_6 p Q k 0 (nI m) (nI n) τ := by
    intro k
    induction k with
    | zero => intro m τ h1 h2; omega
    | succ k ih =>
      intro m τ h1 h2 hF hg hz
      simp only [l_J7_fill_d0a16_6]
      refine ⟨fun hc => hq τ hF hg (fun j hj => hz j ?_), fun hc => ?_⟩
      · have := (nI_leI (by omega) (by omega)).mp hc
        omega
      · have hm : m < n := by
          rcases Nat.lt_or_ge m n with q | q
          · exact q
          · exact absurd (nI_le q (by omega)) hc
        rw [hn, nI_clamp (by omega)]
        refine ⟨vp_in_nI hm hn2, fun s1 e1 y e2 => ?_⟩
        rw [e2, nI_1, e1]
        refine ih (m + 1) _ (by omega) (by omega) (hF.upJ (List.mem_singleton.mpr rfl)) hg (fun j hj => ?_)
        rw [upJ_2]
        by_cases e : j = m
        · simp [e]
        · simp [e]; exact hz j (by omega)
  intro y e
  rw [e, hn]
  exact ⟨n + 1, key (n + 1) 0 σ (by omega) (by omega) Fr.rf rfl (fun j hj => absurd hj (by omega))⟩
/-- which bits a list tells -/
def msk : List Nat → Nat
  | [] => 0
  | r :: l => adb (msk l) r
theorem msk_lt : ∀ {l : List Nat}, (∀ r ∈ l, r < 8) → msk l < 256 := by
  intro l
  induction l with
  | nil => intro _; decide
  | cons r l ih => intro h; exact (adb_ok (ih (fun q hq => h q (List.mem_cons_of_mem _ hq))) (h r List.mem_cons_self)).2.1
theorem adb_comm (s a b : Nat) : adb (adb s a) b = adb (adb s b) a := by unfold adb; rw [Nat.or_assoc, Nat.or_comm (2 ^ a), ← Nat.or_assoc]
theorem msk_app (l : List Nat) (w : Nat) : msk (l ++ [w]) = adb (msk l) w := by
  induction l with
  | nil => rfl
  | cons r l ih => show adb (msk (l ++ [w])) r = adb (adb (msk l) r) w; rw [ih, adb_comm]
/-- the class' settling state: work hold 32, crew 38 -/
def CS (μ : MU) (laid wind : Nat → Int) (p cs bk set : Nat) (ord : List Nat) (vis : Nat → Bool) (σ : wS) : Prop :=
  MoC μ p σ ∧ LwC μ.1 laid wind 32 σ ∧ σ.1 32 2 = nI set ∧ σ.1 32 3 = nI bk ∧ σ.1 32 4 = nI cs ∧ σ.1 38 3 = nI (msk ord) ∧ σ.1 38 4 = nI ord.length ∧ (∀ j, j < ord.length → σ.1 39 j = nI (ord.getD j 0)) ∧ ∀ s, s < 256 → (σ.2 40 (s / 64)).toBitVec.getLsbD (s % 64) = vis s
theorem CS.mv {μ : MU} {laid wind : Nat → Int} {p cs bk set : Nat} {ord : List Nat} {vis : Nat → Bool} {σ τ : wS} (h : CS μ laid wind p cs bk set ord vis σ) (h1 : τ.1 = σ.1) (h2 : τ.2 40 = σ.2 40) : CS μ laid wind p cs bk set ord vis τ := by
  unfold CS MoC LwC at h ⊢
  rw [h1, h2]
  exact h
theorem sg1 {μ : MU} (hμ : mu_ok μ) {laid wind : Nat → Int} (hb : bdd μ.1 laid wind) (set : Nat) {r b : Nat} (hr : r < μ.1) (hbn : b < μ.1) : (lg_cmp ((1 : Int32).toInt64 * iJ (Pl μ laid wind set r)) ((1 : Int32).toInt64 * iJ (Pl μ laid wind set b)) ≤ 0 ↔ gtP μ laid wind set r b = false) ∧ (lg_cmp ((-1 : Int32).toInt64 * iJ (Pl μ laid wind set r)) ((-1 : Int32).toInt64 * iJ (Pl μ laid wind set b)) ≤ 0 ↔ ltP μ laid wind set r b = false) := by
  have hr := Pl_ab hμ set hb.1 hb.2 hr
  have hb := Pl_ab hμ set hb.1 hb.2 hbn
  have hpb := PB_lt
  have e1 : (1 : Int32).toInt64 = iJ 1 := by decide
  have e2 : (-1 : Int32).toInt64 = iJ (-1) := by decide
  rw [e1, e2, iJ_mul, iJ_mul, iJ_mul, iJ_mul, cmp_le, cmp_le, iJ_le (by omega) (by omega), iJ_le (by omega) (by omega)]
  constructor
  · simp only [gtP, decide_eq_false_iff_not]; omega
  · simp only [ltP, decide_eq_false_iff_not]; omega
theorem sgL {μ : MU} (hμ : mu_ok μ) {laid wind : Nat → Int} (hb : bdd μ.1 laid wind) (set : Nat) {r b : Nat} (hr : r < μ.1) (hbn : b < μ.1) : lg_cmp ((1 : Int32).toInt64 * iJ (Pl μ laid wind set r) * (iI (mu_t μ b)).toInt64) ((1 : Int32).toInt64 * iJ (Pl μ laid wind set b) * (iI (mu_t μ r)).toInt64) ≤ 0 ↔ ldP μ laid wind set r b = false := by
  have hP : ∀ r, r < μ.1 → (Pl μ laid wind set r).natAbs ≤ PB := fun r hr => Pl_ab hμ set hb.1 hb.2 hr
  have e1 : ∀ z : Int, (1 : Int32).toInt64 * iJ z = iJ z := fun z => by rw [show (1 : Int32).toInt64 = iJ 1 by decide, iJ_mul, Int.one_mul]
  rw [e1, e1, (pt_J hμ hP hr hbn).1, (pt_J hμ hP hbn hr).1, cmp_le, iJ_le (by have := (pt_J hμ hP hr hbn).2; omega) (by have := (pt_J hμ hP hbn hr).2; omega)]
  simp only [ldP, decide_eq_false_iff_not]
  omega
theorem slk {n set bk cs : Nat} (hn : n ≤ 8) (hs : set < 256) (hb : bk < 256) (hc : cs < 256) : ∃ k, k < 256 ∧ ((((1 : Int32) <<< ((nI n) &&& 31)) - (1 : Int32)) &&& (((nI set ||| nI bk) ||| nI cs) ^^^ (-1 : Int32))) = nI k ∧ ∀ r, k.testBit r = (decide (r < n) && (!set.testBit r && !(bk.testBit r || cs.testBit r))) := by
  have e1 : ∀ n, n ≤ 8 → ∀ m, m < 256 → ((((1 : Int32) <<< ((nI n) &&& 31)) - (1 : Int32)) &&& ((nI m) ^^^ (-1 : Int32))) = nI ((2 ^ n - 1) &&& (255 ^^^ m)) ∧ ((2 ^ n - 1) &&& (255 ^^^ m)) < 256 ∧ ∀ r, r < 8 → ((2 ^ n - 1) &&& (255 ^^^ m)).testBit r = (decide (r < n) && !m.testBit r) := by decide +kernel
  have om : set ||| bk ||| cs < 256 := Nat.or_lt_two_pow (n := 8) (Nat.or_lt_two_pow (n := 8) hs hb) hc
  have eo : (nI set ||| nI bk) ||| nI cs = nI (set ||| bk ||| cs) := by
    have h : ∀ a b : Nat, nI a ||| nI b = nI (a ||| b) := fun a b => by
      unfold nI
      apply Int32.toBitVec_inj.mp
      simp [Int32.toBitVec_or, BitVec.ofNat_or]
    rw [h, h]
  obtain ⟨q1, q2, q3⟩ := e1 n hn _ om
  refine ⟨_, q2, by rw [eo]; exact q1, fun r => ?_⟩
  rcases Nat.lt_or_ge r 8 with q | q
  · rw [q3 r q]
    simp only [Nat.testBit_or]
    cases set.testBit r <;> cases bk.testBit r <;> cases cs.testBit r <;> simp
  · rw [tb_big q2 q, decide_eq_false (by omega)]; rfl
/-- Crew.nextSet -/
theorem s_nextSet {μ : MU} (hμ : mu_ok μ) {laid wind : Nat → Int} {p cs bk set : Nat} {ord : List Nat} {vis vis2 : Nat → Bool} {σ : wS} {Q : Int32 → wS → Prop} (hb : bdd μ.1 laid wind) (hk : sok μ cs bk set ord vis) (hC : CS μ laid wind p cs bk set ord vis2 σ) (hP : ∀ r, r < μ.1 → σ.2 45 r = iJ (Pl μ laid wind set r))
    (hq : Q (nI (nxS μ laid wind cs bk set)) σ) : w_X1_nextSet p 32 σ Q := by
  have h8 := hμ.1
  obtain ⟨k1, k2, k3, k4, k5, -⟩ := hk
  have hPb : ∀ r, r < μ.1 → (Pl μ laid wind set r).natAbs ≤ PB := fun r hr => Pl_ab hμ set hb.1 hb.2 hr
  have jn : Q (nI (jnS μ laid wind cs bk set)) σ → b_X1_nextSet_43 p 32 Q σ := by
    intro hq
    unfold b_X1_nextSet_43 w_X3_slackOf
    rw [hC.1.1, hC.2.2.1, hC.2.2.2.1, hC.2.2.2.2.1]
    obtain ⟨m, m1, m2, m3⟩ := slk h8 k1 k2 k3
    rw [m2]
    refine s_mostPulled (n := μ.1) (bt := gtP μ laid wind set) m1 h8 (fun r hr => by rw [m3, decide_eq_false (by omega)]; rfl) hP (fun r b hr hbn => (sg1 hμ hb set hr hbn).1) ?_
    have es : sel (gtP μ laid wind set) (fun r => m.testBit r) μ.1 = sel (gtP μ laid wind set) (fun r => !set.testBit r && !(bk.testBit r || cs.testBit r)) μ.1 := sel_ext (fun r hr => by rw [m3, decide_eq_true hr]; rfl) (fun _ _ _ _ _ _ => rfl)
    rw [es]
    unfold jnS at hq
    cases hs : sel (gtP μ laid wind set) (fun r => !set.testBit r && !(bk.testBit r || cs.testBit r)) μ.1 with
    | none =>
      rw [hs] at hq
      refine ⟨fun _ => ?_, fun q => absurd rfl q⟩
      unfold b_X1_nextSet_89
      rw [hC.2.2.1]
      exact hq
    | some b =>
      rw [hs] at hq
      simp only at hq
      have hbl := (sel_lt hs).1
      have ob := oI_s (show b < 8 by omega)
      refine ⟨fun q => absurd q ob.1, fun _ => ⟨ob.2.1, ?_⟩⟩
      rw [ob.2.2, hP b hbl, cmp_le, (iJ_0lt (hPb b hbl)).2.2.1]
      refine ⟨fun h0 => ?_, fun h0 => ?_⟩
      · unfold b_X1_nextSet_89
        rw [hC.2.2.1]
        rw [if_neg (by omega)] at hq
        exact hq
      · rw [hC.2.2.1]
        rw [if_pos (by omega)] at hq
        have := (adb_ok k1 (show b < 8 by omega)).1
        show Q (nI set ||| ((1 : Int32) <<< (nI b &&& 31))) σ
        rw [this]
        exact hq
  unfold w_X1_nextSet
  rw [hC.2.2.1]
  refine s_mostPulled (n := μ.1) (bt := ltP μ laid wind set) k1 h8 k4 hP (fun r b hr hbn => (sg1 hμ hb set hr hbn).2) ?_
  unfold nxS at hq
  cases hs : sel (ltP μ laid wind set) (fun r => set.testBit r) μ.1 with
  | none =>
    rw [hs] at hq
    exact ⟨fun _ => jn hq, fun q => absurd rfl q⟩
  | some b =>
    rw [hs] at hq
    simp only at hq
    have hbl := (sel_lt hs).1
    have ob := oI_s (show b < 8 by omega)
    refine ⟨fun q => absurd q ob.1, fun _ => ⟨ob.2.1, ?_⟩⟩
    rw [ob.2.2, hP b hbl, cmp_ge, (iJ_0lt (hPb b hbl)).2.1]
    refine ⟨fun h0 => jn ?_, fun h0 => ?_⟩
    · rw [if_neg (by omega)] at hq
      exact hq
    · rw [if_pos (by omega)] at hq
      have := (clr_ok k1 (show b < 8 by omega)).1
      rw [hC.2.2.1]
      show Q (nI set &&& (((1 : Int32) <<< (nI b &&& 31)) ^^^ (-1 : Int32))) σ
      rw [this]
      exact hq
