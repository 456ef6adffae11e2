/-! held -/
def Rs (μ : MU) (h : HS) (a m : Nat) : Int := h.2.1 a * Lw μ h.2.2.1.1 + sm m (fun r => if h.2.2.1.1.testBit r then Pl μ h.1 h.2.1 h.2.2.1.1 r * mu_w μ r a else 0)
theorem w_b {μ : MU} (hμ : mu_ok μ) {r a : Nat} (hr : r < μ.1) (ha : a < 3) : (mu_w μ r a).natAbs ≤ 32 := by
  have := (wm_ab hμ hr a ha).1
  have : sc a ≤ 8 := by unfold sc; split <;> decide
  omega
theorem wd_b {μ : MU} {h : HS} (hk : hok μ h) {a : Nat} (ha : a < 3) : (h.2.1 a).natAbs ≤ 9999 := by
  have := hk.1.2
  rcases (show a = 0 ∨ a = 1 ∨ a = 2 by omega) with rfl | rfl | rfl <;> omega
theorem Rs_b {μ : MU} (hμ : mu_ok μ) {h : HS} (hk : hok μ h) {a : Nat} (ha : a < 3) : (Rs μ h a μ.1).natAbs < 2 ^ 63 := by
  have h1 := ab_mul (wd_b hk ha) (Lw_ab hμ h.2.2.1.1)
  have h2 : (sm μ.1 (fun r => if h.2.2.1.1.testBit r then Pl μ h.1 h.2.1 h.2.2.1.1 r * mu_w μ r a else 0)).natAbs ≤ μ.1 * (PB * 32) := sm_ab (fun r hr => by
    split
    · exact ab_mul (Pl_ab hμ _ hk.1.1 hk.1.2 hr) (w_b hμ hr ha)
    · simp)
  have h3 : μ.1 * (PB * 32) ≤ 8 * (PB * 32) := Nat.mul_le_mul_right _ hμ.1
  unfold Rs
  unfold PB at h2 h3
  omega
theorem s_restOn {μ : MU} (hμ : mu_ok μ) {h : HS} {p a : Nat} {σ : wS} {Q : Int64 → wS → Prop} (ha : a < 3) (hk : hok μ h) (hM : MoC μ p σ) (hH : HC μ h 29 σ) (h41 : σ.2 41 4 = iJ (Lw μ h.2.2.1.1)) (h45 : ∀ r, r < μ.1 → σ.2 45 r = iJ (Pl μ h.1 h.2.1 h.2.2.1.1 r)) (hq : Q (iJ (Rs μ h a μ.1)) σ) : w_X0_restOn p 29 (nI a) σ Q := by
  have h8 := hμ.1
  have key : ∀ (k m : Nat), m ≤ μ.1 → m + k = μ.1 + 1 → l_X0_restOn_17 p 29 Q k (nI a) (iJ (Rs μ h a m)) (nI m) σ := by
    intro k
    induction k with
    | zero => intro m h1 h2; omega
    | succ k ih =>
      intro m h1 h2
      simp only [l_X0_restOn_17]
      rw [hM.1, nI_leI (by omega) (by omega)]
      refine ⟨fun hc => ?_, fun hc => ?_⟩
      · have : m = μ.1 := by omega
        subst this
        exact hq
      · have hm : m < μ.1 := by omega
        have ih := ih (m + 1) (by omega) (by omega)
        rw [← nI_1] at ih
        rw [hH.2.1, bt8 hk.2.1 (show m < 8 by omega)]
        simp only [b_X0_restOn_63, forall_eq]
        have e3 : (3 : Int32) * nI m + nI a = nI (3 * m + a) := by rw [show (3 : Int32) = nI 3 from rfl, pk_mul, nI_add]
        cases hb : h.2.2.1.1.testBit m
        · have e : Rs μ h a (m + 1) = Rs μ h a m := by unfold Rs; rw [sm, hb]; simp
          rw [e] at ih
          exact ⟨fun _ => ih, fun q => absurd rfl q⟩
        · have e : Rs μ h a (m + 1) = Rs μ h a m + Pl μ h.1 h.2.1 h.2.2.1.1 m * mu_w μ m a := by unfold Rs; rw [sm, hb]; simp; omega
          rw [e] at ih
          refine ⟨fun q => absurd q (by decide), fun _ => ⟨vp_in_nI (by omega) (by decide), ?_⟩⟩
          rw [e3, nI_clamp (by omega), nI_clamp (by omega), h45 m hm, hM.2.2.2.1 m hm a ha, iI_J (by have := w_b hμ hm ha; omega), iJ_mul, iJ_add]
          exact ⟨vp_in_nI (by omega) (by decide), ih⟩
  refine ⟨vp_in_nI ha (by decide), fun y e => ⟨μ.1 + 1, ?_⟩⟩
  have e0 : y = iJ (Rs μ h a 0) := by
    rw [e, nI_clamp (by omega), h41, show 29 + 2 = 31 from rfl, hH.1.2 a ha, iI_J (by have := wd_b hk ha; omega), iJ_mul]
    congr 1
    unfold Rs sm; omega
  rw [e0]
  exact key (μ.1 + 1) 0 (by omega) (by omega)
def f_held (a w : Int32) (γ : GS) : Int64 × GS := (if 0 < γ.2.1.1 ∧ (0 ≤ a.toInt ∧ a.toInt ≤ 2) ∧ (0 ≤ w.toInt ∧ w.toInt ≤ 1) then (if mu_f γ.2.1 a.toInt.toNat = true then tl 0 1 w else tl (Rs γ.2.1 γ.2.2.1.1 a.toInt.toNat γ.2.1.1) (Lw γ.2.1 γ.2.2.1.1.2.2.1.1) w) else -1000000, γ)
theorem o_held {bd : Nat} {σ : wS} {a w : Int32} (hI : In bd σ) : w_X11_held a w σ (fun r1 s => w_X12_held a w s (fun r' s' => r1 = r' ∧ In (bd + 40) s')) := by
  refine prI (f := f_held a w) (w1 := w_X11_held a w) (w2 := w_X12_held a w) (fun γ σ Q hC hg hq => ?_) (fun γ σ Q hD hg hq => ?_) (fun γ hg => hg.wk (by omega)) hI
  · unfold f_held at hq
    unfold w_X11_held
    rw [s_hasM hg hC]
    refine sw (fun h0 => ?_) (fun hf => by rw [if_neg (fun q => hf q.1)] at hq; exact hq σ hC Fcm.rf)
    rw [s_isAxis]
    refine sw (fun ha => ?_) (fun hf => by rw [if_neg (fun q => hf q.2.1)] at hq; exact hq σ hC Fcm.rf)
    rw [w0_1]
    refine sw' (fun hw => ?_) (fun hw => by rw [if_neg (fun q => hw q.2.2)] at hq; exact hq σ hC Fcm.rf)
    rw [if_pos ⟨h0, ha, hw⟩] at hq
    obtain ⟨hμ, hk, hs, -⟩ := hg.hk h0
    obtain ⟨j, rfl, hj, -⟩ := nn ha.1
    rw [← hj, show ((j : Int)).toNat = j by omega] at hq
    have hLb := Lw_ab hμ γ.2.2.1.1.2.2.1.1
    refine ⟨vp_in_nI (by omega) (by decide), ?_⟩
    rw [nI_clamp (by omega), hC.2.1.2.2.2.2.2.2 j (by omega)]
    refine sw (fun hf => ?_) (fun hf => ?_)
    · rw [if_pos hf] at hq
      refine s_put (u := 0) (l := 1) (by decide) (by decide) (by decide) (fun ρ F2 e2 b1 b2 => ?_)
      exact s_told b1 b2 (hq ρ (hC.fr hg (F2.wk (by decide))) (Fcm.eq e2))
    · rw [if_neg hf] at hq
      refine s_solved hg h0 hC (fun τ F e1 C1 l1 l2 l3 => ?_)
      refine s_restOn hμ (by omega) hk C1.2.1.2 C1.2.2.1.1 l1 l3 ?_
      rw [l1]
      refine s_put hs.1 (Rs_b hμ hk (by omega)) (by omega) (fun ρ F2 e2 b1 b2 => ?_)
      exact s_told b1 b2 (hq ρ (C1.fr hg (F2.wk (by decide))) (Fcm.eq (by rw [e2, e1])))
  · intro s1 e1
    have D1 : D γ s1 := by rw [e1]; exact hD.up (by decide)
    have F1 : Fdm σ s1 := by rw [e1]; exact Fdm.rf.up (by decide)
    unfold f_held at hq
    have h8 := hg.n8
    rw [D1.2.1.1, n0_iff h8]
    refine ⟨fun h0 => by rw [if_neg (fun q => h0 q.1)] at hq; exact hq s1 D1 F1, fun h0 => ?_⟩
    have h0 : 0 < γ.2.1.1 := by omega
    rw [i0_2]
    refine sw (fun ha => ?_) (fun hr => by rw [if_neg (fun q => hr q.2.1)] at hq; exact hq s1 D1 F1)
    rw [i0_1]
    refine sw' (fun hw => ?_) (fun hw => by rw [if_neg (fun q => hw q.2.2)] at hq; exact hq s1 D1 F1)
    rw [if_pos ⟨h0, ha, hw⟩] at hq
    obtain ⟨hμ, hk, hs, -⟩ := hg.hk h0
    obtain ⟨j, rfl, hj, -⟩ := nn ha.1
    rw [← hj, show ((j : Int)).toNat = j by omega] at hq
    have hLb := Lw_ab hμ γ.2.2.1.1.2.2.1.1
    rw [isF hμ D1.2.1 rfl (show j < 3 by omega)]
    refine sw (fun hf => ?_) (fun hf => ?_)
    · rw [if_pos hf, tl01 w hw] at hq
      exact hq s1 D1 F1
    · rw [if_neg hf] at hq
      refine m_asks hμ rfl hk D1.2.1 D1.row (fun τ G1 G2 G3 G4 => ?_)
      have D2 := D1.eq G2
      have e16 : (16 : Int32) + nI j = nI (16 + j) := by rw [show (16 : Int32) = nI 16 from rfl, nI_add]
      rw [e16, nI_clamp (by omega), D2.row.2.1 j (by omega), G4.2.2.2.1, iI_J (by have := wd_b hk (show j < 3 by omega); omega), iJ_mul]
      refine ⟨vp_in_nI (by omega) (by decide), fun y e => ⟨γ.2.1.1 + 1, ?_⟩⟩
      have key : ∀ (k m : Nat), m ≤ γ.2.1.1 → m + k = γ.2.1.1 + 1 → l_X12_held_76 Q k (nI j) w (iJ (Rs γ.2.1 γ.2.2.1.1 j m)) (nI m) τ := by
        intro k
        induction k with
        | zero => intro m h1 h2; omega
        | succ k ih =>
          intro m h1 h2
          simp only [l_X12_held_76]
          rw [D2.2.1.1, nI_leI (by omega) (by omega)]
          refine ⟨fun hc => ?_, fun hc => ?_⟩
          · have : m = γ.2.1.1 := by omega
            subst this
            rw [G4.2.2.2.1]
            exact m_told hs.1 (Rs_b hμ hk (by omega)) (by omega) (hq τ D2 (F1.eq G2))
          · have hm : m < γ.2.1.1 := by omega
            have ih := ih (m + 1) (by omega) (by omega)
            rw [← nI_1] at ih
            have v8 := v8p (show m < 8 by omega)
            rw [v8.2, D2.row.2.2.1 m hm, srt_0 hk]
            simp only [b_X12_held_126, forall_eq]
            have e3 : (3 : Int32) * nI m + nI j = nI (3 * m + j) := by rw [show (3 : Int32) = nI 3 from rfl, pk_mul, nI_add]
            refine ⟨v8.1, fun hb => ?_, fun hb => ?_⟩
            · have e : Rs γ.2.1 γ.2.2.1.1 j (m + 1) = Rs γ.2.1 γ.2.2.1.1 j m := by unfold Rs; rw [sm, if_neg hb]; simp
              rw [e] at ih
              rw [Int64.add_zero]
              exact ih
            · have e : Rs γ.2.1 γ.2.2.1.1 j (m + 1) = Rs γ.2.1 γ.2.2.1.1 j m + Pl γ.2.1 γ.2.2.1.1.1 γ.2.2.1.1.2.1 γ.2.2.1.1.2.2.1.1 m * mu_w γ.2.1 m j := by unfold Rs; rw [sm, if_pos hb]; omega
              rw [e] at ih
              refine m_pl hμ hk.1 G4 hm ?_
              rw [e3, nI_clamp (by omega), D2.2.1.2.2.2 m hm j (by omega), iI_J (by have := w_b hμ hm (show j < 3 by omega); omega), iJ_mul, iJ_add]
              exact ⟨vp_in_nI (by omega) (by decide), ih⟩
      have e0 : y = iJ (Rs γ.2.1 γ.2.2.1.1 j 0) := by
        rw [e]
        congr 1
        unfold Rs sm; omega
      rw [e0]
      exact key (γ.2.1.1 + 1) 0 (by omega) (by omega)
/-! uneven -/
def idP (μ : MU) (laid wind : Nat → Int) (set : Nat) : Nat → Nat → Bool := fun r b => decide (Pl μ laid wind set r * mu_t μ b < Pl μ laid wind set b * mu_t μ r)
theorem sgM {μ : MU} (hμ : mu_ok μ) {laid wind : Nat → Int} (hb : bdd μ.1 laid wind) (set : Nat) {r b : Nat} (hr : r < μ.1) (hbn : b < μ.1) : lg_cmp ((-1 : Int32).toInt64 * iJ (Pl μ laid wind set r) * (iI (mu_t μ b)).toInt64) ((-1 : Int32).toInt64 * iJ (Pl μ laid wind set b) * (iI (mu_t μ r)).toInt64) ≤ 0 ↔ idP μ laid wind set r b = false := by
  have hP : ∀ r, r < μ.1 → (Pl μ laid wind set r).natAbs ≤ PB := fun r hr => Pl_ab hμ set hb.1 hb.2 hr
  have e1 : ∀ z t : Int, (-1 : Int32).toInt64 * iJ z * iJ t = iJ (-(z * t)) := fun z t => by rw [show (-1 : Int32).toInt64 = iJ (-1) by decide, iJ_mul, iJ_mul]; congr 1; grind
  have b1 := (pt_J hμ hP hr hbn).2
  have b2 := (pt_J hμ hP hbn hr).2
  rw [t_J hμ hr, t_J hμ hbn, e1, e1, cmp_le, iJ_le (by omega) (by omega)]
  simp only [idP, decide_eq_false_iff_not]
  omega
theorem m_idlest {μ : MU} (hμ : mu_ok μ) {h : HS} {lg : List LE} {σ : wS} {Q : Int32 → wS → Prop} (hk : hok μ h) (hR : RowM μ h lg (σ.1 188)) (hp : PhM μ h.1 h.2.1 h.2.2.1.1 188 σ)
    (hq : Q (oI (sel (idP μ h.1 h.2.1 h.2.2.1.1) (fun r => h.2.2.1.1.testBit r) μ.1)) σ) : w_X12_idlest σ Q := by
  have h8 := hμ.1
  have hP : ∀ r, r < μ.1 → (Pl μ h.1 h.2.1 h.2.2.1.1 r).natAbs ≤ PB := fun r hr => Pl_ab hμ _ hk.1.1 hk.1.2 hr
  generalize hbt : idP μ h.1 h.2.1 h.2.2.1.1 = bt at hq
  have key : ∀ (k m : Nat), m ≤ μ.1 → m + k = μ.1 + 1 → l_X12_idlest_4 Q k (oI (sel bt (fun r => h.2.2.1.1.testBit r) m)) (nI m) σ := by
    intro k
    induction k with
    | zero => intro m h1 h2; omega
    | succ k ih =>
      intro m h1 h2
      simp only [l_X12_idlest_4]
      rw [hp.2.1.1, nI_leI (by omega) (by omega)]
      refine ⟨fun hc => ?_, fun hc => ?_⟩
      · have : m = μ.1 := by omega
        subst this
        exact hq
      · have hm : m < μ.1 := by omega
        have ih := ih (m + 1) (by omega) (by omega)
        rw [← nI_1] at ih
        have v8 := v8p (show m < 8 by omega)
        rw [v8.2, hR.2.2.1 m hm, srt_0 hk]
        refine ⟨v8.1, fun hS => ?_, fun hS => ?_⟩
        · cases hsel : sel bt (fun r => h.2.2.1.1.testBit r) m with
          | none =>
            rw [sel_s1 hS hsel] at ih
            refine ⟨fun _ => ?_, fun q => absurd rfl q⟩
            simp only [b_X12_idlest_68, b_X12_idlest_70, forall_eq]
            exact ih
          | some b =>
            have hbl := (sel_lt hsel).1
            have hbn : b < μ.1 := by omega
            have ob := oI_s (show b < 8 by omega)
            refine ⟨fun q => absurd q ob.1, fun _ => m_pl hμ hk.1 hp hm ?_⟩
            show w_X12_strength (nI b) σ _
            rw [strg hμ hp.2.1 hbn]
            refine m_pl (r := b) hμ hk.1 hp hbn ?_
            rw [strg hμ hp.2.1 hm, (pt_J hμ hP hm hbn).1, (pt_J hμ hP hbn hm).1, cmp_ge, iJ_le (by have := (pt_J hμ hP hbn hm).2; omega) (by have := (pt_J hμ hP hm hbn).2; omega)]
            have ebt : bt m b = decide (Pl μ h.1 h.2.1 h.2.2.1.1 m * mu_t μ b < Pl μ h.1 h.2.1 h.2.2.1.1 b * mu_t μ m) := by rw [← hbt]; rfl
            refine ⟨fun h9 => ?_, fun h9 => ?_⟩
            · simp only [b_X12_idlest_70, forall_eq]
              rw [sel_s2 hsel (by rw [ebt]; exact decide_eq_false (by omega))] at ih
              exact ih
            · simp only [b_X12_idlest_68, b_X12_idlest_70, forall_eq]
              rw [sel_s3 hS hsel (by rw [ebt]; exact decide_eq_true (by omega))] at ih
              exact ih
        · simp only [b_X12_idlest_70, forall_eq]
          have hS : h.2.2.1.1.testBit m = false := by simpa using hS
          rw [sel_s0 (S := fun r => h.2.2.1.1.testBit r) hS] at ih
          exact ih
  exact ⟨μ.1 + 1, key (μ.1 + 1) 0 (by omega) (by omega)⟩
/-- without a taut rope nothing holds -/
theorem Lw_0 {μ : MU} (hμ : mu_ok μ) : Lw μ 0 = 0 := by
  have e : ∀ a b m, mat μ 0 m a b = dg μ a b := by
    intro a b m
    unfold mat
    have : ∀ m, sm m (fun r => if Nat.testBit 0 r then mu_k μ r * mu_wm μ r a * mu_wm μ r b else 0) = 0 := by
      intro m
      induction m with
      | zero => rfl
      | succ m ih => rw [sm, ih]; simp
    rw [this]; omega
  have hd : dg μ 0 0 * (dg μ 1 1 * dg μ 2 2) = 0 := by
    obtain ⟨-, -, f1, f2, -⟩ := hμ
    have hf : ∀ k, k < 8 → 1 ≤ k → k.testBit 0 = true ∨ k.testBit 1 = true ∨ k.testBit 2 = true := by decide
    have := hf (μ.2.2 0).toNat (by omega) (by omega)
    have hz : ∀ a, (μ.2.2 0).toNat.testBit a = true → dg μ a a = 0 := fun a ha => by unfold dg mu_f; rw [ha]; simp
    rcases this with q | q | q
    · rw [hz 0 q]; omega
    · rw [hz 1 q]; simp
    · rw [hz 2 q]; simp
  unfold Lw cof
  simp only [e, Nat.reduceAdd, Nat.reduceMod]
  have z1 : dg μ 0 1 = 0 ∧ dg μ 0 2 = 0 ∧ dg μ 1 2 = 0 ∧ dg μ 2 1 = 0 := by simp [dg]
  rw [z1.1, z1.2.1, z1.2.2.1, z1.2.2.2]
  simp only [Int.zero_mul, Int.add_zero, Int.sub_zero, Int.mul_zero]
  exact hd
theorem taut_ex {μ : MU} (hμ : mu_ok μ) {h : HS} (hk : hok μ h) (hs : sett μ h) : ∃ r, r < μ.1 ∧ h.2.2.1.1.testBit r = true := by
  by_cases q : ∃ r, r < μ.1 ∧ h.2.2.1.1.testBit r = true
  · exact q
  · exfalso
    have e : h.2.2.1.1 = 0 := by
      refine tb_ext hk.2.1 (by decide) (fun r _ => ?_)
      rw [Nat.zero_testBit]
      cases hb : h.2.2.1.1.testBit r
      · rfl
      · rcases Nat.lt_or_ge r μ.1 with w | w
        · exact absurd ⟨r, w, hb⟩ q
        · rw [(hk.2.2.2.2.1 r w).1] at hb; cases hb
    have h1 := hs.1
    rw [e, Lw_0 hμ] at h1
    omega
theorem sel_ne {bt : Nat → Nat → Bool} {S : Nat → Bool} : ∀ {n r : Nat}, r < n → S r = true → ∃ b, sel bt S n = some b := by
  intro n
  induction n with
  | zero => intro r h; omega
  | succ n ih =>
    intro r h hr
    cases hs : sel bt S n with
    | none =>
      rcases Nat.lt_or_ge r n with q | q
      · obtain ⟨b, hb⟩ := ih q hr
        rw [hs] at hb; cases hb
      · have : r = n := by omega
        subst this
        exact ⟨r, sel_s1 hr hs⟩
    | some b =>
      cases h2 : bt n b
      · exact ⟨b, sel_s2 hs h2⟩
      · cases h3 : S n
        · exact ⟨b, by rw [sel_s0 h3, hs]⟩
        · exact ⟨n, sel_s3 h3 hs h2⟩
def f_uneven (w : Int32) (γ : GS) : Int64 × GS := (if 0 < γ.2.1.1 ∧ (0 ≤ w.toInt ∧ w.toInt ≤ 1) then
  (match sel (ldP γ.2.1 γ.2.2.1.1.1 γ.2.2.1.1.2.1 γ.2.2.1.1.2.2.1.1) (fun r => γ.2.2.1.1.2.2.1.1.testBit r) γ.2.1.1, sel (idP γ.2.1 γ.2.2.1.1.1 γ.2.2.1.1.2.1 γ.2.2.1.1.2.2.1.1) (fun r => γ.2.2.1.1.2.2.1.1.testBit r) γ.2.1.1 with
  | some a, some b => tl (Pl γ.2.1 γ.2.2.1.1.1 γ.2.2.1.1.2.1 γ.2.2.1.1.2.2.1.1 a * mu_t γ.2.1 b - Pl γ.2.1 γ.2.2.1.1.1 γ.2.2.1.1.2.1 γ.2.2.1.1.2.2.1.1 b * mu_t γ.2.1 a) (mu_t γ.2.1 a * mu_t γ.2.1 b * Lw γ.2.1 γ.2.2.1.1.2.2.1.1) w
  | _, _ => 0) else -1000000, γ)
theorem ttL_b {μ : MU} (hμ : mu_ok μ) {a b set : Nat} (ha : a < μ.1) (hb : b < μ.1) (hL : 0 < Lw μ set) : 0 < mu_t μ a * mu_t μ b * Lw μ set ∧ (mu_t μ a * mu_t μ b * Lw μ set).natAbs < 2 ^ 63 := by
  have h1 := t_b hμ ha
  have h2 := t_b hμ hb
  have hLb := Lw_ab hμ set
  have := ab_mul (ab_mul (a := 999) (b := 999) (show (mu_t μ a).natAbs ≤ 999 by omega) (show (mu_t μ b).natAbs ≤ 999 by omega)) hLb
  exact ⟨Int.mul_pos (Int.mul_pos (by omega) (by omega)) hL, by omega⟩
theorem un_b {μ : MU} (hμ : mu_ok μ) {h : HS} (hk : hok μ h) {a b : Nat} (ha : a < μ.1) (hb : b < μ.1) (set : Nat) : (Pl μ h.1 h.2.1 set a * mu_t μ b - Pl μ h.1 h.2.1 set b * mu_t μ a).natAbs < 2 ^ 63 := by
  have h1 := t_b hμ ha
  have h2 := t_b hμ hb
  have m1 := ab_mul (Pl_ab hμ set hk.1.1 hk.1.2 ha) (show (mu_t μ b).natAbs ≤ 999 by omega)
  have m2 := ab_mul (Pl_ab hμ set hk.1.1 hk.1.2 hb) (show (mu_t μ a).natAbs ≤ 999 by omega)
  unfold PB at m1 m2
  omega
theorem o_uneven {bd : Nat} {σ : wS} {w : Int32} (hI : In bd σ) : w_X11_uneven w σ (fun r1 s => w_X12_uneven w s (fun r' s' => r1 = r' ∧ In (bd + 40) s')) := by
  refine prI (f := f_uneven w) (w1 := w_X11_uneven w) (w2 := w_X12_uneven w) (fun γ σ Q hC hg hq => ?_) (fun γ σ Q hD hg hq => ?_) (fun γ hg => hg.wk (by omega)) hI
  · unfold f_uneven at hq
    unfold w_X11_uneven
    rw [s_hasM hg hC]
    refine sw (fun h0 => ?_) (fun hf => by rw [if_neg (fun q => hf q.1)] at hq; exact hq σ hC Fcm.rf)
    rw [w0_1]
    refine sw' (fun hw => ?_) (fun hw => by rw [if_neg (fun q => hw q.2)] at hq; exact hq σ hC Fcm.rf)
    rw [if_pos ⟨h0, hw⟩] at hq
    obtain ⟨hμ, hk, hs, -⟩ := hg.hk h0
    have h8 := hμ.1
    obtain ⟨r, hr1, hr2⟩ := taut_ex hμ hk hs
    obtain ⟨a, hsa⟩ := sel_ne (bt := ldP γ.2.1 γ.2.2.1.1.1 γ.2.2.1.1.2.1 γ.2.2.1.1.2.2.1.1) (S := fun r => γ.2.2.1.1.2.2.1.1.testBit r) hr1 hr2
    obtain ⟨b, hsb⟩ := sel_ne (bt := idP γ.2.1 γ.2.2.1.1.1 γ.2.2.1.1.2.1 γ.2.2.1.1.2.2.1.1) (S := fun r => γ.2.2.1.1.2.2.1.1.testBit r) hr1 hr2
    rw [hsa, hsb] at hq
    have han := (sel_lt hsa).1
    have hbn := (sel_lt hsb).1
    refine s_solved hg h0 hC (fun τ F e1 C1 l1 l2 l3 => ?_)
    unfold w_X11_putUneven
    rw [C1.2.2.1.1.2.1]
    refine s_mostLoaded hk.2.1 hμ.1 (fun r hr => (hk.2.2.2.2.1 r hr).1) l3 (T := mu_t γ.2.1) (fun r hr => (C1.2.1.2.2.2.2.2.1 r hr).2) (fun r b hr hb => sgL hμ hk.1 _ hr hb) ?_
    rw [C1.2.2.1.1.2.1]
    refine s_mostLoaded hk.2.1 hμ.1 (fun r hr => (hk.2.2.2.2.1 r hr).1) l3 (T := mu_t γ.2.1) (fun r hr => (C1.2.1.2.2.2.2.2.1 r hr).2) (fun r b hr hb => sgM hμ hk.1 _ hr hb) ?_
    rw [hsa, hsb]
    have oa := oI_s (show a < 8 by omega)
    have ob := oI_s (show b < 8 by omega)
    refine ⟨fun q => absurd q oa.1, fun _ => ⟨fun _ => ⟨oa.2.1, fun y5 e5 => ⟨ob.2.1, fun y6 e6 => ⟨oa.2.1, ob.2.1, ?_⟩⟩⟩, fun q => absurd q ob.1⟩⟩
    rw [oa.2.2, (C1.2.1.2.2.2.2.2.1 a han).2, t_J hμ han] at e5
    rw [ob.2.2, (C1.2.1.2.2.2.2.2.1 b hbn).2, t_J hμ hbn] at e6
    rw [oa.2.2, ob.2.2, l3 a han, l3 b hbn, l1, e5, e6, iJ_mul, iJ_mul, iJ_sub, iJ_mul, iJ_mul]
    have hbb := ttL_b hμ han hbn hs.1
    refine s_put hbb.1 (un_b hμ hk han hbn _) hbb.2 (fun ρ F2 e2 b1 b2 => ?_)
    exact s_told b1 b2 (hq ρ (C1.fr hg (F2.wk (by decide))) (Fcm.eq (by rw [e2, e1])))
  · intro s1 e1
    have D1 : D γ s1 := by rw [e1]; exact hD.up (by decide)
    have F1 : Fdm σ s1 := by rw [e1]; exact Fdm.rf.up (by decide)
    unfold f_uneven at hq
    have h8 := hg.n8
    rw [D1.2.1.1, n0_iff h8]
    refine ⟨fun h0 => by rw [if_neg (fun q => h0 q.1)] at hq; exact hq s1 D1 F1, fun h0 => ?_⟩
    have h0 : 0 < γ.2.1.1 := by omega
    rw [i0_1]
    refine sw' (fun hw => ?_) (fun hw => by rw [if_neg (fun q => hw q.2)] at hq; exact hq s1 D1 F1)
    rw [if_pos ⟨h0, hw⟩] at hq
    obtain ⟨hμ, hk, hs, -⟩ := hg.hk h0
    obtain ⟨r, hr1, hr2⟩ := taut_ex hμ hk hs
    obtain ⟨a, hsa⟩ := sel_ne (bt := ldP γ.2.1 γ.2.2.1.1.1 γ.2.2.1.1.2.1 γ.2.2.1.1.2.2.1.1) (S := fun r => γ.2.2.1.1.2.2.1.1.testBit r) hr1 hr2
    obtain ⟨b, hsb⟩ := sel_ne (bt := idP γ.2.1 γ.2.2.1.1.1 γ.2.2.1.1.2.1 γ.2.2.1.1.2.2.1.1) (S := fun r => γ.2.2.1.1.2.2.1.1.testBit r) hr1 hr2
    rw [hsa, hsb] at hq
    have han := (sel_lt hsa).1
    have hbn := (sel_lt hsb).1
    refine m_asks hμ rfl hk D1.2.1 D1.row (fun τ G1 G2 G3 G4 => ?_)
    have D2 := D1.eq G2
    refine m_taut hμ rfl hk D2.2.1 D2.row ?_
    refine m_worstOf hμ hk.2.1 hk.1 G4 ?_
    have e : (fun r => γ.2.2.1.1.2.2.1.1.testBit r && decide ((0 : Int32) = 0 ∨ mu_t γ.2.1 r * Lw γ.2.1 γ.2.2.1.1.2.2.1.1 < Pl γ.2.1 γ.2.2.1.1.1 γ.2.2.1.1.2.1 γ.2.2.1.1.2.2.1.1 r)) = fun r => γ.2.2.1.1.2.2.1.1.testBit r := by funext r; simp
    rw [e]
    refine m_idlest hμ hk D2.row G4 ?_
    rw [hsb]
    have hsa' : sel (fun r b => decide (Pl γ.2.1 γ.2.2.1.1.1 γ.2.2.1.1.2.1 γ.2.2.1.1.2.2.1.1 b * mu_t γ.2.1 r < Pl γ.2.1 γ.2.2.1.1.1 γ.2.2.1.1.2.1 γ.2.2.1.1.2.2.1.1 r * mu_t γ.2.1 b)) (fun r => γ.2.2.1.1.2.2.1.1.testBit r) γ.2.1.1 = some a := hsa
    rw [hsa']
    refine m_pl (r := a) hμ hk.1 G4 han ?_
    show w_X12_strength (nI b) τ _
    rw [strg hμ G4.2.1 hbn]
    refine m_pl (r := b) hμ hk.1 G4 hbn ?_
    show w_X12_strength (nI a) τ _
    rw [strg hμ G4.2.1 han]
    show w_X12_strength (nI a) τ _
    rw [strg hμ G4.2.1 han]
    show w_X12_strength (nI b) τ _
    rw [strg hμ G4.2.1 hbn, G4.2.2.2.1, t_J hμ han, t_J hμ hbn, iJ_mul, iJ_mul, iJ_sub, iJ_mul, iJ_mul]
    have hbb := ttL_b hμ han hbn hs.1
    rw [show Lw γ.2.1 γ.2.2.1.1.2.2.1.1 * mu_t γ.2.1 a * mu_t γ.2.1 b = mu_t γ.2.1 a * mu_t γ.2.1 b * Lw γ.2.1 γ.2.2.1.1.2.2.1.1 by grind]
    exact m_told hbb.1 (un_b hμ hk han hbn _) hbb.2 (hq τ D2 (F1.eq G2))
