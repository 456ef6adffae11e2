/-! what is solved for how it stands -/
theorem s_solved {γ : GS} {bd : Nat} {σ : wS} {Q : wS → Prop} (hg : gok γ bd) (h0 : 0 < γ.2.1.1) (hC : C γ σ) (hq : ∀ τ : wS, Fr cW σ τ → τ.1 = σ.1 → C γ τ → τ.2 41 4 = iJ (Lw γ.2.1 γ.2.2.1.1.2.2.1.1) → (∀ a, a < 3 → τ.2 44 a = iJ (Sh γ.2.1 γ.2.2.1.1.1 γ.2.2.1.1.2.1 γ.2.2.1.1.2.2.1.1 a)) → (∀ r, r < γ.2.1.1 → τ.2 45 r = iJ (Pl γ.2.1 γ.2.2.1.1.1 γ.2.2.1.1.2.1 γ.2.2.1.1.2.2.1.1 r)) → Q τ) : w_X11_solved σ Q := by
  obtain ⟨hμ, hk, hs, -⟩ := hg.hk h0
  obtain ⟨a1, a2, -⟩ := hC.2.2.1.1
  unfold w_X11_solved
  rw [a2]
  refine s_solve hμ hk.2.1 hC.2.1.2 a1 hk.1 (fun τ h1 h2 h3 h4 => ?_)
  have F : Fr cW σ τ := h1.wk (by decide)
  exact hq τ F h2 (hC.fr hg F) h3 (h4 hs.1).1 (h4 hs.1).2
theorem those_eq {n c x : Nat} {f : Nat → Nat} (hn : n ≤ 8) (hx : x < 256) (h : ∀ r, r < n → (decide (f r = c) = x.testBit r)) (hz : ∀ r, n ≤ r → x.testBit r = false) : mkm (fun r => decide (f r = c)) n = x := by
  obtain ⟨m1, m2⟩ := mkm_ok (f := fun r => decide (f r = c)) hn
  refine tb_ext m1 hx (fun r hr => ?_)
  rw [m2]
  by_cases q : r < n
  · rw [decide_eq_true q, Bool.true_and]; exact h r q
  · rw [decide_eq_false q, Bool.false_and, hz r (by omega)]
theorem srt_bits {μ : MU} {h : HS} (hk : hok μ h) (r : Nat) : decide (srt h.2.2.1.2.1 h.2.2.1.2.2 h.2.2.1.1 r = 0) = h.2.2.1.1.testBit r ∧ decide (srt h.2.2.1.2.1 h.2.2.1.2.2 h.2.2.1.1 r = 2) = h.2.2.1.2.1.testBit r ∧ decide (srt h.2.2.1.2.1 h.2.2.1.2.2 h.2.2.1.1 r = 3) = h.2.2.1.2.2.testBit r ∧ decide (srt h.2.2.1.2.1 h.2.2.1.2.2 h.2.2.1.1 r = 1) = (!h.2.2.1.1.testBit r && !(h.2.2.1.2.1.testBit r || h.2.2.1.2.2.testBit r)) := by
  have k5 := hk.2.2.2.2.2.1 r
  have k6 := hk.2.2.2.2.2.2 r
  unfold srt
  cases ht : h.2.2.1.1.testBit r
  · cases hb : h.2.2.1.2.1.testBit r
    · cases hc : h.2.2.1.2.2.testBit r <;> simp
    · rw [k6 hb]; simp
  · have := k5 ht
    rw [this.1, this.2]; simp
theorem those_t {μ : MU} {h : HS} (hμ : mu_ok μ) (hk : hok μ h) : mkm (fun r => decide (srt h.2.2.1.2.1 h.2.2.1.2.2 h.2.2.1.1 r = 0)) μ.1 = h.2.2.1.1 ∧ mkm (fun r => decide (srt h.2.2.1.2.1 h.2.2.1.2.2 h.2.2.1.1 r = 2)) μ.1 = h.2.2.1.2.1 ∧ mkm (fun r => decide (srt h.2.2.1.2.1 h.2.2.1.2.2 h.2.2.1.1 r = 3)) μ.1 = h.2.2.1.2.2 := by
  have k4 := hk.2.2.2.2.1
  exact ⟨those_eq hμ.1 hk.2.1 (fun r _ => (srt_bits hk r).1) (fun r hr => (k4 r hr).1), those_eq hμ.1 hk.2.2.1 (fun r _ => (srt_bits hk r).2.1) (fun r hr => (k4 r hr).2.1), those_eq hμ.1 hk.2.2.2.1 (fun r _ => (srt_bits hk r).2.2.1) (fun r hr => (k4 r hr).2.2)⟩
/-- those of a row that are taut -/
theorem m_taut {μ : MU} (hμ : mu_ok μ) {h : HS} {lg : List LE} {p : Nat} {σ : wS} {Q : Int32 → wS → Prop} (hlp : ln p = 202) (hk : hok μ h) (hM : MoM μ σ) (hR : RowM μ h lg (σ.1 p)) (hq : Q (nI h.2.2.1.1) σ) : w_X12_those p (σ.1 176 14) 0 σ Q := by
  rw [hM.1]
  refine m_those (c := 0) (so := srt h.2.2.1.2.1 h.2.2.1.2.2 h.2.2.1.1) hlp hμ.1 (by decide) (fun r hr => ⟨hR.2.2.1 r hr, srt_lt4 _ _ _ _⟩) ?_
  rw [(those_t hμ hk).1]
  exact hq
theorem m_asks {μ : MU} (hμ : mu_ok μ) {h : HS} {lg : List LE} {p : Nat} {σ : wS} {Q : wS → Prop} (hlp : ln p = 202) (hk : hok μ h) (hM : MoM μ σ) (hR : RowM μ h lg (σ.1 p)) (hq : ∀ τ : wS, Fr [176, 192, 193, 194] σ τ → τ.1 = σ.1 → (∀ k, k ≠ 29 → τ.2 176 k = σ.2 176 k) → PhM μ h.1 h.2.1 h.2.2.1.1 p τ → Q τ) : w_X12_asks p σ Q := by
  refine m_taut hμ hlp hk hM hR ?_
  refine m_solves hμ hk.2.1 hlp hM ⟨hR.1, hR.2.1⟩ hk.1 (fun τ h1 h2 h3 h4 h5 => ?_)
  refine hq τ h1 h2 h3 ⟨hlp, ?_, ?_, h4, h5⟩
  · unfold MoM; rw [h2]; exact hM
  · unfold LwM; rw [h2]; exact ⟨hR.1, hR.2.1⟩
theorem D.eq {γ : GS} {σ τ : wS} (h : D γ σ) (h1 : τ.1 = σ.1) : D γ τ := h.mv (fun i _ => by rw [h1]) (fun k _ => by rw [h1])
theorem Fdm.eq {σ τ ρ : wS} (h : Fdm σ τ) (h1 : ρ.1 = τ.1) : Fdm σ ρ := fun i hi => by rw [h1]; exact h i hi
theorem Fcm.eq {σ τ : wS} (h1 : τ.1 = σ.1) : Fcm σ τ := fun i _ => by rw [h1]
theorem gok.Pb {γ : GS} {bd : Nat} (hg : gok γ bd) (h0 : 0 < γ.2.1.1) {r : Nat} (hr : r < γ.2.1.1) (set : Nat) : (Pl γ.2.1 γ.2.2.1.1.1 γ.2.2.1.1.2.1 set r).natAbs < 2 ^ 63 := by
  obtain ⟨hμ, hk, -⟩ := hg.hk h0
  have := Pl_ab hμ set hk.1.1 hk.1.2 hr
  have := PB_lt
  omega
theorem D.row {γ : GS} {σ : wS} (h : D γ σ) : RowM γ.2.1 γ.2.2.1.1 γ.2.2.1.2.1 (σ.1 188) := h.2.2.1
theorem n0_iff {n : Nat} (h8 : n ≤ 8) : nI n = 0 ↔ ¬ 0 < n := by
  rw [show (0 : Int32) = nI 0 from rfl, nI_eq (by omega) (by decide)]; omega
/-! pull -/
def f_pull (r w : Int32) (γ : GS) : Int64 × GS := (if fas γ.2.1 γ.2.2.1.1 r ∧ (0 ≤ w.toInt ∧ w.toInt ≤ 1) then tl (Pl γ.2.1 γ.2.2.1.1.1 γ.2.2.1.1.2.1 γ.2.2.1.1.2.2.1.1 r.toInt.toNat) (Lw γ.2.1 γ.2.2.1.1.2.2.1.1) w else -1000000, γ)
theorem srt_lt2 (bk cs set r : Nat) : nI (srt bk cs set r) < 2 ↔ (bk.testBit r || cs.testBit r) = false := by
  unfold srt
  cases bk.testBit r <;> cases cs.testBit r <;> cases set.testBit r <;> decide
theorem o_pull {bd : Nat} {σ : wS} {r w : Int32} (hI : In bd σ) : w_X11_pull r w σ (fun r1 s => w_X12_pull r w s (fun r' s' => r1 = r' ∧ In (bd + 40) s')) := by
  refine prI (f := f_pull r w) (w1 := w_X11_pull r w) (w2 := w_X12_pull r w) (fun γ σ Q hC hg hq => ?_) (fun γ σ Q hD hg hq => ?_) (fun γ hg => hg.wk (by omega)) hI
  · unfold f_pull at hq
    unfold w_X11_pull
    rw [s_isFast hg hC]
    refine sw (fun hf => ?_) (fun hf => by rw [if_neg (fun q => hf q.1)] at hq; exact hq σ hC Fcm.rf)
    rw [w0_1]
    refine sw' (fun hw => ?_) (fun hw => by rw [if_neg (fun q => hw q.2)] at hq; exact hq σ hC Fcm.rf)
    rw [if_pos ⟨hf, hw⟩] at hq
    have h0 : 0 < γ.2.1.1 := by have := hf.1.1; have := hf.1.2; omega
    obtain ⟨hμ, hk, hs, -⟩ := hg.hk h0
    have h8 := hμ.1
    obtain ⟨j, rfl, hj, -⟩ := nn hf.1.1
    rw [← hj, show ((j : Int)).toNat = j by omega] at hq
    have hjn : j < γ.2.1.1 := by have := hf.1.2; omega
    have hLb := Lw_ab hμ γ.2.2.1.1.2.2.1.1
    refine s_solved hg h0 hC (fun τ F e1 C1 l1 l2 l3 => ⟨vp_in_nI (by omega) (by decide), ?_⟩)
    rw [nI_clamp (by omega), l1, l3 j hjn]
    refine s_put hs.1 (hg.Pb h0 hjn _) (by omega) (fun ρ F2 e2 b1 b2 => ?_)
    exact s_told b1 b2 (hq ρ (C1.fr hg (F2.wk (by decide))) (Fcm.eq (by rw [e2, e1])))
  · intro s1 e1
    have D1 : D γ s1 := by rw [e1]; exact hD.up (by decide)
    have F1 : Fdm σ s1 := by rw [e1]; exact Fdm.rf.up (by decide)
    unfold f_pull at hq
    have h8 := hg.n8
    rw [isRM h8 D1.2.1.1]
    refine sw (fun hr => ?_) (fun hr => by rw [if_neg (fun q => hr q.1.1)] at hq; exact hq s1 D1 F1)
    rw [i0_1]
    refine sw (fun hw => ?_) (fun hw => by rw [if_neg (fun q => hw q.2)] at hq; exact hq s1 D1 F1)
    have h0 : 0 < γ.2.1.1 := by have := hr.1; have := hr.2; omega
    obtain ⟨hμ, hk, hs, -⟩ := hg.hk h0
    obtain ⟨j, rfl, hj, -⟩ := nn hr.1
    have hjn : j < γ.2.1.1 := by have := hr.2; omega
    have hjt : (nI j).toInt.toNat = j := by omega
    have v8 := v8p (show j < 8 by omega)
    have hLb := Lw_ab hμ γ.2.2.1.1.2.2.1.1
    rw [v8.2, D1.row.2.2.1 j hjn, srt_lt2]
    refine ⟨v8.1, fun hf => ?_, fun hf => ?_⟩
    · rw [if_pos ⟨⟨hr, by rw [hjt]; exact hf⟩, hw⟩, hjt] at hq
      refine m_asks hμ rfl hk D1.2.1 D1.row (fun τ G1 G2 G3 G4 => ?_)
      refine m_pl hμ hk.1 G4 hjn ?_
      rw [G4.2.2.2.1]
      exact m_told hs.1 (hg.Pb h0 hjn _) (by omega) (hq τ (D1.eq G2) (F1.eq G2))
    · rw [if_neg (fun q => hf (by have := q.1.2; rw [hjt] at this; exact this))] at hq
      exact hq s1 D1 F1
/-! shift -/
def f_shift (a w : Int32) (γ : GS) : Int64 × GS := (if 0 < γ.2.1.1 ∧ (0 ≤ a.toInt ∧ a.toInt ≤ 2) ∧ (0 ≤ w.toInt ∧ w.toInt ≤ 1) then tl (Sh γ.2.1 γ.2.2.1.1.1 γ.2.2.1.1.2.1 γ.2.2.1.1.2.2.1.1 a.toInt.toNat) (Lw γ.2.1 γ.2.2.1.1.2.2.1.1) w else -1000000, γ)
theorem s_isAxis {x : Int32} {σ : wS} {Q : Int32 → wS → Prop} : w_X11_isAxis x σ Q = Q (if 0 ≤ x.toInt ∧ x.toInt ≤ 2 then 1 else 0) σ := by
  unfold w_X11_isAxis
  rw [xlt0, show (3 : Int32) = nI 3 from rfl, (xnle x (n := 3) (by decide)).1]
  by_cases h1 : x.toInt < 0
  · simp [h1, show ¬ (0 ≤ x.toInt ∧ x.toInt ≤ 2) by omega]
  · by_cases h2 : ((3 : Nat) : Int) ≤ x.toInt
    · have : ¬ (0 ≤ x.toInt ∧ x.toInt ≤ 2) := by omega
      rw [if_neg this]; simp only [h1, h2]; simp
    · have : (0 ≤ x.toInt ∧ x.toInt ≤ 2) := by omega
      rw [if_pos this]; simp only [h1, h2]; simp
theorem Sh_b {μ : MU} (hμ : mu_ok μ) {h : HS} (hk : hok μ h) (set : Nat) {a : Nat} (ha : a < 3) : (Sh μ h.1 h.2.1 set a).natAbs < 2 ^ 63 := by
  have h1 := Sh_ab hμ set hk.1.1 hk.1.2 ha
  have h2 : 1 ≤ sc a := by unfold sc; split <;> decide
  have : (Sh μ h.1 h.2.1 set a).natAbs * 1 ≤ (Sh μ h.1 h.2.1 set a).natAbs * sc a := Nat.mul_le_mul_left _ h2
  omega
theorem o_shift {bd : Nat} {σ : wS} {a w : Int32} (hI : In bd σ) : w_X11_shift a w σ (fun r1 s => w_X12_shift a w s (fun r' s' => r1 = r' ∧ In (bd + 40) s')) := by
  refine prI (f := f_shift a w) (w1 := w_X11_shift a w) (w2 := w_X12_shift a w) (fun γ σ Q hC hg hq => ?_) (fun γ σ Q hD hg hq => ?_) (fun γ hg => hg.wk (by omega)) hI
  · unfold f_shift at hq
    unfold w_X11_shift
    rw [s_hasM hg hC]
    refine sw (fun h0 => ?_) (fun hf => by rw [if_neg (fun q => hf q.1)] at hq; exact hq σ hC Fcm.rf)
    rw [s_isAxis]
    refine sw (fun ha => ?_) (fun hf => by rw [if_neg (fun q => hf q.2.1)] at hq; exact hq σ hC Fcm.rf)
    rw [w0_1]
    refine sw' (fun hw => ?_) (fun hw => by rw [if_neg (fun q => hw q.2.2)] at hq; exact hq σ hC Fcm.rf)
    rw [if_pos ⟨h0, ha, hw⟩] at hq
    obtain ⟨hμ, hk, hs, -⟩ := hg.hk h0
    obtain ⟨j, rfl, hj, -⟩ := nn ha.1
    rw [← hj, show ((j : Int)).toNat = j by omega] at hq
    have hLb := Lw_ab hμ γ.2.2.1.1.2.2.1.1
    refine s_solved hg h0 hC (fun τ F e1 C1 l1 l2 l3 => ⟨vp_in_nI (by omega) (by decide), ?_⟩)
    rw [nI_clamp (by omega), l1, l2 j (by omega)]
    refine s_put hs.1 (Sh_b hμ hk _ (by omega)) (by omega) (fun ρ F2 e2 b1 b2 => ?_)
    exact s_told b1 b2 (hq ρ (C1.fr hg (F2.wk (by decide))) (Fcm.eq (by rw [e2, e1])))
  · intro s1 e1
    have D1 : D γ s1 := by rw [e1]; exact hD.up (by decide)
    have F1 : Fdm σ s1 := by rw [e1]; exact Fdm.rf.up (by decide)
    unfold f_shift at hq
    have h8 := hg.n8
    rw [D1.2.1.1, n0_iff h8]
    refine ⟨fun h0 => by rw [if_neg (fun q => h0 q.1)] at hq; exact hq s1 D1 F1, fun h0 => ?_⟩
    have h0 : 0 < γ.2.1.1 := by omega
    rw [i0_2]
    refine sw (fun ha => ?_) (fun hr => by rw [if_neg (fun q => hr q.2.1)] at hq; exact hq s1 D1 F1)
    rw [i0_1]
    refine sw' (fun hw => ?_) (fun hw => by rw [if_neg (fun q => hw q.2.2)] at hq; exact hq s1 D1 F1)
    rw [if_pos ⟨h0, ha, hw⟩] at hq
    obtain ⟨hμ, hk, hs, -⟩ := hg.hk h0
    obtain ⟨j, rfl, hj, -⟩ := nn ha.1
    rw [← hj, show ((j : Int)).toNat = j by omega] at hq
    have hLb := Lw_ab hμ γ.2.2.1.1.2.2.1.1
    refine m_asks hμ rfl hk D1.2.1 D1.row (fun τ G1 G2 G3 G4 => ⟨vp_in_nI (by omega) (by decide), ?_⟩)
    rw [nI_clamp (by omega), G4.2.2.2.1, G4.2.2.2.2 j (by omega)]
    exact m_told hs.1 (Sh_b hμ hk _ (by omega)) (by omega) (hq τ (D1.eq G2) (F1.eq G2))
/-! load -/
def f_load (r w : Int32) (γ : GS) : Int64 × GS := (if tau γ.2.1 γ.2.2.1.1 r ∧ (0 ≤ w.toInt ∧ w.toInt ≤ 1) then tl (Pl γ.2.1 γ.2.2.1.1.1 γ.2.2.1.1.2.1 γ.2.2.1.1.2.2.1.1 r.toInt.toNat) (mu_t γ.2.1 r.toInt.toNat * Lw γ.2.1 γ.2.2.1.1.2.2.1.1) w else -1000000, γ)
theorem tL_b {μ : MU} (hμ : mu_ok μ) {r set : Nat} (hr : r < μ.1) (hL : 0 < Lw μ set) : 0 < mu_t μ r * Lw μ set ∧ (mu_t μ r * Lw μ set).natAbs < 2 ^ 63 := by
  have ht := t_b hμ hr
  have hLb := Lw_ab hμ set
  have := ab_mul (a := 999) (b := 590000000000) (show (mu_t μ r).natAbs ≤ 999 by omega) hLb
  exact ⟨Int.mul_pos (by omega) hL, by omega⟩
theorem s_putLoad {γ : GS} {bd : Nat} {σ : wS} {Q : wS → Prop} {P : Int} {set j : Nat} (hμ : mu_ok γ.2.1) (hC : C γ σ) (hj : j < γ.2.1.1) (hL : 0 < Lw γ.2.1 set) (hP : P.natAbs < 2 ^ 63) (h45 : σ.2 45 j = iJ P) (h41 : σ.2 41 4 = iJ (Lw γ.2.1 set)) (hq : ∀ τ : wS, Fr [46] σ τ → τ.1 = σ.1 → τ.2 46 0 = iJ P / iJ (gd P (mu_t γ.2.1 j * Lw γ.2.1 set)) → τ.2 46 1 = iJ (mu_t γ.2.1 j * Lw γ.2.1 set) / iJ (gd P (mu_t γ.2.1 j * Lw γ.2.1 set)) → Q τ) : w_X11_putLoad (nI j) σ Q := by
  have h8 := hμ.1
  have hb := tL_b hμ hj hL
  refine ⟨vp_in_nI (by omega) (by decide), vp_in_nI (by omega) (by decide), ?_⟩
  rw [nI_clamp (by omega), h45, h41, (hC.2.1.2.2.2.2.2.1 j hj).2, t_J hμ hj, iJ_mul]
  exact s_put hb.1 hP hb.2 hq
theorem o_load {bd : Nat} {σ : wS} {r w : Int32} (hI : In bd σ) : w_X11_load r w σ (fun r1 s => w_X12_load r w s (fun r' s' => r1 = r' ∧ In (bd + 40) s')) := by
  refine prI (f := f_load r w) (w1 := w_X11_load r w) (w2 := w_X12_load r w) (fun γ σ Q hC hg hq => ?_) (fun γ σ Q hD hg hq => ?_) (fun γ hg => hg.wk (by omega)) hI
  · unfold f_load at hq
    unfold w_X11_load
    rw [s_isTaut hg hC]
    refine sw (fun hf => ?_) (fun hf => by rw [if_neg (fun q => hf q.1)] at hq; exact hq σ hC Fcm.rf)
    rw [w0_1]
    refine sw' (fun hw => ?_) (fun hw => by rw [if_neg (fun q => hw q.2)] at hq; exact hq σ hC Fcm.rf)
    rw [if_pos ⟨hf, hw⟩] at hq
    have h0 : 0 < γ.2.1.1 := by have := hf.1.1; have := hf.1.2; omega
    obtain ⟨hμ, hk, hs, -⟩ := hg.hk h0
    obtain ⟨j, rfl, hj, -⟩ := nn hf.1.1
    rw [← hj, show ((j : Int)).toNat = j by omega] at hq
    have hjn : j < γ.2.1.1 := by have := hf.1.2; omega
    refine s_solved hg h0 hC (fun τ F e1 C1 l1 l2 l3 => ?_)
    refine s_putLoad (bd := bd) hμ C1 hjn hs.1 (hg.Pb h0 hjn _) (l3 j hjn) l1 (fun ρ F2 e2 b1 b2 => ?_)
    exact s_told b1 b2 (hq ρ (C1.fr hg (F2.wk (by decide))) (Fcm.eq (by rw [e2, e1])))
  · intro s1 e1
    have D1 : D γ s1 := by rw [e1]; exact hD.up (by decide)
    have F1 : Fdm σ s1 := by rw [e1]; exact Fdm.rf.up (by decide)
    unfold f_load at hq
    have h8 := hg.n8
    rw [isRM h8 D1.2.1.1]
    refine sw (fun hr => ?_) (fun hr => by rw [if_neg (fun q => hr q.1.1)] at hq; exact hq s1 D1 F1)
    rw [i0_1]
    refine sw (fun hw => ?_) (fun hw => by rw [if_neg (fun q => hw q.2)] at hq; exact hq s1 D1 F1)
    have h0 : 0 < γ.2.1.1 := by have := hr.1; have := hr.2; omega
    obtain ⟨hμ, hk, hs, -⟩ := hg.hk h0
    obtain ⟨j, rfl, hj, -⟩ := nn hr.1
    have hjn : j < γ.2.1.1 := by have := hr.2; omega
    have hjt : (nI j).toInt.toNat = j := by omega
    have v8 := v8p (show j < 8 by omega)
    rw [v8.2, D1.row.2.2.1 j hjn, srt_0 hk]
    refine ⟨v8.1, fun hf => ?_, fun hf => ?_⟩
    · rw [if_pos ⟨⟨hr, by rw [hjt]; exact hf⟩, hw⟩, hjt] at hq
      have hb := tL_b hμ hjn hs.1
      refine m_asks hμ rfl hk D1.2.1 D1.row (fun τ G1 G2 G3 G4 => ?_)
      refine m_pl hμ hk.1 G4 hjn ?_
      rw [strg hμ G4.2.1 hjn, G4.2.2.2.1, t_J hμ hjn, iJ_mul, Int.mul_comm]
      exact m_told hb.1 (hg.Pb h0 hjn _) hb.2 (hq τ (D1.eq G2) (F1.eq G2))
    · rw [if_neg (fun q => hf (by have := q.1.2; rw [hjt] at this; exact this))] at hq
      exact hq s1 D1 F1
/-! worst -/
def f_worst (γ : GS) : Int32 × GS := (if 0 < γ.2.1.1 then oI (sel (ldP γ.2.1 γ.2.2.1.1.1 γ.2.2.1.1.2.1 γ.2.2.1.1.2.2.1.1) (fun r => γ.2.2.1.1.2.2.1.1.testBit r) γ.2.1.1) else -1, γ)
theorem o_worst {bd : Nat} {σ : wS} (hI : In bd σ) : w_X11_worst σ (fun r1 s => w_X12_worst s (fun r' s' => r1 = r' ∧ In (bd + 40) s')) := by
  refine prI (f := f_worst) (w1 := w_X11_worst) (w2 := w_X12_worst) (fun γ σ Q hC hg hq => ?_) (fun γ σ Q hD hg hq => ?_) (fun γ hg => hg.wk (by omega)) hI
  · unfold f_worst at hq
    unfold w_X11_worst
    rw [s_hasM hg hC]
    refine sw' (fun h0 => ?_) (fun hf => by rw [if_neg hf] at hq; exact hq σ hC Fcm.rf)
    rw [if_pos h0] at hq
    obtain ⟨hμ, hk, hs, -⟩ := hg.hk h0
    refine s_solved hg h0 hC (fun τ F e1 C1 l1 l2 l3 => ?_)
    rw [C1.2.2.1.1.2.1]
    refine s_mostLoaded hk.2.1 hμ.1 (fun r hr => (hk.2.2.2.2.1 r hr).1) l3 (T := mu_t γ.2.1) (fun r hr => (C1.2.1.2.2.2.2.2.1 r hr).2) (fun r b hr hb => sgL hμ hk.1 _ hr hb) ?_
    exact hq τ C1 (Fcm.eq e1)
  · intro s1 e1
    have D1 : D γ s1 := by rw [e1]; exact hD.up (by decide)
    have F1 : Fdm σ s1 := by rw [e1]; exact Fdm.rf.up (by decide)
    unfold f_worst at hq
    have h8 := hg.n8
    rw [D1.2.1.1, n0_iff h8]
    refine ⟨fun h0 => ?_, fun h0 => by rw [if_neg h0] at hq; exact hq s1 D1 F1⟩
    have h0 : 0 < γ.2.1.1 := by omega
    rw [if_pos h0] at hq
    obtain ⟨hμ, hk, hs, -⟩ := hg.hk h0
    refine m_asks hμ rfl hk D1.2.1 D1.row (fun τ G1 G2 G3 G4 => ?_)
    have D2 := D1.eq G2
    refine m_taut hμ rfl hk D2.2.1 D2.row ?_
    refine m_worstOf hμ hk.2.1 hk.1 G4 ?_
    have e : (fun r => γ.2.2.1.1.2.2.1.1.testBit r && decide ((0 : Int32) = 0 ∨ mu_t γ.2.1 r * Lw γ.2.1 γ.2.2.1.1.2.2.1.1 < Pl γ.2.1 γ.2.2.1.1.1 γ.2.2.1.1.2.1 γ.2.2.1.1.2.2.1.1 r)) = fun r => γ.2.2.1.1.2.2.1.1.testBit r := by funext r; simp
    rw [e]
    exact hq τ D2 (F1.eq G2)
