theorem gok.hk {γ : GS} {bd : Nat} (h : gok γ bd) (h0 : 0 < γ.2.1.1) : mu_ok γ.2.1 ∧ ghok γ.2.1 γ.2.2.1 := ⟨(h.2.2.2.2.2.2.2 h0).1, (h.2.2.2.2.2.2.2 h0).2.1⟩
abbrev fas (μ : MU) (h : HS) (x : Int32) : Prop := rpe μ.1 x ∧ (h.2.2.1.2.1.testBit x.toInt.toNat || h.2.2.1.2.2.testBit x.toInt.toNat) = false
abbrev tau (μ : MU) (h : HS) (x : Int32) : Prop := rpe μ.1 x ∧ h.2.2.1.1.testBit x.toInt.toNat = true
theorem s_isFast {γ : GS} {bd : Nat} {σ : wS} {x : Int32} {Q : Int32 → wS → Prop} (hg : gok γ bd) (hC : C γ σ) : w_X11_isFast x σ Q = Q (if fas γ.2.1 γ.2.2.1.1 x then 1 else 0) σ := by
  have h8 := hg.n8
  unfold w_X11_isFast
  rw [s_isRope hg hC]
  by_cases hr : rpe γ.2.1.1 x
  · obtain ⟨hμ, hk, -⟩ := hg.hk (show 0 < γ.2.1.1 by have := hr.1; have := hr.2; omega)
    obtain ⟨j, rfl, hjx, -⟩ := nn hr.1
    have hj : (nI j).toInt.toNat = j := by omega
    have hx : j < γ.2.1.1 := by have := hr.2; omega
    obtain ⟨-, a2, a3, a4, -⟩ := hC.2.2.1.1
    rw [if_pos hr, isFs hk.2.2.1 hk.2.2.2.1 (show j < 8 by omega) a3 a4]
    cases hb : (γ.2.2.1.1.2.2.1.2.1.testBit j || γ.2.2.1.1.2.2.1.2.2.testBit j)
    · rw [if_pos (show fas γ.2.1 γ.2.2.1.1 (nI j) from ⟨hr, by rw [hj]; exact hb⟩)]; simp
    · rw [if_neg (show ¬ fas γ.2.1 γ.2.2.1.1 (nI j) from fun q => by have := q.2; rw [hj, hb] at this; cases this)]; simp
  · rw [if_neg hr, if_neg (fun q => hr q.1)]; simp
theorem s_stateOf {h : HS} {i j : Nat} {μ : MU} {σ : wS} {Q : Int32 → wS → Prop} (hk : hok μ h) (hH : HC μ h i σ) (hj : j < 8) : w_X3_stateOf i (nI j) σ Q = Q (nI (srt h.2.2.1.2.1 h.2.2.1.2.2 h.2.2.1.1 j)) σ := by
  obtain ⟨-, a2, a3, a4, -⟩ := hH
  unfold w_X3_stateOf
  rw [a2, bt8 hk.2.1 hj, isFs hk.2.2.1 hk.2.2.2.1 hj a3 a4, a3, bt8 hk.2.2.1 hj]
  have k5 := hk.2.2.2.2.2.1 j
  unfold srt
  cases ht : h.2.2.1.1.testBit j
  · cases hb : h.2.2.1.2.1.testBit j
    · cases hc : h.2.2.1.2.2.testBit j <;> simp <;> rfl
    · simp; rfl
  · have := k5 ht
    rw [this.1, this.2]; simp; rfl
theorem srt_0 {μ : MU} {h : HS} (hk : hok μ h) (j : Nat) : nI (srt h.2.2.1.2.1 h.2.2.1.2.2 h.2.2.1.1 j) = 0 ↔ h.2.2.1.1.testBit j = true := by
  have k5 := hk.2.2.2.2.2.1 j
  unfold srt
  cases ht : h.2.2.1.1.testBit j
  · cases hb : h.2.2.1.2.1.testBit j <;> cases hc : h.2.2.1.2.2.testBit j <;> decide
  · have := k5 ht
    rw [this.1, this.2]; decide
theorem s_isTaut {γ : GS} {bd : Nat} {σ : wS} {x : Int32} {Q : Int32 → wS → Prop} (hg : gok γ bd) (hC : C γ σ) : w_X11_isTaut x σ Q = Q (if tau γ.2.1 γ.2.2.1.1 x then 1 else 0) σ := by
  have h8 := hg.n8
  unfold w_X11_isTaut
  rw [s_isRope hg hC]
  by_cases hr : rpe γ.2.1.1 x
  · obtain ⟨hμ, hk, -⟩ := hg.hk (show 0 < γ.2.1.1 by have := hr.1; have := hr.2; omega)
    obtain ⟨j, rfl, hjx, -⟩ := nn hr.1
    have hj : (nI j).toInt.toNat = j := by omega
    have hx : j < γ.2.1.1 := by have := hr.2; omega
    rw [if_pos hr, s_stateOf hk hC.2.2.1.1 (show j < 8 by omega), srt_0 hk]
    cases hb : γ.2.2.1.1.2.2.1.1.testBit j
    · rw [if_neg (show ¬ tau γ.2.1 γ.2.2.1.1 (nI j) from fun q => by have := q.2; rw [hj, hb] at this; cases this)]; simp
    · rw [if_pos (show tau γ.2.1 γ.2.2.1.1 (nI j) from ⟨hr, by rw [hj]; exact hb⟩)]; simp
  · rw [if_neg hr, if_neg (fun q => hr q.1)]; simp
/-! rule -/
def f_rule (p : Int32) (γ : GS) : Int32 × GS := (if ¬ (0 < γ.2.1.1 ∧ (0 ≤ p.toInt ∧ p.toInt ≤ 4)) then -1000000 else if p = 0 then iI (γ.2.1.2.2 0) else if p = 4 then nI γ.2.2.1.1.2.2.2.1 else iI (γ.2.2.1.1.2.1 (p.toInt.toNat - 1)), γ)
theorem o_rule {bd : Nat} {σ : wS} {p : Int32} (hI : In bd σ) : w_X11_rule p σ (fun r s => w_X12_rule p s (fun r' s' => r = r' ∧ In (bd + 40) s')) := by
  refine prI (f := f_rule p) (w1 := w_X11_rule p) (w2 := w_X12_rule p) (fun γ σ Q hC hg hq => ?_) (fun γ σ Q hD hg hq => ?_) (fun γ hg => hg.wk (by omega)) hI
  · have hq := hq σ hC Fcm.rf
    unfold f_rule at hq
    unfold w_X11_rule
    rw [s_hasM hg hC]
    refine sw (fun h0 => ?_) (fun h0 => by rw [if_pos (fun q => h0 q.1)] at hq; exact hq)
    rw [w0_4]
    refine sw' (fun hc => ?_) (fun hc => by rw [if_pos (fun q => hc q.2)] at hq; exact hq)
    rw [if_neg (fun q => q ⟨h0, hc⟩)] at hq
    obtain ⟨-, ⟨-, a2⟩, ⟨⟨⟨-, a3⟩, -, -, -, a4, -⟩, -⟩, -⟩ := hC
    refine ⟨fun n0 => ⟨fun n4 => ?_, fun n4 => ?_⟩, fun n0 => ?_⟩
    · simp only [n0, n4, if_false] at hq
      obtain ⟨k, rfl, hk, -⟩ := nn hc.1
      have k0 : k ≠ 0 := fun q => n0 (by rw [q]; rfl)
      have k4 : k ≠ 4 := fun q => n4 (by rw [q]; rfl)
      have e1 : nI k - 1 = nI (k - 1) := pk_sub (b := 1) (by omega)
      rw [e1, nI_clamp (by omega), a3 (k - 1) (by omega)]
      rw [← hk] at hq
      exact ⟨vp_in_nI (by omega) (by decide), hq⟩
    · simp only [n0, if_false] at hq
      rw [if_pos n4] at hq
      rw [a4]; exact hq
    · rw [if_pos n0] at hq
      rw [c_0, a2.2.2.1 0 (by decide)]; exact hq
  · intro s1 e1
    have D1 : D γ s1 := by rw [e1]; exact hD.up (by decide)
    have hq := hq s1 D1 (by rw [e1]; exact Fdm.rf.up (by decide))
    unfold f_rule at hq
    have h8 := hg.n8
    obtain ⟨-, a2, ⟨-, a3, -, a4, -⟩, -⟩ := D1
    rw [a2.1]
    refine ⟨fun h0 => ?_, fun h0 => ?_⟩
    · have : ¬ 0 < γ.2.1.1 := fun q => nI_ne0 q (by omega) h0
      rw [if_pos (fun q => this q.1)] at hq
      exact hq
    have h0 : 0 < γ.2.1.1 := by
      rcases Nat.eq_zero_or_pos γ.2.1.1 with q | q
      · exact absurd (by rw [q]; rfl) h0
      · exact q
    rw [i0_4]
    refine sw' (fun hc => ?_) (fun hc => by rw [if_pos (fun q => hc q.2)] at hq; exact hq)
    rw [if_neg (fun q => q ⟨h0, hc⟩)] at hq
    refine ⟨fun n0 => ⟨fun n4 => ?_, fun n4 => ?_⟩, fun n0 => ?_⟩
    · simp only [n0, n4, if_false] at hq
      obtain ⟨k, rfl, hk, -⟩ := nn hc.1
      have k0 : k ≠ 0 := fun q => n0 (by rw [q]; rfl)
      have k4 : k ≠ 4 := fun q => n4 (by rw [q]; rfl)
      have e1 : (16 : Int32) + nI k - 1 = nI (16 + (k - 1)) := by
        rw [show (16 : Int32) = nI 16 from rfl, nI_add, show (1 : Int32) = nI 1 from rfl, pk_sub (by omega)]; congr 1; omega
      rw [e1, nI_clamp (by omega), a3 (k - 1) (by omega)]
      rw [← hk] at hq
      exact ⟨vp_in_nI (by omega) (by decide), hq⟩
    · simp only [n0, if_false] at hq
      rw [if_pos n4] at hq
      rw [c21.2.1, a4]; exact hq
    · rw [if_pos n0] at hq
      rw [c_0, a2.2.2.1 0 (by decide)]; exact hq
/-! log -/
def f_log (i w : Int32) (γ : GS) : Int32 × GS := (if ¬ ((0 ≤ i.toInt ∧ i.toInt < (γ.2.2.1.2.1.length : Int)) ∧ (0 ≤ w.toInt ∧ w.toInt ≤ 2)) then -1000000 else if w = 0 then nI (γ.2.2.1.2.1.getD (γ.2.2.1.2.1.length - 1 - i.toInt.toNat) e0).1 else if w = 1 then oI (γ.2.2.1.2.1.getD (γ.2.2.1.2.1.length - 1 - i.toInt.toNat) e0).2.1 else nI (γ.2.2.1.2.1.getD (γ.2.2.1.2.1.length - 1 - i.toInt.toNat) e0).2.2, γ)
theorem pk_de {e : LE} (h : leok e) : (pk e &&& 3) = nI e.1 ∧ ((pk e >>> ((2 : Int32) &&& 31)) &&& 15) - 1 = oI e.2.1 ∧ pk e >>> ((6 : Int32) &&& 31) = nI e.2.2 := by
  obtain ⟨h1, h2, h3⟩ := h
  unfold pk
  have s2 : (((2 : Int32) &&& 31).toBitVec.smod 32).toNat = 2 := by decide
  have s6 : (((6 : Int32) &&& 31).toBitVec.smod 32).toNat = 6 := by decide
  rw [pk_andN (by omega) 2 (by decide), pk_shrN (by omega) _ 2 s2, pk_shrN (by omega) _ 6 s6, pk_andN (by omega) 4 (by decide)]
  refine ⟨by congr 1; omega, ?_, by congr 1; omega⟩
  have : (e.1 + 4 * orp e.2.1 + 64 * e.2.2) / 2 ^ 2 % 2 ^ 4 = orp e.2.1 := by omega
  rw [this]
  cases e.2.1 with
  | none => rfl
  | some r => show nI (r + 1) - 1 = nI r; exact nI_pred r
theorem gok.le {γ : GS} {bd : Nat} (h : gok γ bd) : ∀ e ∈ γ.2.2.1.2.1, leok e := by
  rcases Nat.eq_zero_or_pos γ.2.1.1 with q | q
  · have := (h.2.2.2.2.2.2.1 q).1
    rw [this]
    intro e he
    cases he
  · exact (h.hk q).2.2.2.1
theorem getD_mem {α : Type} {l : List α} {k : Nat} {d : α} (h : k < l.length) : l.getD k d ∈ l := by simp [List.getD_eq_getElem?_getD, h]
theorem o_log {bd : Nat} {σ : wS} {p w : Int32} (hb : bd < 2 ^ 30) (hI : In bd σ) : w_X11_log p w σ (fun r s => w_X12_log p w s (fun r' s' => r = r' ∧ In (bd + 40) s')) := by
  refine prI (f := f_log p w) (w1 := w_X11_log p w) (w2 := w_X12_log p w) (fun γ σ Q hC hg hq => ?_) (fun γ σ Q hD hg hq => ?_) (fun γ hg => hg.wk (by omega)) hI
  · have hq := hq σ hC Fcm.rf
    unfold f_log at hq
    unfold w_X11_log
    have hN := hg.2.2.2.2.2.1
    obtain ⟨-, -, a3, -, a5, -⟩ := hC
    have hl := a5.1.1
    rw [a3.2, min60 (by omega), ← hl, xlt0, (xnle p (by omega)).1]
    refine ⟨fun h => by rw [if_pos (by omega)] at hq; exact hq, fun h => ⟨fun h2 => by rw [if_pos (by omega)] at hq; exact hq, fun h2 => ?_⟩⟩
    rw [w0_2]
    refine sw' (fun hc => ?_) (fun hc => by rw [if_pos (fun q => hc q.2)] at hq; exact hq)
    rw [if_neg (fun q => q ⟨by omega, hc⟩)] at hq
    obtain ⟨k, rfl, hk, -⟩ := nn (x := p) (by omega)
    rw [← hk] at hq
    have hkt : (k : Int).toNat = k := by omega
    rw [hkt] at hq
    unfold w_X4_read w_X4_lineAt
    have e1 : σ.1 29 7 - 1 - nI k = nI (γ.2.2.1.2.2 - 1 - k) := by
      rw [a3.2, show (1 : Int32) = nI 1 from rfl, pk_sub (by omega), pk_sub (by omega)]
    rw [e1, show (716 : Int32) = nI 716 from rfl, pk_rem (by omega) (by decide) (by decide), nI_clamp (by omega)]
    refine ⟨fun q => absurd q (nI_pos (by omega)), fun _ => ⟨vp_in_nI (Nat.mod_lt _ (by decide)) (by decide), ?_⟩⟩
    have hj := a5.1.2 (γ.2.2.1.2.1.length - 1 - k) (by omega)
    rw [show γ.2.2.1.2.2 - γ.2.2.1.2.1.length + (γ.2.2.1.2.1.length - 1 - k) = γ.2.2.1.2.2 - 1 - k by omega] at hj
    rw [hj]
    dsimp only
    have hd := pk_de (hg.le _ (getD_mem (d := e0) (show γ.2.2.1.2.1.length - 1 - k < γ.2.2.1.2.1.length by omega)))
    rw [hd.1, hd.2.1, hd.2.2]
    refine ⟨fun n0 => ⟨fun n1 => ?_, fun n1 => ?_⟩, fun n0 => ?_⟩
    · rw [if_neg n0, if_neg n1] at hq; exact hq
    · rw [if_neg n0, if_pos n1] at hq; exact hq
    · rw [if_pos n0] at hq; exact hq
  · intro s1 e1
    have D1 : D γ s1 := by rw [e1]; exact hD.up (by decide)
    have hq := hq s1 D1 (by rw [e1]; exact Fdm.rf.up (by decide))
    unfold f_log at hq
    obtain ⟨-, -, ⟨-, -, -, -, -, a3, a6, a7⟩, -⟩ := D1
    rw [c21.1, a3, xlt0, (xnle p (by omega)).1]
    refine ⟨fun h => by rw [if_pos (by omega)] at hq; exact hq, fun h => ⟨fun h2 => by rw [if_pos (by omega)] at hq; exact hq, fun h2 => ?_⟩⟩
    rw [i0_2]
    refine sw' (fun hc => ?_) (fun hc => by rw [if_pos (fun q => hc q.2)] at hq; exact hq)
    rw [if_neg (fun q => q ⟨by omega, hc⟩)] at hq
    obtain ⟨k, rfl, hk, -⟩ := nn (x := p) (by omega)
    obtain ⟨j, rfl, hj, -⟩ := nn hc.1
    rw [← hk] at hq
    have hkt : (k : Int).toNat = k := by omega
    rw [hkt] at hq
    have e1 : (22 : Int32) + 3 * (s1.1 188 21 - 1 - nI k) + nI j = nI (22 + 3 * (γ.2.2.1.2.1.length - 1 - k) + j) := by
      rw [a3, show (1 : Int32) = nI 1 from rfl, pk_sub (by omega), pk_sub (by omega), show (3 : Int32) = nI 3 from rfl, pk_mul, show (22 : Int32) = nI 22 from rfl, nI_add, nI_add]
    have a8 := a7 (γ.2.2.1.2.1.length - 1 - k) (by omega)
    rw [e1, nI_clamp (by omega)]
    refine ⟨vp_in_nI (by omega) (by decide), ?_⟩
    rcases (show j = 0 ∨ j = 1 ∨ j = 2 by omega) with rfl | rfl | rfl
    · have : (if nI 0 = 0 then nI (γ.2.2.1.2.1.getD (γ.2.2.1.2.1.length - 1 - k) e0).1 else if nI 0 = 1 then oI (γ.2.2.1.2.1.getD (γ.2.2.1.2.1.length - 1 - k) e0).2.1 else nI (γ.2.2.1.2.1.getD (γ.2.2.1.2.1.length - 1 - k) e0).2.2) = nI (γ.2.2.1.2.1.getD (γ.2.2.1.2.1.length - 1 - k) e0).1 := rfl
      rw [this] at hq
      rw [show 22 + 3 * (γ.2.2.1.2.1.length - 1 - k) + 0 = 22 + 3 * (γ.2.2.1.2.1.length - 1 - k) by omega, a8.1]
      exact hq
    · have : (if nI 1 = 0 then nI (γ.2.2.1.2.1.getD (γ.2.2.1.2.1.length - 1 - k) e0).1 else if nI 1 = 1 then oI (γ.2.2.1.2.1.getD (γ.2.2.1.2.1.length - 1 - k) e0).2.1 else nI (γ.2.2.1.2.1.getD (γ.2.2.1.2.1.length - 1 - k) e0).2.2) = oI (γ.2.2.1.2.1.getD (γ.2.2.1.2.1.length - 1 - k) e0).2.1 := rfl
      rw [this] at hq
      rw [show 22 + 3 * (γ.2.2.1.2.1.length - 1 - k) + 1 = 23 + 3 * (γ.2.2.1.2.1.length - 1 - k) by omega, a8.2.1]
      exact hq
    · have : (if nI 2 = 0 then nI (γ.2.2.1.2.1.getD (γ.2.2.1.2.1.length - 1 - k) e0).1 else if nI 2 = 1 then oI (γ.2.2.1.2.1.getD (γ.2.2.1.2.1.length - 1 - k) e0).2.1 else nI (γ.2.2.1.2.1.getD (γ.2.2.1.2.1.length - 1 - k) e0).2.2) = nI (γ.2.2.1.2.1.getD (γ.2.2.1.2.1.length - 1 - k) e0).2.2 := rfl
      rw [this] at hq
      rw [show 22 + 3 * (γ.2.2.1.2.1.length - 1 - k) + 2 = 24 + 3 * (γ.2.2.1.2.1.length - 1 - k) by omega, a8.2.2]
      exact hq
