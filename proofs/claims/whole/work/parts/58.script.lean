/-! scripts -/
def t0 : ST := (0, 0, 0, 0)
theorem s_isScript {γ : GS} {bd : Nat} {σ : wS} {x : Int32} {Q : Int32 → wS → Prop} (hg : gok γ bd) (hC : C γ σ) : w_X11_isScript x σ Q = Q (if rpe γ.2.2.2.2.2.1.length x then 1 else 0) σ := by
  have h4 := hg.2.2.1.1
  unfold w_X11_isScript
  rw [hC.2.2.2.2.2.2.1.1, xlt0, (xnle x (by omega)).1]
  by_cases h1 : x.toInt < 0
  · simp [h1, show ¬ rpe γ.2.2.2.2.2.1.length x by omega]
  · by_cases h2 : (γ.2.2.2.2.2.1.length : Int) ≤ x.toInt
    · simp [h1, h2, show ¬ rpe γ.2.2.2.2.2.1.length x by omega]
    · rw [if_pos (show rpe γ.2.2.2.2.2.1.length x by omega)]; simp [h1, h2]
theorem m_isScript {γ : GS} {bd : Nat} {σ : wS} {x : Int32} {Q : Int32 → wS → Prop} (hg : gok γ bd) (hD : D γ σ) : w_X12_isScript x σ Q = Q (if rpe γ.2.2.2.2.2.1.length x then 1 else 0) σ := by
  have h4 := hg.2.2.1.1
  have em : (σ.1 176 15 - 1).toInt64 = iJ ((γ.2.2.2.2.2.1.length : Int) - 1) := by
    rw [hD.2.2.2.2.2.1.1, iI_n, show (1 : Int32) = iI 1 by decide, iI_sub, iI_J (by omega)]
  unfold w_X12_isScript
  rw [isI' (l := 0) (a := 0) rfl em (by decide) (by omega)]
  by_cases h : rpe γ.2.2.2.2.2.1.length x
  · rw [if_pos h, if_pos (by omega)]; simp
  · rw [if_neg h, if_neg (by omega)]; simp
theorem get_t {L : List ST} {m : Nat} (h : m < L.length) : L[m]? = some (L.getD m t0) := by simp [List.getD_eq_getElem?_getD, h]
theorem get_L {S : List (List ST)} {m : Nat} (h : m < S.length) : S[m]? = some (S.getD m []) := by simp [List.getD_eq_getElem?_getD, h]
theorem mem_of {α : Type} {l : List α} {k : Nat} {a : α} (h : l[k]? = some a) : a ∈ l := List.mem_of_getElem? h
theorem gok.sc {γ : GS} {bd s : Nat} {L : List ST} (hg : gok γ bd) (hL : γ.2.2.2.2.2.1[s]? = some L) : s < 4 ∧ 1 ≤ L.length ∧ L.length ≤ 16 ∧ ∀ t ∈ L, stok t := by
  have h1 : s < γ.2.2.2.2.2.1.length := (List.getElem?_eq_some_iff.mp hL).1
  have h4 := hg.2.2.1.1
  exact ⟨by omega, hg.2.2.1.2 L (mem_of hL)⟩
/-! step -/
def tcl (t : ST) (w : Nat) : Int32 := if w = 0 then nI t.1 else if w = 1 then iI t.2.1 else if w = 2 then (if t.1 ≤ 1 then iI t.2.2.1 else -1000000) else (if t.1 = 0 then iI t.2.2.2 else -1000000)
def f_step (s i w : Int32) (γ : GS) : Int32 × GS := (if (rpe γ.2.2.2.2.2.1.length s ∧ rpe (γ.2.2.2.2.2.1.getD s.toInt.toNat []).length i) ∧ (0 ≤ w.toInt ∧ w.toInt ≤ 3) then tcl ((γ.2.2.2.2.2.1.getD s.toInt.toNat []).getD i.toInt.toNat t0) w.toInt.toNat else -1000000, γ)
theorem s_cell {i m k : Nat} {σ : wS} {Q : Int32 → wS → Prop} (hm : m < 16) (hk : k < 4) (hq : Q (σ.1 (i + 1) (4 * m + k)) σ) : w_X9_cell i (nI m) (nI k) σ Q := by
  unfold w_X9_cell
  rw [show (4 : Int32) = nI 4 from rfl, pk_mul, nI_add, nI_clamp (by omega)]
  exact ⟨vp_in_nI (by omega) (by decide), hq⟩
theorem o_step {bd : Nat} {σ : wS} {s i w : Int32} (hI : In bd σ) : w_X11_step s i w σ (fun r1 s' => w_X12_step s i w s' (fun r' s' => r1 = r' ∧ In (bd + 40) s')) := by
  refine prI (f := f_step s i w) (w1 := w_X11_step s i w) (w2 := w_X12_step s i w) (fun γ σ Q hC hg hq => ?_) (fun γ σ Q hD hg hq => ?_) (fun γ hg => hg.wk (by omega)) hI
  · unfold f_step at hq
    have hq := hq σ hC Fcm.rf
    unfold w_X11_step
    have h4 := hg.2.2.1.1
    rw [s_isScript hg hC]
    refine sw (fun hs => ?_) (fun hs => by rw [if_neg (fun q => hs q.1.1)] at hq; exact hq)
    obtain ⟨a, rfl, ha, -⟩ := nn hs.1
    have hal : a < γ.2.2.2.2.2.1.length := by have := hs.2; omega
    have hL := get_L hal
    have hat : (nI a).toInt.toNat = a := by omega
    generalize hLe : γ.2.2.2.2.2.1.getD a [] = L at hL
    obtain ⟨b1, b2, b3, b4⟩ := hg.sc hL
    obtain ⟨c1, c2⟩ := hC.2.2.2.2.2.2.1.2 a L hL
    rw [nI_clamp (by omega), c1, xlt0, (xnle i (by omega)).1]
    have hn : ∀ q : (rpe γ.2.2.2.2.2.1.length (nI a) ∧ rpe (γ.2.2.2.2.2.1.getD (nI a).toInt.toNat []).length i) ∧ (0 ≤ w.toInt ∧ w.toInt ≤ 3), rpe L.length i := fun q => by have := q.1.2; rw [hat, hLe] at this; exact this
    refine ⟨fun h => by rw [if_neg (fun q => by have := hn q; omega)] at hq; exact hq, fun h => ⟨vp_in_nI (by omega) (by decide), fun h2 => by rw [if_neg (fun q => by have := hn q; omega)] at hq; exact hq, fun h2 => ?_⟩⟩
    rw [w0_3]
    refine sw' (fun hw => ⟨vp_in_nI (by omega) (by decide), ?_⟩) (fun hw => by rw [if_neg (fun q => hw q.2)] at hq; exact hq)
    rw [if_pos ⟨⟨hs, by rw [hat, hLe]; omega⟩, hw⟩, hat, hLe] at hq
    obtain ⟨m, rfl, hm, -⟩ := nn (x := i) (by omega)
    have hmt : (nI m).toInt.toNat = m := by omega
    obtain ⟨k, rfl, hk, -⟩ := nn hw.1
    have hkt : (nI k).toInt.toNat = k := by omega
    rw [hmt, hkt] at hq
    have hml : m < L.length := by omega
    have htm := get_t hml
    generalize L.getD m t0 = t at hq htm
    obtain ⟨d1, d2, d3, d4⟩ := c2 m t htm
    have ht4 := (b4 t (mem_of htm)).1
    unfold w_X9_told
    refine s_cell (k := 0) (by omega) (by decide) ?_
    rw [show 4 * m + 0 = 4 * m from rfl, d1]
    have e0 : nI t.1 = 0 ↔ t.1 = 0 := nI_eq (b := 0) (by omega) (by decide)
    have e1 : nI t.1 = 1 ↔ t.1 = 1 := nI_eq (b := 1) (by omega) (by decide)
    rw [e0, e1]
    have fin : ∀ z : Nat, z = (if t.1 = 0 then 3 else if t.1 = 1 then 2 else 1) → b_X9_told_25 (19 + 2 * a) Q (nI m) (nI k) (nI z) σ := by
      intro z hz
      have hz4 : z ≤ 3 := by rw [hz]; split; omega; split <;> omega
      have hz1 : 1 ≤ z := by rw [hz]; split; omega; split <;> omega
      unfold b_X9_told_25
      rw [nI_ltI (by omega) (by omega)]
      refine ⟨fun q => ?_, fun q => s_cell (by omega) (by omega) ?_⟩
      · have : tcl t k = -1000000 := by
          unfold tcl
          rw [if_neg (by omega), if_neg (by omega)]
          by_cases k2 : k = 2
          · rw [if_pos k2, if_neg (fun r => by rw [hz] at q; split at q; omega; split at q <;> omega)]
          · rw [if_neg k2, if_neg (fun r => by rw [hz, if_pos r] at q; omega)]
        rw [this] at hq; exact hq
      · have : σ.1 (19 + 2 * a + 1) (4 * m + k) = tcl t k := by
          unfold tcl
          rcases (show k = 0 ∨ k = 1 ∨ k = 2 ∨ k = 3 by omega) with rfl | rfl | rfl | rfl
          · exact d1
          · exact d2
          · have : t.1 ≤ 1 := by rw [hz] at q; split at q; omega; split at q <;> omega
            rw [d3 this]
            simp [this]
          · have : t.1 = 0 := by rw [hz] at q; split at q; assumption; split at q <;> omega
            rw [d4 this]
            simp [this]
        rw [this]; exact hq
    refine ⟨fun n0 => ⟨fun n1 => fin 1 (by rw [if_neg n0, if_neg n1]), fun n1 => fin 2 (by rw [if_neg n0, if_pos n1])⟩, fun n0 => fin 3 (by rw [if_pos n0])⟩
  · intro s1 e1
    have D1 : D γ s1 := by rw [e1]; exact hD.up (by decide)
    have F1 : Fdm σ s1 := by rw [e1]; exact Fdm.rf.up (by decide)
    unfold f_step at hq
    have hq := hq s1 D1 F1
    have h4 := hg.2.2.1.1
    rw [m_isScript hg D1]
    refine sw (fun hs => ?_) (fun hs => by rw [if_neg (fun q => hs q.1.1)] at hq; exact hq)
    obtain ⟨a, rfl, ha, -⟩ := nn hs.1
    have hal : a < γ.2.2.2.2.2.1.length := by have := hs.2; omega
    have hL := get_L hal
    have hat : (nI a).toInt.toNat = a := by omega
    generalize hLe : γ.2.2.2.2.2.1.getD a [] = L at hL
    obtain ⟨b1, b2, b3, b4⟩ := hg.sc hL
    obtain ⟨c1, c2⟩ := D1.2.2.2.2.2.1.2 a L hL
    have hn : ∀ q : (rpe γ.2.2.2.2.2.1.length (nI a) ∧ rpe (γ.2.2.2.2.2.1.getD (nI a).toInt.toNat []).length i) ∧ (0 ≤ w.toInt ∧ w.toInt ≤ 3), rpe L.length i := fun q => by have := q.1.2; rw [hat, hLe] at this; exact this
    have em : (nI L.length - 1).toInt64 = iJ ((L.length : Int) - 1) := by
      rw [iI_n, show (1 : Int32) = iI 1 by decide, iI_sub, iI_J (by omega)]
    rw [nI_clamp (by omega), c1]
    refine ⟨vp_in_nI (by omega) (by decide), ?_⟩
    rw [isI' (l := 0) (a := 0) rfl em (by decide) (by omega)]
    refine sw (fun hi => ?_) (fun hi => by rw [if_neg (fun q => by have := hn q; omega)] at hq; exact hq)
    rw [i0_3]
    refine sw' (fun hw => ?_) (fun hw => by rw [if_neg (fun q => hw q.2)] at hq; exact hq)
    rw [if_pos ⟨⟨hs, by rw [hat, hLe]; omega⟩, hw⟩, hat, hLe] at hq
    obtain ⟨m, rfl, hm, -⟩ := nn (x := i) (by omega)
    have hmt : (nI m).toInt.toNat = m := by omega
    obtain ⟨k, rfl, hk, -⟩ := nn hw.1
    have hkt : (nI k).toInt.toNat = k := by omega
    rw [hmt, hkt] at hq
    have hml : m < L.length := by omega
    have htm := get_t hml
    generalize L.getD m t0 = t at hq htm
    obtain ⟨d1, d2, d3, d4⟩ := c2 m t htm
    have e9 : (4 : Int32) * ((16 : Int32) * nI a + nI m) + nI k = nI (64 * a + 4 * m + k) := by
      rw [show (16 : Int32) = nI 16 from rfl, pk_mul, nI_add, show (4 : Int32) = nI 4 from rfl, pk_mul, nI_add]; congr 1; omega
    rw [e9, nI_clamp (by omega)]
    refine ⟨vp_in_nI (by omega) (by decide), ?_⟩
    have : s1.1 183 (64 * a + 4 * m + k) = tcl t k := by
      unfold tcl
      rcases (show k = 0 ∨ k = 1 ∨ k = 2 ∨ k = 3 by omega) with rfl | rfl | rfl | rfl
      · exact d1
      · exact d2
      · exact d3
      · exact d4
    rw [this]; exact hq
/-! a step done -/
def sx (t : ST) : Int32 := iI t.2.1
def sy (t : ST) : Int32 := if t.1 ≤ 1 then iI t.2.2.1 else 0
def sz (t : ST) : Int32 := if t.1 = 0 then iI t.2.2.2 else 0
def stp (μ : MU) (h : HS) (t : ST) : AR := att μ h t.1 (sx t).toInt (sy t).toInt (sz t).toInt
def wsp (μ : MU) (w : GH) (t : ST) : GH := wdn μ w t.1 (sx t) (sy t) (sz t)
theorem att_ind {μ : MU} {h : HS} {s : Nat} {a b c b' c' : Int} (h1 : s ≤ 1 → b = b') (h2 : s = 0 → c = c') : att μ h s a b c = att μ h s a b' c' := by
  unfold att
  by_cases s0 : s = 0
  · rw [h1 (by omega), h2 s0]
  · rw [if_neg s0, if_neg s0]
    by_cases s1 : s = 1
    · rw [h1 (by omega)]
    · rw [if_neg s1, if_neg s1]
theorem s_astep {γ : GS} {bd : Nat} {σ : wS} {h : HS} {L : List ST} {s m : Nat} {t : ST} {Q : Int32 → wS → Prop} (hg : gok γ bd) (h0 : 0 < γ.2.1.1) (hC : C γ σ) (hk : hok γ.2.1 h) (hH : HC γ.2.1 h 32 σ) (hL : γ.2.2.2.2.2.1[s]? = some L) (ht : L[m]? = some t) (hq : ∀ τ : wS, C γ τ → Fr cW σ τ → CA γ.2.1 (stp γ.2.1 h t) σ τ → Q (iI (stp γ.2.1 h t).1) τ) : w_X11_attemptStep (19 + 2 * s) (nI m) σ Q := by
  obtain ⟨b1, b2, b3, b4⟩ := hg.sc hL
  obtain ⟨c1, c2⟩ := hC.2.2.2.2.2.2.1.2 s L hL
  obtain ⟨d1, d2, d3, d4⟩ := c2 m t ht
  have hml : m < L.length := (List.getElem?_eq_some_iff.mp ht).1
  have ht4 := (b4 t (mem_of ht)).1
  refine s_cell (k := 0) (by omega) (by decide) (s_cell (k := 1) (by omega) (by decide) (s_cell (k := 2) (by omega) (by decide) (s_cell (k := 3) (by omega) (by decide) ?_)))
  rw [show 4 * m + 0 = 4 * m from rfl, d1, d2]
  have e : att γ.2.1 h t.1 (iI t.2.1).toInt (σ.1 (19 + 2 * s + 1) (4 * m + 2)).toInt (σ.1 (19 + 2 * s + 1) (4 * m + 3)).toInt = stp γ.2.1 h t := by
    unfold stp sx sy sz
    refine att_ind (fun q => ?_) (fun q => ?_)
    · rw [if_pos q, d3 q]
    · rw [if_pos q, d4 q]
  rw [← e] at hq
  exact s_att hg h0 hC hk hH ht4 hq
theorem m_dstep {γ : GS} {bd : Nat} {σ : wS} {h : HS} {lg : List LE} {L : List ST} {s m : Nat} {t : ST} {Q : Int32 → wS → Prop} (hg : gok γ bd) (h0 : 0 < γ.2.1.1) (hD : D γ σ) (hk : hok γ.2.1 h) (hR : RowM γ.2.1 h lg (σ.1 189)) (hL : γ.2.2.2.2.2.1[s]? = some L) (ht : L[m]? = some t) (hq : ∀ τ : wS, D γ τ → Fdm σ τ → DA γ.2.1 (stp γ.2.1 h t) lg t.1 (arp t.1 (sx t)) σ τ → Q (iI (stp γ.2.1 h t).1) τ) : w_X12_doesStep 189 ((4 : Int32) * (((16 : Int32) * nI s) + nI m)) σ Q := by
  obtain ⟨b1, b2, b3, b4⟩ := hg.sc hL
  obtain ⟨c1, c2⟩ := hD.2.2.2.2.2.1.2 s L hL
  obtain ⟨d1, d2, d3, d4⟩ := c2 m t ht
  have hml : m < L.length := (List.getElem?_eq_some_iff.mp ht).1
  have ht4 := (b4 t (mem_of ht)).1
  have e9 : (4 : Int32) * ((16 : Int32) * nI s + nI m) = nI (64 * s + 4 * m) := by
    rw [show (16 : Int32) = nI 16 from rfl, pk_mul, nI_add, show (4 : Int32) = nI 4 from rfl, pk_mul]; congr 1; omega
  have p1 : nI (64 * s + 4 * m) + 1 = nI (64 * s + 4 * m + 1) := nI_1 _
  have p2 : nI (64 * s + 4 * m) + 2 = nI (64 * s + 4 * m + 2) := nI_add _ 2
  have p3 : nI (64 * s + 4 * m) + 3 = nI (64 * s + 4 * m + 3) := nI_add _ 3
  unfold w_X12_doesStep
  rw [e9, p1, p2, nI_clamp (by omega), nI_clamp (by omega), nI_clamp (by omega), d1, d2, d3]
  refine ⟨vp_in_nI (by omega) (by decide), fun y1 e1 => ⟨vp_in_nI (by omega) (by decide), ?_⟩⟩
  subst e1
  have e0 : nI t.1 = 0 ↔ t.1 = 0 := nI_eq (b := 0) (by omega) (by decide)
  have e2 : ((2 : Int32) ≤ nI t.1) ↔ 2 ≤ t.1 := nI_leI (a := 2) (by decide) (by omega)
  rw [e2]
  have main : w_X12_does 189 (nI t.1) (sx t) (sy t) (sz t) σ Q := m_att hg h0 hD hk hR ht4 hq
  have g35 : ∀ y : Int32, y = sy t → b_X12_doesStep_35 189 Q (nI (64 * s + 4 * m)) (nI t.1) y (iI t.2.1) (nI t.1) 189 σ := by
    intro y hy
    unfold b_X12_doesStep_35 b_X12_doesStep_51
    rw [e0, p3, nI_clamp (by omega), d4, hy]
    unfold sz at main
    refine ⟨fun q => ?_, fun q => ⟨vp_in_nI (by omega) (by decide), ?_⟩⟩
    · rw [if_neg q] at main; exact main
    · rw [if_pos q] at main ⊢; exact main
  unfold sy at g35
  refine ⟨fun q => g35 0 (by rw [if_neg (by omega)]), fun q => ⟨vp_in_nI (by omega) (by decide), g35 _ (by rw [if_pos (show t.1 ≤ 1 by omega), if_pos (show t.1 ≤ 1 by omega)])⟩⟩
/-- how far a script goes: the hold there, how many steps, why the next can't be -/
def rn (μ : MU) (L : List ST) : Nat → Nat → GH → GH × Nat × Option (Int × Nat)
  | 0, m, w => (w, m, none)
  | k + 1, m, w => if (stp μ w.1 (L.getD m t0)).1 = -1 then rn μ L k (m + 1) (wsp μ w (L.getD m t0)) else (w, m, some ((stp μ w.1 (L.getD m t0)).1, (stp μ w.1 (L.getD m t0)).2.2.length))
theorem rn_ok {μ : MU} (hμ : mu_ok μ) {L : List ST} (hL : ∀ t ∈ L, stok t) : ∀ (k m : Nat) (w : GH), m + k = L.length → ghok μ w → ghok μ (rn μ L k m w).1 ∧ m ≤ (rn μ L k m w).2.1 ∧ (rn μ L k m w).2.1 ≤ L.length ∧ (rn μ L k m w).1.2.2 = w.2.2 + ((rn μ L k m w).2.1 - m) ∧ ((rn μ L k m w).2.2 = none → (rn μ L k m w).2.1 = L.length) ∧ ∀ z b, (rn μ L k m w).2.2 = some (z, b) → (rn μ L k m w).2.1 < L.length ∧ (0 ≤ z ∧ z ≤ 4) ∧ b ≤ 8 := by
  intro k
  induction k with
  | zero =>
    intro m w hm hw
    exact ⟨hw, Nat.le_refl _, by show m ≤ _; omega, by show w.2.2 = w.2.2 + (m - m); omega, fun _ => by show m = _; omega, fun z b h => by cases h⟩
  | succ k ih =>
    intro m w hm hw
    have ht := get_t (L := L) (m := m) (by omega)
    have ht4 := (hL _ (mem_of ht)).1
    rw [rn]
    generalize L.getD m t0 = t at ht ht4
    obtain ⟨o1, o2, o3, o4⟩ := att_ok hμ hw.1 t.1 (sx t).toInt (sy t).toInt (sz t).toInt
    split
    · rename_i h1
      have h1 : (att μ w.1 t.1 (sx t).toInt (sy t).toInt (sz t).toInt).1 = -1 := h1
      have hw' : ghok μ (wsp μ w t) := wdn_ok hμ hw ht4 h1
      have hN : (wsp μ w t).2.2 = w.2.2 + 1 := rfl
      obtain ⟨i1, i2, i3, i4, i5, i6⟩ := ih (m + 1) (wsp μ w t) (by omega) hw'
      exact ⟨i1, by omega, i3, by rw [i4, hN]; omega, i5, i6⟩
    · rename_i h1
      have h1 : ¬ (att μ w.1 t.1 (sx t).toInt (sy t).toInt (sz t).toInt).1 = -1 := h1
      refine ⟨hw, Nat.le_refl _, by show m ≤ _; omega, by show w.2.2 = w.2.2 + (m - m); omega, fun q => (by cases q), fun z b h => ⟨by show m < _; omega, ?_⟩⟩
      have h : some ((att μ w.1 t.1 (sx t).toInt (sy t).toInt (sz t).toInt).1, (att μ w.1 t.1 (sx t).toInt (sy t).toInt (sz t).toInt).2.2.length) = some (z, b) := h
      have h := Option.some.inj h
      have hz : (att μ w.1 t.1 (sx t).toInt (sy t).toInt (sz t).toInt).1 = z := congrArg Prod.fst h
      have hb : (att μ w.1 t.1 (sx t).toInt (sy t).toInt (sz t).toInt).2.2.length = b := congrArg Prod.snd h
      refine ⟨⟨?_, ?_⟩, by omega⟩ <;> omega
/-- the model's goes -/
theorem m_goes {γ : GS} {bd : Nat} {σ : wS} {L : List ST} {s : Nat} {Q : Int32 → wS → Prop} (hg : gok γ bd) (h0 : 0 < γ.2.1.1) (hD : D γ σ) (hL : γ.2.2.2.2.2.1[s]? = some L)
    (hq : ∀ τ : wS, D γ τ → Fdm σ τ → (match (rn γ.2.1 L L.length 0 γ.2.2.1).2.2 with
      | none => τ.1 176 38 = -1 ∧ RowM γ.2.1 (rn γ.2.1 L L.length 0 γ.2.2.1).1.1 (rn γ.2.1 L L.length 0 γ.2.2.1).1.2.1 (τ.1 189)
      | some zb => τ.1 176 38 = iI zb.1 ∧ RowM γ.2.1 (rn γ.2.1 L L.length 0 γ.2.2.1).1.1 (rn γ.2.1 L L.length 0 γ.2.2.1).1.2.1 (τ.1 198) ∧ τ.1 176 35 = (if zb.1 = 3 ∨ zb.1 = 4 then 1 else 0) ∧ (zb.1 = 3 ∨ zb.1 = 4 → τ.1 176 32 = nI zb.2)) → Q (nI (rn γ.2.1 L L.length 0 γ.2.2.1).2.1) τ) : w_X12_goes (nI s) σ Q := by
  obtain ⟨hμ, hw⟩ := hg.hk h0
  obtain ⟨b1, b2, b3, b4⟩ := hg.sc hL
  refine m_begin0 hμ.1 hD (fun s1 D1 F1 R1 s3 e3 => ⟨L.length + 2, ?_⟩)
  generalize hres : rn γ.2.1 L L.length 0 γ.2.2.1 = res at hq
  have key : ∀ (k m : Nat) (w : GH) (ρ : wS), m + k = L.length → ghok γ.2.1 w → D γ ρ → Fdm σ ρ → RowM γ.2.1 w.1 w.2.1 (ρ.1 189) → ρ.1 176 38 = -1 → rn γ.2.1 L k m w = res → l_X12_goes_20 Q (k + 2) (nI s) (nI m) ρ := by
    intro k
    induction k with
    | zero =>
      intro m w ρ hm hw D2 F2 R2 h38 he
      have : m = L.length := by omega
      subst this
      rw [rn] at he
      rw [← he] at hq
      simp only [l_X12_goes_20]
      rw [nI_clamp (by omega), (D2.2.2.2.2.2.1.2 s L hL).1]
      refine ⟨vp_in_nI (by omega) (by decide), fun _ => hq ρ D2 F2 ⟨h38, R2⟩, fun q => absurd (nI_le (Nat.le_refl _) (by omega)) q⟩
    | succ k ih =>
      intro m w ρ hm hw D2 F2 R2 h38 he
      have ht := get_t (L := L) (m := m) (by omega)
      have ht4 := (b4 _ (mem_of ht)).1
      rw [rn] at he
      generalize L.getD m t0 = t at ht ht4 he
      rw [l_X12_goes_20, nI_clamp (by omega), (D2.2.2.2.2.2.1.2 s L hL).1, h38]
      refine ⟨vp_in_nI (by omega) (by decide), fun q => absurd q (nI_ge (by omega) (by omega)), fun _ => ⟨fun q => absurd rfl q, fun _ => ?_⟩⟩
      refine m_copy0 (by decide) rfl rfl (fun s4 F4 g4 c4 => ?_)
      have D4 : D γ s4 := D2.mv (fun i hi => (F4 i (by revert i; decide)).1) (fun k _ => by rw [(F4 176 (by decide)).1])
      have R4 : RowM γ.2.1 w.1 w.2.1 (s4.1 189) := by rw [(F4 189 (by decide)).1]; exact R2
      refine m_dstep hg h0 D4 hw.1 R4 hL ht (fun τ D5 F5 hA s5 e5 => ?_)
      obtain ⟨A1, A2, A3, A4, A5, A6⟩ := hA
      have D6 : D γ s5 := by rw [e5]; exact D5.up (by decide)
      have F6 : Fdm σ s5 := by rw [e5]; exact ((F2.tr (F4.d (by decide))).tr F5).up (by decide)
      have x38 : s5.1 176 38 = iI (stp γ.2.1 w.1 t).1 := by rw [e5, upI_1]; simp
      rw [x38]
      have em : (iI (stp γ.2.1 w.1 t).1 = -1) ↔ (stp γ.2.1 w.1 t).1 = -1 := att_em hμ hw.1 _ _ _ _
      rw [em]
      refine ⟨fun hne => ?_, fun heq y6 e6 => ?_⟩
      · rw [if_neg hne] at he
        rw [l_X12_goes_20, nI_clamp (by omega), (D6.2.2.2.2.2.1.2 s L hL).1, x38, em]
        refine ⟨vp_in_nI (by omega) (by decide), fun q => absurd q (nI_ge (by omega) (by omega)), fun _ => ⟨fun _ => ?_, fun q => absurd q hne⟩⟩
        rw [← he] at hq
        refine hq s5 D6 F6 ⟨x38, ?_, ?_, fun q => ?_⟩
        · have : s5.1 198 = s4.1 198 := by
            have : s5.1 198 = τ.1 198 := by rw [e5]; rfl
            rw [this]
            exact (A1 198 (by decide)).1
          rw [this]
          refine R2.mv hμ.1 (fun k hk => ?_)
          rw [c4 k hk]
        · rw [e5, upI_1, if_neg (by omega)]; exact A4
        · rw [e5, upI_1, if_neg (by omega)]; exact (A5 (Or.inr q)).1
      · rw [if_pos heq] at he
        rw [e6, nI_1]
        have hw' : ghok γ.2.1 (wsp γ.2.1 w t) := wdn_ok hμ hw ht4 heq
        refine ih (m + 1) (wsp γ.2.1 w t) s5 (by omega) hw' D6 F6 ?_ (by rw [x38, heq]; rfl) he
        have : s5.1 189 = τ.1 189 := by rw [e5]; rfl
        rw [this]
        exact A6 heq
  refine key L.length 0 γ.2.2.1 s3 (by omega) hw (by rw [e3]; exact D1.up (by decide)) (by rw [e3]; exact F1.up (by decide)) ?_ (by rw [e3, upI_1]; simp) hres
  have : s3.1 189 = s1.1 189 := by rw [e3]; rfl
  rw [this]
  exact R1
