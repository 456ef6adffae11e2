/-! run -/
abbrev RN : Type := GH × Nat × Option (Int × Nat)
def rnV (w : Int32) (R : RN) : Int32 := if w = 0 then (match R.2.2 with
  | none => -1
  | some _ => nI R.2.1) else nI (cnt (fun r => R.1.1.2.2.1.1.testBit r) 8)
def scL (γ : GS) (s : Int32) : List ST := γ.2.2.2.2.2.1.getD s.toInt.toNat []
def f_run (s w : Int32) (γ : GS) : Int32 × GS := (if (rpe γ.2.2.2.2.2.1.length s ∧ 0 < γ.2.1.1) ∧ (0 ≤ w.toInt ∧ w.toInt ≤ 1) then rnV w (rn γ.2.1 (scL γ s) (scL γ s).length 0 γ.2.2.1) else -1000000, γ)
theorem nI_m1 {m : Nat} (h : m < 2 ^ 31) : ¬ nI m = -1 := by
  rw [show (-1 : Int32) = iI (-1) by decide, iI_n, iI_eq (by omega) (by decide)]
  omega
theorem s_run109 {w x4 : Int32} {t : Nat} {σ : wS} {Q : Int32 → wS → Prop} (ht : t < 256) (hq : Q (if w = 0 then x4 else nI (cnt (fun r => t.testBit r) 8)) σ) : b_X11_run_109 Q w (nI t) x4 σ := by
  unfold b_X11_run_109
  refine ⟨fun q => s_bitCount ht ?_, fun q => ?_⟩
  · rw [if_neg q] at hq; exact hq
  · rw [if_pos q] at hq; exact hq
theorem s_runL {γ : GS} {bd : Nat} {σ0 : wS} {L : List ST} {s : Nat} {p : Int32} {res : RN} {Q : Int32 → wS → Prop} (hg : gok γ bd) (h0 : 0 < γ.2.1.1) (hL : γ.2.2.2.2.2.1[s]? = some L) (hq : ∀ τ : wS, C γ τ → Fcm σ0 τ → Q (rnV p res) τ) : ∀ (k m : Nat) (w : GH) (σ : wS), m + k = L.length → ghok γ.2.1 w → C γ σ → Fcm σ0 σ → HC γ.2.1 w.1 32 σ → rn γ.2.1 L k m w = res → l_X11_run_52 Q (k + 2) (nI s) p (nI w.1.2.2.1.1) (-1) (nI m) σ := by
  obtain ⟨hμ, -⟩ := hg.hk h0
  obtain ⟨b1, b2, b3, b4⟩ := hg.sc hL
  intro k
  induction k with
  | zero =>
    intro m w σ hm hw C1 F1 H1 he
    have : m = L.length := by omega
    subst this
    rw [rn] at he
    simp only [l_X11_run_52]
    rw [nI_clamp (by omega), (C1.2.2.2.2.2.2.1.2 s L hL).1]
    refine ⟨vp_in_nI (by omega) (by decide), fun _ => s_run109 hw.1.2.1 ?_, fun q => absurd (nI_le (Nat.le_refl _) (by omega)) q⟩
    have := hq σ C1 F1
    rw [← he] at this
    exact this
  | succ k ih =>
    intro m w σ hm hw C1 F1 H1 he
    have ht := get_t (L := L) (m := m) (by omega)
    have ht4 := (b4 _ (mem_of ht)).1
    rw [rn] at he
    generalize L.getD m t0 = t at ht ht4 he
    rw [l_X11_run_52, nI_clamp (by omega), (C1.2.2.2.2.2.2.1.2 s L hL).1]
    refine ⟨vp_in_nI (by omega) (by decide), fun q => absurd q (nI_ge (by omega) (by omega)), fun _ => ⟨fun q => absurd rfl q, fun _ => ⟨vp_in_nI (by omega) (by decide), ?_⟩⟩⟩
    refine s_astep hg h0 C1 hw.1 H1 hL ht (fun τ C2 F2 hA => ?_)
    obtain ⟨A1, A2, A3, A4, A5, A6, A7⟩ := hA
    have em : (iI (stp γ.2.1 w.1 t).1 = -1) ↔ (stp γ.2.1 w.1 t).1 = -1 := att_em hμ hw.1 _ _ _ _
    rw [em]
    have F3 : Fcm σ0 τ := F1.tr (F2.c (by decide))
    refine ⟨fun hne y1 e1 => ?_, fun heq y5 e5 y1 e1 => ?_⟩
    · rw [if_neg hne] at he
      have fin : b_X11_run_109 Q p (nI w.1.2.2.1.1) (nI m) τ := by
        refine s_run109 hw.1.2.1 ?_
        have := hq τ C2 F3
        rw [← he] at this
        exact this
      rw [l_X11_run_52, nI_clamp (by omega), (C2.2.2.2.2.2.2.1.2 s L hL).1]
      exact ⟨vp_in_nI (by omega) (by decide), fun _ => fin, fun _ => ⟨fun _ => fin, fun q => absurd q (nI_m1 (by omega))⟩⟩
    · rw [if_pos heq] at he
      have hw' : ghok γ.2.1 (wsp γ.2.1 w t) := wdn_ok hμ hw ht4 heq
      have A8 : HC γ.2.1 (wsp γ.2.1 w t).1 32 τ := (A7 heq).1
      rw [e1, nI_1, e5, A8.2.1]
      exact ih (m + 1) (wsp γ.2.1 w t) τ (by omega) hw' C2 F3 A8 he
theorem o_run {bd : Nat} {σ : wS} {s w : Int32} (hI : In bd σ) : w_X11_run s w σ (fun r1 s' => w_X12_run s w s' (fun r' s' => r1 = r' ∧ In (bd + 40) s')) := by
  refine prI (f := f_run s w) (w1 := w_X11_run s w) (w2 := w_X12_run s w) (fun γ σ Q hC hg hq => ?_) (fun γ σ Q hD hg hq => ?_) (fun γ hg => hg.wk (by omega)) hI
  · unfold f_run at hq
    unfold w_X11_run
    rw [s_isScript hg hC]
    refine sw (fun hs => ?_) (fun hs => by rw [if_neg (fun q => hs q.1.1)] at hq; exact hq σ hC Fcm.rf)
    rw [s_hasM hg hC]
    refine sw (fun h0 => ?_) (fun h0 => by rw [if_neg (fun q => h0 q.1.2)] at hq; exact hq σ hC Fcm.rf)
    rw [w0_1]
    refine sw' (fun hw => ?_) (fun hw => by rw [if_neg (fun q => hw q.2)] at hq; exact hq σ hC Fcm.rf)
    rw [if_pos ⟨⟨hs, h0⟩, hw⟩] at hq
    obtain ⟨a, rfl, ha, -⟩ := nn hs.1
    have hal : a < γ.2.2.2.2.2.1.length := by have := hs.2; omega
    have hL := get_L hal
    have hat : (nI a).toInt.toNat = a := by omega
    unfold scL at hq
    rw [hat] at hq
    generalize γ.2.2.2.2.2.1.getD a [] = L at hL hq
    obtain ⟨hμ, hw0⟩ := hg.hk h0
    refine s_begin0 hg hC (fun s1 F1 C1 H1 y9 e9 => ⟨L.length + 2, ?_⟩)
    rw [e9, C1.2.2.1.1.2.1]
    exact s_runL hg h0 hL hq L.length 0 γ.2.2.1 s1 (by omega) hw0 C1 (F1.c (by decide)) H1.1 rfl
  · intro s1 e1
    have D1 : D γ s1 := by rw [e1]; exact hD.up (by decide)
    have F1 : Fdm σ s1 := by rw [e1]; exact Fdm.rf.up (by decide)
    unfold f_run at hq
    have h8 := hg.n8
    rw [m_isScript hg D1]
    refine sw (fun hs => ?_) (fun hs => by rw [if_neg (fun q => hs q.1.1)] at hq; exact hq s1 D1 F1)
    rw [D1.2.1.1, n0_iff h8]
    refine ⟨fun h0 => by rw [if_neg (fun q => h0 q.1.2)] at hq; exact hq s1 D1 F1, fun h0 => ?_⟩
    have h0 : 0 < γ.2.1.1 := Classical.byContradiction h0
    rw [i0_1]
    refine sw' (fun hw => ?_) (fun hw => by rw [if_neg (fun q => hw q.2)] at hq; exact hq s1 D1 F1)
    rw [if_pos ⟨⟨hs, h0⟩, hw⟩] at hq
    obtain ⟨a, rfl, ha, -⟩ := nn hs.1
    have hal : a < γ.2.2.2.2.2.1.length := by have := hs.2; omega
    have hL := get_L hal
    have hat : (nI a).toInt.toNat = a := by omega
    unfold scL at hq
    rw [hat] at hq
    generalize γ.2.2.2.2.2.1.getD a [] = L at hL hq
    obtain ⟨hμ, hw0⟩ := hg.hk h0
    obtain ⟨b1, b2, b3, b4⟩ := hg.sc hL
    obtain ⟨r1, r2, r3, r4, r5, r6⟩ := rn_ok hμ b4 L.length 0 γ.2.2.1 (by omega) hw0
    refine m_goes hg h0 D1 hL (fun τ D2 F2 hm => ?_)
    generalize rn γ.2.1 L L.length 0 γ.2.2.1 = res at hq hm r1 r2 r3 r4 r5 r6
    obtain ⟨g, m, o⟩ := res
    have hr2 := hq τ D2 (F1.tr F2)
    unfold rnV at hr2
    cases o with
    | none =>
      simp only at hm hr2
      rw [hm.1]
      refine ⟨fun q => ⟨fun n => absurd rfl n, fun _ => ?_⟩, fun q => ⟨fun n => absurd rfl n, fun _ => ?_⟩⟩
      · rw [if_neg q] at hr2
        exact m_taut hμ rfl r1.1 D2.2.1 hm.2 (m_size r1.1.2.1 hr2)
      · rw [if_pos q] at hr2
        exact hr2
    | some zb =>
      simp only at hm hr2
      obtain ⟨z, b⟩ := zb
      obtain ⟨r7, r8, r9⟩ := r6 z b rfl
      have em : ¬ τ.1 176 38 = -1 := by
        rw [hm.1, show (-1 : Int32) = iI (-1) by decide, iI_eq (by omega) (by decide)]
        simp only
        omega
      refine ⟨fun q => ⟨fun _ => ?_, fun n => absurd n em⟩, fun q => ⟨fun _ => ?_, fun n => absurd n em⟩⟩
      · rw [if_neg q] at hr2
        exact m_taut hμ rfl r1.1 D2.2.1 hm.2.1 (m_size r1.1.2.1 hr2)
      · rw [if_pos q] at hr2
        exact hr2
