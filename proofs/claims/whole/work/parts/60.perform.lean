/-! perform -/
def pf0 (γ : GS) : GS := (γ.1, γ.2.1, γ.2.2.1, γ.2.2.2.1, γ.2.2.2.2.1, γ.2.2.2.2.2.1, [nI 0], up1 γ.2.2.2.2.2.2.2 0)
def pfG (γ : GS) (L : List ST) (res : RN) : Int32 × GS := match res.2.2 with
  | none => (nI L.length, cmt γ res.1)
  | some zb => (-1, rfs γ [nI (1000 + res.2.1)] (L.getD res.2.1 t0).1 zb.1.toNat zb.2)
def f_perform (s : Int32) (γ : GS) : Int32 × GS := if rpe γ.2.2.2.2.2.1.length s ∧ 0 < γ.2.1.1 then pfG γ (scL γ s) (rn γ.2.1 (scL γ s) (scL γ s).length 0 γ.2.2.1) else (-1, pf0 γ)
theorem C.pf0 {γ : GS} {bd : Nat} {σ τ : wS} (hg : gok γ bd) (h : C γ σ) (hF : Fr [52, 53, 54] σ τ) (hR : cR [nI 0] (up1 γ.2.2.2.2.2.2.2 0) τ) : C (pf0 γ) τ := by
  obtain ⟨a1, a2, a3, a4, a5, a6, a7, a8⟩ := h
  have ef : ∀ i, i ≠ 52 → i ≠ 53 → i ≠ 54 → τ.1 i = σ.1 i := fun i h1 h2 h3 => (hF i (by simp; omega)).1
  have b7 : cS γ.2.2.2.2.2.1 τ := a7.mv hg.2.2.1.1 (by rw [ef 0 (by decide) (by decide) (by decide)]) (fun i h1 h2 => by have := hg.2.2.1.1; exact ef i (by omega) (by omega) (by omega))
  exact ⟨a1.mv (ef 1 (by decide) (by decide) (by decide)) (ef 2 (by decide) (by decide) (by decide)), a2.mv (by rw [ef 0 (by decide) (by decide) (by decide)]; exact ⟨rfl, rfl⟩) (fun i h1 h2 => ef i (by omega) (by omega) (by omega)), a3.mv (fun j h1 h2 => ef j (by omega) (by omega) (by omega)), a4.mv (ef 50 (by decide) (by decide) (by decide)) (fun i h1 h2 => ef i (by omega) (by omega) (by omega)), a5.mv (ef 49 (by decide) (by decide) (by decide)), a6.mv (by rw [ef 0 (by decide) (by decide) (by decide)]) (fun i h1 h2 => ef i (by omega) (by omega) (by omega)) (ef 55 (by decide) (by decide) (by decide)), b7, hR⟩
theorem D.pf0 {γ : GS} {σ τ : wS} (h : D γ σ) (hF : Fr [176, 185, 197] σ τ) (hK : ∀ k, k ≠ 34 → τ.1 176 k = σ.1 176 k) (hR : dR [nI 0] (up1 γ.2.2.2.2.2.2.2 0) τ) : D (pf0 γ) τ := by
  obtain ⟨a1, a2, a3, a4, a5, a6, a7⟩ := h
  refine ⟨?_, a2.mv (hK 14 (by decide)) (hF 181 (by decide)).1 (hF 179 (by decide)).1 (hF 182 (by decide)).1, ?_, a4.mv (hK 23 (by decide)) (hK 24 (by decide)) (hF 191 (by decide)).1, a5.mv (hK 25 (by decide)) (hF 190 (by decide)).1, ?_, hR⟩
  · unfold dT at a1 ⊢; rw [hK 2 (by decide), (hF 177 (by decide)).1]; exact a1
  · rw [(hF 188 (by decide)).1]; exact a3
  · unfold dS at a6 ⊢; rw [hK 15 (by decide), (hF 184 (by decide)).1, (hF 183 (by decide)).1]; exact a6
theorem s_perf15 {γ : GS} {bd : Nat} {σ : wS} {Q : Int32 → wS → Prop} (hg : gok γ bd) (hC : C γ σ) (hq : ∀ τ : wS, C (pf0 γ) τ → Fcm σ τ → Q (-1) τ) : b_X11_perform_15 Q σ := by
  intro s1 e1
  have R1 : cR [] γ.2.2.2.2.2.2.2 s1 := by
    refine ⟨by rw [e1, upI_1]; simp; rfl, fun k hk => absurd hk (by simp), fun k hk => ?_⟩
    rw [e1, upI_1, if_neg (by omega)]; exact hC.2.2.2.2.2.2.2.2.2 k hk
  refine s_close (z := 0) (c := []) (by decide) (by decide) R1 (fun τ F2 g2 R2 => ?_)
  have F3 : Fr [52, 53, 54] σ τ := Fr.tr (by rw [e1]; exact Fr.rf.upI (by decide)) F2
  exact hq τ (hC.pf0 hg F3 R2) (F3.c (by decide))
theorem m_perf20 {γ : GS} {σ : wS} {Q : Int32 → wS → Prop} (hD : D γ σ) (hq : ∀ τ : wS, D (pf0 γ) τ → Fdm σ τ → Q (-1) τ) : b_X12_perform_20 Q σ := by
  intro s1 e1
  have R1 : dR [] γ.2.2.2.2.2.2.2 s1 := by
    refine ⟨by rw [e1, upI_1]; simp; rfl, fun k hk => absurd hk (by simp), fun k hk => ?_⟩
    rw [e1, upI_1, if_neg (by omega)]; exact hD.2.2.2.2.2.2.2.2 k hk
  refine m_causes (c := []) (by decide) R1 (fun τ F2 k2 g2 R2 s4 e4 => ?_)
  have F3 : Fr [176, 185, 197] σ τ := Fr.tr (by rw [e1]; exact Fr.rf.upI (by decide)) (F2.wk (by decide))
  have F4 : Fr [176, 185, 197] σ s4 := by rw [e4]; exact F3.upI (by decide)
  refine hq s4 (hD.pf0 F4 (fun k hk => ?_) ?_) (F4.d (by decide))
  · rw [e4, upI_1, if_neg (by omega), k2 k hk, e1, upI_1, if_neg (by omega)]
  · refine ⟨?_, fun k hk => ?_, fun k hk => ?_⟩
    · rw [e4, upI_1, if_neg (by omega)]; exact R2.1
    · rw [e4, upI_1, if_neg (by omega)]; exact R2.2.1 k hk
    · unfold up1
      rw [e4, upI_1, c_0]
      by_cases q : k = 0
      · subst q
        simp only [and_self, if_true]
        rw [R2.2.2 0 (by decide)]
      · rw [if_neg (by omega), if_neg q]; exact R2.2.2 k hk
theorem s_perfL {γ : GS} {bd : Nat} {σ0 : wS} {L : List ST} {s : Nat} {res : RN} {Q : Int32 → wS → Prop} (hb : bd < 2 ^ 30) (hg : gok γ bd) (h0 : 0 < γ.2.1.1) (hL : γ.2.2.2.2.2.1[s]? = some L) (hq : ∀ τ : wS, C (pfG γ L res).2 τ → Fcm σ0 τ → Q (pfG γ L res).1 τ) : ∀ (k m : Nat) (w : GH) (σ : wS), m + k = L.length → w.2.2 = γ.2.2.1.2.2 + m → ghok γ.2.1 w → C γ σ → Fcm σ0 σ → cH γ.2.1 w 32 σ → JO w.2.1 w.2.2 (σ.1 49) → rn γ.2.1 L k m w = res → l_X11_perform_52 Q (k + 1) (19 + 2 * s) (nI m) σ := by
  obtain ⟨hμ, -⟩ := hg.hk h0
  obtain ⟨b1, b2, b3, b4⟩ := hg.sc hL
  have h8 := hμ.1
  have hN := hg.2.2.2.2.2.1
  intro k
  induction k with
  | zero =>
    intro m w σ hm hwm hw C1 F1 H1 J1 he
    have : m = L.length := by omega
    subst this
    rw [rn] at he
    rw [← he] at hq
    simp only [l_X11_perform_52]
    rw [(C1.2.2.2.2.2.2.1.2 s L hL).1]
    refine ⟨fun _ => ?_, fun q => absurd (nI_le (Nat.le_refl _) (by omega)) q⟩
    refine s_commit hg C1 H1 J1 (fun τ C2 F2 _ _ => ?_)
    rw [(C2.2.2.2.2.2.2.1.2 s L hL).1]
    exact hq τ C2 (F1.tr F2)
  | succ k ih =>
    intro m w σ hm hwm hw C1 F1 H1 J1 he
    have ht := get_t (L := L) (m := m) (by omega)
    have ht4 := (b4 _ (mem_of ht)).1
    rw [rn] at he
    generalize hte : L.getD m t0 = t at ht ht4 he
    obtain ⟨o1, o2, o3, o4⟩ := att_ok hμ hw.1 t.1 (sx t).toInt (sy t).toInt (sz t).toInt
    rw [l_X11_perform_52, (C1.2.2.2.2.2.2.1.2 s L hL).1]
    refine ⟨fun q => absurd q (nI_ge (by omega) (by omega)), fun _ => ?_⟩
    refine s_astep hg h0 C1 hw.1 H1.1 hL ht (fun τ C2 F2 hA => ?_)
    obtain ⟨A1, A2, A3, A4, A5, A6, A7⟩ := hA
    have em : (iI (stp γ.2.1 w.1 t).1 = -1) ↔ (stp γ.2.1 w.1 t).1 = -1 := att_em hμ hw.1 _ _ _ _
    rw [em]
    have F3 : Fcm σ0 τ := F1.tr (F2.c (by decide))
    refine ⟨fun heq => ?_, fun hne => ?_⟩
    · rw [if_pos heq] at he
      have hw' : ghok γ.2.1 (wsp γ.2.1 w t) := wdn_ok hμ hw ht4 heq
      have A8 := (A7 heq).1
      obtain ⟨d1, d2, d3, d4⟩ := (C2.2.2.2.2.2.2.1.2 s L hL).2 m t ht
      refine s_cell (k := 0) (by omega) (by decide) (s_cell (k := 1) (by omega) (by decide) ?_)
      rw [show 4 * m + 0 = 4 * m from rfl, d1, d2]
      have x7 : τ.1 32 7 = nI w.2.2 := by rw [A2]; exact H1.2
      have n3 := (o4 heq).2.2
      have hrp : orp (arp t.1 (sx t)) ≤ 8 := by
        unfold arp
        split
        · decide
        · show (sx t).toInt.toNat + 1 ≤ 8
          rcases n3 with q | q <;> omega
      have hox : oI (arp t.1 (sx t)) = if t.1 = 0 then -1 else iI t.2.1 := by
        unfold arp
        by_cases q : t.1 = 0
        · rw [if_pos q, if_pos q]; rfl
        · rw [if_neg q, if_neg q]
          rcases n3 with q2 | q2
          · exact absurd q2 q
          · exact (rp h8 q2.1 q2.2).1.symm
      refine s_writeLine ht4 hrp (msk_lt o2) (by omega) hox x7 A4 ?_
      intro y13 e13
      rw [e13, nI_1]
      refine ih (m + 1) (wsp γ.2.1 w t) _ (by omega) ?_ hw' ((C2.put hg (by omega) (by omega)).up hg (by decide)) ((F3.up (by decide)).up (by decide)) ?_ ?_ he
      · show w.2.2 + 1 = _
        omega
      · refine ⟨?_, by rw [upI_1]; simp; rfl⟩
        obtain ⟨q1, q2, q3, q4, q5, q6⟩ := A8
        exact ⟨⟨fun r hr => q1.1 r hr, fun a ha => q1.2 a ha⟩, by simp [upI_1]; exact q2, by simp [upI_1]; exact q3, by simp [upI_1]; exact q4, by simp [upI_1]; exact q5, by simp [upI_1]; exact q6⟩
      · show JO (addL _ _) (w.2.2 + 1) _
        have : (upI (upI τ 49 (w.2.2 % 716) (pk (t.1, arp t.1 (sx t), msk (att γ.2.1 w.1 t.1 (sx t).toInt (sy t).toInt (sz t).toInt).2.2))) 32 7 (nI (w.2.2 + 1))).1 49 = upd (τ.1 49) (w.2.2 % 716) (pk (t.1, arp t.1 (sx t), msk (att γ.2.1 w.1 t.1 (sx t).toInt (sy t).toInt (sz t).toInt).2.2)) := by
          rw [← upI_r]; rfl
        rw [this]
        have e49 : τ.1 49 = σ.1 49 := (F2 49 (by decide)).1
        rw [e49]
        exact J1.add
    · rw [if_neg hne] at he
      rw [← he] at hq
      have hq : ∀ τ : wS, C (rfs γ [nI (1000 + m)] (L.getD m t0).1 (stp γ.2.1 w.1 t).1.toNat (stp γ.2.1 w.1 t).2.2.length) τ → Fcm σ0 τ → Q (-1) τ := hq
      rw [hte] at hq
      have hne' : ¬ (att γ.2.1 w.1 t.1 (sx t).toInt (sy t).toInt (sz t).toInt).1 = -1 := hne
      have ez : iI (stp γ.2.1 w.1 t).1 = nI (stp γ.2.1 w.1 t).1.toNat := by
        rw [iI_n]; congr 1
        show (att γ.2.1 w.1 t.1 (sx t).toInt (sy t).toInt (sz t).toInt).1 = ((att γ.2.1 w.1 t.1 (sx t).toInt (sy t).toInt (sz t).toInt).1.toNat : Int)
        omega
      have hZ : (stp γ.2.1 w.1 t).1.toNat ≤ 4 := by
        show (att γ.2.1 w.1 t.1 (sx t).toInt (sy t).toInt (sz t).toInt).1.toNat ≤ 4
        omega
      rw [ez]
      intro s14 e14
      have R1 : cR [] γ.2.2.2.2.2.2.2 s14 := by
        refine ⟨by rw [e14, upI_1]; simp; rfl, fun k hk => absurd hk (by simp), fun k hk => ?_⟩
        rw [e14, upI_1, if_neg (by omega)]; exact C2.2.2.2.2.2.2.2.2.2 k hk
      rw [show (1000 : Int32) + nI m = nI (1000 + m) from nI_add 1000 m]
      refine s_add (c := []) (by decide) R1 (fun s16 F16 g16 R16 => ?_)
      have F17 : Fr [52, 53, 54] τ s16 := Fr.tr (by rw [e14]; exact Fr.rf.upI (by decide)) (F16.wk (by decide))
      obtain ⟨d1, d2, d3, d4⟩ := (C2.2.2.2.2.2.2.1.2 s L hL).2 m t ht
      refine s_cell (k := 0) (by omega) (by decide) ?_
      rw [(F17 (19 + 2 * s + 1) (by simp; omega)).1, show 4 * m + 0 = 4 * m from rfl, d1]
      refine s_refuse (b := (stp γ.2.1 w.1 t).2.2.length) (by simp) hZ R16 (by rw [(F17 38 (by decide)).1]; exact A5) (fun ρ F18 g18 R18 => ?_)
      have F19 := F17.tr F18
      exact hq ρ (C2.rfs hg F19 R18) (F3.tr (F19.c (by decide)))
theorem s_perform {γ : GS} {bd : Nat} {σ : wS} {s : Int32} {Q : Int32 → wS → Prop} (hb : bd < 2 ^ 30) (hC : C γ σ) (hg : gok γ bd) (hq : ∀ τ, C (f_perform s γ).2 τ → Fcm σ τ → Q (f_perform s γ).1 τ) : w_X11_perform s σ Q := by
  unfold f_perform at hq
  unfold w_X11_perform
  rw [s_isScript hg hC]
  refine sw (fun hs => ?_) (fun hs => ?_)
  · rw [s_hasM hg hC]
    refine sw' (fun h0 => ?_) (fun h0 => ?_)
    · rw [if_pos ⟨hs, h0⟩] at hq
      obtain ⟨a, rfl, ha, -⟩ := nn hs.1
      have hal : a < γ.2.2.2.2.2.1.length := by have := hs.2; omega
      have hL := get_L hal
      have hat : (nI a).toInt.toNat = a := by omega
      unfold scL at hq
      rw [hat] at hq
      generalize γ.2.2.2.2.2.1.getD a [] = L at hL hq
      obtain ⟨hμ, hw0⟩ := hg.hk h0
      obtain ⟨b1, b2, b3, b4⟩ := hg.sc hL
      refine s_begin0 hg hC (fun s1 F1 C1 H1 => ⟨vp_in_nI (by omega) (by decide), L.length + 1, ?_⟩)
      rw [nI_clamp (by omega)]
      exact s_perfL hb hg h0 hL hq L.length 0 γ.2.2.1 s1 (by omega) rfl hw0 C1 (F1.c (by decide)) H1 C1.2.2.2.2.1.1 rfl
    · rw [if_neg (fun q => h0 q.2)] at hq
      exact s_perf15 hg hC hq
  · rw [if_neg (fun q => hs q.1)] at hq
    exact s_perf15 hg hC hq
theorem m_perform {γ : GS} {bd : Nat} {σ : wS} {s : Int32} {Q : Int32 → wS → Prop} (hD : D γ σ) (hg : gok γ bd) (hq : ∀ τ, D (f_perform s γ).2 τ → Fdm σ τ → Q (f_perform s γ).1 τ) : w_X12_perform s σ Q := by
  intro s1 e1
  have D1 : D γ s1 := by rw [e1]; exact hD.up (by decide)
  have F1 : Fdm σ s1 := by rw [e1]; exact Fdm.rf.up (by decide)
  unfold f_perform at hq
  have h8 := hg.n8
  rw [m_isScript hg D1]
  refine sw (fun hs => ?_) (fun hs => ?_)
  · rw [D1.2.1.1, n0_iff h8]
    refine ⟨fun h0 => ?_, fun h0 => ?_⟩
    · have h0 : 0 < γ.2.1.1 := Classical.byContradiction h0
      rw [if_pos ⟨hs, h0⟩] at hq
      obtain ⟨a, rfl, ha, -⟩ := nn hs.1
      have hal : a < γ.2.2.2.2.2.1.length := by have := hs.2; omega
      have hL := get_L hal
      have hat : (nI a).toInt.toNat = a := by omega
      unfold scL at hq
      rw [hat] at hq
      generalize γ.2.2.2.2.2.1.getD a [] = L at hL hq
      obtain ⟨hμ, hw0⟩ := hg.hk h0
      obtain ⟨b1, b2, b3, b4⟩ := hg.sc hL
      obtain ⟨r1, r2, r3, r4, r5, r6⟩ := rn_ok hμ b4 L.length 0 γ.2.2.1 (by omega) hw0
      refine m_goes hg h0 D1 hL (fun τ D2 F2 hm => ?_)
      generalize rn γ.2.1 L L.length 0 γ.2.2.1 = res at hq hm r1 r2 r3 r4 r5 r6
      obtain ⟨g, m, o⟩ := res
      cases o with
      | none =>
        simp only at hm
        rw [hm.1]
        refine ⟨fun _ => ?_, fun q => absurd rfl q⟩
        have hml : m = L.length := r5 rfl
        rw [hml]
        refine m_commit (w := g) hg D2 hm.2 (fun ρ D3 F3 k3 r3 g3 => ?_)
        exact hq ρ D3 ((F1.tr F2).tr F3)
      | some zb =>
        obtain ⟨z, b⟩ := zb
        simp only at hm
        obtain ⟨r7, r8, r9⟩ := r6 z b rfl
        have r7 : m < L.length := r7
        have ez : iI z = nI z.toNat := by rw [iI_n]; congr 1; omega
        have em : ¬ τ.1 176 38 = -1 := by
          rw [hm.1, ez]
          exact nI_m1 (by omega)
        refine ⟨fun n => absurd n em, fun _ s10 e10 => ?_⟩
        have R1 : dR [] γ.2.2.2.2.2.2.2 s10 := by
          refine ⟨by rw [e10, upI_1]; simp; rfl, fun k hk => absurd hk (by simp), fun k hk => ?_⟩
          rw [e10, upI_1, if_neg (by omega)]; exact D2.2.2.2.2.2.2.2.2 k hk
        rw [show (1000 : Int32) + nI m = nI (1000 + m) from nI_add 1000 m]
        refine m_causes (c := []) (by decide) R1 (fun s11 F11 k11 g11 R11 => ?_)
        have F12 : Fr [176, 185, 197] τ s11 := Fr.tr (by rw [e10]; exact Fr.rf.upI (by decide)) (F11.wk (by decide))
        have K12 : ∀ k, k ≠ 34 → s11.1 176 k = τ.1 176 k := fun k hk => by rw [k11 k hk, e10, upI_1, if_neg (by omega)]
        have e9 : (4 : Int32) * ((16 : Int32) * nI a + nI m) = nI (64 * a + 4 * m) := by
          rw [show (16 : Int32) = nI 16 from rfl, pk_mul, nI_add, show (4 : Int32) = nI 4 from rfl, pk_mul]; congr 1; omega
        have ht := get_t (L := L) (m := m) r7
        obtain ⟨d1, d2, d3, d4⟩ := (D2.2.2.2.2.2.1.2 a L hL).2 m _ ht
        rw [e9, nI_clamp (by omega), (F12 183 (by decide)).1, d1, K12 38 (by decide), hm.1, ez]
        refine ⟨vp_in_nI (by omega) (by decide), ?_⟩
        refine m_blames (b := b) (by simp) (by omega) R11 ?_ (fun q => ?_) (fun ρ F13 k13 g13 R13 => ?_)
        · rw [K12 35 (by decide), hm.2.2.1]
          by_cases q : z = 3 ∨ z = 4
          · rw [if_pos q, if_pos (by omega)]
          · rw [if_neg q, if_neg (by omega)]
        · rw [K12 32 (by decide)]; exact hm.2.2.2 (by omega)
        · have F14 := F12.tr F13
          exact hq ρ (D2.rfs F14 (fun k hk => by rw [k13 k hk, K12 k hk]) R13) ((F1.tr F2).tr (F14.d (by decide)))
    · rw [if_neg (fun q => h0 q.2)] at hq
      exact m_perf20 D1 (fun τ D2 F2 => hq τ D2 (F1.tr F2))
  · rw [if_neg (fun q => hs q.1)] at hq
    exact m_perf20 D1 (fun τ D2 F2 => hq τ D2 (F1.tr F2))
theorem gok_perform {γ : GS} {bd : Nat} {s : Int32} (hg : gok γ bd) : gok (f_perform s γ).2 (bd + 40) := by
  unfold f_perform
  split
  · rename_i h
    obtain ⟨hs, h0⟩ := h
    obtain ⟨hμ, hw0⟩ := hg.hk h0
    obtain ⟨a, rfl, ha, -⟩ := nn hs.1
    have hal : a < γ.2.2.2.2.2.1.length := by have := hs.2; omega
    have hL := get_L hal
    have hat : (nI a).toInt.toNat = a := by omega
    unfold scL
    rw [hat]
    generalize γ.2.2.2.2.2.1.getD a [] = L at hL
    obtain ⟨b1, b2, b3, b4⟩ := hg.sc hL
    obtain ⟨r1, r2, r3, r4, r5, r6⟩ := rn_ok hμ b4 L.length 0 γ.2.2.1 (by omega) hw0
    generalize rn γ.2.1 L L.length 0 γ.2.2.1 = res at r1 r2 r3 r4 r5 r6
    obtain ⟨g, m, o⟩ := res
    simp only at r1 r2 r3 r4 r5 r6
    cases o with
    | none => exact (gok_cmt hg h0 r1 (by omega) (by omega)).wk (by omega)
    | some zb => exact (gok_rfs hg (by simp)).wk (by omega)
  · obtain ⟨a1, a2, a3, a4, a5, a6, a7, a8⟩ := hg
    exact ⟨a1, a2, a3, by show [nI 0].length ≤ 4; decide, a5, by show γ.2.2.1.2.2 ≤ bd + 40; omega, a7, a8⟩
theorem o_perform {bd : Nat} {σ : wS} {s : Int32} (hb : bd < 2 ^ 30) (hI : In bd σ) : w_X11_perform s σ (fun r1 s' => w_X12_perform s s' (fun r' s' => r1 = r' ∧ In (bd + 40) s')) :=
  prI (f := f_perform s) (w1 := w_X11_perform s) (w2 := w_X12_perform s) (fun γ σ Q hC hg hq => s_perform hb hC hg hq) (fun γ σ Q hD hg hq => m_perform hD hg hq) (fun γ hg => gok_perform hg) hI
