theorem C.put {γ : GS} {bd : Nat} {σ : wS} {x : Nat} {v : Int32} (hg : gok γ bd) (h : C γ σ) (h1 : γ.2.2.1.2.2 ≤ x) (h2 : x ≤ γ.2.2.1.2.2 + 15) : C γ (upI σ 49 (x % 716) v) := by
  obtain ⟨a1, a2, a3, a4, a5, a6, a7, a8⟩ := h
  have ef : ∀ i, i ≠ 49 → (upI σ 49 (x % 716) v).1 i = σ.1 i := fun i hi => (setI_ne hi).1
  have b7 : cS γ.2.2.2.2.2.1 (upI σ 49 (x % 716) v) := a7.mv hg.2.2.1.1 (by rw [ef 0 (by decide)]) (fun i h1 h2 => ef i (by have := hg.2.2.1.1; omega))
  exact ⟨a1.mv (ef 1 (by decide)) (ef 2 (by decide)), a2.mv (by rw [ef 0 (by decide)]; exact ⟨rfl, rfl⟩) (fun i h1 h2 => ef i (by omega)), a3.mv (fun j h1 h2 => ef j (by omega)), a4.mv (ef 50 (by decide)) (fun i h1 h2 => ef i (by omega)), a5.put hg.2.2.2.2.1 hg.2.1 h1 h2, a6.mv (by rw [ef 0 (by decide)]) (fun i h1 h2 => ef i (by omega)) (ef 55 (by decide)), b7, a8.mv (ef 52 (by decide)) (ef 53 (by decide)) (ef 54 (by decide))⟩
theorem C.up {γ : GS} {bd : Nat} {σ : wS} {i k : Nat} {x : Int32} (hg : gok γ bd) (h : C γ σ) (hi : i ∈ cW) : C γ (upI σ i k x) := h.fr hg (Fr.rf.upI hi)
theorem mo_6 (v : Int32) : mo v + 6 < 32 := by rcases mo_lt v with q | q <;> omega
/-- work is laid as it stands now -/
theorem s_begin0 {γ : GS} {bd : Nat} {σ : wS} {Q : wS → Prop} (hg : gok γ bd) (hC : C γ σ) (hq : ∀ τ : wS, Fr cW σ τ → C γ τ → cH γ.2.1 γ.2.2.1 32 τ → Q τ) : w_X3_copy 32 29 σ Q := by
  refine s_copy (by omega) (fun τ F g u1 u2 u3 => ?_)
  have F' : Fr cW σ τ := F.wk (by decide)
  exact hq τ F' (hC.fr hg F') (hC.2.2.1.cp hg.n8 u1 u2 u3)
theorem s_tryAct {γ : GS} {bd : Nat} {σ : wS} {sort : Nat} {x y z : Int32} {Q : Int32 → wS → Prop} (hb : bd < 2 ^ 30) (hg : gok γ bd) (h0 : 0 < γ.2.1.1) (hC : C γ σ) (hs : sort < 4)
    (hq1 : (att γ.2.1 γ.2.2.1.1 sort x.toInt y.toInt z.toInt).1 ≠ -1 → ∀ τ : wS, C γ τ → Fcm σ τ → τ.1 38 4 = nI (att γ.2.1 γ.2.2.1.1 sort x.toInt y.toInt z.toInt).2.2.length → τ.2 0 = σ.2 0 → Q (iI (att γ.2.1 γ.2.2.1.1 sort x.toInt y.toInt z.toInt).1) τ)
    (hq2 : (att γ.2.1 γ.2.2.1.1 sort x.toInt y.toInt z.toInt).1 = -1 → ∀ τ : wS, C (cmt γ (wdn γ.2.1 γ.2.2.1 sort x y z)) τ → Fcm σ τ → τ.1 38 3 = nI (msk (att γ.2.1 γ.2.2.1.1 sort x.toInt y.toInt z.toInt).2.2) → τ.2 0 = σ.2 0 → Q (-1) τ) : w_X11_tryAct (nI sort) x y z σ Q := by
  obtain ⟨hμ, hw⟩ := hg.hk h0
  have h8 := hμ.1
  have hN := hg.2.2.2.2.2.1
  obtain ⟨o1, o2, o3, o4⟩ := att_ok hμ hw.1 sort x.toInt y.toInt z.toInt
  unfold w_X11_tryAct
  refine s_begin0 hg hC (fun s1 F1 C1 H1 => ?_)
  refine s_attempt hμ h0 (mo_6 _) hs hw.1 C1.2.1.2 H1.1 (fun s3 hA => ?_)
  obtain ⟨A1, A2, A3, A4, A5, A6, A7⟩ := hA
  have F3 : Fr cW σ s3 := F1.tr (A1.wk (by decide))
  have C3 : C γ s3 := hC.fr hg F3
  have em : (iI (att γ.2.1 γ.2.2.1.1 sort x.toInt y.toInt z.toInt).1 = -1) ↔ (att γ.2.1 γ.2.2.1.1 sort x.toInt y.toInt z.toInt).1 = -1 := by
    rw [show (-1 : Int32) = iI (-1) by decide, iI_eq (by omega) (by decide)]
  rw [em]
  refine ⟨fun hne => hq1 hne s3 C3 (F3.c (by decide)) A5 (F3 0 (by decide)).2, fun heq => ?_⟩
  obtain ⟨A8, -⟩ := A7 heq
  have x7 : s3.1 32 7 = nI γ.2.2.1.2.2 := by rw [A2]; exact H1.2
  have n3 := (o4 heq).2.2
  have hrp : orp (arp sort x) ≤ 8 := by
    unfold arp
    split
    · decide
    · show x.toInt.toNat + 1 ≤ 8
      rcases n3 with q | q <;> omega
  have hox : oI (arp sort x) = if sort = 0 then -1 else x := by
    unfold arp
    by_cases q : sort = 0
    · rw [if_pos q, if_pos q]; rfl
    · rw [if_neg q, if_neg q]
      rcases n3 with q2 | q2
      · exact absurd q2 q
      · exact (rp h8 q2.1 q2.2).1.symm
  refine s_writeLine hs hrp (msk_lt o2) (by omega) hox x7 A4 ?_
  have C4 : C γ (upI (upI s3 49 (γ.2.2.1.2.2 % 716) (pk (sort, arp sort x, msk (att γ.2.1 γ.2.2.1.1 sort x.toInt y.toInt z.toInt).2.2))) 32 7 (nI (γ.2.2.1.2.2 + 1))) := (C3.put hg (Nat.le_refl _) (by omega)).up hg (by decide)
  refine s_commit (w := wdn γ.2.1 γ.2.2.1 sort x y z) hg C4 ?_ ?_ (fun τ Cτ Fτ t38 t2 => ?_)
  · refine ⟨?_, by rw [upI_1]; simp; rfl⟩
    obtain ⟨q1, q2, q3, q4, q5, q6⟩ := A8
    exact ⟨⟨fun r hr => q1.1 r hr, fun a ha => q1.2 a ha⟩, by simp [upI_1]; exact q2, by simp [upI_1]; exact q3, by simp [upI_1]; exact q4, by simp [upI_1]; exact q5, by simp [upI_1]; exact q6⟩
  · show JO (addL _ _) (γ.2.2.1.2.2 + 1) _
    have : (upI (upI s3 49 (γ.2.2.1.2.2 % 716) (pk (sort, arp sort x, msk (att γ.2.1 γ.2.2.1.1 sort x.toInt y.toInt z.toInt).2.2))) 32 7 (nI (γ.2.2.1.2.2 + 1))).1 49 = upd (s3.1 49) (γ.2.2.1.2.2 % 716) (pk (sort, arp sort x, msk (att γ.2.1 γ.2.2.1.1 sort x.toInt y.toInt z.toInt).2.2)) := by
      rw [← upI_r]; rfl
    rw [this]
    exact C3.2.2.2.2.1.1.add
  · have hq2 := hq2 heq
    rw [heq]
    refine hq2 τ Cτ (((F3.c (by decide)).up (by decide)).up (by decide) |>.tr Fτ) ?_ (by rw [t2]; exact (F3 0 (by decide)).2)
    rw [t38]
    show s3.1 38 3 = _
    exact A4
/-- without a mooring -/
theorem s_tryAct0 {γ : GS} {bd : Nat} {σ : wS} {sort : Nat} {x y z : Int32} {Q : Int32 → wS → Prop} (hg : gok γ bd) (h0 : γ.2.1.1 = 0) (hC : C γ σ) (hq : ∀ τ : wS, C γ τ → Fcm σ τ → τ.1 38 4 = 0 → Q 0 τ) : w_X11_tryAct (nI sort) x y z σ Q := by
  unfold w_X11_tryAct
  refine s_begin0 hg hC (fun s1 F1 C1 H1 s2 e2 s3 e3 => ?_)
  have n6 : s3.1 (mo (s1.1 0 2)) 6 = 0 := by
    have : s3.1 (mo (s1.1 0 2)) = s1.1 (mo (s1.1 0 2)) := by
      have := mo_6 (s1.1 0 2)
      rw [e3, e2]
      show (setI (setI s1 38 _) 38 _).1 _ = _
      rw [(setI_ne (by omega)).1, (setI_ne (by omega)).1]
    rw [this, C1.2.1.2.1, h0]; rfl
  have F3 : Fr cW σ s3 := by rw [e3, e2]; exact (F1.upI (by decide)).upI (by decide)
  have fin : b_X1_attempt_97 (mo (s1.1 0 2)) 32 (fun r4 s3 => (¬ r4 = (-1 : Int32) → (Q r4 s3)) ∧ (r4 = (-1 : Int32) → (w_X11_writeLine (nI sort) x s3 (fun s5 => w_X6_push 29 s5 (fun s7 => w_X3_copy 29 32 s7 (fun s9 => Q r4 s9)))))) 0 s3 := by
    intro s4 e4
    have x5 : s4.1 38 5 = 0 := by rw [e4, upI_1]; simp
    have F4 : Fr cW σ s4 := by rw [e4]; exact F3.upI (by decide)
    refine ⟨fun _ => ?_, fun q => absurd (x5.symm.trans q) (by decide)⟩
    unfold b_X1_attempt_118
    rw [x5]
    refine ⟨fun _ => hq s4 (hC.fr hg F4) (F4.c (by decide)) ?_, fun q => absurd q (by decide)⟩
    rw [e4, e3, e2]; simp [upI_1]
  refine ⟨fun _ => ?_, fun _ => ?_⟩
  · refine ⟨fun _ => fin, fun hx => ⟨fun hlt => ?_, fun _ => fin⟩⟩
    rw [n6] at hlt
    exact absurd hlt hx
  · unfold w_X1_blow
    rw [n6]
    exact ⟨fun q => absurd rfl q, fun _ => fin⟩
/-! the model -/
theorem m_try {γ : GS} {bd : Nat} {σ : wS} {sort : Nat} {x y z : Int32} {Q : Int32 → wS → Prop} (hg : gok γ bd) (h0 : 0 < γ.2.1.1) (hD : D γ σ) (hs : sort < 4)
    (hq : ∀ τ : wS, D γ τ → Fdm σ τ → τ.1 176 35 = (if (att γ.2.1 γ.2.2.1.1 sort x.toInt y.toInt z.toInt).1 = 3 ∨ (att γ.2.1 γ.2.2.1.1 sort x.toInt y.toInt z.toInt).1 = 4 then 1 else 0) → ((att γ.2.1 γ.2.2.1.1 sort x.toInt y.toInt z.toInt).1 = -1 ∨ (att γ.2.1 γ.2.2.1.1 sort x.toInt y.toInt z.toInt).1 = 3 ∨ (att γ.2.1 γ.2.2.1.1 sort x.toInt y.toInt z.toInt).1 = 4 → τ.1 176 32 = nI (att γ.2.1 γ.2.2.1.1 sort x.toInt y.toInt z.toInt).2.2.length ∧ ∀ j, j < (att γ.2.1 γ.2.2.1.1 sort x.toInt y.toInt z.toInt).2.2.length → τ.1 196 j = nI ((att γ.2.1 γ.2.2.1.1 sort x.toInt y.toInt z.toInt).2.2.getD j 0)) → ((att γ.2.1 γ.2.2.1.1 sort x.toInt y.toInt z.toInt).1 = -1 → RowM γ.2.1 (wdn γ.2.1 γ.2.2.1 sort x y z).1 (wdn γ.2.1 γ.2.2.1 sort x y z).2.1 (τ.1 189)) → τ.2 176 36 = σ.2 176 36 → Q (iI (att γ.2.1 γ.2.2.1.1 sort x.toInt y.toInt z.toInt).1) τ) : w_X12_copyRow 188 189 (0 : Int32) (0 : Int32) σ (fun s => w_X12_does 189 (nI sort) x y z s Q) := by
  obtain ⟨hμ, hw⟩ := hg.hk h0
  refine m_copy0 (by decide) rfl rfl (fun s1 F1 g1 c1 => ?_)
  have D1 : D γ s1 := hD.mv (fun i hi => (F1 i (by revert i; decide)).1) (fun k _ => by rw [(F1 176 (by decide)).1])
  refine m_does (lg := γ.2.2.1.2.1) hμ h0 hs hw.1 D1.2.1 (hD.row.mv hμ.1 c1) (fun τ hA => ?_)
  obtain ⟨A1, A2, A3, A4, A5, A6⟩ := hA
  refine hq τ (D1.mv (fun i hi => (A1 i (by revert i; decide)).1) (fun k hk => A2 k (by revert k; decide) (by revert k; decide))) ((F1.d (by decide)).tr (A1.d (by decide))) A4 A5 A6 (by rw [A3 36 (by decide), g1])
theorem m_try0 {γ : GS} {bd : Nat} {σ : wS} {x1 x y z : Int32} {Q : Int32 → wS → Prop} (hg : gok γ bd) (h0 : γ.2.1.1 = 0) (hD : D γ σ)
    (hq : ∀ τ : wS, D γ τ → Fdm σ τ → τ.1 176 35 = 0 → Q 0 τ) : w_X12_copyRow 188 189 (0 : Int32) (0 : Int32) σ (fun s => w_X12_does 189 x1 x y z s Q) := by
  refine m_copy0 (by decide) rfl rfl (fun s1 F1 g1 c1 s2 e2 => ?_)
  have D1 : D γ s1 := hD.mv (fun i hi => (F1 i (by revert i; decide)).1) (fun k _ => by rw [(F1 176 (by decide)).1])
  have D2 : D γ s2 := by rw [e2]; exact D1.up (by decide)
  have n14 : s2.1 176 14 = 0 := by rw [D2.2.1.1, h0]; rfl
  unfold w_X12_stops
  rw [n14]
  refine ⟨fun q => absurd rfl q, fun _ => ⟨fun q => absurd q (by decide), fun _ => hq s2 D2 (by rw [e2]; exact (F1.d (by decide)).up (by decide)) (by rw [e2, upI_1]; simp)⟩⟩
/-! wind, winch, cast, renew -/
def rfs (γ : GS) (c : List Int32) (s z b : Nat) : GS := (γ.1, γ.2.1, γ.2.2.1, γ.2.2.2.1, γ.2.2.2.2.1, γ.2.2.2.2.2.1, rfl4 c s z b, up1 γ.2.2.2.2.2.2.2 z)
def f_act (sort : Nat) (x y z : Int32) (γ : GS) : Int32 × GS := if (att γ.2.1 γ.2.2.1.1 sort x.toInt y.toInt z.toInt).1 = -1 then (nI (msk (att γ.2.1 γ.2.2.1.1 sort x.toInt y.toInt z.toInt).2.2), cmt γ (wdn γ.2.1 γ.2.2.1 sort x y z)) else (-1, rfs γ [] sort (att γ.2.1 γ.2.2.1.1 sort x.toInt y.toInt z.toInt).1.toNat (att γ.2.1 γ.2.2.1.1 sort x.toInt y.toInt z.toInt).2.2.length)
theorem att_0 {μ : MU} {h : HS} (h0 : μ.1 = 0) (sort : Nat) (a b c : Int) : att μ h sort a b c = (0, h, []) := by
  unfold att
  rw [h0]
  split
  · simp
  · rw [if_pos (by omega)]
theorem rfl4_len (c : List Int32) (s z b : Nat) : (rfl4 c s z b).length ≤ c.length + 3 := by
  unfold rfl4
  rw [List.length_append, List.length_cons]
  split <;> simp
theorem gok_rfs {γ : GS} {bd : Nat} {c : List Int32} {s z b : Nat} (hg : gok γ bd) (hl : c.length ≤ 1) : gok (rfs γ c s z b) bd := by
  obtain ⟨a1, a2, a3, a4, a5, a6, a7, a8⟩ := hg
  exact ⟨a1, a2, a3, by show (rfl4 c s z b).length ≤ 4; have := rfl4_len c s z b; omega, a5, a6, a7, a8⟩
theorem gok_act {γ : GS} {bd : Nat} {sort : Nat} {x y z : Int32} (hg : gok γ bd) (hs : sort < 4) : gok (f_act sort x y z γ).2 (bd + 40) := by
  unfold f_act
  rcases Nat.eq_zero_or_pos γ.2.1.1 with h0 | h0
  · rw [att_0 h0, if_neg (show ¬ (0 : Int) = -1 by decide)]
    exact (gok_rfs hg (by decide)).wk (by omega)
  · obtain ⟨hμ, hw⟩ := hg.hk h0
    split
    · rename_i h1
      exact (gok_cmt hg h0 (wdn_ok hμ hw hs h1) (by show _ ≤ γ.2.2.1.2.2 + 1; omega) (by show γ.2.2.1.2.2 + 1 ≤ _; omega)).wk (by omega)
    · exact (gok_rfs hg (by decide)).wk (by omega)
theorem C.rfs {γ : GS} {bd : Nat} {c : List Int32} {s z b : Nat} {σ τ : wS} (hg : gok γ bd) (h : C γ σ) (hF : Fr [52, 53, 54] σ τ) (hR : cR (rfl4 c s z b) (up1 γ.2.2.2.2.2.2.2 z) τ) : C (rfs γ c s z b) τ := by
  obtain ⟨a1, a2, a3, a4, a5, a6, a7, a8⟩ := h
  have ef : ∀ i, i ≠ 52 → i ≠ 53 → i ≠ 54 → τ.1 i = σ.1 i := fun i h1 h2 h3 => (hF i (by simp; omega)).1
  have b7 : cS γ.2.2.2.2.2.1 τ := a7.mv hg.2.2.1.1 (by rw [ef 0 (by decide) (by decide) (by decide)]) (fun i h1 h2 => by have := hg.2.2.1.1; exact ef i (by omega) (by omega) (by omega))
  exact ⟨a1.mv (ef 1 (by decide) (by decide) (by decide)) (ef 2 (by decide) (by decide) (by decide)), a2.mv (by rw [ef 0 (by decide) (by decide) (by decide)]; exact ⟨rfl, rfl⟩) (fun i h1 h2 => ef i (by omega) (by omega) (by omega)), a3.mv (fun j h1 h2 => ef j (by omega) (by omega) (by omega)), a4.mv (ef 50 (by decide) (by decide) (by decide)) (fun i h1 h2 => ef i (by omega) (by omega) (by omega)), a5.mv (ef 49 (by decide) (by decide) (by decide)), a6.mv (by rw [ef 0 (by decide) (by decide) (by decide)]) (fun i h1 h2 => ef i (by omega) (by omega) (by omega)) (ef 55 (by decide) (by decide) (by decide)), b7, hR⟩
theorem D.rfs {γ : GS} {c : List Int32} {s z b : Nat} {σ τ : wS} (h : D γ σ) (hF : Fr [176, 185, 197] σ τ) (hK : ∀ k, k ≠ 34 → τ.1 176 k = σ.1 176 k) (hR : dR (rfl4 c s z b) (up1 γ.2.2.2.2.2.2.2 z) τ) : D (rfs γ c s z b) τ := by
  obtain ⟨a1, a2, a3, a4, a5, a6, a7⟩ := h
  refine ⟨?_, a2.mv (hK 14 (by decide)) (hF 181 (by decide)).1 (hF 179 (by decide)).1 (hF 182 (by decide)).1, ?_, a4.mv (hK 23 (by decide)) (hK 24 (by decide)) (hF 191 (by decide)).1, a5.mv (hK 25 (by decide)) (hF 190 (by decide)).1, ?_, hR⟩
  · unfold dT at a1 ⊢; rw [hK 2 (by decide), (hF 177 (by decide)).1]; exact a1
  · rw [(hF 188 (by decide)).1]; exact a3
  · unfold dS at a6 ⊢; rw [hK 15 (by decide), (hF 184 (by decide)).1, (hF 183 (by decide)).1]; exact a6
theorem s_actH {γ : GS} {bd : Nat} {σ : wS} {sort : Nat} {x y z : Int32} {Q : Int32 → wS → Prop} (hb : bd < 2 ^ 30) (hs : sort < 4) (hC : C γ σ) (hg : gok γ bd) (hq : ∀ τ, C (f_act sort x y z γ).2 τ → Fcm σ τ → Q (f_act sort x y z γ).1 τ) : w_X11_actByHand (nI sort) x y z σ Q := by
  unfold w_X11_actByHand
  have ref : ∀ (Z b : Nat), Z ≤ 4 → f_act sort x y z γ = (-1, rfs γ [] sort Z b) → ∀ s1 : wS, C γ s1 → Fcm σ s1 → s1.1 38 4 = nI b → w_X8_begin s1 (fun s3 => w_X11_refuse (nI sort) (nI Z) s3 (fun s5 => Q (-1 : Int32) s5)) := by
    intro Z b hZ he s1 C1 F1 h38 s3 e3
    have R3 : cR [] γ.2.2.2.2.2.2.2 s3 := by
      refine ⟨by rw [e3, upI_1]; simp; rfl, fun k hk => absurd hk (by simp), fun k hk => ?_⟩
      rw [e3, upI_1, if_neg (by omega)]; exact C1.2.2.2.2.2.2.2.2.2 k hk
    refine s_refuse (b := b) (by decide) hZ R3 (by rw [e3, upI_1, if_neg (by omega)]; exact h38) (fun τ F2 g2 R2 => ?_)
    rw [he] at hq
    have F3 : Fr [52, 53, 54] s1 τ := Fr.tr (by rw [e3]; exact Fr.rf.upI (by decide)) F2
    exact hq τ (C1.rfs hg F3 R2) (F1.tr (F3.c (by decide)))
  have hf : f_act sort x y z γ = if (att γ.2.1 γ.2.2.1.1 sort x.toInt y.toInt z.toInt).1 = -1 then (nI (msk (att γ.2.1 γ.2.2.1.1 sort x.toInt y.toInt z.toInt).2.2), cmt γ (wdn γ.2.1 γ.2.2.1 sort x y z)) else (-1, rfs γ [] sort (att γ.2.1 γ.2.2.1.1 sort x.toInt y.toInt z.toInt).1.toNat (att γ.2.1 γ.2.2.1.1 sort x.toInt y.toInt z.toInt).2.2.length) := rfl
  rcases Nat.eq_zero_or_pos γ.2.1.1 with h0 | h0
  · refine s_tryAct0 hg h0 hC (fun τ C1 F1 h38 => ⟨fun q => absurd q (by decide), fun _ => ?_⟩)
    rw [att_0 h0, if_neg (show ¬ (0 : Int) = -1 by decide)] at hf
    exact ref 0 0 (by decide) hf τ C1 F1 h38
  · obtain ⟨hμ, hw⟩ := hg.hk h0
    obtain ⟨o1, o2, o3, o4⟩ := att_ok hμ hw.1 sort x.toInt y.toInt z.toInt
    refine s_tryAct hb hg h0 hC hs (fun hne τ C1 F1 h38 _ => ?_) (fun heq τ C1 F1 h38 _ => ?_)
    · rw [if_neg hne] at hf
      have ez : iI (att γ.2.1 γ.2.2.1.1 sort x.toInt y.toInt z.toInt).1 = nI (att γ.2.1 γ.2.2.1.1 sort x.toInt y.toInt z.toInt).1.toNat := by rw [iI_n]; congr 1; omega
      refine ⟨fun q => ?_, fun _ => ?_⟩
      · rw [show (-1 : Int32) = iI (-1) by decide, iI_eq (by omega) (by decide)] at q
        exact absurd q hne
      · rw [ez]
        exact ref _ _ (by omega) hf τ C1 F1 h38
    · rw [if_pos heq] at hf
      rw [hf] at hq
      refine ⟨fun _ => ?_, fun q => absurd rfl q⟩
      rw [h38]
      exact hq τ C1 F1
theorem m_actH {γ : GS} {bd : Nat} {σ : wS} {sort : Nat} {x y z : Int32} {Q : Int32 → wS → Prop} (hs : sort < 4) (hD : D γ σ) (hg : gok γ bd) (hq : ∀ τ, D (f_act sort x y z γ).2 τ → Fdm σ τ → Q (f_act sort x y z γ).1 τ) : w_X12_act (nI sort) x y z σ Q := by
  intro s1 e1
  have D1 : D γ s1 := by rw [e1]; exact hD.up (by decide)
  have F1 : Fdm σ s1 := by rw [e1]; exact Fdm.rf.up (by decide)
  have ref : ∀ (Z b : Nat), Z ≤ 4 → f_act sort x y z γ = (-1, rfs γ [] sort Z b) → ∀ s2 : wS, D γ s2 → Fdm σ s2 → s2.1 176 35 = (if Z = 3 ∨ Z = 4 then 1 else 0) → (Z = 3 ∨ Z = 4 → s2.1 176 32 = nI b) → (∀ s12 : wS, s12 = upI s2 176 34 (0 : Int32) → (w_X12_blames (nI Z) (nI sort) s12 (fun s13 => Q (-1 : Int32) s13))) := by
    intro Z b hZ he s2 D2 F2 h35 h32 s3 e3
    have R3 : dR [] γ.2.2.2.2.2.2.2 s3 := by
      refine ⟨by rw [e3, upI_1]; simp; rfl, fun k hk => absurd hk (by simp), fun k hk => ?_⟩
      rw [e3, upI_1, if_neg (by omega)]; exact D2.2.2.2.2.2.2.2.2 k hk
    refine m_blames (b := b) (by decide) hZ R3 (by rw [e3, upI_1, if_neg (by omega)]; exact h35) (fun q => by rw [e3, upI_1, if_neg (by omega)]; exact h32 q) (fun τ F3 k3 g3 R4 => ?_)
    rw [he] at hq
    have F4 : Fr [176, 185, 197] s2 τ := Fr.tr (by rw [e3]; exact Fr.rf.upI (by decide)) F3
    exact hq τ (D2.rfs F4 (fun k hk => by rw [k3 k hk, e3, upI_1, if_neg (by omega)]) R4) (F2.tr (F4.d (by decide)))
  have hf : f_act sort x y z γ = if (att γ.2.1 γ.2.2.1.1 sort x.toInt y.toInt z.toInt).1 = -1 then (nI (msk (att γ.2.1 γ.2.2.1.1 sort x.toInt y.toInt z.toInt).2.2), cmt γ (wdn γ.2.1 γ.2.2.1 sort x y z)) else (-1, rfs γ [] sort (att γ.2.1 γ.2.2.1.1 sort x.toInt y.toInt z.toInt).1.toNat (att γ.2.1 γ.2.2.1.1 sort x.toInt y.toInt z.toInt).2.2.length) := rfl
  rcases Nat.eq_zero_or_pos γ.2.1.1 with h0 | h0
  · refine m_try0 hg h0 D1 (fun τ D2 F2 h35 => ⟨fun q => absurd q (by decide), fun _ => ?_⟩)
    rw [att_0 h0, if_neg (show ¬ (0 : Int) = -1 by decide)] at hf
    exact ref 0 0 (by decide) hf τ D2 (F1.tr F2) h35 (fun q => absurd q (by decide))
  · obtain ⟨hμ, hw⟩ := hg.hk h0
    obtain ⟨o1, o2, o3, o4⟩ := att_ok hμ hw.1 sort x.toInt y.toInt z.toInt
    refine m_try hg h0 D1 hs (fun τ D2 F2 h35 h32 hR _ => ?_)
    have em : (iI (att γ.2.1 γ.2.2.1.1 sort x.toInt y.toInt z.toInt).1 = -1) ↔ (att γ.2.1 γ.2.2.1.1 sort x.toInt y.toInt z.toInt).1 = -1 := by
      rw [show (-1 : Int32) = iI (-1) by decide, iI_eq (by omega) (by decide)]
    rw [em]
    refine ⟨fun heq => ?_, fun hne => ?_⟩
    · rw [if_pos heq] at hf
      rw [hf] at hq
      refine m_commit (w := wdn γ.2.1 γ.2.2.1 sort x y z) hg D2 (hR heq) (fun ρ D3 F3 k3 r3 g3 => ?_)
      have b32 := h32 (Or.inl heq)
      refine m_brokenBits (ord := (att γ.2.1 γ.2.2.1.1 sort x.toInt y.toInt z.toInt).2.2) o3 o2 (by rw [k3 32 (by decide) (by decide)]; exact b32.1) (fun j hj => by rw [r3 196 (by decide) (by decide) (by decide)]; exact b32.2 j hj) ?_
      exact hq ρ D3 ((F1.tr F2).tr F3)
    · rw [if_neg hne] at hf
      have ez : iI (att γ.2.1 γ.2.2.1.1 sort x.toInt y.toInt z.toInt).1 = nI (att γ.2.1 γ.2.2.1.1 sort x.toInt y.toInt z.toInt).1.toNat := by rw [iI_n]; congr 1; omega
      rw [ez]
      refine ref _ _ (by omega) hf τ D2 (F1.tr F2) ?_ (fun q => (h32 (by omega)).1)
      rw [h35]
      by_cases q : (att γ.2.1 γ.2.2.1.1 sort x.toInt y.toInt z.toInt).1 = 3 ∨ (att γ.2.1 γ.2.2.1.1 sort x.toInt y.toInt z.toInt).1 = 4
      · rw [if_pos q, if_pos (by omega)]
      · rw [if_neg q, if_neg (by omega)]
theorem o_act {bd : Nat} {σ : wS} {sort : Nat} {x y z : Int32} (hb : bd < 2 ^ 30) (hs : sort < 4) (hI : In bd σ) : w_X11_actByHand (nI sort) x y z σ (fun r1 s => w_X12_act (nI sort) x y z s (fun r' s' => r1 = r' ∧ In (bd + 40) s')) :=
  prI (f := f_act sort x y z) (w1 := w_X11_actByHand (nI sort) x y z) (w2 := w_X12_act (nI sort) x y z) (fun γ σ Q hC hg hq => s_actH hb hs hC hg hq) (fun γ σ Q hD hg hq => m_actH hs hD hg hq) (fun γ hg => gok_act hg hs) hI
theorem o_wind {bd : Nat} {σ : wS} {x y z : Int32} (hb : bd < 2 ^ 30) (hI : In bd σ) : w_X11_wind x y z σ (fun r1 s => w_X12_wind x y z s (fun r' s' => r1 = r' ∧ In (bd + 40) s')) := o_act (sort := 0) hb (by decide) hI
theorem o_winch {bd : Nat} {σ : wS} {x y : Int32} (hb : bd < 2 ^ 30) (hI : In bd σ) : w_X11_winch x y σ (fun r1 s => w_X12_winch x y s (fun r' s' => r1 = r' ∧ In (bd + 40) s')) := o_act (sort := 1) hb (by decide) hI
theorem o_cast {bd : Nat} {σ : wS} {x : Int32} (hb : bd < 2 ^ 30) (hI : In bd σ) : w_X11_cast x σ (fun r1 s => w_X12_cast x s (fun r' s' => r1 = r' ∧ In (bd + 40) s')) := o_act (sort := 2) hb (by decide) hI
theorem o_renew {bd : Nat} {σ : wS} {x : Int32} (hb : bd < 2 ^ 30) (hI : In bd σ) : w_X11_renew x σ (fun r1 s => w_X12_renew x s (fun r' s' => r1 = r' ∧ In (bd + 40) s')) := o_act (sort := 3) hb (by decide) hI
