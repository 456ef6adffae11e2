/-! THE MODEL'S DOES, on its trial row -/
abbrev LE : Type := Nat × Option Nat × Nat
/-- a row of the model: a hold, and the log -/
def RowM (μ : MU) (h : HS) (lg : List LE) (f : Nat → Int32) : Prop := (∀ r, r < μ.1 → f r = iI (h.1 r)) ∧ (∀ a, a < 3 → f (16 + a) = iI (h.2.1 a)) ∧ (∀ r, r < μ.1 → f (8 + r) = nI (srt h.2.2.1.2.1 h.2.2.1.2.2 h.2.2.1.1 r)) ∧ f 19 = nI h.2.2.2.1 ∧ f 20 = nI h.2.2.2.2 ∧ f 21 = nI lg.length ∧ lg.length ≤ 60 ∧ ∀ j, j < lg.length → f (22 + 3 * j) = nI (lg.getD j (0, none, 0)).1 ∧ f (23 + 3 * j) = oI (lg.getD j (0, none, 0)).2.1 ∧ f (24 + 3 * j) = nI (lg.getD j (0, none, 0)).2.2
def addL (lg : List LE) (e : LE) : List LE := (if lg.length = 60 then lg.tail else lg) ++ [e]
theorem isI {x : Int32} {l m : Int} {σ : wS} {Q : Int32 → wS → Prop} (hl : l.natAbs < 2 ^ 31) (hm : m.natAbs < 2 ^ 31) : w_X12_isIn x.toInt64 (iJ l) (iJ m) σ Q = Q (if l ≤ x.toInt ∧ x.toInt ≤ m then 1 else 0) σ := by
  unfold w_X12_isIn
  rw [cmp_lt, cmp_gt, Int64.lt_iff_toInt_lt, Int64.lt_iff_toInt_lt, Int32.toInt_toInt64, iJ_T (by omega), iJ_T (by omega)]
  by_cases h1 : x.toInt < l
  · simp [h1, show ¬ (l ≤ x.toInt ∧ x.toInt ≤ m) by omega]
  · by_cases h2 : m < x.toInt
    · simp [h1, h2, show ¬ (l ≤ x.toInt ∧ x.toInt ≤ m) by omega]
    · simp [h1, h2, show (l ≤ x.toInt ∧ x.toInt ≤ m) by omega]
theorem lJ : (-99 : Int64) = iJ (-99) ∧ (99 : Int64) = iJ 99 ∧ (-999 : Int64) = iJ (-999) ∧ (999 : Int64) = iJ 999 ∧ (-9999 : Int64) = iJ (-9999) ∧ (9999 : Int64) = iJ 9999 ∧ (-9 : Int64) = iJ (-9) ∧ (9 : Int64) = iJ 9 := by decide
theorem isGM {x y z : Int32} {σ : wS} {Q : Int32 → wS → Prop} : w_X12_isGust x y z σ Q = Q (if gst x.toInt y.toInt z.toInt then 1 else 0) σ := by
  unfold w_X12_isGust
  rw [lJ.1, lJ.2.1, lJ.2.2.1, lJ.2.2.2.1]
  rw [isI (by decide) (by decide)]
  by_cases h1 : -99 ≤ x.toInt ∧ x.toInt ≤ 99
  · simp only [h1, and_self, if_true]
    rw [isI (by decide) (by decide)]
    by_cases h2 : -99 ≤ y.toInt ∧ y.toInt ≤ 99
    · simp only [h2, and_self, if_true]
      rw [isI (by decide) (by decide)]
      by_cases h3 : -999 ≤ z.toInt ∧ z.toInt ≤ 999
      · simp [h1, h2, h3, gst]
      · rw [if_neg h3, if_neg (show ¬ gst x.toInt y.toInt z.toInt from fun q => h3 q.2.2)]
        simp
    · rw [if_neg h2, if_neg (show ¬ gst x.toInt y.toInt z.toInt from fun q => h2 q.2.1)]
      simp
  · rw [if_neg h1, if_neg (show ¬ gst x.toInt y.toInt z.toInt from fun q => h1 q.1)]
    simp
theorem isRM {n : Nat} {x : Int32} {σ : wS} {Q : Int32 → wS → Prop} (hn : n ≤ 8) (h14 : σ.1 176 14 = nI n) : w_X12_isRope x σ Q = Q (if 0 ≤ x.toInt ∧ x.toInt < (n : Int) then 1 else 0) σ := by
  unfold w_X12_isRope
  rw [h14, Int32.lt_iff_toInt_lt, Int32.le_iff_toInt_le, nI8 hn, show (0 : Int32).toInt = 0 from rfl]
  by_cases h1 : x.toInt < 0
  · simp [h1, show ¬ (0 ≤ x.toInt ∧ x.toInt < (n : Int)) by omega]
  · by_cases h2 : (n : Int) ≤ x.toInt
    · simp [h1, h2, show ¬ (0 ≤ x.toInt ∧ x.toInt < (n : Int)) by omega]
    · simp [h1, h2, show (0 ≤ x.toInt ∧ x.toInt < (n : Int)) by omega]
/-- who broke, as bits -/
theorem m_brokenBits {ord : List Nat} {σ : wS} {Q : Int32 → wS → Prop} (hl : ord.length ≤ 8) (ho : ∀ r ∈ ord, r < 8) (h32 : σ.1 176 32 = nI ord.length) (hb : ∀ j, j < ord.length → σ.1 196 j = nI (ord.getD j 0)) (hq : Q (nI (msk ord)) σ) : w_X12_brokenBits σ Q := by
  have key : ∀ (k m : Nat), m ≤ ord.length → m + k = ord.length + 1 → l_X12_brokenBits_4 Q k (nI (msk (ord.take m))) (nI m) σ := by
    intro k
    induction k with
    | zero => intro m h1 h2; omega
    | succ k ih =>
      intro m h1 h2
      simp only [l_X12_brokenBits_4, h32]
      refine ⟨fun hc => ?_, fun hc => ?_⟩
      · have : m = ord.length := by
          have := (nI_leI (by omega) (by omega)).mp hc
          omega
        subst this
        rw [List.take_length]
        exact hq
      · have hm : m < ord.length := by
          rcases Nat.lt_or_ge m ord.length with q | q
          · exact q
          · exact absurd (nI_le q (by omega)) hc
        rw [nI_clamp (by omega), hb m hm]
        refine ⟨vp_in_nI (by omega) (by decide), fun y1 e1 y2 e2 => ?_⟩
        have em : ord.getD m 0 ∈ ord := by simp [List.getD_eq_getElem?_getD, hm]
        rw [(adb_ok (msk_lt (fun r hr => ho r (List.mem_of_mem_take hr))) (ho _ em)).1, ← msk_app] at e1
        have et : ord.take m ++ [ord.getD m 0] = ord.take (m + 1) := by rw [List.take_succ]; simp [hm]
        rw [et] at e1
        rw [e1, e2, nI_1]
        exact ih (m + 1) (by omega) (by omega)
  exact ⟨ord.length + 1, key (ord.length + 1) 0 (by omega) (by omega)⟩
theorem v202 {k : Nat} (hk : k < 202) : vp_in (nI k) 202 ∧ (nI k).toNatClampNeg = k := ⟨vp_in_nI hk (by decide), nI_clamp (by omega)⟩
/-- one line more, where there is room -/
theorem m_notes50 {n : Nat} {x y z : Int32} {σ : wS} {Q : wS → Prop} (hn : n < 60) (h21 : σ.1 189 21 = nI n) (hq : Q (upI (upI (upI (upI σ 189 (22 + 3 * n) x) 189 (23 + 3 * n) y) 189 (24 + 3 * n) z) 189 21 (nI (n + 1)))) : b_X12_notes_50 189 Q x y z σ := by
  have l189 : ln 189 = 202 := rfl
  have v21 : vp_in 21 202 ∧ (21 : Int32).toNatClampNeg = 21 := v202 (k := 21) (by decide)
  unfold b_X12_notes_50
  rw [l189, v21.2, h21]
  have e1 : (22 : Int32) + (3 : Int32) * nI n = nI (22 + 3 * n) := by
    show nI 22 + nI 3 * nI n = _
    rw [pk_mul, nI_add]
  rw [e1]
  refine ⟨v21.1, fun y1 ey => ?_⟩
  subst ey
  have a0 := v202 (k := 22 + 3 * n) (by omega)
  have a1 : nI (22 + 3 * n) + 1 = nI (23 + 3 * n) := by rw [nI_1]; congr 1; omega
  have a2 : nI (22 + 3 * n) + 2 = nI (24 + 3 * n) := by
    show nI (22 + 3 * n) + nI 2 = _
    rw [nI_add]; congr 1; omega
  have b1 := v202 (k := 23 + 3 * n) (by omega)
  have b2 := v202 (k := 24 + 3 * n) (by omega)
  rw [a1, a2, a0.2, b1.2, b2.2]
  refine ⟨a0.1, fun s2 e2 => ⟨b1.1, fun s3 e3 => ⟨b2.1, fun s4 e4 => ⟨v21.1, v21.1, fun s5 e5 => ?_⟩⟩⟩⟩
  have w : s4.1 189 21 = nI n := by rw [e4, e3, e2]; simp [upI_1, show 21 ≠ 22 + 3 * n by omega, show 21 ≠ 23 + 3 * n by omega, show 21 ≠ 24 + 3 * n by omega]; exact h21
  rw [w, nI_1] at e5
  rw [e5, e4, e3, e2]
  exact hq
/-- the log's oldest line goes -/
theorem m_notes12 {x y z : Int32} {σ : wS} {Q : wS → Prop} (h21 : σ.1 189 21 = 60) (hq : ∀ τ : wS, Fr [189] σ τ → τ.2 = σ.2 → (∀ k, k < 21 → τ.1 189 k = σ.1 189 k) → τ.1 189 21 = 59 → (∀ k, 22 ≤ k → k < 199 → τ.1 189 k = σ.1 189 (k + 3)) → b_X12_notes_50 189 Q x y z τ) : ∃ m, l_X12_notes_12 189 Q m x y z 1 σ := by
  have l189 : ln 189 = 202 := rfl
  have v21 : vp_in 21 202 ∧ (21 : Int32).toNatClampNeg = 21 := v202 (k := 21) (by decide)
  have key : ∀ (k m : Nat) (τ : wS), 1 ≤ m → m ≤ 178 → m + k = 179 → Fr [189] σ τ → τ.2 = σ.2 → (∀ k, k < 22 ∨ 21 + m ≤ k → τ.1 189 k = σ.1 189 k) → (∀ k, 22 ≤ k → k < 21 + m → τ.1 189 k = σ.1 189 (k + 3)) → l_X12_notes_12 189 Q k x y z (nI m) τ := by
    intro k
    induction k with
    | zero => intro m τ h0 h1 h2; omega
    | succ k ih =>
      intro m τ h0 h1 h2 hF hg hK hS
      simp only [l_X12_notes_12, l189]
      have ec : ((177 : Int32) < nI m) ↔ 177 < m := nI_ltI (a := 177) (by decide) (by omega)
      rw [ec]
      refine ⟨fun hc => ?_, fun hc => ?_⟩
      · have hm : m = 178 := by omega
        subst hm
        rw [v21.2, hK 21 (by omega), h21]
        refine ⟨v21.1, v21.1, fun s1 e1 => ?_⟩
        refine hq s1 (by rw [e1]; exact hF.upI (by decide)) (by rw [e1]; exact hg) (fun k hk => ?_) ?_ (fun k hk1 hk2 => ?_)
        · rw [e1, upI_1]; simp [show k ≠ 21 by omega]; exact hK k (by omega)
        · rw [e1, upI_1]; simp
        · rw [e1, upI_1]; simp [show k ≠ 21 by omega]; exact hS k hk1 (by omega)
      · have ea : (21 : Int32) + nI m = nI (21 + m) := by show nI 21 + nI m = _; rw [nI_add]
        have eb : (21 : Int32) + nI m + 3 = nI (24 + m) := by
          rw [ea]; show nI (21 + m) + nI 3 = _; rw [nI_add]; congr 1; omega
        have a0 := v202 (k := 21 + m) (by omega)
        have b0 := v202 (k := 24 + m) (by omega)
        rw [eb, ea, a0.2, b0.2]
        refine ⟨b0.1, a0.1, fun s2 e2 y3 ey => ?_⟩
        rw [ey, nI_1]
        rw [hK (24 + m) (by omega)] at e2
        refine ih (m + 1) s2 (by omega) (by omega) (by omega) (by rw [e2]; exact hF.upI (by decide)) (by rw [e2]; exact hg) (fun k hk => ?_) (fun k hk1 hk2 => ?_)
        · rw [e2, upI_1]; simp [show k ≠ 21 + m by omega]; exact hK k (by omega)
        · rw [e2, upI_1]
          by_cases q : k = 21 + m
          · subst q
            rw [if_pos ⟨rfl, rfl⟩]
            rw [show 21 + m + 3 = 24 + m by omega]
          · simp [q]; exact hS k hk1 (by omega)
  exact ⟨178, key 178 1 σ (by decide) (by decide) (by decide) Fr.rf rfl (fun _ _ => rfl) (fun k h1 h2 => absurd h2 (by omega))⟩
/-- a line is noted -/
theorem m_notes {μ : MU} {h : HS} {lg : List LE} {e : LE} {σ : wS} {Q : wS → Prop} (hμ : mu_ok μ) (hR : RowM μ h lg (σ.1 189)) (hq : ∀ τ : wS, Fr [189] σ τ → τ.2 = σ.2 → RowM μ h (addL lg e) (τ.1 189) → Q τ) : w_X12_notes 189 (nI e.1) (oI e.2.1) (nI e.2.2) σ Q := by
  obtain ⟨r1, r2, r3, r4, r5, r6, r7, r8⟩ := hR
  have h8 := hμ.1
  have v21 : vp_in 21 202 ∧ (21 : Int32).toNatClampNeg = 21 := v202 (k := 21) (by decide)
  unfold w_X12_notes
  rw [show ln 189 = 202 from rfl, v21.2, r6]
  have e60 : (nI lg.length = 60) ↔ lg.length = 60 := nI_eq (b := 60) (by omega) (by decide)
  rw [e60]
  -- the end: room for one line
  have fin : ∀ (l2 : List LE) (τ : wS), l2.length < 60 → Fr [189] σ τ → τ.2 = σ.2 → (∀ k, k < 21 → τ.1 189 k = σ.1 189 k) → τ.1 189 21 = nI l2.length → (∀ j, j < l2.length → τ.1 189 (22 + 3 * j) = nI (l2.getD j (0, none, 0)).1 ∧ τ.1 189 (23 + 3 * j) = oI (l2.getD j (0, none, 0)).2.1 ∧ τ.1 189 (24 + 3 * j) = nI (l2.getD j (0, none, 0)).2.2) → addL lg e = l2 ++ [e] → b_X12_notes_50 189 Q (nI e.1) (oI e.2.1) (nI e.2.2) τ := by
    intro l2 τ hl hF hg hK h21 hE hA
    refine m_notes50 hl h21 (hq _ (((((hF.upI (by decide)).upI (by decide)).upI (by decide)).upI (by decide))) hg ?_)
    rw [hA]
    have low : ∀ k, k < 21 → (upI (upI (upI (upI τ 189 (22 + 3 * l2.length) (nI e.1)) 189 (23 + 3 * l2.length) (oI e.2.1)) 189 (24 + 3 * l2.length) (nI e.2.2)) 189 21 (nI (l2.length + 1))).1 189 k = σ.1 189 k := fun k hk => by
      simp [upI_1, show k ≠ 21 by omega, show k ≠ 22 + 3 * l2.length by omega, show k ≠ 23 + 3 * l2.length by omega, show k ≠ 24 + 3 * l2.length by omega]
      exact hK k hk
    refine ⟨fun r hr => ?_, fun a ha => ?_, fun r hr => ?_, ?_, ?_, ?_, ?_, fun j hj => ?_⟩
    · rw [low r (by omega)]; exact r1 r hr
    · rw [low (16 + a) (by omega)]; exact r2 a ha
    · rw [low (8 + r) (by omega)]; exact r3 r hr
    · rw [low 19 (by omega)]; exact r4
    · rw [low 20 (by omega)]; exact r5
    · simp [upI_1]
    · simp; omega
    · rw [List.length_append, List.length_singleton] at hj
      by_cases q : j = l2.length
      · subst q
        simp [upI_1, show 22 + 3 * l2.length ≠ 21 by omega, show 23 + 3 * l2.length ≠ 21 by omega, show 24 + 3 * l2.length ≠ 21 by omega, show 22 + 3 * l2.length ≠ 23 + 3 * l2.length by omega, show 22 + 3 * l2.length ≠ 24 + 3 * l2.length by omega, show 23 + 3 * l2.length ≠ 24 + 3 * l2.length by omega]
      · have hjl : j < l2.length := by omega
        have := hE j hjl
        simp [upI_1, show 22 + 3 * j ≠ 21 by omega, show 23 + 3 * j ≠ 21 by omega, show 24 + 3 * j ≠ 21 by omega, show 22 + 3 * j ≠ 22 + 3 * l2.length by omega, show 22 + 3 * j ≠ 23 + 3 * l2.length by omega, show 22 + 3 * j ≠ 24 + 3 * l2.length by omega, show 23 + 3 * j ≠ 22 + 3 * l2.length by omega, show 23 + 3 * j ≠ 23 + 3 * l2.length by omega, show 23 + 3 * j ≠ 24 + 3 * l2.length by omega, show 24 + 3 * j ≠ 22 + 3 * l2.length by omega, show 24 + 3 * j ≠ 23 + 3 * l2.length by omega, show 24 + 3 * j ≠ 24 + 3 * l2.length by omega, List.getElem?_append_left hjl]
        have h3 : ¬ 3 * j = 3 * l2.length := by omega
        simp only [h3, if_false]
        simpa using this
  refine ⟨v21.1, fun hne => ?_, fun heq => ?_⟩
  · exact fin lg σ (by omega) Fr.rf rfl (fun _ _ => rfl) r6 r8 (by unfold addL; rw [if_neg hne])
  · refine m_notes12 (by rw [r6, heq]; rfl) (fun τ hF hg hK h21 hS => ?_)
    have htl : lg.tail.length = 59 := by rw [List.length_tail, heq]
    refine fin lg.tail τ (by omega) hF hg hK (by rw [htl]; exact h21) (fun j hj => ?_) (by unfold addL; rw [if_pos heq])
    rw [htl] at hj
    have := r8 (j + 1) (by omega)
    rw [hS (22 + 3 * j) (by omega) (by omega), hS (23 + 3 * j) (by omega) (by omega), hS (24 + 3 * j) (by omega) (by omega)]
    have et : lg.tail.getD j (0, none, 0) = lg.getD (j + 1) (0, none, 0) := by
      simp [List.getD_eq_getElem?_getD, List.getElem?_tail]
    rw [et]
    have q1 : 22 + 3 * j + 3 = 22 + 3 * (j + 1) := by omega
    have q2 : 23 + 3 * j + 3 = 23 + 3 * (j + 1) := by omega
    have q3 : 24 + 3 * j + 3 = 24 + 3 * (j + 1) := by omega
    rw [q1, q2, q3]
    exact this
