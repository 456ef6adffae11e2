/-! the items of a clause -/
def fxF : List Int32 → Int32 → Nat → Option Nat
  | [], _, _ => none
  | b :: l, c, k => if b = c then some k else fxF l c (k + 1)
theorem spF_eq : ∀ (l : List Int32) (c : Int32) (k : Nat), spF l c k = oI (fxF l c k) := by
  intro l
  induction l with
  | nil => intro c k; rfl
  | cons b l ih =>
    intro c k
    rw [spF, fxF]
    split
    · rfl
    · exact ih c (k + 1)
theorem fxF_lt : ∀ {l : List Int32} {c : Int32} {k r : Nat}, fxF l c k = some r → k ≤ r ∧ r < k + l.length := by
  intro l
  induction l with
  | nil => intro c k r h; cases h
  | cons b l ih =>
    intro c k r h
    rw [fxF] at h
    split at h
    · have := Option.some.inj h
      rw [List.length_cons]
      omega
    · have := ih h
      rw [List.length_cons]
      omega
theorem s_idx {p : Nat} {L : List Int32} {c : Int32} {σ : wS} {Q : Int32 → wS → Prop} (hl : ln p = L.length) (h8 : L.length ≤ 8) (hv : ∀ j, j < L.length → stv p j = L.getD j 0) (hq : Q (oI (fxF L c 0)) σ) : w_X7_indexIn p c σ Q := by
  have key : ∀ (f x : Nat), x + f = L.length + 1 → x ≤ L.length → Q (oI (fxF (L.drop x) c x)) σ → l_X7_indexIn_2 p Q f c (nI x) σ := by
    intro f
    induction f with
    | zero => intro x h1 h2; exfalso; omega
    | succ f ih =>
      intro x h1 h2 hq
      rw [l_X7_indexIn_2, hl, nI_leI (by omega) (by omega), nI_clamp (by omega)]
      refine ⟨fun q => ?_, fun q => ⟨vp_in_nI (by omega) (by omega), ?_⟩⟩
      · rw [List.drop_eq_nil_of_le q] at hq
        exact hq
      · have hx : x < L.length := by omega
        have hd : L.drop x = L.getD x 0 :: L.drop (x + 1) := by
          rw [List.drop_eq_getElem_cons hx]
          congr 1
          simp [List.getD_eq_getElem?_getD, hx]
        rw [hd, fxF] at hq
        rw [hv x hx]
        refine ⟨fun n y1 e1 => ?_, fun y => ?_⟩
        · rw [if_neg n] at hq
          rw [e1, nI_1]
          exact ih (x + 1) (by omega) (by omega) hq
        · rw [if_pos y] at hq
          exact hq
  exact ⟨L.length + 1, key (L.length + 1) 0 (by omega) (by omega) hq⟩
def ltr (rl : Bool) : List Int32 := if rl then [102, 117, 118, 119] else [107, 120, 121, 97, 98, 112, 116]
def nL (rl : Bool) : Nat := if rl then 4 else 7
def lo (rl : Bool) (k : Nat) : Int := (if rl then [1, -99, -99, -999] else [1, -4, -4, -4, -4, -50, 1] : List Int).getD k 0
def hi (rl : Bool) (k : Nat) : Int := (if rl then [7, 99, 99, 999] else [9, 4, 4, 4, 4, 50, 999] : List Int).getD k 0
theorem ltr_len (rl : Bool) : (ltr rl).length = nL rl := by cases rl <;> rfl
theorem fx_lt {rl : Bool} {c : Int32} {k : Nat} (h : fxF (ltr rl) c 0 = some k) : k < nL rl := by
  have := fxF_lt h
  rw [ltr_len] at this
  omega
theorem fx_no (rl : Bool) : fxF (ltr rl) (-1) 0 = none ∧ fxF (ltr rl) 59 0 = none := by cases rl <;> decide
theorem nL_7 (rl : Bool) : nL rl ≤ 7 := by cases rl <;> decide
theorem lo_b (rl : Bool) {k : Nat} (hk : k < nL rl) : (lo rl k).natAbs ≤ 999 ∧ (hi rl k).natAbs ≤ 999 := by
  cases rl
  · have h : ∀ k, k < 7 → (lo false k).natAbs ≤ 999 ∧ (hi false k).natAbs ≤ 999 := by decide
    exact h k hk
  · have h : ∀ k, k < 4 → (lo true k).natAbs ≤ 999 ∧ (hi true k).natAbs ≤ 999 := by decide
    exact h k hk
def itm (T : TP) (rl : Bool) : Nat → Nat → Nat → (Nat → Int) → Nat × Option (Nat → Int)
  | 0, a, _, _ => (a, none)
  | f + 1, a, seen, v =>
    if chr T (sk T a) = -1 ∨ chr T (sk T a) = 59 then (sk T a, some v) else
    match fxF (ltr rl) (chr T (sk T a)) 0 with
    | none => (sk T a, none)
    | some k => if seen.testBit k = true then (sk T a, none) else
      match (num T (sk T a + 1) (lo rl k) (hi rl k)).2 with
      | none => ((num T (sk T a + 1) (lo rl k) (hi rl k)).1, none)
      | some x => itm T rl f (num T (sk T a + 1) (lo rl k) (hi rl k)).1 (adb seen k) (u1 v k x)
def rgo (rl : Bool) (v : Nat → Int) : Prop := ∀ k, k < nL rl → lo rl k ≤ v k ∧ v k ≤ hi rl k
theorem itm_ok {T : TP} (hT : tpk T) {rl : Bool} : ∀ (f a seen : Nat) (v : Nat → Int), a ≤ T.1 → rgo rl v → (itm T rl f a seen v).1 ≤ T.1 ∧ ∀ w, (itm T rl f a seen v).2 = some w → rgo rl w ∧ (chr T (itm T rl f a seen v).1 = -1 ∨ chr T (itm T rl f a seen v).1 = 59) := by
  intro f
  induction f with
  | zero => intro a seen v ha hv; exact ⟨ha, fun w h => by cases h⟩
  | succ f ih =>
    intro a seen v ha hv
    have hs := (sk_ok ha).2.1
    rw [itm]
    split
    · rename_i h
      exact ⟨hs, fun w hw => ⟨by rw [← Option.some.inj hw]; exact hv, h⟩⟩
    · rename_i h
      have hlt : sk T a < T.1 := chr_in (fun q => h (Or.inl q))
      cases hk : fxF (ltr rl) (chr T (sk T a)) 0 with
      | none => exact ⟨hs, fun w h => by cases h⟩
      | some k =>
        simp only
        split
        · exact ⟨hs, fun w h => by cases h⟩
        · obtain ⟨n1, n2⟩ := num_ok hT (a := sk T a + 1) (by omega) (lo rl k) (hi rl k)
          generalize num T (sk T a + 1) (lo rl k) (hi rl k) = R at n1 n2
          obtain ⟨ra, ro⟩ := R
          cases ro with
          | none => exact ⟨n1, fun w h => by cases h⟩
          | some x =>
            simp only
            refine ih ra (adb seen k) (u1 v k x) n1 (fun j hj => ?_)
            unfold u1
            by_cases q : j = k
            · rw [if_pos q, q]; exact n2 x rfl
            · rw [if_neg q]; exact hv j hj
/-! the class -/
def RQ (q fst N : Nat) (σ τ : wS) : Prop := (∀ i, i ≠ 3 → i ≠ q → τ.1 i = σ.1 i) ∧ τ.1 3 3 = σ.1 3 3 ∧ ∀ j, (j < fst ∨ fst + N ≤ j) → τ.1 q j = σ.1 q j
theorem RQ.rf {q fst N : Nat} {σ : wS} : RQ q fst N σ σ := ⟨fun _ _ _ => rfl, rfl, fun _ _ => rfl⟩
theorem RQ.rk {q fst N : Nat} {σ τ ρ : wS} (hq : q ≠ 3) (h1 : RQ q fst N σ τ) (h2 : RK τ ρ) : RQ q fst N σ ρ := ⟨fun i a b => (h2.1 i a).trans (h1.1 i a b), h2.2.trans h1.2.1, fun j hj => by rw [h2.1 q hq]; exact h1.2.2 j hj⟩
theorem RQ.put {q fst N k : Nat} {x : Int32} {σ τ : wS} (hq : q ≠ 3) (hk : k < N) (h : RQ q fst N σ τ) : RQ q fst N σ (upI τ q (fst + k) x) := by
  refine ⟨fun i a b => ?_, ?_, fun j hj => ?_⟩
  · show (setI τ q _).1 i = _
    rw [(setI_ne b).1]; exact h.1 i a b
  · rw [upI_1, if_neg (by omega)]; exact h.2.1
  · rw [upI_1, if_neg (by omega)]; exact h.2.2 j hj
theorem RQ.cT {T : TP} {q fst N : Nat} {σ τ : wS} (h : RQ q fst N σ τ) (h1 : q ≠ 1) (h2 : q ≠ 2) (hT : cT T σ) : cT T τ := hT.mv (h.1 1 (by decide) (Ne.symm h1)) (h.1 2 (by decide) (Ne.symm h2))
def vls (q fst N : Nat) (v : Nat → Int) (σ : wS) : Prop := ∀ k, k < N → σ.1 q (fst + k) = iI (v k)
theorem s_itm {T : TP} {rl : Bool} {pl p1 p2 q fst : Nat} {σ : wS} {Q : Int32 → wS → Prop} (hT : tpk T) (hC : cT T σ) (hpl : ln pl = nL rl) (hp1 : ln p1 = nL rl) (hp2 : ln p2 = nL rl) (hv : ∀ j, j < nL rl → stv pl j = (ltr rl).getD j 0) (hlo : ∀ j, j < nL rl → stv p1 j = iI (lo rl j) ∧ stv p2 j = iI (hi rl j)) (hq3 : 3 < q) (hln : fst + nL rl ≤ ln q) (hl2 : ln q ≤ 56) : ∀ (f a seen : Nat) (v : Nat → Int) (ρ : wS), f ≤ nL rl + 1 → seen < 256 → a ≤ T.1 → RQ q fst (nL rl) σ ρ → ρ.1 3 1 = nI a → vls q fst (nL rl) v ρ →
    (∀ τ : wS, (itm T rl f a seen v).2 = none → RQ q fst (nL rl) σ τ → τ.1 3 1 = nI (itm T rl f a seen v).1 → Q 0 τ) →
    (∀ (τ : wS) (w : Nat → Int), (itm T rl f a seen v).2 = some w → RQ q fst (nL rl) σ τ → τ.1 3 1 = nI (itm T rl f a seen v).1 → vls q fst (nL rl) w τ → Q 1 τ) → l_X7_readItems_6 pl p1 p2 q Q (f + 1) (nI fst) (nI seen) (nI (nL rl + 1 - f)) ρ := by
  have h240 := hT.1
  have h7 := nL_7 rl
  intro f
  induction f with
  | zero =>
    intro a seen v ρ h1 hs ha K1 e1 V1 hq0 hq1
    rw [l_X7_readItems_6, hpl, nI_ltI (by omega) (by omega)]
    exact ⟨fun _ => hq0 ρ rfl K1 e1, fun n => absurd (by omega) n⟩
  | succ f ih =>
    intro a seen v ρ h1 hs ha K1 e1 V1 hq0 hq1
    have C1 := K1.cT (by omega) (by omega) hC
    have hsk := (sk_ok ha).2.1
    rw [l_X7_readItems_6, hpl, nI_ltI (by omega) (by omega)]
    refine ⟨fun n => by omega, fun _ => ?_⟩
    refine s_look hT C1 ha e1 (fun s3 K3 e3 => ?_)
    have K3 := K1.rk (by omega) K3
    have V3 : vls q fst (nL rl) v s3 := fun k hk => by rw [show s3.1 q = ρ.1 q from (by assumption : RK ρ s3).1 q (by omega)]; exact V1 k hk
    have C3 := K3.cT (by omega) (by omega) hC
    rw [itm] at hq0 hq1
    refine ⟨fun z => ?_, fun n1 => ⟨fun n2 => ?_, fun z => ?_⟩⟩
    · rw [if_pos (Or.inl z)] at hq1
      exact hq1 s3 v rfl K3 e3 V3
    · have hlt : sk T a < T.1 := chr_in n1
      rw [if_neg (fun q => by rcases q with q | q; exact n1 q; exact n2 q)] at hq0 hq1
      refine s_idx (L := ltr rl) (by rw [hpl, ltr_len]) (by rw [ltr_len]; omega) (fun j hj => hv j (by rw [ltr_len] at hj; exact hj)) ?_
      cases hk : fxF (ltr rl) (chr T (sk T a)) 0 with
      | none =>
        rw [hk] at hq0
        exact ⟨fun _ => hq0 s3 rfl K3 e3, fun n => absurd rfl n⟩
      | some k =>
        rw [hk] at hq0 hq1
        have hkn := fx_lt hk
        have eo : oI (some k) = nI k := rfl
        rw [eo]
        refine ⟨fun n => absurd n (nI_m1 (by omega)), fun _ => ?_⟩
        rw [bt8 hs (by omega)]
        cases hb : seen.testBit k
        · refine ⟨fun _ s7 e7 => ⟨by rw [hp1]; exact vp_in_nI hkn (by omega), by rw [hp2]; exact vp_in_nI hkn (by omega), ?_⟩, fun n => absurd rfl n⟩
          have K7 : RK s3 s7 := by rw [e7]; exact RK.rf.up (by decide)
          have K7' := K3.rk (by omega) K7
          have e7' : s7.1 3 1 = nI (sk T a + 1) := by rw [e7, upI_1]; simp; rw [e3]; exact nI_1 _
          have lb := lo_b rl hkn
          rw [nI_clamp (by omega), (hlo k hkn).1, (hlo k hkn).2]
          simp only [hb, Bool.false_eq_true, if_false] at hq0 hq1
          have hnum := num_ok hT (a := sk T a + 1) (by omega) (lo rl k) (hi rl k)
          refine s_num hT (K7'.cT (by omega) (by omega) hC) (by omega) e7' (by omega) (by omega) (fun s8 hno K8 e8 => ?_) (fun s8 x hsm K8 e8 f8 => ?_)
          · rw [hno] at hq0
            exact ⟨fun n => absurd rfl n, fun _ => hq0 s8 rfl (K7'.rk (by omega) K8) e8⟩
          · rw [hsm] at hq0 hq1
            refine ⟨fun _ y10 e10 => ?_, fun n => absurd n (by decide)⟩
            have ei : nI fst + nI k = nI (fst + k) := nI_add fst k
            rw [ei, nI_clamp (by omega)]
            refine ⟨vp_in_nI (by omega) (by omega), fun s11 e11 y12 e12 => ?_⟩
            obtain ⟨a1, a2, -⟩ := adb_ok hs (show k < 8 by omega)
            have K8' := K7'.rk (by omega) K8
            rw [e10, a1, e12, nI_1, show nL rl + 1 - (f + 1) + 1 = nL rl + 1 - f by omega]
            refine ih _ (adb seen k) (u1 v k x) s11 (by omega) a2 hnum.1 (by rw [e11]; exact K8'.put (by omega) hkn) (by rw [e11, upI_1, if_neg (by omega)]; exact e8) (fun j hj => ?_) hq0 hq1
            unfold u1
            rw [e11, upI_1, f8]
            by_cases qq : j = k
            · rw [if_pos ⟨rfl, by omega⟩, if_pos qq]
            · rw [if_neg (by omega), if_neg qq, K8.1 q (by omega), K7.1 q (by omega)]
              exact V3 j hj
        · simp only [hb, if_true] at hq0
          exact ⟨fun n => absurd n (by decide), fun _ => hq0 s3 trivial K3 e3⟩
    · rw [if_pos (Or.inr z)] at hq1
      exact hq1 s3 v rfl K3 e3 V3
theorem s_items {T : TP} {rl : Bool} {pl p1 p2 q fst a : Nat} {v : Nat → Int} {σ : wS} {Q : Int32 → wS → Prop} (hT : tpk T) (hC : cT T σ) (hpl : ln pl = nL rl) (hp1 : ln p1 = nL rl) (hp2 : ln p2 = nL rl) (hv : ∀ j, j < nL rl → stv pl j = (ltr rl).getD j 0) (hlo : ∀ j, j < nL rl → stv p1 j = iI (lo rl j) ∧ stv p2 j = iI (hi rl j)) (hq3 : 3 < q) (hln : fst + nL rl ≤ ln q) (hl2 : ln q ≤ 56) (ha : a ≤ T.1) (h3 : σ.1 3 1 = nI a) (hV : vls q fst (nL rl) v σ)
    (hq0 : ∀ τ : wS, (itm T rl (nL rl + 1) a 0 v).2 = none → RQ q fst (nL rl) σ τ → τ.1 3 1 = nI (itm T rl (nL rl + 1) a 0 v).1 → Q 0 τ)
    (hq1 : ∀ (τ : wS) (w : Nat → Int), (itm T rl (nL rl + 1) a 0 v).2 = some w → RQ q fst (nL rl) σ τ → τ.1 3 1 = nI (itm T rl (nL rl + 1) a 0 v).1 → vls q fst (nL rl) w τ → Q 1 τ) : w_X7_readItems pl p1 p2 q (nI fst) σ Q := by
  refine ⟨nL rl + 1 + 1, ?_⟩
  have := s_itm (Q := Q) hT hC hpl hp1 hp2 hv hlo hq3 hln hl2 (nL rl + 1) a 0 v σ (Nat.le_refl _) (by decide) ha RQ.rf h3 hV hq0 hq1
  rw [Nat.sub_self] at this
  exact this
/-! the model -/
def MZ (q fst N : Nat) (σ τ : wS) : Prop := (∀ i, i ≠ 176 → i ≠ q → τ.1 i = σ.1 i) ∧ (∀ k, k ≠ 3 → k ≠ 4 → τ.1 176 k = σ.1 176 k) ∧ ∀ j, (j < fst ∨ fst + N ≤ j) → τ.1 q j = σ.1 q j
theorem MZ.rf {q fst N : Nat} {σ : wS} : MZ q fst N σ σ := ⟨fun _ _ _ => rfl, fun _ _ _ => rfl, fun _ _ => rfl⟩
theorem MZ.rk {q fst N : Nat} {σ τ ρ : wS} (hq : q ≠ 176) (h1 : MZ q fst N σ τ) (h2 : MK τ ρ) : MZ q fst N σ ρ := ⟨fun i a b => (h2.1 i a).trans (h1.1 i a b), fun k a b => (h2.2 k a b).trans (h1.2.1 k a b), fun j hj => by rw [h2.1 q hq]; exact h1.2.2 j hj⟩
theorem MZ.put {q fst N k : Nat} {x : Int32} {σ τ : wS} (hq : q ≠ 176) (hk : k < N) (h : MZ q fst N σ τ) : MZ q fst N σ (upI τ q (fst + k) x) := by
  refine ⟨fun i a b => ?_, fun j a b => ?_, fun j hj => ?_⟩
  · show (setI τ q _).1 i = _
    rw [(setI_ne b).1]; exact h.1 i a b
  · rw [upI_1, if_neg (by omega)]; exact h.2.1 j a b
  · rw [upI_1, if_neg (by omega)]; exact h.2.2 j hj
theorem MZ.tp {T : TP} {q fst N : Nat} {σ τ : wS} (h : MZ q fst N σ τ) (h1 : q ≠ 177) (hT : dT T σ) : dT T τ := by
  unfold dT at hT ⊢
  rw [h.2.1 2 (by decide) (by decide), h.1 177 (by decide) (Ne.symm h1)]
  exact hT
theorem m_lo {rl : Bool} {k : Nat} (hk : k < nL rl) {σ : wS} {Q : Int32 → wS → Prop} (hq : Q (iI (lo rl k)) σ) : (rl = true → w_X12_leastRule (nI k) σ Q) ∧ (rl = false → w_X12_leastOf (nI k) σ Q) := by
  refine ⟨fun h => ?_, fun h => ?_⟩
  · subst h
    have hk : k < 4 := hk
    unfold w_X12_leastRule
    have e0 : nI k = 0 ↔ k = 0 := nI_eq (b := 0) (by omega) (by decide)
    have e3 : nI k = 3 ↔ k = 3 := nI_eq (b := 3) (by omega) (by decide)
    rw [e0, e3]
    rcases (show k = 0 ∨ k = 1 ∨ k = 2 ∨ k = 3 by omega) with rfl | rfl | rfl | rfl
    · exact ⟨fun q => absurd rfl q, fun _ => hq⟩
    · exact ⟨fun _ => ⟨fun _ => hq, fun q => absurd q (by decide)⟩, fun q => absurd q (by decide)⟩
    · exact ⟨fun _ => ⟨fun _ => hq, fun q => absurd q (by decide)⟩, fun q => absurd q (by decide)⟩
    · exact ⟨fun _ => ⟨fun q => absurd rfl q, fun _ => hq⟩, fun q => absurd q (by decide)⟩
  · subst h
    have hk : k < 7 := hk
    unfold w_X12_leastOf
    have e0 : nI k = 0 ↔ k = 0 := nI_eq (b := 0) (by omega) (by decide)
    have e5 : nI k = 5 ↔ k = 5 := nI_eq (b := 5) (by omega) (by decide)
    have e6 : nI k = 6 ↔ k = 6 := nI_eq (b := 6) (by omega) (by decide)
    rw [e0, e5, e6]
    rcases (show k = 0 ∨ k = 1 ∨ k = 2 ∨ k = 3 ∨ k = 4 ∨ k = 5 ∨ k = 6 by omega) with rfl | rfl | rfl | rfl | rfl | rfl | rfl <;> simp <;> exact hq
theorem m_hi {rl : Bool} {k : Nat} (hk : k < nL rl) {σ : wS} {Q : Int32 → wS → Prop} (hq : Q (iI (hi rl k)) σ) : (rl = true → w_X12_mostRule (nI k) σ Q) ∧ (rl = false → w_X12_mostOf (nI k) σ Q) := by
  refine ⟨fun h => ?_, fun h => ?_⟩
  · subst h
    have hk : k < 4 := hk
    unfold w_X12_mostRule
    have e0 : nI k = 0 ↔ k = 0 := nI_eq (b := 0) (by omega) (by decide)
    have e3 : nI k = 3 ↔ k = 3 := nI_eq (b := 3) (by omega) (by decide)
    rw [e0, e3]
    rcases (show k = 0 ∨ k = 1 ∨ k = 2 ∨ k = 3 by omega) with rfl | rfl | rfl | rfl
    · exact ⟨fun q => absurd rfl q, fun _ => hq⟩
    · exact ⟨fun _ => ⟨fun _ => hq, fun q => absurd q (by decide)⟩, fun q => absurd q (by decide)⟩
    · exact ⟨fun _ => ⟨fun _ => hq, fun q => absurd q (by decide)⟩, fun q => absurd q (by decide)⟩
    · exact ⟨fun _ => ⟨fun q => absurd rfl q, fun _ => hq⟩, fun q => absurd q (by decide)⟩
  · subst h
    have hk : k < 7 := hk
    unfold w_X12_mostOf
    have e0 : nI k = 0 ↔ k = 0 := nI_eq (b := 0) (by omega) (by decide)
    have e5 : nI k = 5 ↔ k = 5 := nI_eq (b := 5) (by omega) (by decide)
    have e6 : nI k = 6 ↔ k = 6 := nI_eq (b := 6) (by omega) (by decide)
    rw [e0, e5, e6]
    rcases (show k = 0 ∨ k = 1 ∨ k = 2 ∨ k = 3 ∨ k = 4 ∨ k = 5 ∨ k = 6 by omega) with rfl | rfl | rfl | rfl | rfl | rfl | rfl <;> simp <;> exact hq
theorem m_spot {rl : Bool} {c : Int32} {σ : wS} {Q : Int32 → wS → Prop} (hq : Q (oI (fxF (ltr rl) c 0)) σ) : (rl = true → w_X12_spotOf 210 c σ Q) ∧ (rl = false → w_X12_spotOf 211 c σ Q) := by
  refine ⟨fun h => ?_, fun h => ?_⟩
  · subst h
    unfold w_X12_spotOf spot
    rw [spF_eq]; exact hq
  · subst h
    unfold w_X12_spotOf spot
    rw [spF_eq]; exact hq
/-- what a failed reading leaves: the fault is told, or stands where the model looks on -/
def mfl (T : TP) (a : Nat) (τ : wS) : Prop := τ.1 176 4 = nI a ∨ (τ.1 176 4 = -1 ∧ τ.1 176 3 = nI a ∧ ¬ chr T a = -1 ∧ ¬ chr T a = 59 ∧ ¬ chr T a = 32)
theorem m_itm {T : TP} {rl : Bool} {q fst : Nat} {row : Int32} {σ : wS} {Q : wS → Prop} (hT : tpk T) (hC : dT T σ) (hrow : (rl = true → q = 178 ∧ fst = 0) ∧ (rl = false → q = 180 ∧ row = nI fst ∧ fst + 7 ≤ 56)) : ∀ (f a seen : Nat) (v : Nat → Int) (ρ : wS), cnt (fun r => seen.testBit r) (nL rl) + f = nL rl + 1 → seen < 256 → a ≤ T.1 → MZ q fst (nL rl) σ ρ → ρ.1 176 3 = nI (sk T a) → ρ.1 176 4 = -1 → vls q fst (nL rl) v ρ →
    (∀ τ : wS, (itm T rl f a seen v).2 = none → MZ q fst (nL rl) σ τ → mfl T (itm T rl f a seen v).1 τ → Q τ) →
    (∀ (τ : wS) (w : Nat → Int), (itm T rl f a seen v).2 = some w → MZ q fst (nL rl) σ τ → τ.1 176 3 = nI (itm T rl f a seen v).1 → τ.1 176 4 = -1 → vls q fst (nL rl) w τ → Q τ) → l_X12_readItems_39 Q (f + 1) (tI rl) row (nI seen) (oI (fxF (ltr rl) (chr T (sk T a)) 0)) ρ := by
  have h240 := hT.1
  have h7 := nL_7 rl
  have hq176 : q ≠ 176 ∧ q ≠ 177 := by cases rl; have := (hrow.2 rfl).1; omega; have := (hrow.1 rfl).1; omega
  intro f
  induction f with
  | zero =>
    intro a seen v ρ h1
    have := cnt_le (fun r => seen.testBit r) (nL rl)
    exfalso; omega
  | succ f ih =>
    intro a seen v ρ h1 hs ha K1 e1 f1 V1 hq0 hq1
    have C1 := K1.tp hq176.2 hC
    obtain ⟨-, hsk, hsk3⟩ := sk_ok ha
    rw [itm] at hq0 hq1
    rw [l_X12_readItems_39]
    by_cases hend : chr T (sk T a) = -1 ∨ chr T (sk T a) = 59
    · rw [if_pos hend] at hq1
      have : fxF (ltr rl) (chr T (sk T a)) 0 = none := by
        rcases hend with q | q <;> rw [q]
        · exact (fx_no rl).1
        · exact (fx_no rl).2
      rw [this]
      exact ⟨fun _ => hq1 ρ v rfl K1 e1 f1 V1, fun n => absurd rfl n⟩
    · rw [if_neg hend] at hq0 hq1
      have hlt : sk T a < T.1 := chr_in (fun q => hend (Or.inl q))
      cases hk : fxF (ltr rl) (chr T (sk T a)) 0 with
      | none =>
        rw [hk] at hq0
        exact ⟨fun _ => hq0 ρ rfl K1 (Or.inr ⟨f1, e1, fun q => hend (Or.inl q), fun q => hend (Or.inr q), hsk3⟩), fun n => absurd rfl n⟩
      | some k =>
        rw [hk] at hq0 hq1
        have hkn := fx_lt hk
        have eo : oI (some k) = nI k := rfl
        rw [eo, m_has hs (by omega)]
        refine ⟨fun n => absurd n (nI_m1 (by omega)), fun _ => ⟨fun n => absurd f1 n, fun _ => ?_⟩⟩
        cases hb : seen.testBit k
        · refine ⟨fun _ y3 e3 s4 e4 => ?_, fun n => absurd rfl n⟩
          obtain ⟨a1, a2, a3⟩ := adb_ok hs (show k < 8 by omega)
          rw [a1] at e3
          have K4 : MK ρ s4 := by rw [e4]; exact MK.rf.up (by decide)
          have K4' := K1.rk hq176.1 K4
          have e4' : s4.1 176 3 = nI (sk T a + 1) := by rw [e4, upI_1]; simp; rw [e1]; exact nI_1 _
          have f4 : s4.1 176 4 = -1 := by rw [e4, upI_1]; simp; exact f1
          have lb := lo_b rl hkn
          simp only [hb, Bool.false_eq_true, if_false] at hq0 hq1
          have hnum := num_ok hT (a := sk T a + 1) (by omega) (lo rl k) (hi rl k)
          have hcnt : cnt (fun r => (adb seen k).testBit r) (nL rl) = cnt (fun r => seen.testBit r) (nL rl) + 1 := by
            refine (cnt_one (p := fun r => (adb seen k).testBit r) (q := fun r => seen.testBit r) hkn ?_ hb (fun r hr hne => ?_)).symm
            · show (adb seen k).testBit k = true
              rw [a3 k (by omega)]; simp
            · show seen.testBit r = (adb seen k).testBit r
              rw [a3 r (by omega)]; simp [hne]
          have go : ∀ (W : Int32 → wS → Prop), (∀ (x : Int32) (s9 : wS), (∀ s11 : wS, s11 = upI s9 q (fst + k) x → b_X12_readItems_135 (fun x1 x2 x3 x4 σ => l_X12_readItems_39 Q (f + 1) x1 x2 x3 x4 σ) Q (tI rl) row y3 (nI k) s11) → W x s9) → w_X12_number (iI (lo rl k)) (iI (hi rl k)) s4 W := by
            intro W hW
            refine m_num hT (K4'.tp hq176.2 hC) (by omega) e4' f4 (by omega) (by omega) (fun x s9 hno K9 e9 f9 => hW x s9 (fun s11 e11 => ?_)) (fun s9 x hsm K9 e9 f9 => hW _ s9 (fun s11 e11 => ?_))
            · rw [hno] at hq0
              have f11 : ¬ s11.1 176 4 = -1 := by
                rw [e11, upI_1, if_neg (by omega), f9]; exact nI_m1 (by omega)
              refine ⟨fun _ => ?_, fun n => absurd n f11⟩
              simp only [l_X12_readItems_39]
              refine ⟨fun n => absurd n (nI_m1 (by omega)), fun _ => ⟨fun _ => ?_, fun n => absurd n f11⟩⟩
              refine hq0 s11 rfl (by rw [e11]; exact (K4'.rk hq176.1 K9).put hq176.1 hkn) (Or.inl ?_)
              rw [e11, upI_1, if_neg (by omega)]; exact f9
            · rw [hsm] at hq0 hq1
              have f11 : s11.1 176 4 = -1 := by rw [e11, upI_1, if_neg (by omega)]; exact f9
              have g11 : s11.1 176 3 = nI (num T (sk T a + 1) (lo rl k) (hi rl k)).1 := by rw [e11, upI_1, if_neg (by omega)]; exact e9
              have K11 : MZ q fst (nL rl) σ s11 := by rw [e11]; exact (K4'.rk hq176.1 K9).put hq176.1 hkn
              have V11 : vls q fst (nL rl) (u1 v k x) s11 := by
                intro j hj
                unfold u1
                rw [e11, upI_1]
                by_cases qq : j = k
                · rw [if_pos ⟨rfl, by omega⟩, if_pos qq]
                · rw [if_neg (by omega), if_neg qq, K9.1 q hq176.1, K4.1 q hq176.1]
                  exact V1 j hj
              refine ⟨fun n => absurd f11 n, fun _ => ?_⟩
              have nxt : ∀ s12 : wS, MK s11 s12 → s12.1 176 3 = nI (sk T (num T (sk T a + 1) (lo rl k) (hi rl k)).1) → s12.1 176 4 = s11.1 176 4 → l_X12_readItems_39 Q (f + 1) (tI rl) row y3 (oI (fxF (ltr rl) (chr T (sk T (num T (sk T a + 1) (lo rl k) (hi rl k)).1)) 0)) s12 := by
                intro s12 K12 e12 f12
                rw [e3]
                refine ih _ (adb seen k) (u1 v k x) s12 (by omega) a2 hnum.1 (K11.rk hq176.1 K12) e12 (by rw [f12]; exact f11) (fun j hj => ?_) hq0 hq1
                rw [K12.1 q hq176.1]; exact V11 j hj
              cases rl
              · refine ⟨fun _ => ?_, fun n => absurd rfl n⟩
                exact m_look hT (K11.tp hq176.2 hC) hnum.1 g11 (fun s12 K12 e12 f12 => (m_spot (rl := false) (nxt s12 K12 e12 f12)).2 rfl)
              · refine ⟨fun n => absurd n (by decide), fun _ => ?_⟩
                exact m_look hT (K11.tp hq176.2 hC) hnum.1 g11 (fun s12 K12 e12 f12 => (m_spot (rl := true) (nxt s12 K12 e12 f12)).1 rfl)
          cases rl
          · refine ⟨fun _ => ?_, fun n => absurd rfl n⟩
            obtain ⟨r1, r2, r3⟩ := hrow.2 rfl
            refine (m_lo hkn ((m_hi hkn (go _ (fun x s9 h => ?_))).2 rfl)).2 rfl
            rw [r2, nI_add, nI_clamp (by have : k < 7 := hkn; omega)]
            refine ⟨vp_in_nI (by have : k < 7 := hkn; omega) (by decide), ?_⟩
            rw [r1, r2] at h
            exact h
          · refine ⟨fun n => absurd n (by decide), fun _ => ?_⟩
            obtain ⟨r1, r2⟩ := hrow.1 rfl
            refine (m_lo hkn ((m_hi hkn (go _ (fun x s9 h => ?_))).1 rfl)).1 rfl
            rw [nI_clamp (by omega)]
            refine ⟨vp_in_nI hkn (by decide), ?_⟩
            rw [r1, r2, Nat.zero_add] at h
            exact h
        · simp only [hb, if_true] at hq0
          refine ⟨fun n => absurd n (by decide), fun _ => ?_⟩
          refine m_fails e1 f1 (fun s5 K5 e5 f5 => ?_)
          exact hq0 s5 trivial (K1.rk hq176.1 K5) (Or.inl f5)
