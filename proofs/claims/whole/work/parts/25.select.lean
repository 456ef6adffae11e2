/-! THE ONE OF SOME THAT IS BEST, the lowest of several -/
def sel (bt : Nat → Nat → Bool) (S : Nat → Bool) : Nat → Option Nat
  | 0 => none
  | n + 1 => match sel bt S n with
    | none => if S n then some n else none
    | some b => if S n && bt n b then some n else some b
def oI (o : Option Nat) : Int32 := match o with
  | none => -1
  | some b => nI b
/-- a weak order on those of S below N -/
def wo (bt : Nat → Nat → Bool) (S : Nat → Bool) (N : Nat) : Prop := (∀ a b, a < N → b < N → S a = true → S b = true → bt a b = true → bt b a = false) ∧ ∀ a b c, a < N → b < N → c < N → S a = true → S b = true → S c = true → bt a b = false → bt b c = false → bt a c = false
def bst (bt : Nat → Nat → Bool) (S : Nat → Bool) (n b : Nat) : Prop := b < n ∧ S b = true ∧ (∀ r, r < n → S r = true → bt r b = false) ∧ ∀ r, r < b → S r = true → bt b r = true
theorem sel_lt {bt : Nat → Nat → Bool} {S : Nat → Bool} : ∀ {n b : Nat}, sel bt S n = some b → b < n ∧ S b = true := by
  intro n
  induction n with
  | zero => intro b h; cases h
  | succ n ih =>
    intro b h
    rw [sel] at h
    cases hs : sel bt S n with
    | none =>
      rw [hs] at h
      simp only at h
      split at h
      · cases h; exact ⟨by omega, by assumption⟩
      · cases h
    | some c =>
      rw [hs] at h
      simp only at h
      split at h
      · cases h
        rename_i hq
        simp at hq
        exact ⟨by omega, hq.1⟩
      · cases h
        have := ih hs
        exact ⟨by omega, this.2⟩
theorem sel_sp {bt : Nat → Nat → Bool} {S : Nat → Bool} {N : Nat} (hw : wo bt S N) : ∀ {n : Nat}, n ≤ N → (sel bt S n = none → ∀ r, r < n → S r = false) ∧ ∀ b, sel bt S n = some b → bst bt S n b := by
  intro n
  induction n with
  | zero => intro _; exact ⟨fun _ r hr => absurd hr (by omega), fun b h => by cases h⟩
  | succ n ih =>
    intro hn
    obtain ⟨i1, i2⟩ := ih (by omega)
    rw [sel]
    cases hs : sel bt S n with
    | none =>
      have i1 := i1 hs
      cases hS : S n
      · refine ⟨fun _ r hr => ?_, fun b h => by simp at h⟩
        rcases Nat.lt_or_ge r n with q | q
        · exact i1 r q
        · have : r = n := by omega
          subst this; exact hS
      · refine ⟨fun h => by simp at h, fun b h => ?_⟩
        simp at h
        subst h
        refine ⟨by omega, hS, fun r hr hSr => ?_, fun r hr hSr => by rw [i1 r hr] at hSr; cases hSr⟩
        rcases Nat.lt_or_ge r n with q | q
        · rw [i1 r q] at hSr; cases hSr
        · have e : r = n := by omega
          subst e
          cases hb : bt r r
          · rfl
          · have := hw.1 r r (by omega) (by omega) hS hS hb; rw [hb] at this; cases this
    | some c =>
      obtain ⟨c1, c2, c3, c4⟩ := i2 c hs
      simp only
      cases hq : (S n && bt n c)
      · refine ⟨fun h => by simp at h, fun b h => ?_⟩
        simp at h
        subst h
        refine ⟨by omega, c2, fun r hr hSr => ?_, c4⟩
        rcases Nat.lt_or_ge r n with q | q
        · exact c3 r q hSr
        · have e : r = n := by omega
          subst e
          rw [hSr] at hq
          simpa using hq
      · simp at hq
        refine ⟨fun h => by simp at h, fun b h => ?_⟩
        simp at h
        subst h
        have key : ∀ r, r < n → S r = true → bt n r = true := by
          intro r hr hSr
          cases hb : bt n r
          · have := hw.2 n r c (by omega) (by omega) (by omega) hq.1 hSr c2 hb (c3 r hr hSr)
            rw [hq.2] at this; cases this
          · rfl
        refine ⟨by omega, hq.1, fun r hr hSr => ?_, key⟩
        rcases Nat.lt_or_ge r n with q | q
        · exact hw.1 n r (by omega) (by omega) hq.1 hSr (key r q hSr)
        · have e : r = n := by omega
          subst e
          cases hb : bt r r
          · rfl
          · have := hw.1 r r (by omega) (by omega) hSr hSr hb; rw [hb] at this; cases this
theorem bst_u {bt : Nat → Nat → Bool} {S : Nat → Bool} {n a b : Nat} (ha : bst bt S n a) (hb : bst bt S n b) : a = b := by
  rcases Nat.lt_trichotomy a b with h | h | h
  · have h1 := hb.2.2.2 a h ha.2.1
    have h2 := ha.2.2.1 b hb.1 hb.2.1
    rw [h1] at h2; cases h2
  · exact h
  · have h1 := ha.2.2.2 b h hb.2.1
    have h2 := hb.2.2.1 a ha.1 ha.2.1
    rw [h1] at h2; cases h2
theorem sel_of {bt : Nat → Nat → Bool} {S : Nat → Bool} {n b : Nat} (hw : wo bt S n) (hb : bst bt S n b) : sel bt S n = some b := by
  obtain ⟨h1, h2⟩ := sel_sp hw (Nat.le_refl n)
  cases hs : sel bt S n with
  | none => have := h1 hs b hb.1; rw [hb.2.1] at this; cases this
  | some c => rw [bst_u (h2 c hs) hb]
theorem sel_no {bt : Nat → Nat → Bool} {S : Nat → Bool} {n : Nat} (h : ∀ r, r < n → S r = false) : sel bt S n = none := by
  cases hs : sel bt S n with
  | none => rfl
  | some c => have := sel_lt hs; rw [h c this.1] at this; cases this.2
/-- those that are of S and T, where each of T is better than each that is not -/
theorem sel_top {bt : Nat → Nat → Bool} {S T : Nat → Bool} {n : Nat} (hw : wo bt S n) (hT : ∀ r b, r < n → b < n → S r = true → S b = true → T r = true → T b = false → bt r b = true) : sel bt (fun r => S r && T r) n = (match sel bt S n with | none => none | some b => if T b then some b else none) := by
  obtain ⟨h1, h2⟩ := sel_sp hw (Nat.le_refl n)
  have hw2 : wo bt (fun r => S r && T r) n := ⟨fun a b ha hb hSa hSb => hw.1 a b ha hb (by simp at hSa; exact hSa.1) (by simp at hSb; exact hSb.1), fun a b c ha hb hc hSa hSb hSc => hw.2 a b c ha hb hc (by simp at hSa; exact hSa.1) (by simp at hSb; exact hSb.1) (by simp at hSc; exact hSc.1)⟩
  cases hs : sel bt S n with
  | none =>
    simp only
    exact sel_no (fun r hr => by rw [h1 hs r hr]; rfl)
  | some b =>
    obtain ⟨b1, b2, b3, b4⟩ := h2 b hs
    simp only
    cases hTb : T b
    · simp only [Bool.false_eq_true, if_false]
      refine sel_no (fun r hr => ?_)
      cases hSr : S r
      · rfl
      · cases hTr : T r
        · rfl
        · have := hT r b hr b1 hSr b2 hTr hTb
          rw [b3 r hr hSr] at this; cases this
    · simp only [if_true]
      refine sel_of hw2 ⟨b1, by simp [b2, hTb], fun r hr hr2 => b3 r hr (by simp at hr2; exact hr2.1), fun r hr hr2 => b4 r hr (by simp at hr2; exact hr2.1)⟩
theorem sel_ext {bt : Nat → Nat → Bool} {S S' : Nat → Bool} {bt' : Nat → Nat → Bool} : ∀ {n : Nat}, (∀ r, r < n → S r = S' r) → (∀ r b, r < n → b < n → S r = true → S b = true → bt r b = bt' r b) → sel bt S n = sel bt' S' n := by
  intro n
  induction n with
  | zero => intro _ _; rfl
  | succ n ih =>
    intro h1 h2
    have hi := ih (fun r hr => h1 r (by omega)) (fun r b hr hb => h2 r b (by omega) (by omega))
    rw [sel, sel, ← hi]
    cases hs : sel bt S n with
    | none => simp only; rw [h1 n (by omega)]
    | some b =>
      simp only
      have hb := sel_lt hs
      rw [← h1 n (by omega)]
      cases hS : S n
      · rfl
      · rw [h2 n b (by omega) (by omega) hS hb.2]
theorem sel_more {bt : Nat → Nat → Bool} {S : Nat → Bool} {n : Nat} : ∀ {k : Nat}, (∀ r, n ≤ r → r < n + k → S r = false) → sel bt S (n + k) = sel bt S n := by
  intro k
  induction k with
  | zero => intro _; rfl
  | succ k ih =>
    intro h
    have hi := ih (fun r h1 h2 => h r h1 (by omega))
    rw [← Nat.add_assoc, sel, hi, h (n + k) (by omega) (by omega)]
    cases sel bt S n <;> simp
theorem oI_s {b : Nat} (hb : b < 8) : ¬ oI (some b) = -1 ∧ vp_in (oI (some b)) 8 ∧ (oI (some b)).toNatClampNeg = b := by
  have h : ∀ b, b < 8 → ¬ nI b = -1 ∧ vp_in (nI b) 8 ∧ (nI b).toNatClampNeg = b := by unfold vp_in; decide +kernel
  exact h b hb
theorem oI_n : oI none = -1 := rfl
theorem sel_s0 {bt : Nat → Nat → Bool} {S : Nat → Bool} {m : Nat} (h : S m = false) : sel bt S (m + 1) = sel bt S m := by
  rw [sel, h]
  cases sel bt S m <;> rfl
theorem sel_s1 {bt : Nat → Nat → Bool} {S : Nat → Bool} {m : Nat} (h : S m = true) (h1 : sel bt S m = none) : sel bt S (m + 1) = some m := by
  rw [sel, h, h1]; rfl
theorem sel_s2 {bt : Nat → Nat → Bool} {S : Nat → Bool} {m b : Nat} (h1 : sel bt S m = some b) (h2 : bt m b = false) : sel bt S (m + 1) = some b := by
  rw [sel, h1]
  simp [h2]
theorem sel_s3 {bt : Nat → Nat → Bool} {S : Nat → Bool} {m b : Nat} (h : S m = true) (h1 : sel bt S m = some b) (h2 : bt m b = true) : sel bt S (m + 1) = some m := by
  rw [sel, h1]
  simp [h, h2]
/-- Balance.mostPulled -/
theorem s_mostPulled {P : Nat → Int} {bt : Nat → Nat → Bool} {n set : Nat} {x : Int32} {σ : wS} {Q : Int32 → wS → Prop} (hs : set < 256) (hn : n ≤ 8) (hset : ∀ r, n ≤ r → set.testBit r = false) (hP : ∀ r, r < n → σ.2 45 r = iJ (P r)) (hc : ∀ r b, r < n → b < n → (lg_cmp (x.toInt64 * iJ (P r)) (x.toInt64 * iJ (P b)) ≤ 0 ↔ bt r b = false))
    (hq : Q (oI (sel bt (fun r => set.testBit r) n)) σ) : w_X0_mostPulled (nI set) x σ Q := by
  have key : ∀ (k m : Nat), m ≤ 8 → m + k = 9 → l_X0_mostPulled_5 Q k (nI set) x (oI (sel bt (fun r => set.testBit r) m)) (nI m) σ := by
    intro k
    induction k with
    | zero => intro m h1 h2; omega
    | succ k ih =>
      intro m h1 h2
      simp only [l_X0_mostPulled_5]
      refine ⟨fun hc8 => ?_, fun hc8 => ?_⟩
      · have : m = 8 := by
          have := (nI_leI (a := 8) (by decide) (by omega)).mp hc8
          omega
        subst this
        have e : sel bt (fun r => set.testBit r) 8 = sel bt (fun r => set.testBit r) n := by
          have := sel_more (bt := bt) (S := fun r => set.testBit r) (n := n) (k := 8 - n) (fun r hr _ => hset r hr)
          rwa [show n + (8 - n) = 8 by omega] at this
        rw [e]
        exact hq
      · have hm : m < 8 := by
          rcases Nat.lt_or_ge m 8 with q | q
          · exact q
          · exact absurd (nI_le q (by omega)) hc8
        have ih := ih (m + 1) (by omega) (by omega)
        rw [← nI_1] at ih
        rw [bt8 hs hm]
        have ix := ix3 hm
        cases hb : set.testBit m
        · refine ⟨fun _ => ?_, fun q => absurd rfl q⟩
          simp only [b_X0_mostPulled_52, forall_eq]
          rw [sel_s0 hb] at ih
          exact ih
        · have hmn : m < n := by
            rcases Nat.lt_or_ge m n with q | q
            · exact q
            · rw [hset m q] at hb; cases hb
          refine ⟨fun q => absurd q (by decide), fun _ => ?_⟩
          cases hsel : sel bt (fun r => set.testBit r) m with
          | none =>
            rw [sel_s1 hb hsel] at ih
            refine ⟨fun _ => ?_, fun q => absurd rfl q⟩
            simp only [b_X0_mostPulled_49, b_X0_mostPulled_52, forall_eq]
            exact ih
          | some b =>
            have hbl := (sel_lt hsel).1
            have ob := oI_s (show b < 8 by omega)
            refine ⟨fun q => absurd q ob.1, fun _ => ⟨ix.2.2.2.2.2.2.1, ob.2.1, ?_⟩⟩
            rw [ob.2.2, ix.2.2.2.2.2.2.2, hP m hmn, hP b (by omega), hc m b hmn (by omega)]
            cases hbt : bt m b
            · refine ⟨fun _ => ?_, fun q => absurd rfl q⟩
              simp only [b_X0_mostPulled_52, forall_eq]
              rw [sel_s2 hsel hbt] at ih
              exact ih
            · refine ⟨fun q => absurd q (by decide), fun _ => ?_⟩
              simp only [b_X0_mostPulled_49, b_X0_mostPulled_52, forall_eq]
              rw [sel_s3 hb hsel hbt] at ih
              exact ih
  exact ⟨9, key 9 0 (by decide) (by decide)⟩
/-- Balance.mostLoaded -/
theorem s_mostLoaded {P T : Nat → Int} {bt : Nat → Nat → Bool} {n set p : Nat} {x : Int32} {σ : wS} {Q : Int32 → wS → Prop} (hs : set < 256) (hn : n ≤ 8) (hset : ∀ r, n ≤ r → set.testBit r = false) (hP : ∀ r, r < n → σ.2 45 r = iJ (P r)) (hT : ∀ r, r < n → σ.1 (p + 5) r = iI (T r)) (hc : ∀ r b, r < n → b < n → (lg_cmp (x.toInt64 * iJ (P r) * (iI (T b)).toInt64) (x.toInt64 * iJ (P b) * (iI (T r)).toInt64) ≤ 0 ↔ bt r b = false))
    (hq : Q (oI (sel bt (fun r => set.testBit r) n)) σ) : w_X0_mostLoaded p (nI set) x σ Q := by
  have key : ∀ (k m : Nat), m ≤ 8 → m + k = 9 → l_X0_mostLoaded_6 p Q k (nI set) x (oI (sel bt (fun r => set.testBit r) m)) (nI m) σ := by
    intro k
    induction k with
    | zero => intro m h1 h2; omega
    | succ k ih =>
      intro m h1 h2
      simp only [l_X0_mostLoaded_6]
      refine ⟨fun hc8 => ?_, fun hc8 => ?_⟩
      · have : m = 8 := by
          have := (nI_leI (a := 8) (by decide) (by omega)).mp hc8
          omega
        subst this
        have e : sel bt (fun r => set.testBit r) 8 = sel bt (fun r => set.testBit r) n := by
          have := sel_more (bt := bt) (S := fun r => set.testBit r) (n := n) (k := 8 - n) (fun r hr _ => hset r hr)
          rwa [show n + (8 - n) = 8 by omega] at this
        rw [e]
        exact hq
      · have hm : m < 8 := by
          rcases Nat.lt_or_ge m 8 with q | q
          · exact q
          · exact absurd (nI_le q (by omega)) hc8
        have ih := ih (m + 1) (by omega) (by omega)
        rw [← nI_1] at ih
        rw [bt8 hs hm]
        have ix := ix3 hm
        cases hb : set.testBit m
        · refine ⟨fun _ => ?_, fun q => absurd rfl q⟩
          simp only [b_X0_mostLoaded_74, forall_eq]
          rw [sel_s0 hb] at ih
          exact ih
        · have hmn : m < n := by
            rcases Nat.lt_or_ge m n with q | q
            · exact q
            · rw [hset m q] at hb; cases hb
          refine ⟨fun q => absurd q (by decide), fun _ => ?_⟩
          cases hsel : sel bt (fun r => set.testBit r) m with
          | none =>
            rw [sel_s1 hb hsel] at ih
            refine ⟨fun _ => ?_, fun q => absurd rfl q⟩
            simp only [b_X0_mostLoaded_70, b_X0_mostLoaded_74, forall_eq]
            exact ih
          | some b =>
            have hbl := (sel_lt hsel).1
            have ob := oI_s (show b < 8 by omega)
            refine ⟨fun q => absurd q ob.1, fun _ => ⟨ix.2.2.2.2.2.2.1, ob.2.1, ob.2.1, ix.2.2.2.2.2.2.1, ?_⟩⟩
            rw [ob.2.2, ix.2.2.2.2.2.2.2, hP m hmn, hP b (by omega), hT m hmn, hT b (by omega), hc m b hmn (by omega)]
            cases hbt : bt m b
            · refine ⟨fun _ => ?_, fun q => absurd rfl q⟩
              simp only [b_X0_mostLoaded_74, forall_eq]
              rw [sel_s2 hsel hbt] at ih
              exact ih
            · refine ⟨fun q => absurd q (by decide), fun _ => ?_⟩
              simp only [b_X0_mostLoaded_70, b_X0_mostLoaded_74, forall_eq]
              rw [sel_s3 hb hsel hbt] at ih
              exact ih
  exact ⟨9, key 9 0 (by decide) (by decide)⟩
