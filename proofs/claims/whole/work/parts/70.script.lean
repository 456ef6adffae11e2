/-! a script's text -/
def sgP (T : TP) (a : Nat) (c : Int32) : Nat × Bool := if chr T (sk T a) = c then (sk T a + 1, true) else (sk T a, false)
def dgP (T : TP) (a : Nat) : Nat × Option Nat := if isd T (sk T a) = true then (sk T a + 1, some (dv T (sk T a))) else (sk T a, none)
def G3 (k : Nat) : Int := ([99, 99, 999] : List Int).getD k 0
def cmP (T : TP) (x a : Nat) : Nat × Bool := if 0 < x then sgP T a 44 else (a, true)
def gsR (T : TP) : Nat → Nat → Nat → (Nat → Int) → Nat × Option (Nat → Int)
  | 0, _, a, v => (a, some v)
  | f + 1, x, a, v => if (cmP T x a).2 = false then ((cmP T x a).1, none) else
    match (num T (cmP T x a).1 (-(G3 x)) (G3 x)).2 with
    | none => ((num T (cmP T x a).1 (-(G3 x)) (G3 x)).1, none)
    | some y => gsR T f (x + 1) (num T (cmP T x a).1 (-(G3 x)) (G3 x)).1 (u1 v x y)
def wP (T : TP) (a : Nat) : Nat × Option ST := match (gsR T 3 0 a (fun _ => 0)).2 with
  | none => ((gsR T 3 0 a (fun _ => 0)).1, none)
  | some v => ((gsR T 3 0 a (fun _ => 0)).1, some (0, v 0, v 1, v 2))
def cP2 (T : TP) (s a : Nat) : Nat × Option ST := match (dgP T a).2 with
  | none => ((dgP T a).1, none)
  | some d => ((dgP T a).1, some (s, (d : Int), 0, 0))
def hP (T : TP) (a : Nat) : Nat × Option ST := match (dgP T a).2 with
  | none => ((dgP T a).1, none)
  | some d => if (sgP T (dgP T a).1 58).2 = false then ((sgP T (dgP T a).1 58).1, none) else
    match (num T (sgP T (dgP T a).1 58).1 (-9) 9).2 with
    | none => ((num T (sgP T (dgP T a).1 58).1 (-9) 9).1, none)
    | some x => ((num T (sgP T (dgP T a).1 58).1 (-9) 9).1, some (1, (d : Int), x, 0))
def stP (T : TP) (a : Nat) : Nat × Option ST := if chr T (sk T a) = 119 then wP T (sk T a + 1) else if chr T (sk T a) = 104 then hP T (sk T a + 1) else if chr T (sk T a) = 99 then cP2 T 2 (sk T a + 1) else if chr T (sk T a) = 110 then cP2 T 3 (sk T a + 1) else (sk T a, none)
def scP (T : TP) : Nat → Nat → List ST → Nat × Option (List ST)
  | 0, a, _ => (a, none)
  | f + 1, a, L => match (stP T a).2 with
    | none => ((stP T a).1, none)
    | some t => if chr T (sk T (stP T a).1) = -1 then (sk T (stP T a).1, some (L ++ [t])) else if chr T (sk T (stP T a).1) = 59 ∧ L.length < 15 then scP T f (sk T (stP T a).1 + 1) (L ++ [t]) else (sk T (stP T a).1, none)
theorem sgP_ok {T : TP} {a : Nat} {c : Int32} (hc : ¬ c = -1) (ha : a ≤ T.1) : (sgP T a c).1 ≤ T.1 := by
  have := (sk_ok ha).2.1
  unfold sgP
  split
  · rename_i h
    have : sk T a < T.1 := chr_in (by rw [h]; exact hc)
    exact this
  · exact this
theorem dgP_ok {T : TP} (hT : tpk T) {a : Nat} (ha : a ≤ T.1) : (dgP T a).1 ≤ T.1 ∧ ∀ d, (dgP T a).2 = some d → d ≤ 9 := by
  have := (sk_ok ha).2.1
  unfold dgP
  split
  · rename_i h
    obtain ⟨h1, h2, h3⟩ := isd_ok hT h
    exact ⟨h1, fun d hd => by rw [← Option.some.inj hd]; exact h2⟩
  · exact ⟨this, fun d hd => by cases hd⟩
theorem cmP_ok {T : TP} {x a : Nat} (ha : a ≤ T.1) : (cmP T x a).1 ≤ T.1 := by
  unfold cmP
  split
  · exact sgP_ok (by decide) ha
  · exact ha
theorem G3_b {x : Nat} : (G3 x).natAbs ≤ 999 := by
  rcases (show x = 0 ∨ x = 1 ∨ x = 2 ∨ 3 ≤ x by omega) with rfl | rfl | rfl | h
  · decide
  · decide
  · decide
  · unfold G3
    rw [List.getD_eq_getElem?_getD, List.getElem?_eq_none (by simpa using h)]; decide
theorem gsR_ok {T : TP} (hT : tpk T) : ∀ (f x a : Nat) (v : Nat → Int), a ≤ T.1 → (∀ k, (v k).natAbs ≤ 999) → (gsR T f x a v).1 ≤ T.1 ∧ ∀ w, (gsR T f x a v).2 = some w → ∀ k, (w k).natAbs ≤ 999 := by
  intro f
  induction f with
  | zero => intro x a v ha hv; exact ⟨ha, fun w hw => by rw [← Option.some.inj hw]; exact hv⟩
  | succ f ih =>
    intro x a v ha hv
    rw [gsR]
    have hc := cmP_ok (x := x) ha
    split
    · exact ⟨hc, fun w hw => by cases hw⟩
    · obtain ⟨n1, n2⟩ := num_ok hT hc (-(G3 x)) (G3 x)
      generalize num T (cmP T x a).1 (-(G3 x)) (G3 x) = R at n1 n2
      obtain ⟨ra, ro⟩ := R
      cases ro with
      | none => exact ⟨n1, fun w hw => by cases hw⟩
      | some y =>
        simp only at n1 n2 ⊢
        refine ih (x + 1) ra (u1 v x y) n1 (fun k => ?_)
        unfold u1
        split
        · have := n2 y rfl
          have := G3_b (x := x)
          omega
        · exact hv k
theorem stP_ok {T : TP} (hT : tpk T) {a : Nat} (ha : a ≤ T.1) : (stP T a).1 ≤ T.1 ∧ ∀ t, (stP T a).2 = some t → stok t := by
  have hs := (sk_ok ha).2.1
  have c2 : ∀ (s b : Nat), s < 4 → b ≤ T.1 → (cP2 T s b).1 ≤ T.1 ∧ ∀ t, (cP2 T s b).2 = some t → stok t := by
    intro s b hs4 hb
    obtain ⟨d1, d2⟩ := dgP_ok hT hb
    unfold cP2
    generalize dgP T b = R at d1 d2
    obtain ⟨ra, ro⟩ := R
    cases ro with
    | none => exact ⟨d1, fun t ht => by cases ht⟩
    | some d =>
      have := d2 d rfl
      refine ⟨d1, fun t ht => ?_⟩
      rw [← Option.some.inj ht]
      exact ⟨hs4, by show (d : Int).natAbs ≤ 999; omega, by show (0 : Int).natAbs ≤ 999; decide, by show (0 : Int).natAbs ≤ 999; decide⟩
  unfold stP
  split
  · rename_i h
    have hlt : sk T a < T.1 := chr_in (by rw [h]; decide)
    obtain ⟨g1, g2⟩ := gsR_ok hT 3 0 (sk T a + 1) (fun _ => 0) hlt (fun _ => by decide)
    unfold wP
    generalize gsR T 3 0 (sk T a + 1) (fun _ => 0) = R at g1 g2
    obtain ⟨ra, ro⟩ := R
    cases ro with
    | none => exact ⟨g1, fun t ht => by cases ht⟩
    | some v =>
      have := g2 v rfl
      refine ⟨g1, fun t ht => ?_⟩
      rw [← Option.some.inj ht]
      exact ⟨show (0 : Nat) < 4 by decide, this 0, this 1, this 2⟩
  · split
    · rename_i h
      have hlt : sk T a < T.1 := chr_in (by rw [h]; decide)
      obtain ⟨d1, d2⟩ := dgP_ok hT (a := sk T a + 1) hlt
      unfold hP
      generalize dgP T (sk T a + 1) = R at d1 d2
      obtain ⟨ra, ro⟩ := R
      cases ro with
      | none => exact ⟨d1, fun t ht => by cases ht⟩
      | some d =>
        have d3 := d2 d rfl
        simp only at d1 ⊢
        have s1 := sgP_ok (c := 58) (by decide) d1
        split
        · exact ⟨s1, fun t ht => by cases ht⟩
        · obtain ⟨n1, n2⟩ := num_ok hT s1 (-9) 9
          generalize num T (sgP T ra 58).1 (-9) 9 = R at n1 n2
          obtain ⟨rb, rp⟩ := R
          cases rp with
          | none => exact ⟨n1, fun t ht => by cases ht⟩
          | some x =>
            have n3 := n2 x rfl
            refine ⟨n1, fun t ht => ?_⟩
            rw [← Option.some.inj ht]
            exact ⟨show (1 : Nat) < 4 by decide, by show (d : Int).natAbs ≤ 999; omega, by show x.natAbs ≤ 999; omega, by show (0 : Int).natAbs ≤ 999; decide⟩
    · split
      · rename_i h
        exact c2 2 _ (by decide) (chr_in (by rw [h]; decide))
      · split
        · rename_i h
          exact c2 3 _ (by decide) (chr_in (by rw [h]; decide))
        · exact ⟨hs, fun t ht => by cases ht⟩
theorem scP_ok {T : TP} (hT : tpk T) : ∀ (f a : Nat) (L : List ST), a ≤ T.1 → L.length ≤ 15 → (∀ t ∈ L, stok t) → (scP T f a L).1 ≤ T.1 ∧ ∀ L', (scP T f a L).2 = some L' → sok1 L' := by
  intro f
  induction f with
  | zero => intro a L ha hl hL; exact ⟨ha, fun w hw => by cases hw⟩
  | succ f ih =>
    intro a L ha hl hL
    rw [scP]
    obtain ⟨s1, s2⟩ := stP_ok hT ha
    generalize stP T a = R at s1 s2
    obtain ⟨ra, ro⟩ := R
    cases ro with
    | none => exact ⟨s1, fun w hw => by cases hw⟩
    | some t =>
      simp only at s1 ⊢
      have ht := s2 t rfl
      have hk := (sk_ok s1).2.1
      have hL2 : ∀ t' ∈ L ++ [t], stok t' := by
        intro t' h'
        rcases List.mem_append.mp h' with q | q
        · exact hL t' q
        · rw [List.mem_singleton.mp q]; exact ht
      split
      · refine ⟨hk, fun w hw => ?_⟩
        rw [← Option.some.inj hw]
        exact ⟨by simp, by simp; omega, hL2⟩
      · split
        · rename_i h
          have hlt : sk T ra < T.1 := chr_in (by rw [h.1]; decide)
          exact ih _ _ hlt (by simp; omega) hL2
        · exact ⟨hk, fun w hw => by cases hw⟩
/-! the class -/
theorem s_rsign {T : TP} {a : Nat} {c : Int32} {σ : wS} {Q : Int32 → wS → Prop} (hT : tpk T) (hC : cT T σ) (ha : a ≤ T.1) (h3 : σ.1 3 1 = nI a) (hq0 : (sgP T a c).2 = false → ∀ τ : wS, RK σ τ → τ.1 3 1 = nI (sgP T a c).1 → Q 0 τ) (hq1 : (sgP T a c).2 = true → ∀ τ : wS, RK σ τ → τ.1 3 1 = nI (sgP T a c).1 → Q 1 τ) : w_X7_readSign c σ Q := by
  refine s_look hT hC ha h3 (fun s3 K3 e3 => ?_)
  unfold sgP at hq0 hq1
  refine ⟨fun y s5 e5 => ?_, fun n => ?_⟩
  · rw [if_pos y] at hq1
    exact hq1 rfl s5 (by rw [e5]; exact K3.up (by decide)) (by rw [e5, upI_1]; simp; rw [e3]; exact nI_1 _)
  · rw [if_neg n] at hq0
    exact hq0 rfl s3 K3 e3
theorem s_rdig {T : TP} {a : Nat} {σ : wS} {Q : Int32 → wS → Prop} (hT : tpk T) (hC : cT T σ) (ha : a ≤ T.1) (h3 : σ.1 3 1 = nI a) (hq0 : (dgP T a).2 = none → ∀ τ : wS, RK σ τ → τ.1 3 1 = nI (dgP T a).1 → Q 0 τ) (hq1 : ∀ d, (dgP T a).2 = some d → ∀ τ : wS, RK σ τ → τ.1 3 1 = nI (dgP T a).1 → τ.1 3 2 = nI d → Q 1 τ) : w_X7_readDigit σ Q := by
  refine s_look hT hC ha h3 (fun s3 K3 e3 => ?_)
  unfold dgP at hq0 hq1
  cases hi : isd T (sk T a)
  · rw [hi, if_neg (by decide)] at hq0
    have hq := hq0 rfl s3 K3 e3
    rcases isd_0 hi with q | ⟨q1, q2⟩
    · exact ⟨fun _ => hq, fun n => absurd q n⟩
    · exact ⟨fun z => absurd z q1, fun _ => ⟨fun z => absurd q2 (Int32.not_lt.mpr z), fun _ => hq⟩⟩
  · rw [hi, if_pos rfl] at hq1
    obtain ⟨q1, q2⟩ := isd_1 hi
    obtain ⟨h1, h2, h3⟩ := isd_ok hT hi
    refine ⟨fun z => absurd z q1, fun _ => ⟨fun _ s5 e5 s6 e6 => ?_, fun n => absurd (Int32.not_lt.mp q2) n⟩⟩
    refine hq1 _ rfl s6 (by rw [e6, e5]; exact (K3.up (by decide)).up (by decide)) ?_ ?_
    · rw [e6, upI_1]; simp; rw [e5, upI_1]; simp; rw [e3]; exact nI_1 _
    · rw [e6, upI_1]; simp; rw [e5, upI_1]; simp
      rw [h3, show (48 : Int32) = nI 48 from rfl, iI_n, iI_n, iI_sub, iI_n]
      congr 1; omega
/-- reading into the script at p, its step m -/
def FS (p m : Nat) (σ τ : wS) : Prop := (∀ i, i ≠ 3 → i ≠ p → i ≠ p + 1 → τ.1 i = σ.1 i) ∧ ∀ j, j < 4 * m → τ.1 (p + 1) j = σ.1 (p + 1) j
theorem FS.rf {p m : Nat} {σ : wS} : FS p m σ σ := ⟨fun _ _ _ _ => rfl, fun _ _ => rfl⟩
theorem FS.tr {p m n : Nat} {σ τ ρ : wS} (h1 : FS p m σ τ) (h2 : FS p n τ ρ) (hmn : m ≤ n) : FS p m σ ρ := ⟨fun i a b c => (h2.1 i a b c).trans (h1.1 i a b c), fun j hj => (h2.2 j (by omega)).trans (h1.2 j hj)⟩
theorem FS.rk {p m : Nat} {σ τ ρ : wS} (hp : 3 < p) (h1 : FS p m σ τ) (h2 : RK τ ρ) : FS p m σ ρ := ⟨fun i a b c => (h2.1 i a).trans (h1.1 i a b c), fun j hj => by rw [h2.1 (p + 1) (by omega)]; exact h1.2 j hj⟩
theorem FS.put {p m k : Nat} {x : Int32} {σ τ : wS} (h : FS p m σ τ) : FS p m σ (upI τ (p + 1) (4 * m + k) x) := by
  refine ⟨fun i a b c => ?_, fun j hj => ?_⟩
  · show (setI τ (p + 1) _).1 i = _
    rw [(setI_ne c).1]; exact h.1 i a b c
  · rw [upI_1, if_neg (by omega)]; exact h.2 j hj
theorem FS.up3 {p m k : Nat} {x : Int32} {σ τ : wS} (hp : 3 < p) (h : FS p m σ τ) : FS p m σ (upI τ 3 k x) := by
  refine ⟨fun i a b c => ?_, fun j hj => ?_⟩
  · show (setI τ 3 _).1 i = _
    rw [(setI_ne a).1]; exact h.1 i a b c
  · rw [upI_1, if_neg (by omega)]; exact h.2 j hj
theorem FS.cT {T : TP} {p m : Nat} {σ τ : wS} (hp : 3 < p) (h : FS p m σ τ) (hT : cT T σ) : cT T τ := hT.mv (h.1 1 (by decide) (by omega) (by omega)) (h.1 2 (by decide) (by omega) (by omega))
theorem s_put9 {p m k : Nat} {x : Int32} {σ : wS} {Q : wS → Prop} (hm : m < 16) (hk : k < 4) (hq : Q (upI σ (p + 1) (4 * m + k) x)) : w_X9_put p (nI m) (nI k) x σ Q := by
  unfold w_X9_put
  rw [show (4 : Int32) = nI 4 from rfl, pk_mul, nI_add, nI_clamp (by omega)]
  exact ⟨vp_in_nI (by omega) (by decide), fun s1 e1 => by rw [e1]; exact hq⟩
theorem st_gu {x : Nat} (hx : x < 3) : stv 200 x = iI (G3 x) ∧ -(stv 200 x) = iI (-(G3 x)) := by
  have h : ∀ x, x < 3 → stv 200 x = iI (G3 x) ∧ -(stv 200 x) = iI (-(G3 x)) := by decide
  exact h x hx
theorem s_gust {T : TP} {p m : Nat} {σ : wS} {Q : Int32 → wS → Prop} (hT : tpk T) (hC : cT T σ) (hp : 3 < p) (hm : m < 16) : ∀ (f x a : Nat) (v : Nat → Int) (ρ : wS), x + f = 3 → a ≤ T.1 → FS p m σ ρ → ρ.1 3 1 = nI a → ρ.1 (p + 1) (4 * m) = σ.1 (p + 1) (4 * m) → (∀ k, k < x → ρ.1 (p + 1) (4 * m + k + 1) = iI (v k)) →
    ((gsR T f x a v).2 = none → ∀ τ : wS, FS p m σ τ → τ.1 3 1 = nI (gsR T f x a v).1 → Q 0 τ) →
    (∀ w, (gsR T f x a v).2 = some w → ∀ τ : wS, FS p m σ τ → τ.1 3 1 = nI (gsR T f x a v).1 → τ.1 (p + 1) (4 * m) = σ.1 (p + 1) (4 * m) → (∀ k, k < 3 → τ.1 (p + 1) (4 * m + k + 1) = iI (w k)) → Q 1 τ) → l_X7_readGust_2 p Q (f + 1) (nI m) (nI x) ρ := by
  intro f
  induction f with
  | zero =>
    intro x a v ρ h1 ha F1 e1 b1 V1 hq0 hq1
    have hx : x = 3 := by omega
    subst hx
    rw [l_X7_readGust_2]
    exact ⟨fun _ => hq1 v rfl ρ F1 e1 b1 V1, fun n => absurd (by decide) n⟩
  | succ f ih =>
    intro x a v ρ h1 ha F1 e1 b1 V1 hq0 hq1
    have e3 : ((3 : Int32) ≤ nI x) ↔ 3 ≤ x := nI_leI (a := 3) (by decide) (by omega)
    have e0 : (nI x ≤ 0) ↔ x ≤ 0 := nI_leI (b := 0) (by omega) (by decide)
    rw [l_X7_readGust_2, e3, e0]
    refine ⟨fun q => by omega, fun _ => ?_⟩
    rw [gsR] at hq0 hq1
    have hca := cmP_ok (x := x) ha
    have go : ∀ τ : wS, (cmP T x a).2 = true → FS p m σ τ → τ.1 3 1 = nI (cmP T x a).1 → (τ.1 (p + 1) = ρ.1 (p + 1)) → b_X7_readGust_22 p (fun x2 x3 σ => l_X7_readGust_2 p Q (f + 1) x2 x3 σ) Q (nI m) (nI x) τ := by
      intro τ hc Fτ eτ pτ
      rw [hc, if_neg (by decide)] at hq0 hq1
      have gb := G3_b (x := x)
      refine ⟨vp_in_nI (by omega) (by decide), vp_in_nI (by omega) (by decide), ?_⟩
      rw [nI_clamp (by omega), (st_gu (show x < 3 by omega)).2, (st_gu (show x < 3 by omega)).1]
      have hnum := num_ok hT hca (-(G3 x)) (G3 x)
      refine s_num hT (Fτ.cT hp hC) hca eτ (by omega) (by omega) (fun s1 hno K1 es => ?_) (fun s1 y hsm K1 es f1 => ?_)
      · rw [hno] at hq0
        exact ⟨fun n => absurd rfl n, fun _ => hq0 rfl s1 (Fτ.rk hp K1) es⟩
      · rw [hsm] at hq0 hq1
        refine ⟨fun _ => ?_, fun n => absurd n (by decide)⟩
        rw [nI_1]
        refine s_put9 hm (by omega) ?_
        intro y5 e5
        rw [e5, f1]
        have F2 := Fτ.rk hp K1
        have q1 : s1.1 (p + 1) = ρ.1 (p + 1) := by rw [K1.1 (p + 1) (by omega)]; exact pτ
        refine ih (x + 1) _ (u1 v x y) _ (by omega) hnum.1 F2.put (by rw [upI_1, if_neg (by omega)]; exact es) (by rw [upI_1, if_neg (by omega), q1]; exact b1) (fun k hk => ?_) hq0 hq1
        unfold u1
        rw [upI_1]
        by_cases qq : k = x
        · rw [if_pos ⟨rfl, by omega⟩, if_pos qq]
        · rw [if_neg (by omega), if_neg qq, q1]; exact V1 k (by omega)
    refine ⟨fun z => ?_, fun n => ?_⟩
    · have hcm : cmP T x a = (a, true) := by unfold cmP; rw [if_neg (by omega)]
      exact go ρ (by rw [hcm]) F1 (by rw [hcm]; exact e1) rfl
    · have hcm : cmP T x a = sgP T a 44 := by unfold cmP; rw [if_pos (by omega)]
      rw [hcm] at go hq0 hq1
      refine s_rsign (c := 44) hT (F1.cT hp hC) ha e1 (fun hno τ K1 es => ?_) (fun hyes τ K1 es => ?_)
      · rw [hno, if_pos rfl] at hq0
        exact ⟨fun n => absurd rfl n, fun _ => hq0 rfl τ (F1.rk hp K1) es⟩
      · exact ⟨fun _ => go τ hyes (F1.rk hp K1) es (K1.1 (p + 1) (by omega)), fun n => absurd n (by decide)⟩
def stC (t : ST) (q m : Nat) (σ : wS) : Prop := σ.1 q (4 * m) = nI t.1 ∧ σ.1 q (4 * m + 1) = iI t.2.1 ∧ (t.1 ≤ 1 → σ.1 q (4 * m + 2) = iI t.2.2.1) ∧ (t.1 = 0 → σ.1 q (4 * m + 3) = iI t.2.2.2)
theorem s_readStep {T : TP} {p m a : Nat} {σ : wS} {Q : Int32 → wS → Prop} (hT : tpk T) (hC : cT T σ) (hp : 3 < p) (hm : m < 16) (ha : a ≤ T.1) (h3 : σ.1 3 1 = nI a) (hq0 : (stP T a).2 = none → ∀ τ : wS, FS p m σ τ → τ.1 3 1 = nI (stP T a).1 → Q 0 τ) (hq1 : ∀ t, (stP T a).2 = some t → ∀ τ : wS, FS p m σ τ → τ.1 3 1 = nI (stP T a).1 → stC t (p + 1) m τ → Q 1 τ) : w_X7_readStep p (nI m) σ Q := by
  have hs := (sk_ok ha).2.1
  refine s_look hT hC ha h3 (fun s3 K3 e3 => ?_)
  have F3 : FS p m σ s3 := FS.rf.rk hp K3
  unfold stP at hq0 hq1
  -- a rope's number comes next
  have dg : ∀ (s : Nat) (s1 : wS), (s = 1 ∨ s = 2 ∨ s = 3) → (chr T (sk T a) = 104 ↔ s = 1) → sk T a < T.1 → s1 = upI s3 3 1 ((s3.1 3 1) + 1) → ((if s = 1 then hP T (sk T a + 1) else cP2 T s (sk T a + 1)).2 = none → ∀ τ : wS, FS p m σ τ → τ.1 3 1 = nI (if s = 1 then hP T (sk T a + 1) else cP2 T s (sk T a + 1)).1 → Q 0 τ) → (∀ t, (if s = 1 then hP T (sk T a + 1) else cP2 T s (sk T a + 1)).2 = some t → ∀ τ : wS, FS p m σ τ → τ.1 3 1 = nI (if s = 1 then hP T (sk T a + 1) else cP2 T s (sk T a + 1)).1 → stC t (p + 1) m τ → Q 1 τ) → b_X7_readStep_89 p Q (nI m) (chr T (sk T a)) (nI s) 0 (nI m) p s1 := by
    intro s s1 hs3 h104 hlt es1 g0 g1
    have F1 : FS p m σ s1 := by rw [es1]; exact F3.up3 hp
    have e1 : s1.1 3 1 = nI (sk T a + 1) := by rw [es1, upI_1]; simp; rw [e3]; exact nI_1 _
    unfold b_X7_readStep_89
    refine s_put9 (k := 0) hm (by decide) ?_
    have F2 : FS p m σ (upI s1 (p + 1) (4 * m + 0) (nI s)) := F1.put
    have e2 : (upI s1 (p + 1) (4 * m + 0) (nI s)).1 3 1 = nI (sk T a + 1) := by rw [upI_1, if_neg (by omega)]; exact e1
    have b2 : (upI s1 (p + 1) (4 * m + 0) (nI s)).1 (p + 1) (4 * m) = nI s := by rw [upI_1]; simp
    generalize upI s1 (p + 1) (4 * m + 0) (nI s) = s2 at F2 e2 b2
    have hd := dgP_ok hT (a := sk T a + 1) hlt
    refine s_rdig hT (F2.cT hp hC) hlt e2 (fun hno τ K5 e5 => ⟨fun n => absurd rfl n, fun _ => ?_⟩) (fun d hsm τ K5 e5 f5 => ⟨fun _ => ?_, fun n => absurd n (by decide)⟩)
    · refine g0 ?_ τ (F2.rk hp K5) ?_
      · split
        · unfold hP; rw [hno]
        · unfold cP2; rw [hno]
      · rw [e5]
        split
        · unfold hP; rw [hno]
        · unfold cP2; rw [hno]
    · refine s_put9 (k := 1) hm (by decide) ?_
      have F6 : FS p m σ (upI τ (p + 1) (4 * m + 1) (τ.1 3 2)) := (F2.rk hp K5).put
      have e6 : (upI τ (p + 1) (4 * m + 1) (τ.1 3 2)).1 3 1 = nI (dgP T (sk T a + 1)).1 := by rw [upI_1, if_neg (by omega)]; exact e5
      have b6 : (upI τ (p + 1) (4 * m + 1) (τ.1 3 2)).1 (p + 1) (4 * m) = nI s := by rw [upI_1, if_neg (by omega), K5.1 (p + 1) (by omega)]; exact b2
      have d6 : (upI τ (p + 1) (4 * m + 1) (τ.1 3 2)).1 (p + 1) (4 * m + 1) = iI (d : Int) := by rw [upI_1, if_pos ⟨rfl, rfl⟩, f5, iI_n]
      generalize upI τ (p + 1) (4 * m + 1) (τ.1 3 2) = s6 at F6 e6 b6 d6
      rw [h104]
      refine ⟨fun h1 => ?_, fun h1 => ?_⟩
      · rw [if_pos h1] at g0 g1
        unfold hP at g0 g1
        rw [hsm] at g0 g1
        simp only at g0 g1
        have hsg := sgP_ok (c := 58) (by decide) hd.1
        refine s_rsign (c := 58) hT (F6.cT hp hC) hd.1 e6 (fun hno s7 K7 e7 => ?_) (fun hyes s7 K7 e7 => ?_)
        · rw [hno, if_pos rfl] at g0
          exact ⟨fun _ => g0 rfl s7 (F6.rk hp K7) e7, fun n => absurd rfl n⟩
        · rw [hyes, if_neg (by decide)] at g0 g1
          refine ⟨fun n => absurd n (by decide), fun _ => ?_⟩
          have F7 := F6.rk hp K7
          refine s_num (l := -9) (m := 9) hT (F7.cT hp hC) hsg e7 (by decide) (by decide) (fun s9 hno K9 e9 => ?_) (fun s9 y hy K9 e9 f9 => ?_)
          · rw [hno] at g0
            exact ⟨fun n => absurd rfl n, fun _ => g0 rfl s9 (F7.rk hp K9) e9⟩
          · rw [hy] at g1
            refine ⟨fun _ => s_put9 (k := 2) hm (by decide) ?_, fun n => absurd n (by decide)⟩
            have q9 : s9.1 (p + 1) = s6.1 (p + 1) := by rw [K9.1 (p + 1) (by omega), K7.1 (p + 1) (by omega)]
            refine g1 _ rfl _ (F7.rk hp K9).put (by rw [upI_1, if_neg (by omega)]; exact e9) ⟨?_, ?_, fun _ => ?_, fun h => absurd h (by show ¬ (1 : Nat) = 0; decide)⟩
            · rw [upI_1, if_neg (by omega), q9, b6, h1]
            · rw [upI_1, if_neg (by omega), q9]; exact d6
            · rw [upI_1, if_pos ⟨rfl, rfl⟩]; exact f9
      · rw [if_neg h1] at g1
        unfold cP2 at g1
        rw [hsm] at g1
        refine g1 _ rfl s6 F6 e6 ⟨b6, d6, fun h => ?_, fun h => ?_⟩
        · have : s ≤ 1 := h; omega
        · have : s = 0 := h; omega
  have e35 : ∀ h : chr T (sk T a) = 119 ∨ chr T (sk T a) = 104 ∨ chr T (sk T a) = 99 ∨ chr T (sk T a) = 110, b_X7_readStep_35 p Q (nI m) (chr T (sk T a)) s3 := by
    intro h s1 es1
    have hlt : sk T a < T.1 := chr_in (by rcases h with q | q | q | q <;> rw [q] <;> decide)
    refine ⟨fun n119 => ⟨fun n104 => ⟨fun n99 => ?_, fun y => ?_⟩, fun y => ?_⟩, fun y => ?_⟩
    · have y : chr T (sk T a) = 110 := by
        rcases h with q | q | q | q
        · exact absurd q n119
        · exact absurd q n104
        · exact absurd q n99
        · exact q
      rw [if_neg n119, if_neg n104, if_neg n99, if_pos y] at hq0 hq1
      exact dg 3 s1 (by decide) ⟨fun q => absurd q n104, fun q => absurd q (by decide)⟩ hlt es1 hq0 hq1
    · rw [if_neg n119, if_neg n104, if_pos y] at hq0 hq1
      exact dg 2 s1 (by decide) ⟨fun q => absurd q n104, fun q => absurd q (by decide)⟩ hlt es1 hq0 hq1
    · rw [if_neg n119, if_pos y] at hq0 hq1
      exact dg 1 s1 (by decide) ⟨fun _ => rfl, fun _ => y⟩ hlt es1 hq0 hq1
    · rw [if_pos y] at hq0 hq1
      have F1 : FS p m σ s1 := by rw [es1]; exact F3.up3 hp
      have e1 : s1.1 3 1 = nI (sk T a + 1) := by rw [es1, upI_1]; simp; rw [e3]; exact nI_1 _
      refine s_put9 (k := 0) hm (by decide) ⟨4, ?_⟩
      have F2 : FS p m σ (upI s1 (p + 1) (4 * m + 0) 0) := F1.put
      have e2 : (upI s1 (p + 1) (4 * m + 0) 0).1 3 1 = nI (sk T a + 1) := by rw [upI_1, if_neg (by omega)]; exact e1
      have b2 : (upI s1 (p + 1) (4 * m + 0) 0).1 (p + 1) (4 * m) = 0 := by rw [upI_1]; simp
      generalize upI s1 (p + 1) (4 * m + 0) 0 = s2 at F2 e2 b2
      unfold wP at hq0 hq1
      refine s_gust hT (F2.cT hp hC) hp hm 3 0 (sk T a + 1) (fun _ => 0) s2 rfl hlt FS.rf e2 rfl (fun k hk => absurd hk (Nat.not_lt_zero k)) (fun hno τ Fτ eτ => ⟨Or.inl rfl, ?_⟩) (fun w hw τ Fτ eτ bτ Vτ => ⟨Or.inr rfl, ?_⟩)
      · rw [hno] at hq0
        exact hq0 rfl τ (F2.tr Fτ (Nat.le_refl _)) eτ
      · rw [hw] at hq1
        refine hq1 _ rfl τ (F2.tr Fτ (Nat.le_refl _)) eτ ⟨by rw [bτ, b2]; rfl, Vτ 0 (by decide), fun _ => Vτ 1 (by decide), fun _ => Vτ 2 (by decide)⟩
  refine ⟨fun y => e35 (Or.inl y), fun n1 => ⟨fun y => e35 (Or.inr (Or.inl y)), fun n2 => ⟨fun y => e35 (Or.inr (Or.inr (Or.inl y))), fun n3 => ⟨fun y => e35 (Or.inr (Or.inr (Or.inr y))), fun n4 => ?_⟩⟩⟩⟩
  rw [if_neg n1, if_neg n2, if_neg n3, if_neg n4] at hq0
  exact hq0 rfl s3 F3 e3
def rdSc (T : TP) : Nat × Option (List ST) := scP T 16 0 []
theorem s_readSc {T : TP} {p : Nat} {σ : wS} {Q : Int32 → wS → Prop} (hT : tpk T) (hC : cT T σ) (hp : 3 < p) (hq0 : (rdSc T).2 = none → ∀ τ : wS, FS p 0 σ τ → Q (nI (rdSc T).1) τ) (hq1 : ∀ L, (rdSc T).2 = some L → ∀ τ : wS, FS p 0 σ τ → scC L p τ → Q (-1) τ) : w_X7_readScript p σ Q := by
  have h240 := hT.1
  intro s1 e1 s2 e2
  refine ⟨17, ?_⟩
  have key : ∀ (f a : Nat) (L : List ST) (ρ : wS), L.length + f = 16 → 1 ≤ f → a ≤ T.1 → FS p 0 σ ρ → ρ.1 3 1 = nI a → (∀ j t, L[j]? = some t → stC t (p + 1) j ρ) → scP T f a L = rdSc T → l_X7_readScript_12 p Q (f + 1) (nI L.length) ρ := by
    intro f
    induction f with
    | zero => intro a L ρ h1 h2; exfalso; omega
    | succ f ih =>
      intro a L ρ h1 h2 ha F1 e3 V1 he
      have e16 : ((16 : Int32) ≤ nI L.length) ↔ 16 ≤ L.length := nI_leI (a := 16) (by decide) (by omega)
      rw [l_X7_readScript_12, e16]
      refine ⟨fun q => by omega, fun _ => ?_⟩
      rw [scP] at he
      obtain ⟨o1, o2⟩ := stP_ok hT ha
      refine s_readStep hT (F1.cT hp hC) hp (by omega) ha e3 (fun hno τ Fτ eτ => ?_) (fun t hsm τ Fτ eτ Vτ => ?_)
      · rw [hno] at he
        refine ⟨fun n => absurd rfl n, fun _ => ?_⟩
        have := hq0 (by rw [← he]) τ (F1.tr Fτ (Nat.zero_le _))
        rw [← he] at this
        rw [eτ]; exact this
      · rw [hsm] at he
        simp only at he
        refine ⟨fun _ s3 es3 => ?_, fun n => absurd n (by decide)⟩
        have P3 : ∀ i, i ≠ p → s3.1 i = τ.1 i := fun i hi => by rw [es3]; exact (setI_ne hi).1
        have F3 : FS p 0 σ s3 := ⟨fun i a b c => by rw [P3 i b, Fτ.1 i a b c]; exact F1.1 i a b c, fun j hj => by omega⟩
        have e33 : s3.1 3 1 = nI (stP T a).1 := by rw [P3 3 (by omega)]; exact eτ
        have V3 : ∀ j t', (L ++ [t])[j]? = some t' → stC t' (p + 1) j s3 := by
          intro j t' hj
          unfold stC
          rw [P3 (p + 1) (by omega)]
          rcases Nat.lt_or_ge j L.length with q | q
          · rw [List.getElem?_append_left q] at hj
            have := V1 j t' hj
            unfold stC at this
            rw [Fτ.2 (4 * j) (by omega), Fτ.2 (4 * j + 1) (by omega), Fτ.2 (4 * j + 2) (by omega), Fτ.2 (4 * j + 3) (by omega)]
            exact this
          · have hjl := (List.getElem?_eq_some_iff.mp hj).1
            simp at hjl
            have : j = L.length := by omega
            subst this
            simp at hj
            rw [← hj]
            exact Vτ
        have n1 : s3.1 p 1 = nI (L ++ [t]).length := by rw [es3, upI_1]; simp; exact nI_1 _
        refine s_look hT (F3.cT hp hC) o1 e33 (fun s6 K6 e6 => ?_)
        have F6 := F3.rk hp K6
        have V6 : ∀ j t', (L ++ [t])[j]? = some t' → stC t' (p + 1) j s6 := by
          intro j t' hj
          unfold stC
          rw [K6.1 (p + 1) (by omega)]
          exact V3 j t' hj
        have n6 : s6.1 p 1 = nI (L ++ [t]).length := by rw [K6.1 p (by omega)]; exact n1
        have hk := (sk_ok o1).2.1
        refine ⟨fun n => ?_, fun y => ?_⟩
        · rw [if_neg n] at he
          rw [s_sign hT (F6.cT hp hC) hk e6]
          have bad : ¬ (chr T (sk T (stP T a).1) = 59 ∧ L.length < 15) → b_X7_readScript_68 p Q s6 := by
            intro hn
            rw [if_neg hn] at he
            have := hq0 (by rw [← he]) s6 F6
            rw [← he] at this
            unfold b_X7_readScript_68
            rw [e6]; exact this
          have e15 : nI L.length = 15 ↔ L.length = 15 := nI_eq (b := 15) (by omega) (by decide)
          rw [e15]
          refine ⟨fun n59 => bad (fun q => n59 q.1), fun y59 => ⟨fun n15 s10 e10 y11 e11 => ?_, fun y15 => bad (fun q => by omega)⟩⟩
          rw [if_pos ⟨y59, by omega⟩] at he
          have hlt := chr_in n
          have K10 : RK s6 s10 := by rw [e10]; exact RK.rf.up (by decide)
          have := ih (sk T (stP T a).1 + 1) (L ++ [t]) s10 (by simp; omega) (by omega) hlt (F6.rk hp K10) (by rw [e10, upI_1]; simp; rw [e6]; exact nI_1 _) (fun j t' hj => by unfold stC; rw [K10.1 (p + 1) (by omega)]; exact V6 j t' hj) he
          rw [e11, nI_1]
          simp only [List.length_append, List.length_cons, List.length_nil, Nat.zero_add] at this
          exact this
        · rw [if_pos y] at he
          exact hq1 (L ++ [t]) (by rw [← he]) s6 F6 ⟨n6, V6⟩
  have F2 : FS p 0 σ s2 := ⟨fun i a b c => by rw [e2, e1]; show (setI (setI σ 3 _) p _).1 i = _; rw [(setI_ne b).1, (setI_ne a).1], fun j hj => by omega⟩
  exact key 16 0 [] s2 rfl (by decide) (Nat.zero_le _) F2 (by rw [e2, upI_1, if_neg (by omega), e1, upI_1]; simp; rfl) (fun j t hj => by simp at hj) rfl
