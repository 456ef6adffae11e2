/-! AN ACT IS DONE: what comes of the state -/
theorem s_copy {i p : Nat} {σ : wS} {Q : wS → Prop} (hip : i + 2 < p ∨ p + 2 < i) (hq : ∀ τ : wS, Fr [i, i + 1, i + 2] σ τ → τ.2 = σ.2 → (∀ k, k < 8 → τ.1 (i + 1) k = σ.1 (p + 1) k) → (∀ k, k < 3 → τ.1 (i + 2) k = σ.1 (p + 2) k) → (∀ k, 2 ≤ k → k ≤ 7 → τ.1 i k = σ.1 p k) → Q τ) : w_X3_copy i p σ Q := by
  refine ⟨by decide, fun s1 e1 => ⟨by decide, fun s2 e2 s3 e3 s4 e4 s5 e5 s6 e6 s7 e7 s8 e8 => ?_⟩⟩
  have P1 : ∀ j, j ≠ i + 1 → s1.1 j = σ.1 j := fun j hj => by rw [e1]; exact (setI_ne hj).1
  have P2 : ∀ j, j ≠ i + 2 → s2.1 j = s1.1 j := fun j hj => by rw [e2]; exact (setI_ne hj).1
  have pe : s2.1 p = σ.1 p := by rw [P2 p (by omega), P1 p (by omega)]
  have U : s8 = upI (upI (upI (upI (upI (upI s2 i 2 (σ.1 p 2)) i 3 (σ.1 p 3)) i 4 (σ.1 p 4)) i 5 (σ.1 p 5)) i 6 (σ.1 p 6)) i 7 (σ.1 p 7) := by
    have q3 : ∀ k, s3.1 p k = σ.1 p k := fun k => by rw [e3, upI_1, if_neg (by omega), pe]
    have q4 : ∀ k, s4.1 p k = σ.1 p k := fun k => by rw [e4, upI_1, if_neg (by omega), q3]
    have q5 : ∀ k, s5.1 p k = σ.1 p k := fun k => by rw [e5, upI_1, if_neg (by omega), q4]
    have q6 : ∀ k, s6.1 p k = σ.1 p k := fun k => by rw [e6, upI_1, if_neg (by omega), q5]
    have q7 : ∀ k, s7.1 p k = σ.1 p k := fun k => by rw [e7, upI_1, if_neg (by omega), q6]
    rw [e8, q7, e7, q6, e6, q5, e5, q4, e4, q3, e3, pe]
  have V : ∀ j, j ≠ i → s8.1 j = s2.1 j := fun j hj => by
    rw [U]
    funext k
    simp only [upI_1, hj, false_and, if_false]
  refine hq s8 ?_ ?_ (fun k hk => ?_) (fun k hk => ?_) (fun k h1 h2 => ?_)
  · rw [U, e2, e1]
    exact ((((((((Fr.rf.setI (by simp)).setI (by simp)).upI (by simp)).upI (by simp)).upI (by simp)).upI (by simp)).upI (by simp)).upI (by simp))
  · rw [U, e2, e1]; rfl
  · rw [V (i + 1) (by omega), P2 (i + 1) (by omega), e1, setI_eq.1]
    rw [pk_cpy_in (by rw [c_0]; omega) (by rw [c_0, c_8]; omega), c_0]; simp
  · rw [V (i + 2) (by omega), e2, setI_eq.1, P1 (p + 2) (by omega)]
    rw [pk_cpy_in (by rw [c_0]; omega) (by rw [c_0, c_3]; omega), c_0]; simp
  · rw [U]
    rcases (show k = 2 ∨ k = 3 ∨ k = 4 ∨ k = 5 ∨ k = 6 ∨ k = 7 by omega) with rfl | rfl | rfl | rfl | rfl | rfl <;> simp [upI_1]
theorem cH.cp {μ : MU} {w : GH} {i p : Nat} {σ τ : wS} (h8 : μ.1 ≤ 8) (h : cH μ w p σ) (h1 : ∀ k, k < 8 → τ.1 (i + 1) k = σ.1 (p + 1) k) (h2 : ∀ k, k < 3 → τ.1 (i + 2) k = σ.1 (p + 2) k) (h3 : ∀ k, 2 ≤ k → k ≤ 7 → τ.1 i k = σ.1 p k) : cH μ w i τ := by
  obtain ⟨⟨⟨a1, a2⟩, b1, b2, b3, b4, b5⟩, c1⟩ := h
  exact ⟨⟨⟨fun r hr => by rw [h1 r (by omega)]; exact a1 r hr, fun a ha => by rw [h2 a ha]; exact a2 a ha⟩, by rw [h3 2 (by omega) (by omega)]; exact b1, by rw [h3 3 (by omega) (by omega)]; exact b2, by rw [h3 4 (by omega) (by omega)]; exact b3, by rw [h3 5 (by omega) (by omega)]; exact b4, by rw [h3 6 (by omega) (by omega)]; exact b5⟩, by rw [h3 7 (by omega) (by omega)]; exact c1⟩
def cmt (γ : GS) (w : GH) : GS := (γ.1, γ.2.1, w, (γ.2.2.1 :: γ.2.2.2.1).take 40, γ.2.2.2.2)
theorem md40 {n a : Nat} (h : n < 40) (ha : a ≤ 38) : ((n + 1) % 40 + 39 - (a + 1)) % 40 = (n + 39 - a) % 40 := by omega
/-- what is done is kept -/
theorem s_commit {γ : GS} {bd : Nat} {w : GH} {σ : wS} {Q : wS → Prop} (hg : gok γ bd) (hC : C γ σ) (hw : cH γ.2.1 w 32 σ) (hJ : JO w.2.1 w.2.2 (σ.1 49)) (hq : ∀ τ : wS, C (cmt γ w) τ → Fcm σ τ → τ.1 38 = σ.1 38 → τ.2 = σ.2 → Q τ) : w_X6_push 29 σ (fun s => w_X3_copy 29 32 s Q) := by
  have h8 := hg.n8
  have hl4 := hg.2.2.1.1
  have hP40 := hg.2.1
  obtain ⟨a1, a2, a3, ⟨nx, p1, p2, p3, p4⟩, a5, a6, a7, a8⟩ := hC
  unfold w_X6_push
  rw [p2, nI_clamp (by omega)]
  refine ⟨vp_in_nI p1 (by decide), s_copy (by omega) (fun s2 F1 g1 u1 u2 u3 s4 e4 s5 e5 => ?_)⟩
  have d2 : ∀ j, j < 56 ∨ 176 ≤ j → s2.1 j = σ.1 j := fun j hj => (F1 j (by simp; omega)).1
  have n1 : s2.1 50 1 = nI nx := by rw [d2 50 (by omega)]; exact p2
  have n2 : s4.1 50 2 = nI γ.2.2.2.1.length := by rw [e4, upI_1]; simp; rw [d2 50 (by omega)]; exact p3
  rw [n1, nI_1, show (40 : Int32) = nI 40 from rfl, pk_rem (by omega) (by decide) (by decide)] at e4
  have mn : (if nI 40 < s4.1 50 2 + 1 then nI 40 else s4.1 50 2 + 1) = nI (min (γ.2.2.2.1.length + 1) 40) := by
    rw [n2, nI_1]
    by_cases q : 40 < γ.2.2.2.1.length + 1
    · rw [if_pos (nI_lt q (by omega)), Nat.min_eq_right (by omega)]
    · rw [if_neg (nI_nlt (by omega) (by decide)), Nat.min_eq_left (by omega)]
  rw [show (40 : Int32) = nI 40 from rfl, mn] at e5
  have d5 : ∀ j, j ≠ 50 → s5.1 j = s2.1 j := fun j hj => by rw [e5, e4]; funext k; simp only [upI_1, hj, false_and, if_false]
  refine s_copy (by omega) (fun s6 F2 g2 v1 v2 v3 => ?_)
  have d6 : ∀ j, j ≠ 29 → j ≠ 30 → j ≠ 31 → s6.1 j = s5.1 j := fun j h1 h2 h3 => (F2 j (by simp; omega)).1
  have ad : ∀ j, j ≠ 29 → j ≠ 30 → j ≠ 31 → j ≠ 50 → j < 56 ∨ 176 ≤ j → s6.1 j = σ.1 j := fun j h1 h2 h3 h4 h5 => by rw [d6 j h1 h2 h3, d5 j h4, d2 j h5]
  have b7 : cS γ.2.2.2.2.2.1 s6 := a7.mv hl4 (by rw [ad 0 (by omega) (by omega) (by omega) (by omega) (by omega)]) (fun i h1 h2 => ad i (by omega) (by omega) (by omega) (by omega) (by omega))
  refine hq s6 ⟨a1.mv (ad 1 (by omega) (by omega) (by omega) (by omega) (by omega)) (ad 2 (by omega) (by omega) (by omega) (by omega) (by omega)), a2.mv (by rw [ad 0 (by omega) (by omega) (by omega) (by omega) (by omega)]; exact ⟨rfl, rfl⟩) (fun i h1 h2 => ad i (by omega) (by omega) (by omega) (by omega) (by omega)), ?_, ?_, ?_, a6.mv (by rw [ad 0 (by omega) (by omega) (by omega) (by omega) (by omega)]) (fun i h1 h2 => ad i (by omega) (by omega) (by omega) (by omega) (by omega)) (ad 55 (by omega) (by omega) (by omega) (by omega) (by omega)), b7, a8.mv (ad 52 (by omega) (by omega) (by omega) (by omega) (by omega)) (ad 53 (by omega) (by omega) (by omega) (by omega) (by omega)) (ad 54 (by omega) (by omega) (by omega) (by omega) (by omega))⟩ (fun i hi => ad i (by omega) (by omega) (by omega) (by omega) (by omega)) (ad 38 (by omega) (by omega) (by omega) (by omega) (by omega)) (by rw [g2, e5, e4]; exact g1)
  · have hw5 : cH γ.2.1 w 32 s5 := hw.mv (fun j h1 h2 => by rw [d5 j (by omega), d2 j (by omega)])
    exact hw5.cp h8 v1 v2 v3
  · refine ⟨(nx + 1) % 40, Nat.mod_lt _ (by decide), ?_, ?_, fun i g hi => ?_⟩
    · rw [d6 50 (by omega) (by omega) (by omega), e5, e4]; simp [upI_1]
    · rw [d6 50 (by omega) (by omega) (by omega), e5]
      show (upI s4 50 2 _).1 50 2 = nI ((γ.2.2.1 :: γ.2.2.2.1).take 40).length
      rw [upI_1, if_pos ⟨rfl, rfl⟩, List.length_take, List.length_cons, Nat.min_comm]
    · have hi : ((γ.2.2.1 :: γ.2.2.2.1).take 40)[i]? = some g := hi
      have hlt : i < 40 := by
        have := (List.getElem?_eq_some_iff.mp hi).1
        rw [List.length_take] at this
        omega
      rw [List.getElem?_take_of_lt hlt] at hi
      cases i with
      | zero =>
        simp at hi
        subst hi
        have e : ((nx + 1) % 40 + 39 - 0) % 40 = nx := by omega
        rw [e]
        have h2 : cH γ.2.1 γ.2.2.1 (56 + 3 * nx) s2 := a3.cp h8 u1 u2 u3
        exact h2.mv (fun j h1 h2 => by rw [d6 j (by omega) (by omega) (by omega), d5 j (by omega)])
      | succ i =>
        rw [List.getElem?_cons_succ] at hi
        have h2 := p4 i g hi
        rw [md40 p1 (by omega)]
        refine h2.mv (fun j h1 h2 => ?_)
        rw [d6 j (by omega) (by omega) (by omega), d5 j (by omega)]
        have hne : (nx + 39 - i) % 40 ≠ nx := by omega
        exact (F1 j (by simp; omega)).1
  · refine ⟨by rw [ad 49 (by omega) (by omega) (by omega) (by omega) (by omega)]; exact hJ, fun g hgm => ?_⟩
    rw [ad 49 (by omega) (by omega) (by omega) (by omega) (by omega)]
    have : g ∈ γ.2.2.1 :: γ.2.2.2.1 := List.mem_of_mem_take hgm
    rcases List.mem_cons.mp this with q | q
    · rw [q]; exact a5.1
    · exact a5.2 g q
