/-! WHAT A RUN HAS COME TO: one state that the class and the model both stand for -/
abbrev GH : Type := HS × List LE × Nat
abbrev ST : Type := Nat × Int × Int × Int
abbrev TP : Type := Nat × (Nat → Int32)
/-- tape; mooring; how it stands (hold, log, lines); ahead of the latest acts; image; scripts; causes; counts -/
abbrev GS : Type := TP × MU × GH × List GH × Option GH × List (List ST) × List Int32 × (Nat → Int32)
def g0 : GH := ((fun _ => 0, fun _ => 0, (0, 0, 0), 0, 0), [], 0)
def e0 : LE := (0, none, 0)
def orp (o : Option Nat) : Nat := match o with
  | none => 0
  | some r => r + 1
def pk (e : LE) : Int32 := nI (e.1 + 4 * orp e.2.1 + 64 * e.2.2)
def leok (e : LE) : Prop := e.1 < 4 ∧ orp e.2.1 ≤ 8 ∧ e.2.2 < 256
def JO (lg : List LE) (N : Nat) (J : Nat → Int32) : Prop := lg.length = min N 60 ∧ ∀ k, k < lg.length → J ((N - lg.length + k) % 716) = pk (lg.getD k e0)
/-! the class -/
def cT (T : TP) (σ : wS) : Prop := σ.1 1 1 = nI T.1 ∧ ∀ k, k < T.1 → σ.1 2 k = T.2 k
def cM (μ : MU) (σ : wS) : Prop := ((σ.1 0 2 = 0 ∧ σ.1 0 3 = 1) ∨ (σ.1 0 2 = 1 ∧ σ.1 0 3 = 0)) ∧ MoC μ (mo (σ.1 0 2)) σ
def cH (μ : MU) (w : GH) (i : Nat) (σ : wS) : Prop := HC μ w.1 i σ ∧ σ.1 i 7 = nI w.2.2
def cP (μ : MU) (P : List GH) (σ : wS) : Prop := ∃ nx, nx < 40 ∧ σ.1 50 1 = nI nx ∧ σ.1 50 2 = nI P.length ∧ ∀ i g, P[i]? = some g → cH μ g (56 + 3 * ((nx + 39 - i) % 40)) σ
def cJ (w : GH) (P : List GH) (σ : wS) : Prop := JO w.2.1 w.2.2 (σ.1 49) ∧ ∀ g ∈ P, JO g.2.1 g.2.2 (σ.1 49)
def cI (μ : MU) (I : Option GH) (σ : wS) : Prop := match I with
  | none => σ.1 0 16 = 0
  | some g => σ.1 0 16 = 1 ∧ HC μ g.1 35 σ ∧ σ.1 35 7 = nI g.2.1.length ∧ ∀ k, k < g.2.1.length → σ.1 55 k = pk (g.2.1.getD k e0)
def scC (L : List ST) (i : Nat) (σ : wS) : Prop := σ.1 i 1 = nI L.length ∧ ∀ j t, L[j]? = some t → σ.1 (i + 1) (4 * j) = nI t.1 ∧ σ.1 (i + 1) (4 * j + 1) = iI t.2.1 ∧ (t.1 ≤ 1 → σ.1 (i + 1) (4 * j + 2) = iI t.2.2.1) ∧ (t.1 = 0 → σ.1 (i + 1) (4 * j + 3) = iI t.2.2.2)
def cS (S : List (List ST)) (σ : wS) : Prop := σ.1 0 5 = nI S.length ∧ ∀ s L, S[s]? = some L → scC L (19 + 2 * s) σ
def cR (c : List Int32) (n : Nat → Int32) (σ : wS) : Prop := σ.1 52 2 = nI c.length ∧ (∀ k, k < c.length → σ.1 54 k = c.getD k 0) ∧ ∀ k, k < 5 → σ.1 53 k = n k
def C (γ : GS) (σ : wS) : Prop := cT γ.1 σ ∧ cM γ.2.1 σ ∧ cH γ.2.1 γ.2.2.1 29 σ ∧ cP γ.2.1 γ.2.2.2.1 σ ∧ cJ γ.2.2.1 γ.2.2.2.1 σ ∧ cI γ.2.1 γ.2.2.2.2.1 σ ∧ cS γ.2.2.2.2.2.1 σ ∧ cR γ.2.2.2.2.2.2.1 γ.2.2.2.2.2.2.2 σ
/-! the model -/
def dT (T : TP) (σ : wS) : Prop := σ.1 176 2 = nI T.1 ∧ ∀ k, k < T.1 → σ.1 177 k = T.2 k
def dP (μ : MU) (P : List GH) (σ : wS) : Prop := ∃ fi, fi < 40 ∧ σ.1 176 23 = nI fi ∧ σ.1 176 24 = nI P.length ∧ ∀ i g, P[i]? = some g → RowM μ g.1 g.2.1 (fun k => σ.1 191 (202 * ((fi + P.length - 1 - i) % 40) + k))
def dI (μ : MU) (I : Option GH) (σ : wS) : Prop := match I with
  | none => σ.1 176 25 = 0
  | some g => σ.1 176 25 = 1 ∧ RowM μ g.1 g.2.1 (σ.1 190)
def scM (L : List ST) (b : Nat) (f : Nat → Int32) : Prop := ∀ j t, L[j]? = some t → f (b + 4 * j) = nI t.1 ∧ f (b + 4 * j + 1) = iI t.2.1 ∧ f (b + 4 * j + 2) = (if t.1 ≤ 1 then iI t.2.2.1 else -1000000) ∧ f (b + 4 * j + 3) = (if t.1 = 0 then iI t.2.2.2 else -1000000)
def dS (S : List (List ST)) (σ : wS) : Prop := σ.1 176 15 = nI S.length ∧ ∀ s L, S[s]? = some L → σ.1 184 s = nI L.length ∧ scM L (64 * s) (σ.1 183)
def dR (c : List Int32) (n : Nat → Int32) (σ : wS) : Prop := σ.1 176 34 = nI c.length ∧ (∀ k, k < c.length → σ.1 197 k = c.getD k 0) ∧ ∀ k, k < 5 → σ.1 185 k = n k
def D (γ : GS) (σ : wS) : Prop := dT γ.1 σ ∧ MoM γ.2.1 σ ∧ RowM γ.2.1 γ.2.2.1.1 γ.2.2.1.2.1 (σ.1 188) ∧ dP γ.2.1 γ.2.2.2.1 σ ∧ dI γ.2.1 γ.2.2.2.2.1 σ ∧ dS γ.2.2.2.2.2.1 σ ∧ dR γ.2.2.2.2.2.2.1 γ.2.2.2.2.2.2.2 σ
/-! what a state keeps -/
def sett (μ : MU) (h : HS) : Prop := 0 < Lw μ h.2.2.1.1 ∧ ∀ r, h.2.2.1.1.testBit r = true → 0 ≤ Pl μ h.1 h.2.1 h.2.2.1.1 r
def ghok (μ : MU) (g : GH) : Prop := hok μ g.1 ∧ sett μ g.1 ∧ (∀ e ∈ g.2.1, leok e) ∧ g.2.1.length ≤ 60
def chn : Nat → List GH → Prop
  | _, [] => True
  | N, g :: P => g.2.2 ≤ N ∧ N ≤ g.2.2 + 16 ∧ chn g.2.2 P
def bI (n : Nat) : Int32 := if n < 128 then nI n else nI n - nI 256
def stok (t : ST) : Prop := t.1 < 4 ∧ t.2.1.natAbs ≤ 999 ∧ t.2.2.1.natAbs ≤ 999 ∧ t.2.2.2.natAbs ≤ 999
def sok1 (L : List ST) : Prop := 1 ≤ L.length ∧ L.length ≤ 16 ∧ ∀ t ∈ L, stok t
def gok (γ : GS) (bd : Nat) : Prop := (γ.1.1 ≤ 240 ∧ ∀ k, k < γ.1.1 → ∃ b, 1 ≤ b ∧ b < 256 ∧ γ.1.2 k = bI b) ∧ γ.2.2.2.1.length ≤ 40 ∧ (γ.2.2.2.2.2.1.length ≤ 4 ∧ ∀ L ∈ γ.2.2.2.2.2.1, sok1 L) ∧ γ.2.2.2.2.2.2.1.length ≤ 4 ∧ chn γ.2.2.1.2.2 γ.2.2.2.1 ∧ γ.2.2.1.2.2 ≤ bd ∧ (γ.2.1.1 = 0 → γ.2.2.1 = g0 ∧ γ.2.2.2.1 = [] ∧ γ.2.2.2.2.1 = none) ∧ (0 < γ.2.1.1 → mu_ok γ.2.1 ∧ ghok γ.2.1 γ.2.2.1 ∧ (∀ g ∈ γ.2.2.2.1, ghok γ.2.1 g) ∧ ∀ g, γ.2.2.2.2.1 = some g → ghok γ.2.1 g)
/-! frames -/
def Fcm (σ τ : wS) : Prop := ∀ i, 176 ≤ i → τ.1 i = σ.1 i
def Fdm (σ τ : wS) : Prop := ∀ i, i < 176 → τ.1 i = σ.1 i
theorem MoC.mv {μ : MU} {p : Nat} {σ τ : wS} (h : MoC μ p σ) (hf : ∀ i, p ≤ i → i ≤ p + 6 → τ.1 i = σ.1 i) : MoC μ p τ := by
  unfold MoC at h ⊢
  rw [hf p (by omega) (by omega), hf (p + 1) (by omega) (by omega), hf (p + 2) (by omega) (by omega), hf (p + 3) (by omega) (by omega), hf (p + 4) (by omega) (by omega), hf (p + 5) (by omega) (by omega), hf (p + 6) (by omega) (by omega)]
  exact h
theorem HC.mv {μ : MU} {h : HS} {i : Nat} {σ τ : wS} (hh : HC μ h i σ) (h0 : τ.1 i = σ.1 i) (h1 : τ.1 (i + 1) = σ.1 (i + 1)) (h2 : τ.1 (i + 2) = σ.1 (i + 2)) : HC μ h i τ := by
  unfold HC LwC at hh ⊢
  rw [h0, h1, h2]
  exact hh
theorem cH.mv {μ : MU} {w : GH} {i : Nat} {σ τ : wS} (hh : cH μ w i σ) (hf : ∀ j, i ≤ j → j ≤ i + 2 → τ.1 j = σ.1 j) : cH μ w i τ := ⟨hh.1.mv (hf i (by omega) (by omega)) (hf (i + 1) (by omega) (by omega)) (hf (i + 2) (by omega) (by omega)), by rw [hf i (by omega) (by omega)]; exact hh.2⟩
theorem mo_lt (v : Int32) : mo v = 4 ∨ mo v = 11 := by unfold mo; split <;> simp
theorem cT.mv {T : TP} {σ τ : wS} (h : cT T σ) (h1 : τ.1 1 = σ.1 1) (h2 : τ.1 2 = σ.1 2) : cT T τ := by unfold cT at h ⊢; rw [h1, h2]; exact h
theorem cM.mv {μ : MU} {σ τ : wS} (h : cM μ σ) (h0 : τ.1 0 2 = σ.1 0 2 ∧ τ.1 0 3 = σ.1 0 3) (hf : ∀ i, 4 ≤ i → i < 18 → τ.1 i = σ.1 i) : cM μ τ := by
  unfold cM at h ⊢
  rw [h0.1, h0.2]
  refine ⟨h.1, h.2.mv (fun i h1 h2 => hf i ?_ ?_)⟩
  · rcases mo_lt (σ.1 0 2) with q | q <;> rw [q] at h1 <;> omega
  · rcases mo_lt (σ.1 0 2) with q | q <;> rw [q] at h2 <;> omega
theorem cP.mv {μ : MU} {P : List GH} {σ τ : wS} (h : cP μ P σ) (h0 : τ.1 50 = σ.1 50) (hf : ∀ i, 56 ≤ i → i < 176 → τ.1 i = σ.1 i) : cP μ P τ := by
  obtain ⟨nx, a, b, c, d⟩ := h
  refine ⟨nx, a, by rw [h0]; exact b, by rw [h0]; exact c, fun i g hi => (d i g hi).mv (fun j h1 h2 => hf j (by omega) ?_)⟩
  have := Nat.mod_lt (nx + 39 - i) (show 0 < 40 by decide)
  omega
theorem cJ.mv {w : GH} {P : List GH} {σ τ : wS} (h : cJ w P σ) (h0 : τ.1 49 = σ.1 49) : cJ w P τ := by unfold cJ at h ⊢; rw [h0]; exact h
theorem cI.mv {μ : MU} {I : Option GH} {σ τ : wS} (h : cI μ I σ) (h0 : τ.1 0 16 = σ.1 0 16) (h1 : ∀ i, 35 ≤ i → i ≤ 37 → τ.1 i = σ.1 i) (h2 : τ.1 55 = σ.1 55) : cI μ I τ := by
  unfold cI at h ⊢
  cases I with
  | none => simp only at h ⊢; rw [h0]; exact h
  | some g =>
    simp only at h ⊢
    rw [h0, h1 35 (by omega) (by omega), h2]
    exact ⟨h.1, h.2.1.mv (h1 35 (by omega) (by omega)) (h1 36 (by omega) (by omega)) (h1 37 (by omega) (by omega)), h.2.2⟩
theorem scC.mv {L : List ST} {i : Nat} {σ τ : wS} (h : scC L i σ) (h0 : τ.1 i = σ.1 i) (h1 : τ.1 (i + 1) = σ.1 (i + 1)) : scC L i τ := by unfold scC at h ⊢; rw [h0, h1]; exact h
theorem cS.mv {S : List (List ST)} {σ τ : wS} (hl : S.length ≤ 4) (h : cS S σ) (h0 : τ.1 0 5 = σ.1 0 5) (hf : ∀ i, 19 ≤ i → i < 19 + 2 * S.length → τ.1 i = σ.1 i) : cS S τ := by
  refine ⟨by rw [h0]; exact h.1, fun s L hs => ?_⟩
  have : s < S.length := (List.getElem?_eq_some_iff.mp hs).1
  exact (h.2 s L hs).mv (hf _ (by omega) (by omega)) (hf _ (by omega) (by omega))
theorem cR.mv {c : List Int32} {n : Nat → Int32} {σ τ : wS} (h : cR c n σ) (h0 : τ.1 52 = σ.1 52) (h1 : τ.1 53 = σ.1 53) (h2 : τ.1 54 = σ.1 54) : cR c n τ := by unfold cR at h ⊢; rw [h0, h1, h2]; exact h
abbrev cW : List Nat := [3, 32, 33, 34, 38, 39, 40, 41, 42, 43, 44, 45, 46, 47]
/-- but for what is used again and again -/
theorem C.mv {γ : GS} {bd : Nat} {σ τ : wS} (hg : gok γ bd) (h : C γ σ) (hf : ∀ i, i < 176 → i ∉ cW → τ.1 i = σ.1 i) : C γ τ := by
  obtain ⟨a1, a2, a3, a4, a5, a6, a7, a8⟩ := h
  have f0 : τ.1 0 = σ.1 0 := hf 0 (by decide) (by decide)
  have rng : ∀ i, 4 ≤ i → i < 32 → τ.1 i = σ.1 i := fun i h1 h2 => hf i (by omega) (by simp; omega)
  have rng2 : ∀ i, 48 ≤ i → i < 176 → τ.1 i = σ.1 i := fun i h1 h2 => hf i (by omega) (by simp; omega)
  refine ⟨a1.mv (hf 1 (by decide) (by decide)) (hf 2 (by decide) (by decide)), a2.mv (by rw [f0]; exact ⟨rfl, rfl⟩) (fun i h1 h2 => rng i h1 (by omega)), a3.mv (fun j h1 h2 => rng j (by omega) (by omega)), a4.mv (rng2 50 (by decide) (by decide)) (fun i h1 h2 => rng2 i (by omega) h2), a5.mv (rng2 49 (by decide) (by decide)), a6.mv (by rw [f0]) (fun i h1 h2 => hf i (by omega) (by simp; omega)) (rng2 55 (by decide) (by decide)), a7.mv hg.2.2.1.1 (by rw [f0]) (fun i h1 h2 => rng i (by omega) (by have := hg.2.2.1.1; omega)), a8.mv (rng2 52 (by decide) (by decide)) (rng2 53 (by decide) (by decide)) (rng2 54 (by decide) (by decide))⟩
theorem C.fd {γ : GS} {bd : Nat} {σ τ : wS} (hg : gok γ bd) (h : C γ σ) (hf : Fdm σ τ) : C γ τ := h.mv hg (fun i hi _ => hf i hi)
theorem C.fr {γ : GS} {bd : Nat} {σ τ : wS} (hg : gok γ bd) (h : C γ σ) (hf : Fr cW σ τ) : C γ τ := h.mv hg (fun i _ hi => (hf i hi).1)
abbrev dK : List Nat := [177, 179, 181, 182, 183, 184, 185, 188, 190, 191, 197]
abbrev dF : List Nat := [2, 14, 15, 23, 24, 25, 34]
theorem dP.mv {μ : MU} {P : List GH} {σ τ : wS} (h : dP μ P σ) (h1 : τ.1 176 23 = σ.1 176 23) (h2 : τ.1 176 24 = σ.1 176 24) (h3 : τ.1 191 = σ.1 191) : dP μ P τ := by unfold dP at h ⊢; rw [h1, h2, h3]; exact h
theorem dI.mv {μ : MU} {I : Option GH} {σ τ : wS} (h : dI μ I σ) (h1 : τ.1 176 25 = σ.1 176 25) (h2 : τ.1 190 = σ.1 190) : dI μ I τ := by unfold dI at h ⊢; rw [h1, h2]; exact h
theorem D.mv {γ : GS} {σ τ : wS} (h : D γ σ) (hf : ∀ i ∈ dK, τ.1 i = σ.1 i) (hF : ∀ k ∈ dF, τ.1 176 k = σ.1 176 k) : D γ τ := by
  obtain ⟨a1, a2, a3, a4, a5, a6, a7⟩ := h
  refine ⟨?_, a2.mv (hF 14 (by decide)) (hf 181 (by decide)) (hf 179 (by decide)) (hf 182 (by decide)), ?_, a4.mv (hF 23 (by decide)) (hF 24 (by decide)) (hf 191 (by decide)), a5.mv (hF 25 (by decide)) (hf 190 (by decide)), ?_, ?_⟩
  · unfold dT at a1 ⊢; rw [hF 2 (by decide), hf 177 (by decide)]; exact a1
  · rw [hf 188 (by decide)]; exact a3
  · unfold dS at a6 ⊢; rw [hF 15 (by decide), hf 184 (by decide), hf 183 (by decide)]; exact a6
  · unfold dR at a7 ⊢; rw [hF 34 (by decide), hf 197 (by decide), hf 185 (by decide)]; exact a7
theorem D.fc {γ : GS} {σ τ : wS} (h : D γ σ) (hf : Fcm σ τ) : D γ τ := h.mv (fun i hi => hf i (by revert i; decide)) (fun k _ => by rw [hf 176 (by decide)])
theorem D.up {γ : GS} {σ : wS} {k : Nat} {x : Int32} (h : D γ σ) (hk : k ∉ dF) : D γ (upI σ 176 k x) := by
  refine h.mv (fun i hi => ?_) (fun j hj => ?_)
  · have : i ≠ 176 := fun q => by subst q; revert hi; decide
    show (setI σ 176 _).1 i = _
    rw [(setI_ne this).1]
  · rw [upI_1, if_neg]
    rintro ⟨-, q⟩
    exact hk (q ▸ hj)
theorem Fdm.up {σ τ : wS} {i k : Nat} {x : Int32} (h : Fdm σ τ) (hi : 176 ≤ i) : Fdm σ (upI τ i k x) := fun j hj => by
  show (setI τ i _).1 j = _
  rw [(setI_ne (show j ≠ i by omega)).1]
  exact h j hj
theorem Fdm.rf {σ : wS} : Fdm σ σ := fun _ _ => rfl
theorem Fcm.rf {σ : wS} : Fcm σ σ := fun _ _ => rfl
theorem Fcm.up {σ τ : wS} {i k : Nat} {x : Int32} (h : Fcm σ τ) (hi : i < 176) : Fcm σ (upI τ i k x) := fun j hj => by
  show (setI τ i _).1 j = _
  rw [(setI_ne (show j ≠ i by omega)).1]
  exact h j hj
theorem Fcm.tr {σ τ ρ : wS} (h1 : Fcm σ τ) (h2 : Fcm τ ρ) : Fcm σ ρ := fun i hi => (h2 i hi).trans (h1 i hi)
theorem Fdm.tr {σ τ ρ : wS} (h1 : Fdm σ τ) (h2 : Fdm τ ρ) : Fdm σ ρ := fun i hi => (h2 i hi).trans (h1 i hi)
theorem Fr.c {S : List Nat} {σ τ : wS} (h : Fr S σ τ) (hs : ∀ i ∈ S, i < 176) : Fcm σ τ := fun i hi => (h i (fun q => by have := hs i q; omega)).1
theorem Fr.d {S : List Nat} {σ τ : wS} (h : Fr S σ τ) (hs : ∀ i ∈ S, 176 ≤ i) : Fdm σ τ := fun i hi => (h i (fun q => by have := hs i q; omega)).1
/-- class and model stand for one state -/
def In (bd : Nat) (σ : wS) : Prop := ∃ γ, C γ σ ∧ D γ σ ∧ gok γ bd
theorem prI {α : Type} {f : GS → α × GS} {w1 w2 : wS → (α → wS → Prop) → Prop} {bd : Nat} (h1 : ∀ γ σ Q, C γ σ → gok γ bd → (∀ τ, C (f γ).2 τ → Fcm σ τ → Q (f γ).1 τ) → w1 σ Q) (h2 : ∀ γ σ Q, D γ σ → gok γ bd → (∀ τ, D (f γ).2 τ → Fdm σ τ → Q (f γ).1 τ) → w2 σ Q) (h3 : ∀ γ, gok γ bd → gok (f γ).2 (bd + 40)) {σ : wS} (hI : In bd σ) : w1 σ (fun r s => w2 s (fun r' s' => r = r' ∧ In (bd + 40) s')) := by
  obtain ⟨γ, hC, hD, hg⟩ := hI
  refine h1 γ σ _ hC hg (fun τ c1 c2 => ?_)
  refine h2 γ τ _ (hD.fc c2) hg (fun ρ d1 d2 => ⟨rfl, (f γ).2, c1.fd (h3 γ hg) d2, d1, h3 γ hg⟩)
theorem gok.wk {γ : GS} {a b : Nat} (h : gok γ a) (hab : a ≤ b) : gok γ b := by
  obtain ⟨h1, h2, h3, h4, h5, h6, h7⟩ := h
  exact ⟨h1, h2, h3, h4, h5, by omega, h7⟩
