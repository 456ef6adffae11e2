/-! CONTRACTS: a method from the world σ returns, and Q holds of its answer and the world behind it -/
def PcG (g : wG) (A : Nat → Prop) (av : List Value) (σ : wS) : Array Value → State → Prop := va_Pc av (fun U => va_P g.1 vwCl (wld g σ) U.heap ∧ Cg g A U U.heap)
def Mi (l : Launch) (y : MethodName) (ws : List Cond) (fr lo : Nat) (g : wG) (A : Nat → Prop) (av : List Value) (σ : wS) (Q : Int32 → wS → Prop) : Prop := Met l y ws { frames := fr, cells := 0, slots := 0, locals := lo } (PcG g A av σ) (va_Qi Q (fun τ t => va_P g.1 vwCl (wld g τ) t.heap) A) 0 0 A
def Ml (l : Launch) (y : MethodName) (ws : List Cond) (fr lo : Nat) (g : wG) (A : Nat → Prop) (av : List Value) (σ : wS) (Q : Int64 → wS → Prop) : Prop := Met l y ws { frames := fr, cells := 0, slots := 0, locals := lo } (PcG g A av σ) (va_Ql Q (fun τ t => va_P g.1 vwCl (wld g τ) t.heap) A) 0 0 A
def Mv (l : Launch) (y : MethodName) (ws : List Cond) (fr lo : Nat) (g : wG) (A : Nat → Prop) (av : List Value) (σ : wS) (Q : wS → Prop) : Prop := Met l y ws { frames := fr, cells := 0, slots := 0, locals := lo } (PcG g A av σ) (va_Qv Q (fun τ t => va_P g.1 vwCl (wld g τ) t.heap) A) 0 0 A
def Mr (l : Launch) (y : MethodName) (ws : List Cond) (fr lo : Nat) (g : wG) (A : Nat → Prop) (av : List Value) (σ : wS) (d : Nat) (Q : wS → Prop) : Prop := Met l y ws { frames := fr, cells := 0, slots := 0, locals := lo } (PcG g A av σ) (va_Qr Q (fun τ a t => a = g.2.2 d ∧ va_P g.1 vwCl (wld g τ) t.heap) A) 0 0 A
theorem Cg.call {g : wG} {A : Nat → Prop} {U : State} (f : JFrame) (mk : MethodId) (a : Array Value) (h : Cg g A U U.heap) : Cg g A (U.calling f mk a) (U.calling f mk a).heap := by
  obtain ⟨h1, h2, h3, h4, h5, h6, h7, h8, h9⟩ := h
  exact ⟨va_K.moved (u := U) (U := U.calling f mk a) (Vm.Alike.refl U.vm) h1, fun w hw => va_Nw.same (u := U) (U := U.calling f mk a) rfl rfl (h2 w hw), va_Nw.same (u := U) (U := U.calling f mk a) rfl rfl h3, fun k hk => va_Z.moved (u := U) (U := U.calling f mk a) (Vm.Alike.refl U.vm) (h4 k hk), fun k hk => va_T.moved (u := U) (U := U.calling f mk a) (Vm.Alike.refl U.vm) (h5 k hk), vk_S.moved (u := U) (U := U.calling f mk a) (Vm.Alike.refl U.vm) h6, fun k hk q hq => vk_R.same (u := U) (U := U.calling f mk a) rfl (h7 k hk q hq), va_Z.moved (u := U) (U := U.calling f mk a) (Vm.Alike.refl U.vm) h8, va_Zq.moved (u := U) (U := U.calling f mk a) (Vm.Alike.refl U.vm) h9⟩
theorem Cg.mv {g : wG} {A : Nat → Prop} {s U : State} {H : Heap} {locs : List Loc} (hA : adO g A) (h : Cg g A s s.heap) (hS : va_S A s.heap H locs) (hU : U.heap = H) (hW : s.WarmedH U.vm) : Cg g A U U.heap := by
  obtain ⟨h1, h2, h3, h4, h5, h6, h7, h8, h9⟩ := h
  subst hU
  have hq : ∀ a : Nat, a < s.heap.size → ¬ A a → U.heap[a]? = s.heap[a]? := hS.2.1
  exact ⟨va_K.moved hW.alike h1, fun w hw => va_Nw.warmF hW (h2 w hw), va_Nw.warmM hW h3, fun k hk => ((h4 k hk).moved hW.alike).kept hq, fun k hk => ((h5 k hk).moved hW.alike).kept hq, (h6.moved hW.alike).kept hq, fun k hk q hq => vk_R.warm hW (h7 k hk q hq), (h8.moved hW.alike).kept hq, (h9.moved hW.alike).kept hq⟩
theorem PcG.blind {g : wG} {A : Nat → Prop} {av : List Value} {σ : wS} : FrameBlind (PcG g A av σ) := fun a U f mk h => ⟨h.1, h.2.1, h.2.2.call f mk a⟩
section XC
variable {X : XT} {cc : ByteArray} {nL : Nat} {own : String} {Ts : List Cond} {fr lo : Nat} {σ : wS} {pc : Nat} {lv : List (Nat × Value)} {st st0 : List Value}
theorem PcG.of {H : Heap} {locs : List Loc} {av : List Value} (F : Fx X cc nL own Ts fr lo) (hP : va_P (xg X).1 vwCl (wld (xg X) σ) H) (hS : va_S (xA X) (xs X).heap H locs) (U : State) (hU : U.heap = H) (hW : (xs X).WarmedH U.vm) : PcG (xg X) (xA X) av σ av.toArray U := ⟨rfl, by rw [hU]; exact hP, Cg.mv F.2.2.1 F.2.1 hS hU hW⟩
def okN (y : MethodName) (C : String) (n : Nat) : Prop := y.cls = C ∧ y.cls ≠ "java/lang/invoke/MethodHandle" ∧ y.cls ≠ "java/lang/invoke/VarHandle" ∧ (parseMethodDescriptor y.desc).map (fun d => d.parameters.length) = some n
theorem x_callV_i {i index ci n maxL fr' lo' N : Nat} {y : MethodName} {ws ws' : List Cond} {bytes : ByteArray} {ret : Option FieldType} {As fs : List Value} {C : String} {T : u_T} {Q : Int32 → wS → Prop} (F : Fx X cc nL own Ts fr lo) (hM : Mi (xl X) y ws fr' lo' (xg X) (xA X) (.ref (ad X i) :: As) σ Q) (hG : GoodIn Ts (wsV own index C y ws)) (hw : ws = Cond.code y bytes maxL ret :: ws') (hy : okN y C n) (hfr : fr' + 1 ≤ fr) (hlo : 8 + (maxL + 11) + lo' ≤ lo) (hi : i < wN) (hc : vwCl[ci]? = some (C, T, N)) (he : cl0 (xg X) i (σ.1 i) (σ.2 i) = .inr (ci, fs)) (hn : As.length = n) (hst : st0 = As.reverse ++ .ref (ad X i) :: st) (hr : (st.map fun v => v.category).sum ≤ 8) (hd : decode cc pc = .ok (.invokevirtual index, 3)) (k : ∀ (r : Int32) (τ : wS), Q r τ → Wx X nL τ (pc + 3) lv (.int r :: st)) : Wx X nL σ pc lv st0 := by
  subst hst
  intro H locs ls hP hS hl
  exact va_calli (va_runV (As := As) (rest := st) F.1 hM (cwV n F.1.2.2.2.2 hG hw rfl rfl hy ⟨Nat.le_trans hfr F.2.2.2.1, Nat.le_trans hlo F.2.2.2.2.1⟩) ⟨PcG.blind, va_recv F.2.1.1 hP (q := (C, T, N)) hc (q0 := i) (by rw [wld_at hi, he]), fun U hU hW => PcG.of F hP hS U hU hW⟩ rfl hn hl.1 rfl (lv_room hr) hd ⟨F.2.2.2.2.2.1, F.2.2.2.2.2.2⟩) hS (fun q _ h => h) (fun q h => h) (fun r τ t H1 locs1 ht hvm hw2 hB hz hk2 hS1 => k r τ hw2 H1 locs1 ls (by rw [ht] at hB; exact hB) hS1 hl)
theorem x_callS_i {index n maxL fr' lo' : Nat} {y : MethodName} {ws ws' : List Cond} {bytes : ByteArray} {ret : Option FieldType} {As : List Value} {Q : Int32 → wS → Prop} (F : Fx X cc nL own Ts fr lo) (hM : Mi (xl X) y ws fr' lo' (xg X) (xA X) As σ Q) (hG : GoodIn Ts (wsS own index y ws)) (hw : ws = Cond.code y bytes maxL ret :: ws') (hy : okN y own n) (hfr : fr' + 1 ≤ fr) (hlo : 8 + (maxL + 11) + lo' ≤ lo) (hn : As.length = n) (hst : st0 = As.reverse ++ st) (hr : (st.map fun v => v.category).sum ≤ 8) (hd : decode cc pc = .ok (.invokestatic index, 3)) (k : ∀ (r : Int32) (τ : wS), Q r τ → Wx X nL τ (pc + 3) lv (.int r :: st)) : Wx X nL σ pc lv st0 := by
  subst hst
  intro H locs ls hP hS hl
  exact va_calli (va_runS (As := As) (rest := st) F.1 hM (cwS n F.1.2.2.2.2 hG hw rfl rfl hy ⟨Nat.le_trans hfr F.2.2.2.1, Nat.le_trans hlo F.2.2.2.2.1⟩) ⟨PcG.blind, fun U hU hW => PcG.of F hP hS U hU hW⟩ rfl hn hl.1 rfl (lv_room hr) hd ⟨F.2.2.2.2.2.1, F.2.2.2.2.2.2⟩) hS (fun q _ h => h) (fun q h => h) (fun r τ t H1 locs1 ht hvm hw2 hB hz hk2 hS1 => k r τ hw2 H1 locs1 ls (by rw [ht] at hB; exact hB) hS1 hl)
theorem x_callV_l {i index ci n maxL fr' lo' N : Nat} {y : MethodName} {ws ws' : List Cond} {bytes : ByteArray} {ret : Option FieldType} {As fs : List Value} {C : String} {T : u_T} {Q : Int64 → wS → Prop} (F : Fx X cc nL own Ts fr lo) (hM : Ml (xl X) y ws fr' lo' (xg X) (xA X) (.ref (ad X i) :: As) σ Q) (hG : GoodIn Ts (wsV own index C y ws)) (hw : ws = Cond.code y bytes maxL ret :: ws') (hy : okN y C n) (hfr : fr' + 1 ≤ fr) (hlo : 8 + (maxL + 11) + lo' ≤ lo) (hi : i < wN) (hc : vwCl[ci]? = some (C, T, N)) (he : cl0 (xg X) i (σ.1 i) (σ.2 i) = .inr (ci, fs)) (hn : As.length = n) (hst : st0 = As.reverse ++ .ref (ad X i) :: st) (hr : (st.map fun v => v.category).sum ≤ 8) (hd : decode cc pc = .ok (.invokevirtual index, 3)) (k : ∀ (r : Int64) (τ : wS), Q r τ → Wx X nL τ (pc + 3) lv (.long r :: st)) : Wx X nL σ pc lv st0 := by
  subst hst
  intro H locs ls hP hS hl
  exact va_calll (va_runV (As := As) (rest := st) F.1 hM (cwV n F.1.2.2.2.2 hG hw rfl rfl hy ⟨Nat.le_trans hfr F.2.2.2.1, Nat.le_trans hlo F.2.2.2.2.1⟩) ⟨PcG.blind, va_recv F.2.1.1 hP (q := (C, T, N)) hc (q0 := i) (by rw [wld_at hi, he]), fun U hU hW => PcG.of F hP hS U hU hW⟩ rfl hn hl.1 rfl (lv_room hr) hd ⟨F.2.2.2.2.2.1, F.2.2.2.2.2.2⟩) hS (fun q _ h => h) (fun q h => h) (fun r τ t H1 locs1 ht hvm hw2 hB hz hk2 hS1 => k r τ hw2 H1 locs1 ls (by rw [ht] at hB; exact hB) hS1 hl)
theorem x_callS_l {index n maxL fr' lo' : Nat} {y : MethodName} {ws ws' : List Cond} {bytes : ByteArray} {ret : Option FieldType} {As : List Value} {Q : Int64 → wS → Prop} (F : Fx X cc nL own Ts fr lo) (hM : Ml (xl X) y ws fr' lo' (xg X) (xA X) As σ Q) (hG : GoodIn Ts (wsS own index y ws)) (hw : ws = Cond.code y bytes maxL ret :: ws') (hy : okN y own n) (hfr : fr' + 1 ≤ fr) (hlo : 8 + (maxL + 11) + lo' ≤ lo) (hn : As.length = n) (hst : st0 = As.reverse ++ st) (hr : (st.map fun v => v.category).sum ≤ 8) (hd : decode cc pc = .ok (.invokestatic index, 3)) (k : ∀ (r : Int64) (τ : wS), Q r τ → Wx X nL τ (pc + 3) lv (.long r :: st)) : Wx X nL σ pc lv st0 := by
  subst hst
  intro H locs ls hP hS hl
  exact va_calll (va_runS (As := As) (rest := st) F.1 hM (cwS n F.1.2.2.2.2 hG hw rfl rfl hy ⟨Nat.le_trans hfr F.2.2.2.1, Nat.le_trans hlo F.2.2.2.2.1⟩) ⟨PcG.blind, fun U hU hW => PcG.of F hP hS U hU hW⟩ rfl hn hl.1 rfl (lv_room hr) hd ⟨F.2.2.2.2.2.1, F.2.2.2.2.2.2⟩) hS (fun q _ h => h) (fun q h => h) (fun r τ t H1 locs1 ht hvm hw2 hB hz hk2 hS1 => k r τ hw2 H1 locs1 ls (by rw [ht] at hB; exact hB) hS1 hl)
theorem x_callV_v {i index ci n maxL fr' lo' N : Nat} {y : MethodName} {ws ws' : List Cond} {bytes : ByteArray} {ret : Option FieldType} {As fs : List Value} {C : String} {T : u_T} {Q : wS → Prop} (F : Fx X cc nL own Ts fr lo) (hM : Mv (xl X) y ws fr' lo' (xg X) (xA X) (.ref (ad X i) :: As) σ Q) (hG : GoodIn Ts (wsV own index C y ws)) (hw : ws = Cond.code y bytes maxL ret :: ws') (hy : okN y C n) (hfr : fr' + 1 ≤ fr) (hlo : 8 + (maxL + 11) + lo' ≤ lo) (hi : i < wN) (hc : vwCl[ci]? = some (C, T, N)) (he : cl0 (xg X) i (σ.1 i) (σ.2 i) = .inr (ci, fs)) (hn : As.length = n) (hst : st0 = As.reverse ++ .ref (ad X i) :: st) (hr : (st.map fun v => v.category).sum ≤ 8) (hd : decode cc pc = .ok (.invokevirtual index, 3)) (k : ∀ (τ : wS), Q τ → Wx X nL τ (pc + 3) lv st) : Wx X nL σ pc lv st0 := by
  subst hst
  intro H locs ls hP hS hl
  exact va_callv (va_runV (As := As) (rest := st) F.1 hM (cwV n F.1.2.2.2.2 hG hw rfl rfl hy ⟨Nat.le_trans hfr F.2.2.2.1, Nat.le_trans hlo F.2.2.2.2.1⟩) ⟨PcG.blind, va_recv F.2.1.1 hP (q := (C, T, N)) hc (q0 := i) (by rw [wld_at hi, he]), fun U hU hW => PcG.of F hP hS U hU hW⟩ rfl hn hl.1 rfl (lv_room hr) hd ⟨F.2.2.2.2.2.1, F.2.2.2.2.2.2⟩) hS (fun q _ h => h) (fun q h => h) (fun τ t H1 locs1 ht hvm hw2 hB hz hk2 hS1 => k τ hw2 H1 locs1 ls (by rw [ht] at hB; exact hB) hS1 hl)
theorem x_callS_v {index n maxL fr' lo' : Nat} {y : MethodName} {ws ws' : List Cond} {bytes : ByteArray} {ret : Option FieldType} {As : List Value} {Q : wS → Prop} (F : Fx X cc nL own Ts fr lo) (hM : Mv (xl X) y ws fr' lo' (xg X) (xA X) As σ Q) (hG : GoodIn Ts (wsS own index y ws)) (hw : ws = Cond.code y bytes maxL ret :: ws') (hy : okN y own n) (hfr : fr' + 1 ≤ fr) (hlo : 8 + (maxL + 11) + lo' ≤ lo) (hn : As.length = n) (hst : st0 = As.reverse ++ st) (hr : (st.map fun v => v.category).sum ≤ 8) (hd : decode cc pc = .ok (.invokestatic index, 3)) (k : ∀ (τ : wS), Q τ → Wx X nL τ (pc + 3) lv st) : Wx X nL σ pc lv st0 := by
  subst hst
  intro H locs ls hP hS hl
  exact va_callv (va_runS (As := As) (rest := st) F.1 hM (cwS n F.1.2.2.2.2 hG hw rfl rfl hy ⟨Nat.le_trans hfr F.2.2.2.1, Nat.le_trans hlo F.2.2.2.2.1⟩) ⟨PcG.blind, fun U hU hW => PcG.of F hP hS U hU hW⟩ rfl hn hl.1 rfl (lv_room hr) hd ⟨F.2.2.2.2.2.1, F.2.2.2.2.2.2⟩) hS (fun q _ h => h) (fun q h => h) (fun τ t H1 locs1 ht hvm hw2 hB hz hk2 hS1 => k τ hw2 H1 locs1 ls (by rw [ht] at hB; exact hB) hS1 hl)
theorem x_callV_r {i d index ci n maxL fr' lo' N : Nat} {y : MethodName} {ws ws' : List Cond} {bytes : ByteArray} {ret : Option FieldType} {As fs : List Value} {C : String} {T : u_T} {Q : wS → Prop} (F : Fx X cc nL own Ts fr lo) (hM : Mr (xl X) y ws fr' lo' (xg X) (xA X) (.ref (ad X i) :: As) σ d Q) (hG : GoodIn Ts (wsV own index C y ws)) (hw : ws = Cond.code y bytes maxL ret :: ws') (hy : okN y C n) (hfr : fr' + 1 ≤ fr) (hlo : 8 + (maxL + 11) + lo' ≤ lo) (hi : i < wN) (hc : vwCl[ci]? = some (C, T, N)) (he : cl0 (xg X) i (σ.1 i) (σ.2 i) = .inr (ci, fs)) (hn : As.length = n) (hst : st0 = As.reverse ++ .ref (ad X i) :: st) (hr : (st.map fun v => v.category).sum ≤ 8) (hd : decode cc pc = .ok (.invokevirtual index, 3)) (k : ∀ (τ : wS), Q τ → Wx X nL τ (pc + 3) lv (.ref (ad X d) :: st)) : Wx X nL σ pc lv st0 := by
  subst hst
  intro H locs ls hP hS hl
  exact va_callr (va_runV (As := As) (rest := st) F.1 hM (cwV n F.1.2.2.2.2 hG hw rfl rfl hy ⟨Nat.le_trans hfr F.2.2.2.1, Nat.le_trans hlo F.2.2.2.2.1⟩) ⟨PcG.blind, va_recv F.2.1.1 hP (q := (C, T, N)) hc (q0 := i) (by rw [wld_at hi, he]), fun U hU hW => PcG.of F hP hS U hU hW⟩ rfl hn hl.1 rfl (lv_room hr) hd ⟨F.2.2.2.2.2.1, F.2.2.2.2.2.2⟩) hS (fun q _ h => h) (fun q h => h) (fun τ a t H1 locs1 ht hvm hw2 hB hz hk2 hS1 => by
    obtain ⟨rfl, hB⟩ := hB
    exact k τ hw2 H1 locs1 ls (by rw [ht] at hB; exact hB) hS1 hl)
theorem x_callW {n maxL fr' lo' : Nat} {ws ws' : List Cond} {bytes : ByteArray} {ret : Option FieldType} {As : List Value} {Q : Int32 → wS → Prop} (F : Fx X cc nL RX1 Ts fr lo) (hM : Mi (xl X) yX11_isWithin ws fr' lo' (xg X) (xA X) As σ Q) (hG : GoodIn Ts ws) (hw : ws = Cond.code yX11_isWithin bytes maxL ret :: ws') (hini : Cond.initialized yX11_isWithin.cls ∈ Ts) (hstt : Cond.static yX11_isWithin ∈ Ts) (hy : okN yX11_isWithin RX11 n) (hfr : fr' + 1 ≤ fr) (hlo : 8 + (maxL + 11) + lo' ≤ lo) (hn : As.length = n) (hst : st0 = As.reverse ++ st) (hr : (st.map fun v => v.category).sum ≤ 8) (hd : decode cc pc = .ok (.invokestatic 39, 3)) (k : ∀ (r : Int32) (τ : wS), Q r τ → Wx X nL τ (pc + 3) lv (.int r :: st)) : Wx X nL σ pc lv st0 := by
  subst hst
  intro H locs ls hP hS hl
  exact va_calli (va_runSN (As := As) (rest := st) F.1 hM ⟨va_cnB n F.1.2.2.2.2 hG hw rfl rfl F.2.1.2.2.1 (F.1.2.2.2.2 _ hini) hy.2 ⟨Nat.le_trans hfr F.2.2.2.1, Nat.le_trans hlo F.2.2.2.2.1⟩, F.1.2.2.2.2 _ hstt, trivial⟩ ⟨PcG.blind, fun U hU hW => PcG.of F hP hS U hU hW⟩ rfl hn hl.1 rfl (lv_room hr) hd ⟨F.2.2.2.2.2.1, F.2.2.2.2.2.2⟩) hS (fun q _ h => h) (fun q h => h) (fun r τ t H1 locs1 ht hvm hw2 hB hz hk2 hS1 => k r τ hw2 H1 locs1 ls (by rw [ht] at hB; exact hB) hS1 hl)
end XC
/-! how a method's end is told to its walk -/
def Ri (X : XT) (nL : Nat) (cc : ByteArray) (ty : FieldType) (Q : Int32 → wS → Prop) : Prop := ∀ (r : Int32) (σ : wS) (pc : Nat) (lv : List (Nat × Value)), Q r σ → narrow ty (.int r) = .int r → decode cc pc = .ok (.ireturn, 1) → Wx X nL σ pc lv [.int r]
def Rl (X : XT) (nL : Nat) (cc : ByteArray) (Q : Int64 → wS → Prop) : Prop := ∀ (r : Int64) (σ : wS) (pc : Nat) (lv : List (Nat × Value)), Q r σ → decode cc pc = .ok (.lreturn, 1) → Wx X nL σ pc lv [.long r]
def Rv (X : XT) (nL : Nat) (cc : ByteArray) (Q : wS → Prop) : Prop := ∀ (σ : wS) (pc : Nat) (lv : List (Nat × Value)), Q σ → decode cc pc = .ok (.return_, 1) → Wx X nL σ pc lv []
def Rr (X : XT) (nL : Nat) (cc : ByteArray) (d : Nat) (Q : wS → Prop) : Prop := ∀ (σ : wS) (pc : Nat) (lv : List (Nat × Value)), Q σ → decode cc pc = .ok (.areturn, 1) → Wx X nL σ pc lv [.ref (ad X d)]
section XM
variable {l : Launch} {y : MethodName} {ws ws' : List Cond} {fr lo : Nat} {g : wG} {A : Nat → Prop} {av : List Value} {σ : wS} {cc : ByteArray} {nL : Nat} {own : String} {lv : List (Nat × Value)}
theorem mt_0 {ret : Option FieldType} {Qc : Array Value → State → Outcome → State → Prop} (hy : plainName y.cls = true) (hw : ws = Cond.code y cc nL ret :: ws') (hown : y.cls = own) (hA : adO g A) (hlen : (lg_sl av).length ≤ nL) (hlv : lv_args 0 av = lv)
    (body : ∀ X : XT, xl X = l → xg X = g → xA X = A → Fx X cc nL own ws fr lo → (xh X).sig.returnType = ret → (xh X).locks = false → xQ X = MQ (xb X) Qc (xa X) (xs X) (xk X) (xw X) A → Wx X nL σ 0 lv []) : Met l y ws { frames := fr, cells := 0, slots := 0, locals := lo } (PcG g A av σ) Qc 0 0 A := by
  refine Met.ofW (cc := cc) (maxL := nL) (ret := ret) hy hw ?_
  intro p e s m args below meth c s₁ B hml hv
  obtain ⟨rfl, hP, hC⟩ := hv
  have hts := atoms_spec (ws := ws) B.pre
  have ho : s.vm.findClass own = some m.cls := by rw [← hown]; exact findClass_of_methodNamed B.named
  have hl := lv_entry av (n := nL) hlen
  rw [hlv] at hl
  rw [lg_entry_eq]
  exact body ((p, l, e, { frames := fr, cells := 0, slots := 0, locals := lo }, s), (m, av.toArray, below, meth, c), (0, 0, MQ below Qc av.toArray s 0 0 A), (g, A)) rfl rfl rfl ⟨⟨B.exec, B.bytes, hml, ho, hts⟩, hC, hA, Nat.le_refl _, Nat.le_refl _, Nat.le_refl _, Nat.le_refl _⟩ B.returns B.notSynchronized rfl s.heap [] _ hP va_S.rf hl
theorem mt_i {ty : FieldType} {Q : Int32 → wS → Prop} (hy : plainName y.cls = true) (hw : ws = Cond.code y cc nL (some ty) :: ws') (hown : y.cls = own) (hA : adO g A) (hlen : (lg_sl av).length ≤ nL) (hlv : lv_args 0 av = lv)
    (body : ∀ X : XT, xl X = l → xg X = g → xA X = A → Fx X cc nL own ws fr lo → Ri X nL cc ty Q → Wx X nL σ 0 lv []) : Mi l y ws fr lo g A av σ Q := by
  refine mt_0 (ret := some ty) hy hw hown hA hlen hlv (fun X h1 h2 h3 F hr hk hQ => body X h1 h2 h3 F ?_)
  intro r τ pc lv2 hq hn hd H locs ls hP hS hl
  subst h2 h3
  rw [hQ]
  exact W.zret F.1.1 F.1.2.1 hr hn (fun t ht hW => ⟨⟨r, τ, rfl, hq, by show va_P _ _ _ t.heap; rw [ht]; exact hP⟩, hS.F ht⟩) hS.2.2 hd hk
theorem mt_l {Q : Int64 → wS → Prop} (hy : plainName y.cls = true) (hw : ws = Cond.code y cc nL (some .long) :: ws') (hown : y.cls = own) (hA : adO g A) (hlen : (lg_sl av).length ≤ nL) (hlv : lv_args 0 av = lv)
    (body : ∀ X : XT, xl X = l → xg X = g → xA X = A → Fx X cc nL own ws fr lo → Rl X nL cc Q → Wx X nL σ 0 lv []) : Ml l y ws fr lo g A av σ Q := by
  refine mt_0 (ret := some .long) hy hw hown hA hlen hlv (fun X h1 h2 h3 F hr hk hQ => body X h1 h2 h3 F ?_)
  intro r τ pc lv2 hq hd H locs ls hP hS hl
  subst h2 h3
  rw [hQ]
  exact W.lret F.1.1 F.1.2.1 hr (fun t ht hW => ⟨⟨r, τ, rfl, hq, by show va_P _ _ _ t.heap; rw [ht]; exact hP⟩, hS.F ht⟩) hS.2.2 hd hk
theorem mt_v {Q : wS → Prop} (hy : plainName y.cls = true) (hw : ws = Cond.code y cc nL none :: ws') (hown : y.cls = own) (hA : adO g A) (hlen : (lg_sl av).length ≤ nL) (hlv : lv_args 0 av = lv)
    (body : ∀ X : XT, xl X = l → xg X = g → xA X = A → Fx X cc nL own ws fr lo → Rv X nL cc Q → Wx X nL σ 0 lv []) : Mv l y ws fr lo g A av σ Q := by
  refine mt_0 (ret := none) hy hw hown hA hlen hlv (fun X h1 h2 h3 F hr hk hQ => body X h1 h2 h3 F ?_)
  intro τ pc lv2 hq hd H locs ls hP hS hl
  subst h2 h3
  rw [hQ]
  exact W.vret F.1.1 F.1.2.1 hr (fun t ht hW => ⟨⟨τ, rfl, hq, by show va_P _ _ _ t.heap; rw [ht]; exact hP⟩, hS.F ht⟩) hS.2.2 hd hk
theorem mt_r {rt : FieldType} {d : Nat} {Q : wS → Prop} (hrt : (∃ n, rt = .object n) ∨ ∃ t, rt = .array t) (hy : plainName y.cls = true) (hw : ws = Cond.code y cc nL (some rt) :: ws') (hown : y.cls = own) (hA : adO g A) (hlen : (lg_sl av).length ≤ nL) (hlv : lv_args 0 av = lv)
    (body : ∀ X : XT, xl X = l → xg X = g → xA X = A → Fx X cc nL own ws fr lo → Rr X nL cc d Q → Wx X nL σ 0 lv []) : Mr l y ws fr lo g A av σ d Q := by
  refine mt_0 (ret := some rt) hy hw hown hA hlen hlv (fun X h1 h2 h3 F hr hk hQ => body X h1 h2 h3 F ?_)
  intro τ pc lv2 hq hd H locs ls hP hS hl
  subst h2 h3
  rw [hQ]
  exact W.aret F.1.1 F.1.2.1 hr hrt (Or.inr ⟨_, rfl⟩) (fun t ht hW => ⟨⟨τ, _, rfl, hq, rfl, by show va_P _ _ _ t.heap; rw [ht]; exact hP⟩, hS.F ht⟩) hS.2.2 hd hk
end XM
