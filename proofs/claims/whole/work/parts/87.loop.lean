/-! the law's rope in its loop; the loop; its end -/
theorem bw_27_16 : Cond.methodLink RL 47 yX12_rope ∈ wsL_law := bc_27 (List.Mem.tail _ (List.Mem.tail _ (List.Mem.tail _ (List.Mem.tail _ (List.Mem.tail _ (List.Mem.tail _ (List.Mem.tail _ (List.Mem.tail _ (List.Mem.tail _ (List.Mem.tail _ (List.Mem.tail _ (List.Mem.tail _ (List.Mem.tail _ (List.Mem.tail _ (List.Mem.tail _ (List.Mem.tail _ (List.Mem.head _)))))))))))))))))
theorem bw_27_17 : Cond.instanceMethod yX12_rope ∈ wsL_law := bc_27 (List.Mem.tail _ (List.Mem.tail _ (List.Mem.tail _ (List.Mem.tail _ (List.Mem.tail _ (List.Mem.tail _ (List.Mem.tail _ (List.Mem.tail _ (List.Mem.tail _ (List.Mem.tail _ (List.Mem.tail _ (List.Mem.tail _ (List.Mem.tail _ (List.Mem.tail _ (List.Mem.tail _ (List.Mem.tail _ (List.Mem.tail _ (List.Mem.head _))))))))))))))))))
theorem bw_27_18 : Cond.selects RX12 yX12_rope yX12_rope ∈ wsL_law := bc_27 (List.Mem.tail _ (List.Mem.tail _ (List.Mem.tail _ (List.Mem.tail _ (List.Mem.tail _ (List.Mem.tail _ (List.Mem.tail _ (List.Mem.tail _ (List.Mem.tail _ (List.Mem.tail _ (List.Mem.tail _ (List.Mem.tail _ (List.Mem.tail _ (List.Mem.tail _ (List.Mem.tail _ (List.Mem.tail _ (List.Mem.tail _ (List.Mem.tail _ (List.Mem.head _)))))))))))))))))))
theorem bw_27_19 : Cond.code yX12_rope cX12_rope 3 (some .int) ∈ wsL_law := bc_27 (List.Mem.tail _ (List.Mem.tail _ (List.Mem.tail _ (List.Mem.tail _ (List.Mem.tail _ (List.Mem.tail _ (List.Mem.tail _ (List.Mem.tail _ (List.Mem.tail _ (List.Mem.tail _ (List.Mem.tail _ (List.Mem.tail _ (List.Mem.tail _ (List.Mem.tail _ (List.Mem.tail _ (List.Mem.tail _ (List.Mem.tail _ (List.Mem.tail _ (List.Mem.tail _ (List.Mem.head _))))))))))))))))))))
theorem bw_28_1 : Cond.methodLink RL 48 yX12_thrown ∈ wsL_law := bc_28 (List.Mem.tail _ (List.Mem.head _))
theorem bw_28_2 : Cond.instanceMethod yX12_thrown ∈ wsL_law := bc_28 (List.Mem.tail _ (List.Mem.tail _ (List.Mem.head _)))
theorem bw_28_3 : Cond.selects RX12 yX12_thrown yX12_thrown ∈ wsL_law := bc_28 (List.Mem.tail _ (List.Mem.tail _ (List.Mem.tail _ (List.Mem.head _))))
theorem bw_28_4 : Cond.code yX12_thrown cX12_thrown 1 (some .int) ∈ wsL_law := bc_28 (List.Mem.tail _ (List.Mem.tail _ (List.Mem.tail _ (List.Mem.tail _ (List.Mem.head _)))))
/-! THE CLAIM OUT OF ONE WALK OF THE LAW'S BODY. Your part is whole_start (and what it stands on); all else here is the same for every law, but numbers. -/
def R_law : String := "MooringDeskLaw"
def lw_P (b : Addr) (xs : List Int32) (args : Array Value) (s : State) : Prop := args = #[.ref b] ∧ s.IntsAt b xs ∧ xs.length ≤ 3072 ∧ (Jvm.Cond.and given_1 narrow_1).before args s = true
def lw_Q (_ : Array Value) (s : State) (o : Outcome) (t : State) : Prop := o = .returned (some (.int 1)) ∧ Framed s o t [] 601024 7293034
def lw_Z (below : List Frame) (a : Array Value) (s : State) : State → Prop := fun t => ∃ o, t.status = .running ∧ Ended t below o ∧ lw_Q a s o t
/-- the law's own end, with 1 on the stack, nothing written that was there before, its room as the claim has it -/
theorem lw_ret {p : Program} {l : Launch} {e : Env} {s : State} {m : MethodId} {below : List Frame} {meth : Method} {c : Code} {b : Nat} (hx : p.tables.exec = Jvm.exec) (hb : c.code = code) (hr : meth.sig.returnType = ret) (hlocks : meth.locks = false) {pc : Nat} {H : Heap} {ls : Array Slot} (hdg : decode code pc = .ok (.ireturn, 1)) : W p l e room_1 s m #[Value.ref b] below meth c H [] 601024 7293034 (lw_Z below #[Value.ref b] s) (F0 m pc ls [.int 1]) := by
  intro T hT X
  obtain ⟨fs, hret, hrun, hended, hW, hframe⟩ := X.leave (v := some (.int 1)) (hlocks := hlocks) (fun h => by rw [hr] at h; cases h)
  have hmeth' : T.vm.method? m = some meth := X.method'
  refine ⟨T.setFrames fs, ?_, .returned (some (.int 1)), hrun, hended, rfl, ⟨_, rfl⟩, hW, hframe⟩
  jvm_step X.here [X.here.top, hx, hb, hdg, hmeth', hr, ret, narrow_b1]
  (try refine ⟨rfl, ?_⟩); (try refine ⟨rfl, ?_⟩)
  first | (intro acts; rw [hret _ acts rfl rfl rfl]) | rw [hret _ _ rfl rfl rfl]
  exact Steps.refl _
/-- what holds at the law's entry: the machine, the code, the tables' words (any of lw_tbl by 'hts w (by decide +kernel)'), the script of L ints xs at the cell b, what the Statement gives of the start (any of its parts by flat_of_before) -/
def lw_At (p : Program) (s : State) (m : MethodId) (meth : Method) (c : Code) (b L : Nat) (xs : Nat → Int32) : Prop :=
  p.tables.exec = Jvm.exec ∧ c.code = code ∧ meth.sig.returnType = ret ∧ c.maxLocals = 7 ∧ s.vm.findClass R_law = some m.cls ∧ (∀ w ∈ lw_tbl, w.before #[Value.ref b] s = true) ∧ va_X b L xs s s.heap ∧ b < s.heap.size ∧ meth.locks = false ∧ (Jvm.Cond.and given_1 narrow_1).before #[Value.ref b] s = true
def RQl (bd : Nat) (r w : Int32) (k : Int32) (s : wS) : Prop := w_X12_rope r w s (fun y s' => s'.1 176 0 = k ∧ (k = 0 → s'.2 199 0 = y.toInt64) ∧ In (bd + 40) s')
theorem o_ropeL {bd : Nat} {σ : wS} {r w : Int32} (hI : In bd σ) : w_X11_rope r w σ (fun x s => ∀ τ : wS, τ = upJ s 199 0 x.toInt64 → RQl bd r w 0 τ) (fun s => RQl bd r w 1 s) := by
  obtain ⟨γ, hC, hD, hg⟩ := hI
  by_cases h : rpe γ.2.1.1 r ∧ (0 ≤ w.toInt ∧ w.toInt ≤ 8)
  · refine sr_yes hg hC h.1 h.2 (fun τ ht => ?_)
    have e1 : τ.1 = σ.1 := by rw [ht]; rfl
    have C1 : C γ τ := hC.fd hg (fun i _ => by rw [e1])
    exact mr_yes hg (hD.eq e1) h.1 h.2 (fun s' D1 F1 z e => ⟨z, fun _ => by rw [e, ht, upJ_2, if_pos ⟨rfl, rfl⟩], γ, C1.fd hg F1, D1, hg.wk (by omega)⟩)
  · exact sr_no hg hC h (mr_no hg hD h (fun s' D1 F1 z => ⟨z, fun q => absurd q (by decide), γ, hC.fd hg F1, D1, hg.wk (by omega)⟩))
set_option maxRecDepth 100000 in
set_option maxHeartbeats 4000000 in
theorem x_callR {X : XT} {b i : Nat} {σ : wS} {p0 p1 : Int32} {Q : Int32 → wS → Prop} (F : Fx X cL_law 7 RL wvL 13 482) (hfl : (xl X).stackTraces = false) (hZ : Zt (xA X) (xs X) (xs X).heap) (h1 : xk X + 1 ≤ (xR X).cells) (h2 : xw X + 6 ≤ (xR X).slots) (h : w_X11_rope p0 p1 σ (fun r s => ∀ τ : wS, τ = upJ s 199 0 r.toInt64 → Q 0 τ) (fun s => Q 1 s)) (K : ∀ (r : Int32) (τ : wS), Q r τ → Wx (bump X) 7 τ 402 (LV X b i) [.int r]) : Wx X 7 σ 399 (LV X b i) [.ref (ad X 199), .int p1, .int p0, .ref (ad X 0)] := by
  intro H locs ls hP hS hl
  exact va_calli (vx_runSW (As := [.ref (ad X 0), .int p0, .int p1, .ref (ad X 199)]) (rest := []) F.1 (c_L_rope (xl X) hfl (xg X) (xA X) F.2.2.1 h) (vx_cwSW 4 F.1.2.2.2.2 (bw_S bw_26_13 bw_26_14 bw_26_15 bw_26_16) rfl rfl rfl cd_L_rope.2 ⟨Nat.le_trans (Nat.le_of_ble_eq_true rfl) F.2.2.2.1, Nat.le_trans (Nat.le_of_ble_eq_true rfl) F.2.2.2.2.1⟩) ⟨PcX.blind, fun U hU hW => PcX.of F hZ hP hS U hU hW⟩ rfl rfl hl.1 rfl (lv_room (Nat.le_of_ble_eq_true rfl)) dL_law_399 ⟨h1, h2⟩) hS (fun q _ h => h) (fun q h => h) (fun r τ t H1 locs1 ht hvm hw2 hB hz hk2 hS1 => K r τ hw2 H1 locs1 ls (by rw [ht] at hB; exact hB) hS1 hl)
set_option maxRecDepth 100000 in
set_option maxHeartbeats 4000000 in
theorem lc_rope {X : XT} {b L i bd : Nat} {sc : Nat → Int32} {σ : wS} (F : Fx X cL_law 7 RL wvL 13 482) (hfl : (xl X).stackTraces = false) (hZ : Zt (xA X) (xs X) (xs X).heap) (h1 : xk X + 1 ≤ (xR X).cells) (h2 : xw X + 6 ≤ (xR X).slots) (hX : Sx X b L sc) (hi : i + 6 ≤ L) (hL : L ≤ 3072) (hI : In bd σ) (K : ∀ τ : wS, In (bd + 40) τ → Wx (bump X) 7 τ 1608 (LV X b i) []) : Wx X 7 σ 385 (LV X b i) [] := by
  have F2 := F.bump h1 h2
  refine x_aload_n F dL_law_385 rfl 3 rfl ?_
  refine x_aload_n F dL_law_386 rfl 4 rfl ?_
  refine x_iload F dL_law_387 0 rfl ?_
  refine x_iconst (1 : Int32) F dL_law_389 (by decide) ?_
  refine x_iadd F dL_law_390 ?_
  refine x_sld (k := 1) F hX rfl (by omega) hL dL_law_391 ?_
  refine x_aload_n F dL_law_392 rfl 4 rfl ?_
  refine x_iload F dL_law_393 0 rfl ?_
  refine x_iconst (2 : Int32) F dL_law_395 (by decide) ?_
  refine x_iadd F dL_law_396 ?_
  refine x_sld (k := 2) F hX rfl (by omega) hL dL_law_397 ?_
  refine x_aload_n F dL_law_398 rfl 1 rfl ?_
  refine x_callR F hfl hZ h1 h2 (o_ropeL hI) (fun r5 τ h => ?_)
  refine x_istore (lv' := [(5, .int r5), (4, .int (nI i)), (3, .ref (ad X 199)), (2, .ref (ad X 176)), (1, .ref (ad X 0)), (0, .ref b)]) F2 dL_law_402 (by decide) rfl ?_
  refine x_aload_n F2 dL_law_404 rfl 3 rfl ?_
  refine x_aload_n F2 dL_law_405 rfl 5 rfl ?_
  refine x_iload F2 dL_law_406 1 rfl ?_
  refine x_iconst (1 : Int32) F2 dL_law_408 (by decide) ?_
  refine x_iadd F2 dL_law_409 ?_
  refine x_sld (k := 1) F2 hX rfl (by omega) hL dL_law_410 ?_
  refine x_aload_n F2 dL_law_411 rfl 5 rfl ?_
  refine x_iload F2 dL_law_412 1 rfl ?_
  refine x_iconst (2 : Int32) F2 dL_law_414 (by decide) ?_
  refine x_iadd F2 dL_law_415 ?_
  refine x_sld (k := 2) F2 hX rfl (by omega) hL dL_law_416 ?_
  refine x_callV_i F2 (c_X12_rope (xl X) (xg X) (xA X) F.2.2.1 h) (bw_V bw_27_16 bw_27_17 bw_27_18 bw_1_5 bw_27_19) rfl cd_X12_rope (Nat.le_of_ble_eq_true rfl) (Nat.le_of_ble_eq_true rfl) (kd_w (by decide) kz_176) rfl (cl_12 kz_176) rfl rfl (Nat.le_of_ble_eq_true rfl) dL_law_417 (fun r6 s6 h6 => ?_)
  refine x_istore (lv' := [(6, .int r6), (5, .int r5), (4, .int (nI i)), (3, .ref (ad X 199)), (2, .ref (ad X 176)), (1, .ref (ad X 0)), (0, .ref b)]) F2 dL_law_420 (by decide) rfl ?_
  refine x_aload_n F2 dL_law_422 rfl 4 rfl ?_
  refine x_callV_i F2 (c_X12_thrown (xl X) (xg X) (xA X) F.2.2.1 (Q := fun r s => r = r5 ∧ (r5 = 0 → s.2 199 0 = r6.toInt64) ∧ In (bd + 40) s) h6) (bw_V bw_28_1 bw_28_2 bw_28_3 bw_1_5 bw_28_4) rfl cd_X12_thrown (Nat.le_of_ble_eq_true rfl) (Nat.le_of_ble_eq_true rfl) (kd_w (by decide) kz_176) rfl (cl_12 kz_176) rfl rfl (Nat.le_of_ble_eq_true rfl) dL_law_423 (fun r7 s7 h7 => ?_)
  refine x_iload F2 dL_law_426 1 rfl ?_
  refine x_icmp_eq (tgt := 433) F2 dL_law_428 (by decide) (fun _ => ?_) (fun c => absurd h7.1 c)
  have K2 : Wx (bump X) 7 s7 450 [(6, .int r6), (5, .int r5), (4, .int (nI i)), (3, .ref (ad X 199)), (2, .ref (ad X 176)), (1, .ref (ad X 0)), (0, .ref b)] [] := by
    refine x_goto (tgt := 1608) F2 dL_law_450 (by decide) ?_
    refine x_sub (lv' := LV X b i) [2, 3, 4, 5, 6] rfl ?_
    exact K s7 h7.2.2
  refine x_iload F2 dL_law_433 1 rfl ?_
  refine x_if_ne (tgt := 450) F2 dL_law_435 (by decide) (fun _ => K2) (fun c => ?_)
  have c0 : r5 = 0 := c
  refine x_aload_n F2 dL_law_438 rfl 3 rfl ?_
  refine x_iconst (0 : Int32) F2 dL_law_439 (by decide) ?_
  refine x_lald (i := 199) F2 kz_199 nz_199 (by unfold vp_in; decide) dL_law_440 ?_
  refine x_iload F2 dL_law_441 0 rfl ?_
  refine x_i2l F2 dL_law_443 ?_
  refine x_lcmp F2 dL_law_444 ?_
  refine x_if_eq (tgt := 450) F2 dL_law_445 (by decide) (fun _ => K2) (fun c2 => absurd ?_ c2)
  rw [show (0 : Int32).toNatClampNeg = 0 from rfl, h7.2.1 c0]
  exact lg_self _
theorem x_sld0 {X : XT} {cc : ByteArray} {nL : Nat} {own : String} {Ts : List Cond} {fr lo : Nat} {σ : wS} {pc : Nat} {lv : List (Nat × Value)} {st : List Value} {b L i : Nat} {sc : Nat → Int32} (F : Fx X cc nL own Ts fr lo) (hX : Sx X b L sc) (h : i < L) (hL : L ≤ 3072) (hd : decode cc pc = .ok (.iaload, 1)) (K : Wx X nL σ (pc + 1) lv (.int (sc i) :: st)) : Wx X nL σ pc lv (.int (nI i) :: .ref b :: st) := by
  intro H locs ls hP hS hl
  refine va_sld F.1.1 F.1.2.1 hX.1 hX.2.1 hX.2.2 hS (vp_in_nI (by omega) (by omega)) hd ?_
  rw [nI_clamp (by omega)]
  exact K H locs ls hP hS hl
def Ex (X : XT) (b L : Nat) (sc : Nat → Int32) : Prop := Sx X b L sc ∧ (xl X).stackTraces = false ∧ Zt (xA X) (xs X) (xs X).heap ∧ xR X = room_1 ∧ xQ X = lw_Z (xb X) #[Value.ref b] (xs X) ∧ xa X = #[Value.ref b] ∧ (xh X).sig.returnType = ret ∧ (xh X).locks = false ∧ ∀ q, xA X q → (xs X).heap.size ≤ q
theorem Ex.bump {X : XT} {b L : Nat} {sc : Nat → Int32} (h : Ex X b L sc) : Ex (bump X) b L sc := h
theorem In.wk {bd : Nat} {σ : wS} (h : In bd σ) : In (bd + 40) σ := by
  obtain ⟨γ, h1, h2, h3⟩ := h
  exact ⟨γ, h1, h2, h3.wk (by omega)⟩
theorem law_end {X : XT} {b L : Nat} {sc : Nat → Int32} {σ : wS} {lv : List (Nat × Value)} (F : Fx X cL_law 7 RL wvL 13 482) (hE : Ex X b L sc) (hk : xk X ≤ 601024) (hw : xw X ≤ 7293034) : Wx X 7 σ 1614 lv [] := by
  refine x_iconst (1 : Int32) F dL_law_1614 (by decide) ?_
  intro H locs ls hP hS hl
  obtain ⟨-, -, -, hR, hQ, ha, hr, hlk, hA⟩ := hE
  rw [hR, hQ, ha]
  refine va_forget (fun q hq => hA _ (hS.2.2 q hq)) ?_
  refine W.widen (k := 601024) (n := 7293034) hk hw ?_
  exact lw_ret F.1.1 F.1.2.1 hr hlk dL_law_1615
theorem sw39 {x : Int32} (h : ∀ k : Nat, k < 39 → ¬ x = nI k) : x.toInt < 0 ∨ 38 < x.toInt := sw_out (fun z h1 h2 hz => h z.toNat (by omega) (by rw [iI_n, show ((z.toNat : Nat) : Int) = z by omega, ← hz, ii]))
set_option maxRecDepth 100000 in
set_option maxHeartbeats 8000000 in
theorem law_turn {X : XT} {b L i bd : Nat} {sc : Nat → Int32} {σ : wS} (hL : L ≤ 3072) (F : Fx X cL_law 7 RL wvL 13 482) (hE : Ex X b L sc) (hi : i + 6 ≤ L) (h60 : 60 ≤ bd) (hb2 : bd + 40 < 2 ^ 30) (hk1 : xk X + 1 ≤ 601024) (hw1 : xw X + 6 ≤ 7293034) (hI : In bd σ) (KB : ∀ τ : wS, In (bd + 40) τ → Wx (bump X) 7 τ 1608 (LV X b i) []) : Wx X 7 σ 33 (LV X b i) [] := by
  have hb : bd < 2 ^ 30 := by omega
  have K : ∀ τ : wS, In (bd + 40) τ → Wx X 7 τ 1608 (LV X b i) [] := fun τ h => Wx.wide (KB τ h)
  refine x_aload_n F dL_law_33 rfl 4 rfl ?_
  refine x_iload F dL_law_34 0 rfl ?_
  refine x_sld0 F hE.1 (by omega) hL dL_law_36 ?_
  refine x_bipush (63 : Int32) F dL_law_37 (by decide) ?_
  refine x_iand F dL_law_39 ?_
  refine x_topi (fun x ex => ?_)
  by_cases c0 : x = (0 : Int32)
  · refine x_tin (off := 172) (tgt := 212) F dL_law_40 (by rw [c0]; decide) (by rw [c0]; decide) (by rw [c0]; rfl) (by decide) ?_
    exact lc_feed F hE.1 hi hL h60 hb hb2 hI K
  by_cases c1 : x = (1 : Int32)
  · refine x_tin (off := 245) (tgt := 285) F dL_law_40 (by rw [c1]; decide) (by rw [c1]; decide) (by rw [c1]; rfl) (by decide) ?_
    exact lc_end F hE.1 hi hL h60 hb hb2 hI K
  by_cases c2 : x = (2 : Int32)
  · refine x_tin (off := 270) (tgt := 310) F dL_law_40 (by rw [c2]; decide) (by rw [c2]; decide) (by rw [c2]; rfl) (by decide) ?_
    exact lc_fault F hE.1 hi hL h60 hb hb2 hI K
  by_cases c3 : x = (3 : Int32)
  · refine x_tin (off := 295) (tgt := 335) F dL_law_40 (by rw [c3]; decide) (by rw [c3]; decide) (by rw [c3]; rfl) (by decide) ?_
    exact lc_text F hE.1 hi hL h60 hb hb2 hI K
  by_cases c4 : x = (4 : Int32)
  · refine x_tin (off := 320) (tgt := 360) F dL_law_40 (by rw [c4]; decide) (by rw [c4]; decide) (by rw [c4]; rfl) (by decide) ?_
    exact lc_rule F hE.1 hi hL h60 hb hb2 hI K
  by_cases c5 : x = (5 : Int32)
  · refine x_tin (off := 345) (tgt := 385) F dL_law_40 (by rw [c5]; decide) (by rw [c5]; decide) (by rw [c5]; rfl) (by decide) ?_
    exact lc_rope F hE.2.1 hE.2.2.1 (by rw [hE.2.2.2.1]; exact hk1) (by rw [hE.2.2.2.1]; exact hw1) hE.1 hi hL hI KB
  by_cases c6 : x = (6 : Int32)
  · refine x_tin (off := 413) (tgt := 453) F dL_law_40 (by rw [c6]; decide) (by rw [c6]; decide) (by rw [c6]; rfl) (by decide) ?_
    exact lc_pull F hE.1 hi hL h60 hb hb2 hI K
  by_cases c7 : x = (7 : Int32)
  · refine x_tin (off := 451) (tgt := 491) F dL_law_40 (by rw [c7]; decide) (by rw [c7]; decide) (by rw [c7]; rfl) (by decide) ?_
    exact lc_shift F hE.1 hi hL h60 hb hb2 hI K
  by_cases c8 : x = (8 : Int32)
  · refine x_tin (off := 489) (tgt := 529) F dL_law_40 (by rw [c8]; decide) (by rw [c8]; decide) (by rw [c8]; rfl) (by decide) ?_
    exact lc_held F hE.1 hi hL h60 hb hb2 hI K
  by_cases c9 : x = (9 : Int32)
  · refine x_tin (off := 527) (tgt := 567) F dL_law_40 (by rw [c9]; decide) (by rw [c9]; decide) (by rw [c9]; rfl) (by decide) ?_
    exact lc_load F hE.1 hi hL h60 hb hb2 hI K
  by_cases c10 : x = (10 : Int32)
  · refine x_tin (off := 565) (tgt := 605) F dL_law_40 (by rw [c10]; decide) (by rw [c10]; decide) (by rw [c10]; rfl) (by decide) ?_
    exact lc_worst F hE.1 hi hL h60 hb hb2 hI K
  by_cases c11 : x = (11 : Int32)
  · refine x_tin (off := 578) (tgt := 618) F dL_law_40 (by rw [c11]; decide) (by rw [c11]; decide) (by rw [c11]; rfl) (by decide) ?_
    exact lc_wind F hE.1 hi hL h60 hb hb2 hI K
  by_cases c12 : x = (12 : Int32)
  · refine x_tin (off := 627) (tgt := 667) F dL_law_40 (by rw [c12]; decide) (by rw [c12]; decide) (by rw [c12]; rfl) (by decide) ?_
    exact lc_winch F hE.1 hi hL h60 hb hb2 hI K
  by_cases c13 : x = (13 : Int32)
  · refine x_tin (off := 664) (tgt := 704) F dL_law_40 (by rw [c13]; decide) (by rw [c13]; decide) (by rw [c13]; rfl) (by decide) ?_
    exact lc_cast F hE.1 hi hL h60 hb hb2 hI K
  by_cases c14 : x = (14 : Int32)
  · refine x_tin (off := 689) (tgt := 729) F dL_law_40 (by rw [c14]; decide) (by rw [c14]; decide) (by rw [c14]; rfl) (by decide) ?_
    exact lc_renew F hE.1 hi hL h60 hb hb2 hI K
  by_cases c15 : x = (15 : Int32)
  · refine x_tin (off := 714) (tgt := 754) F dL_law_40 (by rw [c15]; decide) (by rw [c15]; decide) (by rw [c15]; rfl) (by decide) ?_
    exact lc_status F hE.1 hi hL h60 hb hb2 hI K
  by_cases c16 : x = (16 : Int32)
  · refine x_tin (off := 739) (tgt := 779) F dL_law_40 (by rw [c16]; decide) (by rw [c16]; decide) (by rw [c16]; rfl) (by decide) ?_
    exact lc_cause F hE.1 hi hL h60 hb hb2 hI K
  by_cases c17 : x = (17 : Int32)
  · refine x_tin (off := 764) (tgt := 804) F dL_law_40 (by rw [c17]; decide) (by rw [c17]; decide) (by rw [c17]; rfl) (by decide) ?_
    exact lc_undo F hE.1 hi hL h60 hb hb2 hI K
  by_cases c18 : x = (18 : Int32)
  · refine x_tin (off := 777) (tgt := 817) F dL_law_40 (by rw [c18]; decide) (by rw [c18]; decide) (by rw [c18]; rfl) (by decide) ?_
    exact lc_log F hE.1 hi hL h60 hb hb2 hI K
  by_cases c19 : x = (19 : Int32)
  · refine x_tin (off := 814) (tgt := 854) F dL_law_40 (by rw [c19]; decide) (by rw [c19]; decide) (by rw [c19]; rfl) (by decide) ?_
    exact lc_step F hE.1 hi hL h60 hb hb2 hI K
  by_cases c20 : x = (20 : Int32)
  · refine x_tin (off := 863) (tgt := 903) F dL_law_40 (by rw [c20]; decide) (by rw [c20]; decide) (by rw [c20]; rfl) (by decide) ?_
    exact lc_run F hE.1 hi hL h60 hb hb2 hI K
  by_cases c21 : x = (21 : Int32)
  · refine x_tin (off := 900) (tgt := 940) F dL_law_40 (by rw [c21]; decide) (by rw [c21]; decide) (by rw [c21]; rfl) (by decide) ?_
    exact lc_perform F hE.1 hi hL h60 hb hb2 hI K
  by_cases c22 : x = (22 : Int32)
  · refine x_tin (off := 925) (tgt := 965) F dL_law_40 (by rw [c22]; decide) (by rw [c22]; decide) (by rw [c22]; rfl) (by decide) ?_
    exact lc_stand F hE.1 hi hL h60 hb hb2 hI K
  by_cases c23 : x = (23 : Int32)
  · refine x_tin (off := 986) (tgt := 1026) F dL_law_40 (by rw [c23]; decide) (by rw [c23]; decide) (by rw [c23]; rfl) (by decide) ?_
    exact lc_fall F hE.1 hi hL h60 hb hb2 hI K
  by_cases c24 : x = (24 : Int32)
  · refine x_tin (off := 1059) (tgt := 1099) F dL_law_40 (by rw [c24]; decide) (by rw [c24]; decide) (by rw [c24]; rfl) (by decide) ?_
    exact lc_ease F hE.1 hi hL h60 hb hb2 hI K
  by_cases c25 : x = (25 : Int32)
  · refine x_tin (off := 1084) (tgt := 1124) F dL_law_40 (by rw [c25]; decide) (by rw [c25]; decide) (by rw [c25]; rfl) (by decide) ?_
    exact lc_range F hE.1 hi hL h60 hb hb2 hI K
  by_cases c26 : x = (26 : Int32)
  · refine x_tin (off := 1137) (tgt := 1177) F dL_law_40 (by rw [c26]; decide) (by rw [c26]; decide) (by rw [c26]; rfl) (by decide) ?_
    exact lc_uneven F hE.1 hi hL h60 hb hb2 hI K
  by_cases c27 : x = (27 : Int32)
  · refine x_tin (off := 1163) (tgt := 1203) F dL_law_40 (by rw [c27]; decide) (by rw [c27]; decide) (by rw [c27]; rfl) (by decide) ?_
    exact lc_accord F hE.1 hi hL h60 hb hb2 hI K
  by_cases c28 : x = (28 : Int32)
  · refine x_tin (off := 1200) (tgt := 1240) F dL_law_40 (by rw [c28]; decide) (by rw [c28]; decide) (by rw [c28]; rfl) (by decide) ?_
    exact lc_trim F hE.1 hi hL h60 hb hb2 hI K
  by_cases c29 : x = (29 : Int32)
  · refine x_tin (off := 1238) (tgt := 1278) F dL_law_40 (by rw [c29]; decide) (by rw [c29]; decide) (by rw [c29]; rfl) (by decide) ?_
    exact lc_fewest F hE.1 hi hL h60 hb hb2 hI K
  by_cases c30 : x = (30 : Int32)
  · refine x_tin (off := 1263) (tgt := 1303) F dL_law_40 (by rw [c30]; decide) (by rw [c30]; decide) (by rw [c30]; rfl) (by decide) ?_
    exact lc_without F hE.1 hi hL h60 hb hb2 hI K
  by_cases c31 : x = (31 : Int32)
  · refine x_tin (off := 1300) (tgt := 1340) F dL_law_40 (by rw [c31]; decide) (by rw [c31]; decide) (by rw [c31]; rfl) (by decide) ?_
    exact lc_key F hE.1 hi hL h60 hb hb2 hI K
  by_cases c32 : x = (32 : Int32)
  · refine x_tin (off := 1313) (tgt := 1353) F dL_law_40 (by rw [c32]; decide) (by rw [c32]; decide) (by rw [c32]; rfl) (by decide) ?_
    exact lc_odds F hE.1 hi hL h60 hb hb2 hI K
  by_cases c33 : x = (33 : Int32)
  · refine x_tin (off := 1386) (tgt := 1426) F dL_law_40 (by rw [c33]; decide) (by rw [c33]; decide) (by rw [c33]; rfl) (by decide) ?_
    exact lc_shares F hE.1 hi hL h60 hb hb2 hI K
  by_cases c34 : x = (34 : Int32)
  · refine x_tin (off := 1423) (tgt := 1463) F dL_law_40 (by rw [c34]; decide) (by rw [c34]; decide) (by rw [c34]; rfl) (by decide) ?_
    exact lc_years F hE.1 hi hL h60 hb hb2 hI K
  by_cases c35 : x = (35 : Int32)
  · refine x_tin (off := 1492) (tgt := 1532) F dL_law_40 (by rw [c35]; decide) (by rw [c35]; decide) (by rw [c35]; rfl) (by decide) ?_
    exact lc_most F hE.1 hi hL h60 hb hb2 hI K
  by_cases c36 : x = (36 : Int32)
  · refine x_tin (off := 1517) (tgt := 1557) F dL_law_40 (by rw [c36]; decide) (by rw [c36]; decide) (by rw [c36]; rfl) (by decide) ?_
    exact lc_image F hE.1 hi hL h60 hb hb2 hI K
  by_cases c37 : x = (37 : Int32)
  · refine x_tin (off := 1530) (tgt := 1570) F dL_law_40 (by rw [c37]; decide) (by rw [c37]; decide) (by rw [c37]; rfl) (by decide) ?_
    exact lc_back F hE.1 hi hL h60 hb hb2 hI K
  by_cases c38 : x = (38 : Int32)
  · refine x_tin (off := 1543) (tgt := 1583) F dL_law_40 (by rw [c38]; decide) (by rw [c38]; decide) (by rw [c38]; rfl) (by decide) ?_
    exact lc_count F hE.1 hi hL h60 hb hb2 hI K
  refine x_tout (tgt := 1608) F dL_law_40 (sw39 (fun k hk => match k, hk with | 0, _ => c0 | 1, _ => c1 | 2, _ => c2 | 3, _ => c3 | 4, _ => c4 | 5, _ => c5 | 6, _ => c6 | 7, _ => c7 | 8, _ => c8 | 9, _ => c9 | 10, _ => c10 | 11, _ => c11 | 12, _ => c12 | 13, _ => c13 | 14, _ => c14 | 15, _ => c15 | 16, _ => c16 | 17, _ => c17 | 18, _ => c18 | 19, _ => c19 | 20, _ => c20 | 21, _ => c21 | 22, _ => c22 | 23, _ => c23 | 24, _ => c24 | 25, _ => c25 | 26, _ => c26 | 27, _ => c27 | 28, _ => c28 | 29, _ => c29 | 30, _ => c30 | 31, _ => c31 | 32, _ => c32 | 33, _ => c33 | 34, _ => c34 | 35, _ => c35 | 36, _ => c36 | 37, _ => c37 | 38, _ => c38 | n + 39, h => absurd h (by omega))) (by decide) ?_
  exact K σ hI.wk
set_option maxRecDepth 100000 in
set_option maxHeartbeats 8000000 in
theorem law_loop {b L : Nat} {sc : Nat → Int32} (hL : L ≤ 3072) : ∀ (d i bd : Nat) (X : XT) (σ : wS), Fx X cL_law 7 RL wvL 13 482 → Ex X b L sc → L ≤ i + 6 * d → i ≤ L + 6 → 60 ≤ bd → bd + 40 * (d + 1) < 2 ^ 30 → xk X + d ≤ 601024 → xw X + 6 * d ≤ 7293034 → In bd σ → Wx X 7 σ 23 (LV X b i) [] := by
  intro d
  induction d with
  | zero =>
    intro i bd X σ F hE hf hi h60 hb hk hw hI
    refine x_iload F dL_law_23 0 rfl ?_
    refine x_aload_n F dL_law_25 rfl 4 rfl ?_
    refine x_slen F hE.1 dL_law_26 ?_
    refine x_bipush (6 : Int32) F dL_law_27 (by decide) ?_
    refine x_isub F dL_law_29 ?_
    refine x_icmp_gt (tgt := 1614) F dL_law_30 (by decide) (fun _ => law_end F hE (by omega) (by omega)) (fun c => absurd ?_ c)
    rw [iI_n, iI_n, show (6 : Int32) = iI 6 by decide, iI_sub, iI_lt (by omega) (by omega)]
    omega
  | succ d ih =>
    intro i bd X σ F hE hf hi h60 hb hk hw hI
    refine x_iload F dL_law_23 0 rfl ?_
    refine x_aload_n F dL_law_25 rfl 4 rfl ?_
    refine x_slen F hE.1 dL_law_26 ?_
    refine x_bipush (6 : Int32) F dL_law_27 (by decide) ?_
    refine x_isub F dL_law_29 ?_
    refine x_icmp_gt (tgt := 1614) F dL_law_30 (by decide) (fun _ => law_end F hE (by omega) (by omega)) (fun c => ?_)
    rw [iI_n, iI_n, show (6 : Int32) = iI 6 by decide, iI_sub, iI_lt (by omega) (by omega)] at c
    have hR := hE.2.2.2.1
    have F2 : Fx (bump X) cL_law 7 RL wvL 13 482 := F.bump (by rw [hR]; show xk X + 1 ≤ 601024; omega) (by rw [hR]; show xw X + 6 ≤ 7293034; omega)
    refine law_turn hL F hE (by omega) h60 (by omega) (by omega) (by omega) hI (fun τ hτ => ?_)
    refine x_iinc (q := 0) (v := nI (i + 6)) (lv' := LV X b (i + 6)) F2 dL_law_1608 rfl (by rw [← nI_plus]; rfl) (by decide) rfl ?_
    refine x_goto (tgt := 23) F2 dL_law_1611 (by decide) ?_
    exact ih (i + 6) (bd + 40) (bump X) τ F2 hE.bump (by omega) (by omega) (by omega) (by omega) (by show xk X + 1 + d ≤ 601024; omega) (by show xw X + 6 + 6 * d ≤ 7293034; omega) hτ
