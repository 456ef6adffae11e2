/-! MooringDesk.rope, which throws; the law's rope, which catches it -/
theorem bw_26_13 : Cond.methodLink RL 42 yL_rope ∈ wsL_law := bc_26 (List.Mem.tail _ (List.Mem.tail _ (List.Mem.tail _ (List.Mem.tail _ (List.Mem.tail _ (List.Mem.tail _ (List.Mem.tail _ (List.Mem.tail _ (List.Mem.tail _ (List.Mem.tail _ (List.Mem.tail _ (List.Mem.tail _ (List.Mem.tail _ (List.Mem.head _))))))))))))))
theorem bw_26_14 : Cond.static yL_rope ∈ wsL_law := bc_26 (List.Mem.tail _ (List.Mem.tail _ (List.Mem.tail _ (List.Mem.tail _ (List.Mem.tail _ (List.Mem.tail _ (List.Mem.tail _ (List.Mem.tail _ (List.Mem.tail _ (List.Mem.tail _ (List.Mem.tail _ (List.Mem.tail _ (List.Mem.tail _ (List.Mem.tail _ (List.Mem.head _)))))))))))))))
theorem bw_26_15 : Cond.initialized RL ∈ wsL_law := bc_26 (List.Mem.tail _ (List.Mem.tail _ (List.Mem.tail _ (List.Mem.tail _ (List.Mem.tail _ (List.Mem.tail _ (List.Mem.tail _ (List.Mem.tail _ (List.Mem.tail _ (List.Mem.tail _ (List.Mem.tail _ (List.Mem.tail _ (List.Mem.tail _ (List.Mem.tail _ (List.Mem.tail _ (List.Mem.head _))))))))))))))))
theorem bw_26_16 : Cond.codeWith yL_rope cL_rope 5 (some .int) [(0, 10, 13, 13)] ∈ wsL_law := bc_26 (List.Mem.tail _ (List.Mem.tail _ (List.Mem.tail _ (List.Mem.tail _ (List.Mem.tail _ (List.Mem.tail _ (List.Mem.tail _ (List.Mem.tail _ (List.Mem.tail _ (List.Mem.tail _ (List.Mem.tail _ (List.Mem.tail _ (List.Mem.tail _ (List.Mem.tail _ (List.Mem.tail _ (List.Mem.tail _ (List.Mem.head _)))))))))))))))))
theorem bw_26_17 : Cond.classLink RL 13 "java/util/NoSuchElementException" ∈ wsL_law := bc_26 (List.Mem.tail _ (List.Mem.tail _ (List.Mem.tail _ (List.Mem.tail _ (List.Mem.tail _ (List.Mem.tail _ (List.Mem.tail _ (List.Mem.tail _ (List.Mem.tail _ (List.Mem.tail _ (List.Mem.tail _ (List.Mem.tail _ (List.Mem.tail _ (List.Mem.tail _ (List.Mem.tail _ (List.Mem.tail _ (List.Mem.tail _ (List.Mem.head _))))))))))))))))))
theorem bw_26_18 : Cond.methodLink RL 7 yX11_rope ∈ wsL_law := bc_26 (List.Mem.tail _ (List.Mem.tail _ (List.Mem.tail _ (List.Mem.tail _ (List.Mem.tail _ (List.Mem.tail _ (List.Mem.tail _ (List.Mem.tail _ (List.Mem.tail _ (List.Mem.tail _ (List.Mem.tail _ (List.Mem.tail _ (List.Mem.tail _ (List.Mem.tail _ (List.Mem.tail _ (List.Mem.tail _ (List.Mem.tail _ (List.Mem.tail _ (List.Mem.head _)))))))))))))))))))
theorem bw_26_19 : Cond.instanceMethod yX11_rope ∈ wsL_law := bc_26 (List.Mem.tail _ (List.Mem.tail _ (List.Mem.tail _ (List.Mem.tail _ (List.Mem.tail _ (List.Mem.tail _ (List.Mem.tail _ (List.Mem.tail _ (List.Mem.tail _ (List.Mem.tail _ (List.Mem.tail _ (List.Mem.tail _ (List.Mem.tail _ (List.Mem.tail _ (List.Mem.tail _ (List.Mem.tail _ (List.Mem.tail _ (List.Mem.tail _ (List.Mem.tail _ (List.Mem.head _))))))))))))))))))))
theorem bw_26_20 : Cond.selects RX11 yX11_rope yX11_rope ∈ wsL_law := bc_26 (List.Mem.tail _ (List.Mem.tail _ (List.Mem.tail _ (List.Mem.tail _ (List.Mem.tail _ (List.Mem.tail _ (List.Mem.tail _ (List.Mem.tail _ (List.Mem.tail _ (List.Mem.tail _ (List.Mem.tail _ (List.Mem.tail _ (List.Mem.tail _ (List.Mem.tail _ (List.Mem.tail _ (List.Mem.tail _ (List.Mem.tail _ (List.Mem.tail _ (List.Mem.tail _ (List.Mem.tail _ (List.Mem.head _)))))))))))))))))))))
theorem bw_26_21 : Cond.code yX11_rope cX11_rope 3 (some .int) ∈ wsL_law := bc_26 (List.Mem.tail _ (List.Mem.tail _ (List.Mem.tail _ (List.Mem.tail _ (List.Mem.tail _ (List.Mem.tail _ (List.Mem.tail _ (List.Mem.tail _ (List.Mem.tail _ (List.Mem.tail _ (List.Mem.tail _ (List.Mem.tail _ (List.Mem.tail _ (List.Mem.tail _ (List.Mem.tail _ (List.Mem.tail _ (List.Mem.tail _ (List.Mem.tail _ (List.Mem.tail _ (List.Mem.tail _ (List.Mem.tail _ (List.Mem.head _))))))))))))))))))))))
theorem bw_26_22 : Cond.classLink RX11 194 "java/util/NoSuchElementException" ∈ wsL_law := bc_26 (List.Mem.tail _ (List.Mem.tail _ (List.Mem.tail _ (List.Mem.tail _ (List.Mem.tail _ (List.Mem.tail _ (List.Mem.tail _ (List.Mem.tail _ (List.Mem.tail _ (List.Mem.tail _ (List.Mem.tail _ (List.Mem.tail _ (List.Mem.tail _ (List.Mem.tail _ (List.Mem.tail _ (List.Mem.tail _ (List.Mem.tail _ (List.Mem.tail _ (List.Mem.tail _ (List.Mem.tail _ (List.Mem.tail _ (List.Mem.tail _ (List.Mem.head _)))))))))))))))))))))))
theorem bw_26_23 : Cond.initialized "java/util/NoSuchElementException" ∈ wsL_law := bc_26 (List.Mem.tail _ (List.Mem.tail _ (List.Mem.tail _ (List.Mem.tail _ (List.Mem.tail _ (List.Mem.tail _ (List.Mem.tail _ (List.Mem.tail _ (List.Mem.tail _ (List.Mem.tail _ (List.Mem.tail _ (List.Mem.tail _ (List.Mem.tail _ (List.Mem.tail _ (List.Mem.tail _ (List.Mem.tail _ (List.Mem.tail _ (List.Mem.tail _ (List.Mem.tail _ (List.Mem.tail _ (List.Mem.tail _ (List.Mem.tail _ (List.Mem.tail _ (List.Mem.head _))))))))))))))))))))))))
theorem bw_27_0 : Cond.fieldLink RX11 197 "MooringDesk$Mooring" "ways" "[I" ∈ wsL_law := bc_27 (List.Mem.head _)
theorem bw_27_2 : Cond.fieldLink RX11 203 "MooringDesk$Hold" "laid" "[I" ∈ wsL_law := bc_27 (List.Mem.tail _ (List.Mem.tail _ (List.Mem.head _)))
theorem bw_27_15 : Cond.methodLink RX11 206 yX5_itemOf ∈ wsL_law := bc_27 (List.Mem.tail _ (List.Mem.tail _ (List.Mem.tail _ (List.Mem.tail _ (List.Mem.tail _ (List.Mem.tail _ (List.Mem.tail _ (List.Mem.tail _ (List.Mem.tail _ (List.Mem.tail _ (List.Mem.tail _ (List.Mem.tail _ (List.Mem.tail _ (List.Mem.tail _ (List.Mem.tail _ (List.Mem.head _))))))))))))))))
abbrev NSE : String := "java/util/NoSuchElementException"
abbrev nse : List String := ["java/lang/RuntimeException", "java/lang/Exception"]
def nsb : List Cond := [.declares ⟨"java/lang/RuntimeException", "<init>", "()V"⟩, .declares ⟨"java/lang/Exception", "<init>", "()V"⟩, .declares ⟨"java/lang/Throwable", "<init>", "()V"⟩, .castable NSE NSE]
theorem nse_bad : ∀ w ∈ (vx_at0 RX11 196 NSE nse).filter (fun w => !goodWord w), w ∈ nsb := by decide +kernel
def Nb (U : State) : Prop := va_Nw (.declares ⟨"java/lang/RuntimeException", "<init>", "()V"⟩) U ∧ va_Nw (.declares ⟨"java/lang/Exception", "<init>", "()V"⟩) U ∧ va_Nw (.declares ⟨"java/lang/Throwable", "<init>", "()V"⟩) U ∧ va_Nw (.castable NSE NSE) U
theorem Nb.use {U : State} {args : Array Value} (h : Nb U) : ∀ w ∈ nsb, w.before args U = true := vx_c (va_Nw.use rfl h.1) (vx_c (va_Nw.use rfl h.2.1) (vx_c (va_Nw.use rfl h.2.2.1) (vx_c (va_Nw.use rfl h.2.2.2) vx_n)))
theorem Nb.warm {s U : State} (hW : s.WarmedH U.vm) (h : Nb s) : Nb U := ⟨va_Nw.warmD hW h.1, va_Nw.warmD hW h.2.1, va_Nw.warmD hW h.2.2.1, va_Nw.warmC hW h.2.2.2⟩
theorem Nb.same {U : State} (f : JFrame) (mk : MethodId) (a : Array Value) (h : Nb U) : Nb (U.calling f mk a) := ⟨va_Nw.same (u := U) (U := U.calling f mk a) rfl rfl h.1, va_Nw.same (u := U) (U := U.calling f mk a) rfl rfl h.2.1, va_Nw.same (u := U) (U := U.calling f mk a) rfl rfl h.2.2.1, va_Nw.same (u := U) (U := U.calling f mk a) rfl rfl h.2.2.2⟩
theorem nse_at {U : State} {args : Array Value} {c0 : Cond} (h : Nb U) (hts : ∀ w ∈ c0 :: wsL_law, w.before args U = true) : ∀ w ∈ vx_at0 RX11 196 NSE nse, w.before args U = true := vx_hat (fun w hw => hts w (mc (List.mem_append_right _ hw))) nse_bad h.use
theorem nse_ot : ∀ w ∈ Cond.classLink RX11 194 NSE :: Cond.initialized NSE :: vx_at0 RX11 196 NSE nse, vx_ot w = true := List.all_eq_true.mp (by decide +kernel : (Cond.classLink RX11 194 NSE :: Cond.initialized NSE :: vx_at0 RX11 196 NSE nse).all vx_ot = true)
def Zt (A : Nat → Prop) (U : State) (H : Heap) : Prop := vx_Zq Bundle.tN "UNASSIGNED_STACK" Bundle.steD A U H ∧ vx_Zq Bundle.tN "SUPPRESSED_SENTINEL" Bundle.listD A U H ∧ Nb U
theorem Zt.moved {A : Nat → Prop} {u U : State} {H : Heap} (hW : u.WarmedH U.vm) (h : Zt A u H) : Zt A U H := ⟨h.1.moved hW.alike, h.2.1.moved hW.alike, h.2.2.warm hW⟩
theorem Zt.kept {A : Nat → Prop} {U : State} {H H1 : Heap} (h : Zt A U H) (hq : ∀ a : Nat, a < H.size → ¬ A a → H1[a]? = H[a]?) : Zt A U H1 := ⟨h.1.kept hq, h.2.1.kept hq, h.2.2⟩
theorem Zt.call {A : Nat → Prop} {U : State} (f : JFrame) (mk : MethodId) (a : Array Value) (h : Zt A U U.heap) : Zt A (U.calling f mk a) (U.calling f mk a).heap := ⟨vx_Zq.moved (u := U) (U := U.calling f mk a) (Vm.Alike.refl U.vm) h.1, vx_Zq.moved (u := U) (U := U.calling f mk a) (Vm.Alike.refl U.vm) h.2.1, h.2.2.same f mk a⟩
def PcX (g : wG) (A : Nat → Prop) (av : List Value) (σ : wS) : Array Value → State → Prop := va_Pc av (fun U => va_P g.1 vwCl (wld g σ) U.heap ∧ Cg g A U U.heap ∧ Zt A U U.heap)
theorem PcX.blind {g : wG} {A : Nat → Prop} {av : List Value} {σ : wS} : FrameBlind (PcX g A av σ) := fun a U f mk h => ⟨h.1, h.2.1, h.2.2.1.call f mk a, h.2.2.2.call f mk a⟩
theorem PcX.of {X : XT} {cc : ByteArray} {nL : Nat} {own : String} {Ts : List Cond} {fr lo : Nat} {σ : wS} {H : Heap} {locs : List Loc} {av : List Value} (F : Fx X cc nL own Ts fr lo) (hZ : Zt (xA X) (xs X) (xs X).heap) (hP : va_P (xg X).1 vwCl (wld (xg X) σ) H) (hS : va_S (xA X) (xs X).heap H locs) (U : State) (hU : U.heap = H) (hW : (xs X).WarmedH U.vm) : PcX (xg X) (xA X) av σ av.toArray U := ⟨rfl, by rw [hU]; exact hP, Cg.mv F.2.2.1 F.2.1 hS hU hW, by rw [hU]; exact (hZ.kept hS.2.1).moved hW⟩
abbrev Qw (g : wG) (A : Nat → Prop) (Q : Int32 → wS → Prop) : Array Value → State → Outcome → State → Prop := va_Qi Q (fun τ t => va_P g.1 vwCl (wld g τ) t.heap) A
abbrev Xw (g : wG) (A : Nat → Prop) (T : wS → Prop) : String → State → State → Prop := vx_X T (fun E τ t => E = NSE ∧ va_P g.1 vwCl (wld g τ) t.heap) A
def Mx (l : Launch) (y : MethodName) (ws : List Cond) (fr lo : Nat) (g : wG) (A : Nat → Prop) (av : List Value) (σ : wS) (Q : Int32 → wS → Prop) (T : wS → Prop) : Prop := vx_Met l y ws { frames := fr, cells := 1, slots := 6, locals := lo } (PcX g A av σ) (Qw g A Q) (Xw g A T) 1 6 A
def My (l : Launch) (y : MethodName) (ws : List Cond) (fr lo : Nat) (g : wG) (A : Nat → Prop) (av : List Value) (σ : wS) (Q : Int32 → wS → Prop) : Prop := Met l y ws { frames := fr, cells := 1, slots := 6, locals := lo } (PcX g A av σ) (Qw g A Q) 1 6 A
abbrev wvX11_rope : List Cond := Cond.code yX11_rope cX11_rope 3 (some .int) :: wsL_law
abbrev wvL_rope : List Cond := Cond.codeWith yL_rope cL_rope 5 (some .int) [(0, 10, 13, 13)] :: wsL_law
theorem cd_X11_rope : okN yX11_rope RX11 2 := by unfold okN; decide +kernel
theorem cd_L_rope : okN yL_rope RL 4 := by unfold okN; decide +kernel
set_option maxRecDepth 100000 in
set_option maxHeartbeats 4000000 in
theorem wk_X11_rope {X : XT} {p0 p1 : Int32} {σ : wS} {Q : Int32 → wS → Prop} {T : wS → Prop} (F : Fx X cX11_rope 3 RX11 wvX11_rope 6 100) (hret : Ri X 3 cX11_rope .int Q) (hthr : ∀ (σ' : wS) (lv' : List (Nat × Value)), T σ' → Wx X 3 σ' 18 lv' []) (h : w_X11_rope p0 p1 σ Q T) : Wx X 3 σ 0 [(0, .ref (ad X 0)), (1, .int p0), (2, .int p1)] [] := by
  unfold w_X11_rope at h
  refine x_aload_n F dX11_rope_0 rfl 0 rfl ?_
  refine x_iload_n F dX11_rope_1 rfl 1 rfl ?_
  refine x_callV_i F (c_X11_isRope (xl X) (xg X) (xA X) F.2.2.1  h) (bw_V bw_27_3 bw_27_4 bw_27_5 bw_1_2 bw_27_6) rfl cd_X11_isRope (Nat.le_of_ble_eq_true rfl) (Nat.le_of_ble_eq_true rfl) (kd_w (by decide) kz_0) rfl (cl_11 kz_0) rfl rfl (Nat.le_of_ble_eq_true rfl) dX11_rope_2 (fun r2 s1 h => ?_)
  refine x_if_eq (tgt := 18) F dX11_rope_5 (by decide) (fun c => ?_) (fun c => ?_)
  · replace h := h.1 c
    exact hthr _ _ h
  · replace h := h.2 c
    refine x_iload_n F dX11_rope_8 rfl 2 rfl ?_
    refine x_iconst (0 : Int32) F dX11_rope_9 (by decide) ?_
    refine x_bipush (8 : Int32) F dX11_rope_10 (by decide) ?_
    refine x_callT_i F (c_X11_isWithin (xl X) (xg X) (xA X) F.2.2.1  h) (bw_S bw_26_5 bw_26_6 bw_1_2 bw_26_7) rfl cd_X11_isWithin (Nat.le_of_ble_eq_true rfl) (Nat.le_of_ble_eq_true rfl) rfl rfl (Nat.le_of_ble_eq_true rfl) dX11_rope_12 (fun r4 s3 h => ?_)
    refine x_if_ne (tgt := 26) F dX11_rope_15 (by decide) (fun c => ?_) (fun c => ?_)
    · replace h := h.1 c
      refine x_iload_n F dX11_rope_26 rfl 2 rfl ?_
      by_cases c5 : p1 = (5 : Int32)
      · replace h := h.1 c5
        refine x_tin (off := 29) (tgt := 56) F dX11_rope_27 (by rw [c5]; decide) (by rw [c5]; decide) (by rw [c5]; rfl) (by decide) ?_
        refine x_aload_n F dX11_rope_56 rfl 0 rfl ?_
        refine g_11_2 F kz_0 in_11 (mc bw_2_1) dX11_rope_57 ?_
        refine g_5_2 F (mo_kd _) in_5 (mc bw_27_0) dX11_rope_60 ?_
        refine x_iconst (3 : Int32) F dX11_rope_63 (by decide) ?_
        refine x_iload_n F dX11_rope_64 rfl 1 rfl ?_
        refine x_imul F dX11_rope_65 ?_
        refine x_iconst (2 : Int32) F dX11_rope_66 (by decide) ?_
        refine x_iadd F dX11_rope_67 ?_
        obtain ⟨hj, h⟩ := h
        refine x_iald F (ky_5_2 (mo_kd _)) (kn_5_2 (mo_kd _)) hj dX11_rope_68 ?_
        exact hret _ _ _ _ h rfl dX11_rope_69
      replace h := h.2
      by_cases c6 : p1 = (6 : Int32)
      · replace h := h.1 c6
        refine x_tin (off := 43) (tgt := 70) F dX11_rope_27 (by rw [c6]; decide) (by rw [c6]; decide) (by rw [c6]; rfl) (by decide) ?_
        refine x_aload_n F dX11_rope_70 rfl 0 rfl ?_
        refine g_11_2 F kz_0 in_11 (mc bw_2_1) dX11_rope_71 ?_
        refine g_5_4 F (mo_kd _) in_5 (mc bw_27_1) dX11_rope_74 ?_
        refine x_iload_n F dX11_rope_77 rfl 1 rfl ?_
        obtain ⟨hj, h⟩ := h
        refine x_iald F (ky_5_4 (mo_kd _)) (kn_5_4 (mo_kd _)) hj dX11_rope_78 ?_
        exact hret _ _ _ _ h rfl dX11_rope_79
      replace h := h.2
      by_cases c7 : p1 = (7 : Int32)
      · replace h := h.1 c7
        refine x_tin (off := 53) (tgt := 80) F dX11_rope_27 (by rw [c7]; decide) (by rw [c7]; decide) (by rw [c7]; rfl) (by decide) ?_
        refine x_aload_n F dX11_rope_80 rfl 0 rfl ?_
        refine g_11_6 F kz_0 in_11 (mc bw_2_9) dX11_rope_81 ?_
        refine g_3_0 F kz_29 in_3 (mc bw_27_2) dX11_rope_84 ?_
        refine x_iload_n F dX11_rope_87 rfl 1 rfl ?_
        obtain ⟨hj, h⟩ := h
        refine x_iald F kz_30 nz_30 hj dX11_rope_88 ?_
        exact hret _ _ _ _ h rfl dX11_rope_89
      replace h := h.2
      by_cases c8 : p1 = (8 : Int32)
      · replace h := h.1 c8
        refine x_tin (off := 63) (tgt := 90) F dX11_rope_27 (by rw [c8]; decide) (by rw [c8]; decide) (by rw [c8]; rfl) (by decide) ?_
        refine x_aload_n F dX11_rope_90 rfl 0 rfl ?_
        refine g_11_6 F kz_0 in_11 (mc bw_2_9) dX11_rope_91 ?_
        refine x_iload_n F dX11_rope_94 rfl 1 rfl ?_
        refine x_callV_i F (c_X3_stateOf (xl X) (xg X) (xA X) F.2.2.1 kz_29 h) (bw_V bw_27_7 bw_27_8 bw_27_9 bw_2_8 bw_27_10) rfl cd_X3_stateOf (Nat.le_of_ble_eq_true rfl) (Nat.le_of_ble_eq_true rfl) (kd_w (by decide) kz_29) rfl (cl_3 kz_29) rfl rfl (Nat.le_of_ble_eq_true rfl) dX11_rope_95 (fun r6 s5 h => ?_)
        exact hret _ _ _ _ h rfl dX11_rope_98
      replace h := h.2
      replace h := h c5 c6 c7 c8
      refine x_tout (tgt := 99) F dX11_rope_27 (sw_out (fun z h1 h2 hz => ?_)) (by decide) ?_
      · rcases (show z = 5 ∨ z = 6 ∨ z = 7 ∨ z = 8 by omega) with rfl | rfl | rfl | rfl
        · exact c5 (Int32.toInt_inj.mp (by rw [hz]; rfl))
        · exact c6 (Int32.toInt_inj.mp (by rw [hz]; rfl))
        · exact c7 (Int32.toInt_inj.mp (by rw [hz]; rfl))
        · exact c8 (Int32.toInt_inj.mp (by rw [hz]; rfl))
      refine x_aload_n F dX11_rope_99 rfl 0 rfl ?_
      refine g_11_2 F kz_0 in_11 (mc bw_2_1) dX11_rope_100 ?_
      refine x_iload_n F dX11_rope_103 rfl 1 rfl ?_
      refine x_iload_n F dX11_rope_104 rfl 2 rfl ?_
      refine x_callV_i F (c_X5_itemOf (xl X) (xg X) (xA X) F.2.2.1 (mo_kd _) h) (bw_V bw_27_15 bw_11_23 bw_12_0 bw_2_0 bw_12_1) rfl cd_X5_itemOf (Nat.le_of_ble_eq_true rfl) (Nat.le_of_ble_eq_true rfl) (kd_w (by decide) (mo_kd _)) rfl (cl_5 (mo_kd _)) rfl rfl (Nat.le_of_ble_eq_true rfl) dX11_rope_105 (fun r8 s7 h => ?_)
      exact hret _ _ _ _ h rfl dX11_rope_108
    · replace h := h.2 c
      exact hthr _ _ h
set_option maxRecDepth 100000 in
set_option maxHeartbeats 4000000 in
theorem c_X11_rope (l : Launch) (hfl : l.stackTraces = false) (g : wG) (A : Nat → Prop) (hA : adO g A) {p0 p1 : Int32} {σ : wS} {Q : Int32 → wS → Prop} {T : wS → Prop} (h : w_X11_rope p0 p1 σ Q T) : Mx l yX11_rope wvX11_rope 6 100 g A [.ref (g.2.2 0), .int p0, .int p1] σ Q T := by
  refine vx_ofW (cc := cX11_rope) (maxL := 3) (ret := some .int) (by decide) rfl ?_
  intro p e s m args below meth c s₁ B hml hnx hv
  obtain ⟨rfl, hP, hC, hZ⟩ := hv
  have hts := atoms_spec (ws := wvX11_rope) B.pre
  have ho : s.vm.findClass RX11 = some m.cls := findClass_of_methodNamed B.named
  have hl := lv_entry [.ref (g.2.2 0), .int p0, .int p1] (n := 3) (Nat.le_of_ble_eq_true rfl)
  rw [lg_entry_eq]
  have F : Fx ((p, l, e, { frames := 6, cells := 1, slots := 6, locals := 100 }, s), (m, [Value.ref (g.2.2 0), .int p0, .int p1].toArray, below, meth, c), (0, 0, vx_MQ below (Qw g A Q) (Xw g A T) [Value.ref (g.2.2 0), .int p0, .int p1].toArray s 1 6 A), (g, A)) cX11_rope 3 RX11 wvX11_rope 6 100 := ⟨⟨B.exec, B.bytes, hml, ho, hts⟩, hC, hA, Nat.le_refl _, Nat.le_refl _, Nat.zero_le _, Nat.zero_le _⟩
  refine wk_X11_rope F ?_ ?_ h s.heap [] _ hP va_S.rf hl
  · intro r τ pc lv2 hq hn hd H locs ls hP hS hl
    exact vx_ret (W.widen (k := 1) (n := 6) (Nat.zero_le _) (Nat.zero_le _) (W.zret B.exec B.bytes B.returns hn (fun t ht hW => ⟨⟨r, τ, rfl, hq, by show va_P _ _ _ t.heap; rw [ht]; exact hP⟩, hS.F ht⟩) hS.2.2 hd B.notSynchronized))
  · intro σ' lv' hT H locs ls hP hS hl
    refine vx_throw0 (own := RX11) (cls := NSE) (names := nse) (ik := 194) (ic := 196) (A := A) B.exec B.bytes hfl ho (by decide) (by decide) (hts _ (mc bw_26_22)) (hts _ (mc bw_26_23)) (nse_at hZ.2.2 hts) nse_ot hZ.1 hZ.2.1 hS (hl.1.trans hml.symm) dX11_rope_18 dX11_rope_21 dX11_rope_22 dX11_rope_25 (fun x hx => (hnx x hx).elim) (Nat.le_of_ble_eq_true rfl) (Nat.le_of_ble_eq_true rfl) (Nat.le_refl _) (Nat.le_refl _) B.notSynchronized (fun t hvm hz hk => ⟨σ', hT, ⟨rfl, hP.kept (fun k q hq => hk q.1 ((hP k q hq).lt))⟩, Nat.le_trans hS.1 hz, fun q h1 h2 => (hk q (Nat.lt_of_lt_of_le h1 hS.1)).trans (hS.2.1 q h1 h2)⟩) hS.2.2 (Nat.le_refl _) (Nat.le_refl _)
/-- one throw more -/
abbrev bump (X : XT) : XT := (X.1, X.2.1, (xk X + 1, xw X + 6, xQ X), X.2.2.2)
theorem Fx.bump {X : XT} {cc : ByteArray} {nL : Nat} {own : String} {Ts : List Cond} {fr lo : Nat} (F : Fx X cc nL own Ts fr lo) (h1 : xk X + 1 ≤ (xR X).cells) (h2 : xw X + 6 ≤ (xR X).slots) : Fx (bump X) cc nL own Ts fr lo := ⟨F.1, F.2.1, F.2.2.1, F.2.2.2.1, F.2.2.2.2.1, h1, h2⟩
theorem Wx.wide {X : XT} {nL : Nat} {σ : wS} {pc : Nat} {lv : List (Nat × Value)} {st : List Value} (k : Wx (bump X) nL σ pc lv st) : Wx X nL σ pc lv st := fun H locs ls hP hS hl => W.widen (k := xk X + 1) (n := xw X + 6) (Nat.le_add_right _ _) (Nat.le_add_right _ _) (k H locs ls hP hS hl)
set_option maxRecDepth 100000 in
set_option maxHeartbeats 4000000 in
theorem wk_L_rope {X : XT} {p0 p1 : Int32} {σ : wS} {Q : Int32 → wS → Prop} (hfl : (xl X).stackTraces = false) (hZ : Zt (xA X) (xs X) (xs X).heap) (htab : (xc X).exceptionTable.toList = tableOf [(0, 10, 13, 13)]) (F : Fx X cL_rope 5 RL wvL_rope 7 140) (h1 : xk X + 1 ≤ (xR X).cells) (h2 : xw X + 6 ≤ (xR X).slots) (hret : Ri (bump X) 5 cL_rope .int Q) (h : w_X11_rope p0 p1 σ (fun r s => ∀ τ : wS, τ = upJ s 199 0 r.toInt64 → Q 0 τ) (fun s => Q 1 s)) : Wx X 5 σ 0 [(0, .ref (ad X 0)), (1, .int p0), (2, .int p1), (3, .ref (ad X 199))] [] := by
  have F2 := F.bump h1 h2
  refine x_aload_n F dL_rope_0 rfl 3 rfl ?_
  refine x_iconst (0 : Int32) F dL_rope_1 (by decide) ?_
  refine x_aload_n F dL_rope_2 rfl 0 rfl ?_
  refine x_iload_n F dL_rope_3 rfl 1 rfl ?_
  refine x_iload_n F dL_rope_4 rfl 2 rfl ?_
  intro H locs ls hP hS hl
  refine vx_calli (vx_runV (As := [.int p0, .int p1]) (rest := [.int 0, .ref (ad X 199)]) F.1 (c_X11_rope (xl X) hfl (xg X) (xA X) F.2.2.1 h) (cwV 2 F.1.2.2.2.2 (bw_V bw_26_18 bw_26_19 bw_26_20 bw_1_2 bw_26_21) rfl rfl rfl cd_X11_rope ⟨Nat.le_trans (Nat.le_of_ble_eq_true rfl) F.2.2.2.1, Nat.le_trans (Nat.le_of_ble_eq_true rfl) F.2.2.2.2.1⟩) ⟨PcX.blind, va_recv F.2.1.1 hP (q := (RX11, _, _)) rfl (q0 := 0) (by rw [wld_at (by decide), cl_11 kz_0]), fun U hU hW => PcX.of F hZ hP hS U hU hW⟩ rfl rfl hl.1 rfl (lv_room (Nat.le_of_ble_eq_true rfl)) dL_rope_5 ⟨h1, h2⟩) hS (fun q _ h => h) (fun q h => h) (fun q _ h => h) ?_ ?_
  · intro E ce q9 τ t H1 locs1 ht hvm hq hB hz hk2 hS1 hce hcv hcl
    obtain ⟨rfl, hB⟩ := hB
    rw [ht] at hB
    refine vx_catch (own := RL) (name := NSE) F.1.2.2.2.1 [] ⟨0, 10, 13, 13⟩ [] htab (fun z hz => nomatch hz) (by decide) (by decide) (F.1.2.2.2.2 _ (mc bw_26_17)) (va_Nw.use rfl hZ.2.2.2.2.2) hce hcv hcl ?_
    have K : Wx (bump X) 5 τ 13 [(0, .ref (ad X 0)), (1, .int p0), (2, .int p1), (3, .ref (ad X 199))] [.ref q9] := by
      refine x_astore (lv' := [(4, .ref q9), (0, .ref (ad X 0)), (1, .int p0), (2, .int p1), (3, .ref (ad X 199))]) F2 dL_rope_13 (by decide) rfl ?_
      refine x_iconst (1 : Int32) F2 dL_rope_15 (by decide) ?_
      exact hret _ _ _ _ hq rfl dL_rope_16
    exact K H1 locs1 ls hB hS1 hl
  · intro r τ t H1 locs1 ht hvm hq hB hz hk2 hS1
    rw [ht] at hB
    have K : Wx (bump X) 5 τ 8 [(0, .ref (ad X 0)), (1, .int p0), (2, .int p1), (3, .ref (ad X 199))] [.int r, .int 0, .ref (ad X 199)] := by
      refine x_i2l F2 dL_rope_8 ?_
      refine x_last (i := 199) F2 kz_199 nz_199 (by unfold vp_in; decide) dL_rope_9 ?_
      refine x_goto (tgt := 17) F2 dL_rope_10 (by decide) ?_
      refine x_iconst (0 : Int32) F2 dL_rope_17 (by decide) ?_
      exact hret _ _ _ _ (hq _ rfl) rfl dL_rope_18
    exact K H1 locs1 ls hB hS1 hl
set_option maxRecDepth 100000 in
set_option maxHeartbeats 4000000 in
theorem c_L_rope (l : Launch) (hfl : l.stackTraces = false) (g : wG) (A : Nat → Prop) (hA : adO g A) {p0 p1 : Int32} {σ : wS} {Q : Int32 → wS → Prop} (h : w_X11_rope p0 p1 σ (fun r s => ∀ τ : wS, τ = upJ s 199 0 r.toInt64 → Q 0 τ) (fun s => Q 1 s)) : My l yL_rope wvL_rope 7 140 g A [.ref (g.2.2 0), .int p0, .int p1, .ref (g.2.2 199)] σ Q := by
  refine va_MetW (cc := cL_rope) (maxL := 5) (ret := some .int) (hh := [(0, 10, 13, 13)]) (by decide) rfl ?_
  intro p e s m args below meth c s₁ B hml hv
  obtain ⟨rfl, hP, hC, hZ⟩ := hv
  have hts := atoms_spec (ws := wvL_rope) B.pre
  have ho : s.vm.findClass RL = some m.cls := findClass_of_methodNamed B.named
  have hl := lv_entry [.ref (g.2.2 0), .int p0, .int p1, .ref (g.2.2 199)] (n := 5) (Nat.le_of_ble_eq_true rfl)
  rw [lg_entry_eq]
  have F : Fx ((p, l, e, { frames := 7, cells := 1, slots := 6, locals := 140 }, s), (m, [Value.ref (g.2.2 0), .int p0, .int p1, .ref (g.2.2 199)].toArray, below, meth, c), (0, 0, MQ below (Qw g A Q) [Value.ref (g.2.2 0), .int p0, .int p1, .ref (g.2.2 199)].toArray s 1 6 A), (g, A)) cL_rope 5 RL wvL_rope 7 140 := ⟨⟨B.exec, B.bytes, hml, ho, hts⟩, hC, hA, Nat.le_refl _, Nat.le_refl _, Nat.zero_le _, Nat.zero_le _⟩
  refine wk_L_rope hfl hZ (vx_table (x := yL_rope) B (hts _ List.mem_cons_self)) F (Nat.le_refl _) (Nat.le_refl _) ?_ h s.heap [] _ hP va_S.rf hl
  intro r τ pc lv2 hq hn hd H locs ls hP hS hl
  exact W.zret B.exec B.bytes B.returns hn (fun t ht hW => ⟨⟨r, τ, rfl, hq, by show va_P _ _ _ t.heap; rw [ht]; exact hP⟩, hS.F ht⟩) hS.2.2 hd B.notSynchronized
