/-! MAKING THE WORLD: the heap grows; a thing's number says its place ahead of time -/
def okI (L : List Nat) : Prop := L.Nodup ∧ ∀ i ∈ L, i < 200
theorem dWo {g : wG} {A : Nat → Prop} {ws : va_W} {L : List Nat} (hA : adO g A) (h : ws.map Prod.fst = L.map g.2.2) (hok : okI L) : va_D A ws := by
  have key : ∀ (i : Nat) (p : Nat × va_E), ws[i]? = some p → ∃ a, L[i]? = some a ∧ g.2.2 a = p.1 := by
    intro i p hi
    have h1 : (ws.map Prod.fst)[i]? = some p.1 := by rw [List.getElem?_map, hi]; rfl
    rw [h, List.getElem?_map] at h1
    cases hL : L[i]? with
    | none => rw [hL] at h1; cases h1
    | some a => rw [hL] at h1; exact ⟨a, rfl, Option.some.inj h1⟩
  refine ⟨fun i j p q hi hj e => ?_, fun k q hk => ?_⟩
  · obtain ⟨a, a1, a2⟩ := key i p hi
    obtain ⟨b, b1, b2⟩ := key j q hj
    have hab : a = b := hA.1 a b (hok.2 a (List.mem_of_getElem? a1)) (hok.2 b (List.mem_of_getElem? b1)) (by rw [a2, b2, e])
    subst hab
    exact (List.getElem?_inj (List.getElem?_eq_some_iff.mp a1).1 hok.1).mp (a1.trans b1.symm)
  · obtain ⟨a, a1, a2⟩ := key k q hk
    rw [← a2]
    exact hA.2.1 a (hok.2 a (List.mem_of_getElem? a1))
def s0 : wS := (fun i k => if kd i = 1 ∧ k = 5 then -1 else if kd i = 11 ∧ k = 3 then 1 else 0, fun i k => if kd i = 2 ∧ k = 1 then 1 else 0)
def fz (g : wG) (i : Nat) : Nat × va_E := (g.2.2 i, cl0 g i (s0.1 i) (s0.2 i))
def wl (g : wG) (ids : List Nat) : va_W := ids.map (fz g)
theorem wl_fst (g : wG) (ids : List Nat) : (wl g ids).map Prod.fst = ids.map g.2.2 := by
  unfold wl
  rw [List.map_map]
  rfl
theorem s0_1 {i : Nat} (h1 : kd i ≠ 1) (h2 : kd i ≠ 11) : s0.1 i = fun _ => 0 := by
  funext k
  simp [s0, h1, h2]
theorem s0_2 {i : Nat} (h1 : kd i ≠ 2) : s0.2 i = fun _ => 0 := by
  funext k
  simp [s0, h1]
theorem fz_13 {g : wG} {i n : Nat} (hk : kd i = 13) (hn : ln i = n) : fz g i = (g.2.2 i, .inl (g.2.1 13, n, .inl (fun _ => 0))) := by
  unfold fz; rw [cl_13 hk, hn, s0_1 (by rw [hk]; decide) (by rw [hk]; decide)]
theorem fz_14 {g : wG} {i n : Nat} (hk : kd i = 14) (hn : ln i = n) : fz g i = (g.2.2 i, .inl (g.2.1 14, n, .inl (fun _ => 0))) := by
  unfold fz; rw [cl_14 hk, hn, s0_1 (by rw [hk]; decide) (by rw [hk]; decide)]
theorem fz_15 {g : wG} {i n : Nat} (hk : kd i = 15) (hn : ln i = n) : fz g i = (g.2.2 i, .inl (g.2.1 15, n, .inr (.inl (fun _ => 0)))) := by
  unfold fz; rw [cl_15 hk, hn, s0_2 (by rw [hk]; decide)]
theorem fz_16 {g : wG} {i n : Nat} (hk : kd i = 16) (hn : ln i = n) : fz g i = (g.2.2 i, .inl (g.2.1 16, n, .inl (fun _ => 0))) := by
  unfold fz; rw [cl_16 hk, hn, s0_1 (by rw [hk]; decide) (by rw [hk]; decide)]
def nsK : List (String × Nat × MethodName) := [(RX11, 9, yX10_init), (RX11, 27, yX5_init), (RX11, 47, yX3_init), (RX11, 57, yX1_init), (RX11, 64, yX2_init), (RX11, 74, yX4_init), (RX11, 88, yX8_init), (RX11, 108, yX9_init), (RX1, 11, yX0_init), (RX6, 24, yX3_init)]
def Kg (U : State) : Prop := (∀ w ∈ nsK, va_Nw (.methodLinkNest w.1 w.2.1 w.2.2 "MooringDesk") U) ∧ va_AO "MooringDesk$Hold" U ∧ va_AO "MooringDesk$Script" U
theorem Kg.warm {s U : State} (hW : s.WarmedH U.vm) (h : Kg s) : Kg U := ⟨fun w hw => va_Nw.warmM hW (h.1 w hw), va_AO.moved hW.alike h.2.1, va_AO.moved hW.alike h.2.2⟩
theorem Kg.call {U : State} (f : JFrame) (mk : MethodId) (a : Array Value) (h : Kg U) : Kg (U.calling f mk a) := ⟨fun w hw => va_Nw.same (u := U) (U := U.calling f mk a) rfl rfl (h.1 w hw), va_AO.moved (u := U) (U := U.calling f mk a) (Vm.Alike.refl U.vm) h.2.1, va_AO.moved (u := U) (U := U.calling f mk a) (Vm.Alike.refl U.vm) h.2.2⟩
def PcK (g : wG) (A : Nat → Prop) (av : List Value) (ws : va_W) (n : Nat) : Array Value → State → Prop := va_Pc av (fun U => va_P g.1 vwCl ws U.heap ∧ Cg g A U U.heap ∧ Kg U ∧ U.heap.size = n)
theorem PcK.blind {g : wG} {A : Nat → Prop} {av : List Value} {ws : va_W} {n : Nat} : FrameBlind (PcK g A av ws n) := fun a U f mk h => ⟨h.1, h.2.1, h.2.2.1.call f mk a, h.2.2.2.1.call f mk a, h.2.2.2.2⟩
def QcK (g : wG) (A : Nat → Prop) (ws' : va_W) : Array Value → State → Outcome → State → Prop := va_Qv (fun _ : Unit => True) (fun _ t => va_P g.1 vwCl ws' t.heap) A
def Mk (l : Launch) (y : MethodName) (wds : List Cond) (fr lo mc ms : Nat) (g : wG) (A : Nat → Prop) (av : List Value) (ws : va_W) (n : Nat) (ws' : va_W) : Prop := Met l y wds { frames := fr, cells := mc, slots := ms, locals := lo } (PcK g A av ws n) (QcK g A ws') mc ms A
/-- the machine comes to its end from here, whatever heap holds the things ws, k cells and w slots made so far -/
def Gx (X : XT) (nL : Nat) (ws : va_W) (k w : Nat) (pc : Nat) (lv : List (Nat × Value)) (st : List Value) : Prop :=
  ∀ (H : Heap) (locs : List Loc) (ls : Array Slot), va_P (xg X).1 vwCl ws H → va_S (xA X) (xs X).heap H locs → lv_has ls nL lv → W (xp X) (xl X) (xe X) (xR X) (xs X) (xm X) (xa X) (xb X) (xh X) (xc X) H locs k w (xQ X) (F0 (xm X) pc ls st)
section YB
variable {X : XT} {cc : ByteArray} {nL : Nat} {own : String} {Ts : List Cond} {fr lo : Nat} {ws ws2 : va_W} {k w : Nat} {pc : Nat} {lv : List (Nat × Value)} {st st0 : List Value}
theorem y_iconst {n : Int} (v : Int32) (F : Fx X cc nL own Ts fr lo) (hd : decode cc pc = .ok (.iconst n, 1)) (hv : Int32.ofInt n = v) (K : Gx X nL ws k w (pc + 1) lv (.int v :: st)) : Gx X nL ws k w pc lv st := fun H locs ls hP hS hl => lv_iconst F.1.1 F.1.2.1 hd hv (K H locs ls hP hS hl)
theorem y_bipush {n : Int} (v : Int32) (F : Fx X cc nL own Ts fr lo) (hd : decode cc pc = .ok (.bipush n, 2)) (hv : (Int8.ofInt n).toInt32 = v) (K : Gx X nL ws k w (pc + 2) lv (.int v :: st)) : Gx X nL ws k w pc lv st := fun H locs ls hP hS hl => lv_bipush F.1.1 F.1.2.1 hd hv (K H locs ls hP hS hl)
theorem y_sipush {n : Int} (v : Int32) (F : Fx X cc nL own Ts fr lo) (hd : decode cc pc = .ok (.sipush n, 3)) (hv : (Int16.ofInt n).toInt32 = v) (K : Gx X nL ws k w (pc + 3) lv (.int v :: st)) : Gx X nL ws k w pc lv st := fun H locs ls hP hS hl => lv_sipush F.1.1 F.1.2.1 hd hv (K H locs ls hP hS hl)
theorem y_lconst {n : Fin 2} (v : Int64) (F : Fx X cc nL own Ts fr lo) (hd : decode cc pc = .ok (.lconst n, 1)) (hv : Int64.ofNat (n : Nat) = v) (K : Gx X nL ws k w (pc + 1) lv (.long v :: st)) : Gx X nL ws k w pc lv st := fun H locs ls hP hS hl => lv_lconst F.1.1 F.1.2.1 hd hv (K H locs ls hP hS hl)
theorem y_dup {v : Value} (F : Fx X cc nL own Ts fr lo) (hd : decode cc pc = .ok (.dup, 1)) (hv : v.category = 1) (K : Gx X nL ws k w (pc + 1) lv (v :: v :: st)) : Gx X nL ws k w pc lv (v :: st) := fun H locs ls hP hS hl => lv_dup F.1.1 F.1.2.1 hd hv (K H locs ls hP hS hl)
theorem y_aload_n {kk : Fin 4} {i : Nat} {x : Nat} (F : Fx X cc nL own Ts fr lo) (hd : decode cc pc = .ok (.aload_n kk, 1)) (hi : (kk : Nat) = i) (q : Nat) (hq : lv[q]? = some (i, .ref x)) (K : Gx X nL ws k w (pc + 1) lv (.ref x :: st)) : Gx X nL ws k w pc lv st := fun H locs ls hP hS hl => lv_aload_n F.1.1 F.1.2.1 hd hi (lv_at hl q hq) (K H locs ls hP hS hl)
theorem y_iload_n {kk : Fin 4} {i : Nat} {x : Int32} (F : Fx X cc nL own Ts fr lo) (hd : decode cc pc = .ok (.iload_n kk, 1)) (hi : (kk : Nat) = i) (q : Nat) (hq : lv[q]? = some (i, .int x)) (K : Gx X nL ws k w (pc + 1) lv (.int x :: st)) : Gx X nL ws k w pc lv st := fun H locs ls hP hS hl => lv_iload_n F.1.1 F.1.2.1 hd hi (lv_at hl q hq) (K H locs ls hP hS hl)
theorem y_goto {off : Int} {tgt : Nat} (F : Fx X cc nL own Ts fr lo) (hd : decode cc pc = .ok (.goto off, 3)) (ht : (pc : Int) + off = (tgt : Int)) (K : Gx X nL ws k w tgt lv st) : Gx X nL ws k w pc lv st := fun H locs ls hP hS hl => lv_goto F.1.1 F.1.2.1 hd ht (K H locs ls hP hS hl)
theorem y_icmp_ge {x y : Int32} {off : Int} {tgt : Nat} (F : Fx X cc nL own Ts fr lo) (hd : decode cc pc = .ok (.if_icmp .ge off, 3)) (ht : (pc : Int) + off = (tgt : Int)) (kt : y ≤ x → Gx X nL ws k w tgt lv st) (kf : ¬ y ≤ x → Gx X nL ws k w (pc + 3) lv st) : Gx X nL ws k w pc lv (.int y :: .int x :: st) := fun H locs ls hP hS hl => lv_icmp_ge F.1.1 F.1.2.1 hd ht (fun c => kt c H locs ls hP hS hl) (fun c => kf c H locs ls hP hS hl)
theorem y_istore_n {kk : Fin 4} {i : Nat} {x : Int32} {lv' : List (Nat × Value)} (F : Fx X cc nL own Ts fr lo) (hd : decode cc pc = .ok (.istore_n kk, 1)) (hi : (kk : Nat) = i) (hn : i < nL) (hq : (i, Value.int x) :: lv.filter (fun q => !(q.1 == i) && !(q.1 + 1 == i && q.2.category == 2)) = lv') (K : Gx X nL ws k w (pc + 1) lv' st) : Gx X nL ws k w pc lv (.int x :: st) := fun H locs ls hP hS hl => lv_istore_n F.1.1 F.1.2.1 hd hi hl hn hq (fun ls2 hl2 => K H locs ls2 hP hS hl2)
theorem y_astore_n {kk : Fin 4} {i : Nat} {x : Nat} {lv' : List (Nat × Value)} (F : Fx X cc nL own Ts fr lo) (hd : decode cc pc = .ok (.astore_n kk, 1)) (hi : (kk : Nat) = i) (hn : i < nL) (hq : (i, Value.ref x) :: lv.filter (fun q => !(q.1 == i) && !(q.1 + 1 == i && q.2.category == 2)) = lv') (K : Gx X nL ws k w (pc + 1) lv' st) : Gx X nL ws k w pc lv (.ref x :: st) := fun H locs ls hP hS hl => lv_astore_n F.1.1 F.1.2.1 hd hi hl hn hq (fun ls2 hl2 => K H locs ls2 hP hS hl2)
theorem y_iinc {i q : Nat} {n : Int} {x v : Int32} {lv' : List (Nat × Value)} (F : Fx X cc nL own Ts fr lo) (hd : decode cc pc = .ok (.iinc i n, 3)) (hq : lv[q]? = some (i, .int x)) (hv : x + Int32.ofInt n = v) (hn : i < nL) (hr : (i, Value.int v) :: lv.filter (fun q => !(q.1 == i) && !(q.1 + 1 == i && q.2.category == 2)) = lv') (K : Gx X nL ws k w (pc + 3) lv' st) : Gx X nL ws k w pc lv st := fun H locs ls hP hS hl => lv_iinc F.1.1 F.1.2.1 hd hl hq hv hn hr (fun ls2 hl2 => K H locs ls2 hP hS hl2)
/-- the same things in another order -/
theorem y_perm (hp : ∀ q ∈ ws2, q ∈ ws) (K : Gx X nL ws2 k w pc lv st) : Gx X nL ws k w pc lv st := fun H locs ls hP hS hl => K H locs ls (fun j q hj => by
  obtain ⟨i, hi⟩ := List.mem_iff_getElem?.mp (hp q (List.mem_of_getElem? hj))
  exact hP i q hi) hS hl
theorem y_to (h : ∀ H : Heap, va_P (xg X).1 vwCl ws H → va_P (xg X).1 vwCl ws2 H) (K : Gx X nL ws2 k w pc lv st) : Gx X nL ws k w pc lv st := fun H locs ls hP hS hl => K H locs ls (h H hP) hS hl
theorem y_get {q0 a ci index k0 : Nat} {C ref : String} {T : u_T} {n : Nat} {fs : List Value} {v : Value} (F : Fx X cc nL own Ts fr lo) (he : ws[q0]? = some (a, .inr (ci, fs))) (hc : vwCl[ci]? = some (C, T, n)) (hin : ∀ w ∈ u_ws C T n, w ∈ Ts) (hk : k0 < n) (href : (T k0).1 = ref) (hl : Cond.fieldLink own index ref (T k0).2.1 (T k0).2.2.1 ∈ Ts) (hv : fs[k0]? = some v) (hd : decode cc pc = .ok (.getfield index, 3)) (K : Gx X nL ws k w (pc + 3) lv (v :: st)) : Gx X nL ws k w pc lv (.ref a :: st) := fun H locs ls hP hS hls => va_get F.1.1 F.1.2.1 F.1.2.2.2.2 hin F.1.2.2.2.1 F.2.1.1 hP q0 he hc k0 hk (F.1.2.2.2.2 _ hl) (fun _ h9 => by rw [← href]; exact h9) hv hd (K H locs ls hP hS hls)
theorem y_put {q0 a ci index k0 : Nat} {C ref : String} {T : u_T} {n : Nat} {fs : List Value} {v : Value} {ty0 : Nat → FieldType} {ty : FieldType} (F : Fx X cc nL own Ts fr lo) (hD : va_D (xA X) ws) (he : ws[q0]? = some (a, .inr (ci, fs))) (hc : vwCl[ci]? = some (C, T, n)) (hin : ∀ w ∈ u_ws C T n, w ∈ Ts) (hty : ∀ k, k < n → parseFieldDescriptor (T k).2.2.1 = some (ty0 k)) (hnm : ∀ a, a < n → ∀ b, b < n → a ≠ b → (T a).2.1 ≠ (T b).2.1) (hk : k0 < n) (href : (T k0).1 = ref) (hl : Cond.fieldLink own index ref (T k0).2.1 (T k0).2.2.1 ∈ Ts) (hfin : (T k0).2.2.2 = false) (hd0 : parseFieldDescriptor (T k0).2.2.1 = some ty) (hnar : narrow ty v = v) (hfit : fits ty v = true) (hlen : k0 < fs.length) (hset : ws.set q0 (a, .inr (ci, fs.set k0 v)) = ws2) (hd : decode cc pc = .ok (.putfield index, 3)) (K : Gx X nL ws2 k w (pc + 3) lv st) : Gx X nL ws k w pc lv (v :: .ref a :: st) := fun H locs ls hP hS hls => va_put F.1.1 F.1.2.1 F.1.2.2.2.2 hin ty0 hty hnm F.1.2.2.2.1 F.2.1.1 hP hD hS q0 he hc k0 hk (F.1.2.2.2.2 _ hl) (fun _ h9 => by rw [← href]; exact h9) hfin hd0 hnar hfit hlen hd (fun H1 locs1 hP1 _ hS1 => K H1 locs1 ls (by rw [hset] at hP1; exact hP1) hS1 hls)
theorem y_putF {q0 a ci index k0 : Nat} {C ref : String} {T : u_T} {n : Nat} {fs : List Value} {v : Value} {ty0 : Nat → FieldType} {ty : FieldType} (hin2 : (xh X).name = "<init>") (F : Fx X cc nL own Ts fr lo) (hD : va_D (xA X) ws) (he : ws[q0]? = some (a, .inr (ci, fs))) (hc : vwCl[ci]? = some (C, T, n)) (hin : ∀ w ∈ u_ws C T n, w ∈ Ts) (hty : ∀ k, k < n → parseFieldDescriptor (T k).2.2.1 = some (ty0 k)) (hnm : ∀ a, a < n → ∀ b, b < n → a ≠ b → (T a).2.1 ≠ (T b).2.1) (hk : k0 < n) (href : (T k0).1 = ref) (hl : Cond.fieldLink own index ref (T k0).2.1 (T k0).2.2.1 ∈ Ts) (hfin : (T k0).2.2.2 = true) (hdecl : (T k0).1 = own) (hd0 : parseFieldDescriptor (T k0).2.2.1 = some ty) (hnar : narrow ty v = v) (hfit : fits ty v = true) (hlen : k0 < fs.length) (hset : ws.set q0 (a, .inr (ci, fs.set k0 v)) = ws2) (hd : decode cc pc = .ok (.putfield index, 3)) (K : Gx X nL ws2 k w (pc + 3) lv st) : Gx X nL ws k w pc lv (v :: .ref a :: st) := fun H locs ls hP hS hls => va_putF F.1.1 F.1.2.1 F.1.2.2.2.2 hin ty0 hty hnm F.1.2.2.2.1 F.2.1.1 hP hD hS q0 he hc k0 hk (F.1.2.2.2.2 _ hl) (fun _ h9 => by rw [← href]; exact h9) hfin hin2 hdecl hd0 hnar hfit hlen hd (fun H1 locs1 hP1 _ hS1 => K H1 locs1 ls (by rw [hset] at hP1; exact hP1) hS1 hls)
theorem y_objInit {idx : Nat} {a : Nat} (F : Fx X cc nL own Ts fr lo) (h1 : Cond.methodLink own idx objectInit ∈ Ts) (h2 : Cond.instanceMethod objectInit ∈ Ts) (h3 : Cond.code objectInit ⟨#[0xb1]⟩ 1 none ∈ Ts) (hfr : 1 ≤ fr) (hlo : 12 ≤ lo) (hd : decode cc pc = .ok (.invokespecial idx, 3)) (K : Gx X nL ws k w (pc + 3) lv []) : Gx X nL ws k w pc lv [.ref a] := fun H locs ls hP hS hl => W.objInit F.1.1 F.1.2.1 F.1.2.2.2.1 (F.1.2.2.2.2 _ h1) (F.1.2.2.2.2 _ h2) (F.1.2.2.2.2 _ h3) rfl (hl.1.trans F.1.2.2.1.symm) rfl hd (Nat.le_trans hfr F.2.2.2.1) (by show 2 * JFrame.monitorRoom _ + _ + 12 ≤ _; exact Nat.le_trans (Nat.le_of_eq rfl) (Nat.le_trans hlo F.2.2.2.2.1)) (K H locs ls hP hS hl)
/-- where the next cell comes to lie -/
theorem gz {H : Heap} {locs : List Loc} {T : State} {a : Nat} (S : Stand (xp X) (xl X) (xe X) (xR X) (xs X) (xm X) (xa X) (xb X) (xh X) (xc X) T locs k w) (hT : T.heap = H) (hP : va_P (xg X).1 vwCl ws H) (hS : va_S (xA X) (xs X).heap H locs) (ha : (xs X).heap.size + k = a) (hlast : k = 0 ∨ ∃ (j : Nat) (q : Nat × va_E), ws[j]? = some q ∧ q.1 + 1 = a) : H.size = a := by
  have h1 : T.heap.size ≤ (xs X).heap.size + k := S.same.2.2.1
  rw [hT] at h1
  rcases hlast with h | ⟨j, q, hj, hq⟩
  · have := hS.1; omega
  · have := (hP j q hj).lt; omega
theorem y_newa {atype : ArrayType} {v : Int32} {N t0 a : Nat} {a0 : vp_A} {cA : ClassId} {ty : FieldType} (F : Fx X cc nL own Ts fr lo) (harr : Cond.arrayClass (newarray.typeOf atype) ∈ Ts) (hty : newarray.typeOf atype = ty) (ht : (tyl (xg X))[t0]? = some (cA, ty)) (hRA : ∀ U : State, va_RA U cA ty → U.vm.findClass ("[" ++ ty.toString) = some cA) (hcell : vp_cell cA a0 = arrV cA N (fun _ => defaultValue ty)) (hn : ¬ v < 0) (hN : v.toNatClampNeg = N) (hbytes : N * componentBytes ty ≤ 536870912) (ha : (xs X).heap.size + k = a) (hlast : k = 0 ∨ ∃ (j : Nat) (q : Nat × va_E), ws[j]? = some q ∧ q.1 + 1 = a) (hc : k + 1 ≤ (xR X).cells) (hs : w + N ≤ (xR X).slots) (hup : ∀ q, (xs X).heap.size ≤ q → xA X q) (hp : ∀ q ∈ ws2, q = (a, .inl (cA, a0)) ∨ q ∈ ws) (hd : decode cc pc = .ok (.newarray atype, 2)) (K : Gx X nL ws2 (k + 1) (w + N) (pc + 2) lv (.ref a :: st)) : Gx X nL ws k w pc lv (.int v :: st) := by
  subst hty
  intro H locs ls hP hS hl T hT S
  have hz := gz S hT hP hS ha hlast
  suffices hW : W (xp X) (xl X) (xe X) (xR X) (xs X) (xm X) (xa X) (xb X) (xh X) (xc X) H locs k w (xQ X) (F0 (xm X) pc ls (.int v :: st)) from hW T hT S
  refine va_newaK F.1.1 F.1.2.1 (F.1.2.2.2.2 _ harr) rfl hd rfl hn hN hbytes hc hs hz (fun H1 cB e1 z1 o1 hAr hNm => ?_)
  have hB : cB = cA := Option.some.inj (hNm.symm.trans (hRA _ (F.2.1.1.2 t0 _ ht).2))
  subst hB
  refine K H1 locs ls (fun j q hj => ?_) ⟨Nat.le_trans hS.1 (by omega), fun x h1 h2 => (o1 x (by have := hS.1; omega)).trans (hS.2.1 x h1 h2), hS.2.2⟩ hl
  rcases hp q (List.mem_of_getElem? hj) with rfl | h
  · show H1[a]? = some (vp_cell _ _)
    rw [hcell]
    exact e1
  · obtain ⟨i, hi⟩ := List.mem_iff_getElem?.mp h
    exact (hP i q hi).kept (o1 q.1 (by have := (hP i q hi).lt; omega))
theorem y_anew {v : Int32} {N t0 a index : Nat} {C : String} {cA : ClassId} (F : Fx X cc nL own Ts fr lo) (hcl : Cond.classLink own index C ∈ Ts) (hover : va_AO C (xs X)) (ht : (tyl (xg X))[t0]? = some (cA, .object C)) (hn : ¬ v < 0) (hN : v.toNatClampNeg = N) (hbytes : N * 4 ≤ 536870912) (ha : (xs X).heap.size + k = a) (hlast : k = 0 ∨ ∃ (j : Nat) (q : Nat × va_E), ws[j]? = some q ∧ q.1 + 1 = a) (hc : k + 1 ≤ (xR X).cells) (hs : w + N ≤ (xR X).slots) (hp : ∀ q ∈ ws2, q = (a, .inl (cA, N, .inr (.inr (.inr (.inr (fun _ => none)))))) ∨ q ∈ ws) (hd : decode cc pc = .ok (.anewarray index, 3)) (K : Gx X nL ws2 (k + 1) (w + N) (pc + 3) lv (.ref a :: st)) : Gx X nL ws k w pc lv (.int v :: st) := by
  subst hN
  intro H locs ls hP hS hl T hT S
  have hz := gz S hT hP hS ha hlast
  subst hz
  suffices hW : W (xp X) (xl X) (xe X) (xR X) (xs X) (xm X) (xa X) (xb X) (xh X) (xc X) H locs k w (xQ X) (F0 (xm X) pc ls (.int v :: st)) from hW T hT S
  refine W.anew F.1.1 F.1.2.1 F.1.2.2.2.1 (F.1.2.2.2.2 _ hcl) (va_AO.use hover) rfl hd rfl hn hbytes hc hs (fun cB kA comp f1 f2 f3 f4 => ?_)
  obtain ⟨kA', comp', r1, r2, r3, r4⟩ := (F.2.1.1.2 t0 _ ht).2
  have hB : cB = cA := Option.some.inj (f1.symm.trans r4)
  subst hB
  refine K _ locs ls (fun j q hj => ?_) ⟨Nat.le_trans hS.1 (by rw [Array.size_push]; omega), fun x h1 h2 => ?_, hS.2.2⟩ hl
  · rcases hp q (List.mem_of_getElem? hj) with rfl | h
    · show (H.push _)[H.size]? = some (vp_cell _ _)
      rw [Array.getElem?_push_size, arrV_new]
      rfl
    · obtain ⟨i, hi⟩ := List.mem_iff_getElem?.mp h
      exact (hP i q hi).kept (by rw [Array.getElem?_push, if_neg (Nat.ne_of_lt (hP i q hi).lt)])
  · rw [Array.getElem?_push, if_neg (Nat.ne_of_lt (Nat.lt_of_lt_of_le h1 hS.1))]
    exact hS.2.1 x h1 h2
theorem y_new {N a ci index : Nat} {C : String} {T : u_T} {fs : List Value} {ty : Nat → FieldType} (F : Fx X cc nL own Ts fr lo) (hin : ∀ w ∈ u_ws C T N, w ∈ Ts) (hty : ∀ k, k < N → parseFieldDescriptor (T k).2.2.1 = some (ty k)) (hcl : Cond.classLink own index C ∈ Ts) (hinst : Cond.instantiable C N ∈ Ts) (hini : Cond.initialized C ∈ Ts) (hc0 : vwCl[ci]? = some (C, T, N)) (hfs : ∀ j, j < N → defaultValue (ty j) = vp_V fs j) (ha : (xs X).heap.size + k = a) (hlast : k = 0 ∨ ∃ (j : Nat) (q : Nat × va_E), ws[j]? = some q ∧ q.1 + 1 = a) (hc : k + 1 ≤ (xR X).cells) (hs : w + N ≤ (xR X).slots) (hd : decode cc pc = .ok (.new index, 3)) (K : Gx X nL ((a, .inr (ci, fs)) :: ws) (k + 1) (w + N) (pc + 3) lv (.ref a :: st)) : Gx X nL ws k w pc lv st := by
  intro H locs ls hP hS hl T hT S
  have hz := gz S hT hP hS ha hlast
  have hKn := F.2.1.1.1 ci _ hc0
  suffices hW : W (xp X) (xl X) (xe X) (xR X) (xs X) (xm X) (xa X) (xb X) (xh X) (xc X) H locs k w (xQ X) (F0 (xm X) pc ls st) from hW T hT S
  refine W.newcK F.1.1 F.1.2.1 F.1.2.2.2.1 (F.1.2.2.2.2 _ hcl) (F.1.2.2.2.2 _ hinst) (F.1.2.2.2.2 _ hini) rfl hd hc hs hKn.2.1 hz (fun H1 kC hkC e1 z1 o1 => ?_)
  refine K H1 locs ls (fun j q hj => ?_) ⟨Nat.le_trans hS.1 (by omega), fun x h1 h2 => (o1 x (by have := hS.1; omega)).trans (hS.2.1 x h1 h2), hS.2.2⟩ hl
  rcases List.mem_cons.mp (List.mem_of_getElem? hj) with rfl | h
  · exact ⟨_, hc0, (u_born ty F.1.2.2.2.2 hin hKn hkC e1 hty).to hfs⟩
  · obtain ⟨i, hi⟩ := List.mem_iff_getElem?.mp h
    exact (hP i q hi).kept (o1 q.1 (by have := (hP i q hi).lt; omega))
theorem PcK.of {H : Heap} {locs : List Loc} {av : List Value} {n : Nat} (F : Fx X cc nL own Ts fr lo) (hK : Kg (xs X)) (hz : H.size = n) (hP : va_P (xg X).1 vwCl ws H) (hS : va_S (xA X) (xs X).heap H locs) (U : State) (hU : U.heap = H) (hW : (xs X).WarmedH U.vm) : PcK (xg X) (xA X) av ws n av.toArray U := ⟨rfl, by rw [hU]; exact hP, Cg.mv F.2.2.1 F.2.1 hS hU hW, hK.warm hW, by rw [hU]; exact hz⟩
theorem y_callN {b index n np maxL fr' lo' mc ms : Nat} {y : MethodName} {wds wds' : List Cond} {bytes : ByteArray} {As : List Value} {ws' : va_W} {C : String} (F : Fx X cc nL own Ts fr lo) (hK : Kg (xs X)) (hM : Mk (xl X) y wds fr' lo' mc ms (xg X) (xA X) (.ref b :: As) ws n ws') (hG : GoodIn Ts wds) (hw : wds = Cond.code y bytes maxL none :: wds') (hnw : (own, index, y) ∈ nsK) (hini : Cond.initialized y.cls ∈ Ts) (hins : Cond.instanceMethod y ∈ Ts) (hnm : y.name = "<init>") (hy : okN y C np) (hfr : fr' + 1 ≤ fr) (hlo : 8 + (maxL + 11) + lo' ≤ lo) (hn : As.length = np) (ha : (xs X).heap.size + k = n) (hlast : k = 0 ∨ ∃ (j : Nat) (q : Nat × va_E), ws[j]? = some q ∧ q.1 + 1 = n) (hc : k + mc ≤ (xR X).cells) (hs : w + ms ≤ (xR X).slots) (hst : st0 = As.reverse ++ .ref b :: st) (hr : (st.map fun v => v.category).sum ≤ 8) (hd : decode cc pc = .ok (.invokespecial index, 3)) (hp : ∀ q ∈ ws2, q ∈ ws') (K : Gx X nL ws2 (k + mc) (w + ms) (pc + 3) lv st) : Gx X nL ws k w pc lv st0 := by
  subst hst
  intro H locs ls hP hS hl T hT S
  have hz := gz S hT hP hS ha hlast
  exact va_callv (va_runIN (As := As) (rest := st) F.1 hM ⟨va_cnB np F.1.2.2.2.2 hG hw rfl rfl (hK.1 _ hnw) (F.1.2.2.2.2 _ hini) hy.2 ⟨Nat.le_trans hfr F.2.2.2.1, Nat.le_trans hlo F.2.2.2.2.1⟩, hnm, F.1.2.2.2.2 _ hins⟩ ⟨PcK.blind, fun U hU hW => PcK.of F hK hz hP hS U hU hW⟩ rfl hn hl.1 rfl (lv_room hr) hd ⟨hc, hs⟩) hS (fun q _ h => h) (fun q h => h) (fun _ t H1 locs1 ht hvm _ hB hz2 hk2 hS1 => y_perm hp K H1 locs1 ls (by rw [ht] at hB; exact hB) hS1 hl) T hT S
theorem y_callI {b index n np maxL fr' lo' mc ms : Nat} {y : MethodName} {wds wds' : List Cond} {bytes : ByteArray} {As : List Value} {ws' : va_W} {C : String} (F : Fx X cc nL own Ts fr lo) (hK : Kg (xs X)) (hM : Mk (xl X) y wds fr' lo' mc ms (xg X) (xA X) (.ref b :: As) ws n ws') (hG : GoodIn Ts wds) (hw : wds = Cond.code y bytes maxL none :: wds') (hlk : Cond.methodLink own index y ∈ Ts) (hini : Cond.initialized y.cls ∈ Ts) (hins : Cond.instanceMethod y ∈ Ts) (hnm : y.name = "<init>") (hy : okN y C np) (hfr : fr' + 1 ≤ fr) (hlo : 8 + (maxL + 11) + lo' ≤ lo) (hn : As.length = np) (ha : (xs X).heap.size + k = n) (hlast : k = 0 ∨ ∃ (j : Nat) (q : Nat × va_E), ws[j]? = some q ∧ q.1 + 1 = n) (hc : k + mc ≤ (xR X).cells) (hs : w + ms ≤ (xR X).slots) (hst : st0 = As.reverse ++ .ref b :: st) (hr : (st.map fun v => v.category).sum ≤ 8) (hd : decode cc pc = .ok (.invokespecial index, 3)) (hp : ∀ q ∈ ws2, q ∈ ws') (K : Gx X nL ws2 (k + mc) (w + ms) (pc + 3) lv st) : Gx X nL ws k w pc lv st0 := by
  subst hst
  intro H locs ls hP hS hl T hT S
  have hz := gz S hT hP hS ha hlast
  exact va_callv (va_runI (As := As) (rest := st) F.1 hM (cwI np F.1.2.2.2.2 hG hw rfl rfl (F.1.2.2.2.2 _ hini) (F.1.2.2.2.2 _ hlk) (F.1.2.2.2.2 _ hins) hnm hy.2 ⟨Nat.le_trans hfr F.2.2.2.1, Nat.le_trans hlo F.2.2.2.2.1⟩) ⟨PcK.blind, fun U hU hW => PcK.of F hK hz hP hS U hU hW⟩ rfl hn hl.1 rfl (lv_room hr) hd ⟨hc, hs⟩) hS (fun q _ h => h) (fun q h => h) (fun _ t H1 locs1 ht hvm _ hB hz2 hk2 hS1 => y_perm hp K H1 locs1 ls (by rw [ht] at hB; exact hB) hS1 hl) T hT S
theorem y_aast {q0 t0 qk ci a n v : Nat} {cA : ClassId} {r : vw_C} {vs : List Value} {f : Nat → Option Nat} {i : Int32} (F : Fx X cc nL own Ts fr lo) (hD : va_D (xA X) ws) (ha : ws[q0]? = some (a, .inl (cA, n, .inr (.inr (.inr (.inr f)))))) (ht : (tyl (xg X))[t0]? = some (cA, .object r.1)) (hv : ws[qk]? = some (v, .inr (ci, vs))) (hc : vwCl[ci]? = some r) (hin : vp_in i n) (hset : ws.set q0 (a, .inl (cA, n, .inr (.inr (.inr (.inr (va_up f i.toNatClampNeg (some v))))))) = ws2) (hd : decode cc pc = .ok (.aastore, 1)) (K : Gx X nL ws2 k w (pc + 1) lv st) : Gx X nL ws k w pc lv (.ref v :: .int i :: .ref a :: st) := fun H locs ls hP hS hl => va_astq F.1.1 F.1.2.1 F.2.1.1 hP hD hS q0 t0 qk ci ha ht hv hc hin hd (fun H1 locs1 hP1 _ hS1 => K H1 locs1 ls (by rw [hset] at hP1; exact hP1) hS1 hl)
theorem y_alen {q0 t0 a : Nat} {cA : ClassId} {x : vp_A} {ty : FieldType} {v : Int32} (F : Fx X cc nL own Ts fr lo) (ha : ws[q0]? = some (a, .inl (cA, x))) (ht : (tyl (xg X))[t0]? = some (cA, ty)) (hv : Int32.ofNat x.1 = v) (hd : decode cc pc = .ok (.arraylength, 1)) (K : Gx X nL ws k w (pc + 1) lv (.int v :: st)) : Gx X nL ws k w pc lv (.ref a :: st) := fun H locs ls hP hS hl => va_alen F.1.1 F.1.2.1 F.2.1.1 hP q0 t0 ha ht hv hd (K H locs ls hP hS hl)
end YB
theorem mt_k {l : Launch} {y : MethodName} {wds wds' : List Cond} {fr lo mc ms : Nat} {g : wG} {A : Nat → Prop} {av : List Value} {ws ws' : va_W} {n : Nat} {cc : ByteArray} {nL : Nat} {own : String} {lv : List (Nat × Value)} (hy : plainName y.cls = true) (hw : wds = Cond.code y cc nL none :: wds') (hown : y.cls = own) (hnm : y.name = "<init>") (hA : adO g A) (hlen : (lg_sl av).length ≤ nL) (hlv : lv_args 0 av = lv)
    (body : ∀ X : XT, xl X = l → xg X = g → xA X = A → Fx X cc nL own wds fr lo → Kg (xs X) → (xs X).heap.size = n → (xR X).cells = mc → (xR X).slots = ms → (xh X).name = "<init>" → (∀ (pc : Nat) (lv : List (Nat × Value)), decode cc pc = .ok (.return_, 1) → Gx X nL ws' mc ms pc lv []) → Gx X nL ws 0 0 0 lv []) : Mk l y wds fr lo mc ms g A av ws n ws' := by
  refine Met.ofW (cc := cc) (maxL := nL) (ret := none) hy hw ?_
  intro p e s m args below meth c s₁ B hml hv
  obtain ⟨rfl, hP, hC, hK, hn⟩ := hv
  have hts := atoms_spec (ws := wds) B.pre
  have ho : s.vm.findClass own = some m.cls := by rw [← hown]; exact findClass_of_methodNamed B.named
  have hl := lv_entry av (n := nL) hlen
  rw [hlv] at hl
  rw [lg_entry_eq]
  refine body ((p, l, e, { frames := fr, cells := mc, slots := ms, locals := lo }, s), (m, av.toArray, below, meth, c), (0, 0, MQ below (QcK g A ws') av.toArray s mc ms A), (g, A)) rfl rfl rfl ⟨⟨B.exec, B.bytes, hml, ho, hts⟩, hC, hA, Nat.le_refl _, Nat.le_refl _, Nat.zero_le _, Nat.zero_le _⟩ hK hn rfl rfl ((name_of_methodNamed B.named B.method).1.trans hnm) ?_ s.heap [] _ hP va_S.rf hl
  intro pc lv2 hd H locs ls hP hS hl
  exact W.vret B.exec B.bytes B.returns (fun t ht hW => ⟨⟨(), rfl, trivial, by show va_P _ _ _ t.heap; rw [ht]; exact hP⟩, hS.F ht⟩) hS.2.2 hd B.notSynchronized
theorem cE {g : wG} {E : va_W} {L : List Nat} {i : Nat} {e : va_E} (h : E.map Prod.fst = L.map g.2.2) : ((g.2.2 i, e) :: E).map Prod.fst = (i :: L).map g.2.2 := by simp [h]
theorem cF {g : wG} {E : va_W} {L : List Nat} {i : Nat} (h : E.map Prod.fst = L.map g.2.2) : (fz g i :: E).map Prod.fst = (i :: L).map g.2.2 := cE h
theorem okI.d1 {a b : Nat} {L : List Nat} (h : okI (a :: b :: L)) : okI (a :: L) := by
  obtain ⟨h1, h2⟩ := h
  simp only [List.nodup_cons, List.mem_cons, not_or] at h1
  exact ⟨List.nodup_cons.mpr ⟨h1.1.2, h1.2.2⟩, fun i hi => h2 i (by
    rcases List.mem_cons.mp hi with rfl | h
    · exact List.mem_cons_self
    · exact List.mem_cons_of_mem _ (List.mem_cons_of_mem _ h))⟩
theorem okI.perm {L L' : List Nat} (h : okI L) (p : L.Perm L') : okI L' := ⟨p.nodup_iff.mp h.1, fun i hi => h.2 i (p.mem_iff.mpr hi)⟩
theorem p_ins {x y : Nat × va_E} {E : va_W} : ∀ q ∈ x :: y :: E, q = y ∨ q ∈ x :: E := by
  intro q hq
  rcases List.mem_cons.mp hq with rfl | h
  · exact Or.inr List.mem_cons_self
  · rcases List.mem_cons.mp h with rfl | h
    · exact Or.inl rfl
    · exact Or.inr (List.mem_cons_of_mem _ h)
theorem p_mid (L : va_W) {x : Nat × va_E} {E : va_W} : ∀ q ∈ x :: (L ++ E), q ∈ L ++ x :: E := by
  intro q hq
  simp only [List.mem_cons, List.mem_append] at hq ⊢
  rcases hq with h | h | h
  · exact Or.inr (Or.inl h)
  · exact Or.inl h
  · exact Or.inr (Or.inr h)
theorem p_mid2 (L : va_W) {x y : Nat × va_E} {E : va_W} : ∀ q ∈ x :: y :: (L ++ E), q ∈ L ++ x :: y :: E := by
  intro q hq
  simp only [List.mem_cons, List.mem_append] at hq ⊢
  rcases hq with h | h | h | h
  · exact Or.inr (Or.inl h)
  · exact Or.inr (Or.inr (Or.inl h))
  · exact Or.inl h
  · exact Or.inr (Or.inr (Or.inr h))
abbrev aB (g : wG) (j n : Nat) : Nat × va_E := (g.2.2 j, .inl (g.2.1 13, n, .inl (fun _ => 0)))
abbrev aI (g : wG) (j n : Nat) : Nat × va_E := (g.2.2 j, .inl (g.2.1 14, n, .inl (fun _ => 0)))
abbrev aL (g : wG) (j n : Nat) : Nat × va_E := (g.2.2 j, .inl (g.2.1 15, n, .inr (.inl (fun _ => 0))))
abbrev aZ (g : wG) (j n : Nat) : Nat × va_E := (g.2.2 j, .inl (g.2.1 16, n, .inl (fun _ => 0)))
