/-! spotOf over a String constant: where a sign stands in it -/
def spF : List Int32 → Int32 → Nat → Int32
  | [], _, _ => -1
  | b :: l, c, k => if b = c then nI k else spF l c (k + 1)
def spot (i : Nat) (c : Int32) : Int32 := spF (stB.getD (i - 210) []) c 0
abbrev wvX12_spotOf : List Cond := Cond.code yX12_spotOf cX12_spotOf 3 (some .int) :: wsL_law
theorem cd_X12_spotOf : okN yX12_spotOf RX12 2 := by unfold okN; decide +kernel
def w_X12_spotOf (p0 : Nat) (p1 : Int32) (σ : wS) (Q : Int32 → wS → Prop) : Prop := Q (spot p0 p1) σ
theorem bw_14_17 : Cond.methodLink RX12 104 yJ0_length_8abf5 ∈ wsL_law := bc_14 (List.Mem.tail _ (List.Mem.tail _ (List.Mem.tail _ (List.Mem.tail _ (List.Mem.tail _ (List.Mem.tail _ (List.Mem.tail _ (List.Mem.tail _ (List.Mem.tail _ (List.Mem.tail _ (List.Mem.tail _ (List.Mem.tail _ (List.Mem.tail _ (List.Mem.tail _ (List.Mem.tail _ (List.Mem.tail _ (List.Mem.tail _ (List.Mem.head _))))))))))))))))))
theorem bw_14_18 : Cond.instanceMethod yJ0_length_8abf5 ∈ wsL_law := bc_14 (List.Mem.tail _ (List.Mem.tail _ (List.Mem.tail _ (List.Mem.tail _ (List.Mem.tail _ (List.Mem.tail _ (List.Mem.tail _ (List.Mem.tail _ (List.Mem.tail _ (List.Mem.tail _ (List.Mem.tail _ (List.Mem.tail _ (List.Mem.tail _ (List.Mem.tail _ (List.Mem.tail _ (List.Mem.tail _ (List.Mem.tail _ (List.Mem.tail _ (List.Mem.head _)))))))))))))))))))
theorem bw_14_19 : Cond.selects RJ0 yJ0_length_8abf5 yJ0_length_8abf5 ∈ wsL_law := bc_14 (List.Mem.tail _ (List.Mem.tail _ (List.Mem.tail _ (List.Mem.tail _ (List.Mem.tail _ (List.Mem.tail _ (List.Mem.tail _ (List.Mem.tail _ (List.Mem.tail _ (List.Mem.tail _ (List.Mem.tail _ (List.Mem.tail _ (List.Mem.tail _ (List.Mem.tail _ (List.Mem.tail _ (List.Mem.tail _ (List.Mem.tail _ (List.Mem.tail _ (List.Mem.tail _ (List.Mem.head _))))))))))))))))))))
theorem bw_14_20 : Cond.initialized RJ0 ∈ wsL_law := bc_14 (List.Mem.tail _ (List.Mem.tail _ (List.Mem.tail _ (List.Mem.tail _ (List.Mem.tail _ (List.Mem.tail _ (List.Mem.tail _ (List.Mem.tail _ (List.Mem.tail _ (List.Mem.tail _ (List.Mem.tail _ (List.Mem.tail _ (List.Mem.tail _ (List.Mem.tail _ (List.Mem.tail _ (List.Mem.tail _ (List.Mem.tail _ (List.Mem.tail _ (List.Mem.tail _ (List.Mem.tail _ (List.Mem.head _)))))))))))))))))))))
theorem bw_14_21 : Cond.code yJ0_length_8abf5 cJ0_length_8abf5 1 (some .int) ∈ wsL_law := bc_14 (List.Mem.tail _ (List.Mem.tail _ (List.Mem.tail _ (List.Mem.tail _ (List.Mem.tail _ (List.Mem.tail _ (List.Mem.tail _ (List.Mem.tail _ (List.Mem.tail _ (List.Mem.tail _ (List.Mem.tail _ (List.Mem.tail _ (List.Mem.tail _ (List.Mem.tail _ (List.Mem.tail _ (List.Mem.tail _ (List.Mem.tail _ (List.Mem.tail _ (List.Mem.tail _ (List.Mem.tail _ (List.Mem.tail _ (List.Mem.head _))))))))))))))))))))))
theorem bw_14_22 : Cond.fieldLink RJ0 9 "java/lang/String" "value" "[B" ∈ wsL_law := bc_14 (List.Mem.tail _ (List.Mem.tail _ (List.Mem.tail _ (List.Mem.tail _ (List.Mem.tail _ (List.Mem.tail _ (List.Mem.tail _ (List.Mem.tail _ (List.Mem.tail _ (List.Mem.tail _ (List.Mem.tail _ (List.Mem.tail _ (List.Mem.tail _ (List.Mem.tail _ (List.Mem.tail _ (List.Mem.tail _ (List.Mem.tail _ (List.Mem.tail _ (List.Mem.tail _ (List.Mem.tail _ (List.Mem.tail _ (List.Mem.tail _ (List.Mem.head _)))))))))))))))))))))))
theorem bw_14_23 : Cond.methodLink RJ0 335 yJ0_coder_7d493 ∈ wsL_law := bc_14 (List.Mem.tail _ (List.Mem.tail _ (List.Mem.tail _ (List.Mem.tail _ (List.Mem.tail _ (List.Mem.tail _ (List.Mem.tail _ (List.Mem.tail _ (List.Mem.tail _ (List.Mem.tail _ (List.Mem.tail _ (List.Mem.tail _ (List.Mem.tail _ (List.Mem.tail _ (List.Mem.tail _ (List.Mem.tail _ (List.Mem.tail _ (List.Mem.tail _ (List.Mem.tail _ (List.Mem.tail _ (List.Mem.tail _ (List.Mem.tail _ (List.Mem.tail _ (List.Mem.head _))))))))))))))))))))))))
theorem bw_15_0 : Cond.instanceMethod yJ0_coder_7d493 ∈ wsL_law := bc_15 (List.Mem.head _)
theorem bw_15_1 : Cond.selects RJ0 yJ0_coder_7d493 yJ0_coder_7d493 ∈ wsL_law := bc_15 (List.Mem.tail _ (List.Mem.head _))
theorem bw_15_2 : Cond.code yJ0_coder_7d493 cJ0_coder_7d493 1 (some .byte) ∈ wsL_law := bc_15 (List.Mem.tail _ (List.Mem.tail _ (List.Mem.head _)))
theorem bw_15_3 : Cond.fieldLink RJ0 38 "java/lang/String" "COMPACT_STRINGS" "Z" ∈ wsL_law := bc_15 (List.Mem.tail _ (List.Mem.tail _ (List.Mem.tail _ (List.Mem.head _))))
theorem bw_15_4 : Cond.fieldLink RJ0 15 "java/lang/String" "coder" "B" ∈ wsL_law := bc_15 (List.Mem.tail _ (List.Mem.tail _ (List.Mem.tail _ (List.Mem.tail _ (List.Mem.head _)))))
theorem bw_15_5 : Cond.methodLink RX12 108 yJ0_charAt_5068e ∈ wsL_law := bc_15 (List.Mem.tail _ (List.Mem.tail _ (List.Mem.tail _ (List.Mem.tail _ (List.Mem.tail _ (List.Mem.head _))))))
theorem bw_15_6 : Cond.instanceMethod yJ0_charAt_5068e ∈ wsL_law := bc_15 (List.Mem.tail _ (List.Mem.tail _ (List.Mem.tail _ (List.Mem.tail _ (List.Mem.tail _ (List.Mem.tail _ (List.Mem.head _)))))))
theorem bw_15_7 : Cond.selects RJ0 yJ0_charAt_5068e yJ0_charAt_5068e ∈ wsL_law := bc_15 (List.Mem.tail _ (List.Mem.tail _ (List.Mem.tail _ (List.Mem.tail _ (List.Mem.tail _ (List.Mem.tail _ (List.Mem.tail _ (List.Mem.head _))))))))
theorem bw_15_8 : Cond.code yJ0_charAt_5068e cJ0_charAt_5068e 2 (some .char) ∈ wsL_law := bc_15 (List.Mem.tail _ (List.Mem.tail _ (List.Mem.tail _ (List.Mem.tail _ (List.Mem.tail _ (List.Mem.tail _ (List.Mem.tail _ (List.Mem.tail _ (List.Mem.head _)))))))))
theorem bw_15_9 : Cond.methodLink RJ0 492 yJ0_isLatin1_aae02 ∈ wsL_law := bc_15 (List.Mem.tail _ (List.Mem.tail _ (List.Mem.tail _ (List.Mem.tail _ (List.Mem.tail _ (List.Mem.tail _ (List.Mem.tail _ (List.Mem.tail _ (List.Mem.tail _ (List.Mem.head _))))))))))
theorem bw_15_10 : Cond.instanceMethod yJ0_isLatin1_aae02 ∈ wsL_law := bc_15 (List.Mem.tail _ (List.Mem.tail _ (List.Mem.tail _ (List.Mem.tail _ (List.Mem.tail _ (List.Mem.tail _ (List.Mem.tail _ (List.Mem.tail _ (List.Mem.tail _ (List.Mem.tail _ (List.Mem.head _)))))))))))
theorem bw_15_11 : Cond.selects RJ0 yJ0_isLatin1_aae02 yJ0_isLatin1_aae02 ∈ wsL_law := bc_15 (List.Mem.tail _ (List.Mem.tail _ (List.Mem.tail _ (List.Mem.tail _ (List.Mem.tail _ (List.Mem.tail _ (List.Mem.tail _ (List.Mem.tail _ (List.Mem.tail _ (List.Mem.tail _ (List.Mem.tail _ (List.Mem.head _))))))))))))
theorem bw_15_12 : Cond.code yJ0_isLatin1_aae02 cJ0_isLatin1_aae02 1 (some .boolean) ∈ wsL_law := bc_15 (List.Mem.tail _ (List.Mem.tail _ (List.Mem.tail _ (List.Mem.tail _ (List.Mem.tail _ (List.Mem.tail _ (List.Mem.tail _ (List.Mem.tail _ (List.Mem.tail _ (List.Mem.tail _ (List.Mem.tail _ (List.Mem.tail _ (List.Mem.head _)))))))))))))
theorem bw_15_13 : Cond.methodLink RJ0 495 yJ1_charAt_3b067 ∈ wsL_law := bc_15 (List.Mem.tail _ (List.Mem.tail _ (List.Mem.tail _ (List.Mem.tail _ (List.Mem.tail _ (List.Mem.tail _ (List.Mem.tail _ (List.Mem.tail _ (List.Mem.tail _ (List.Mem.tail _ (List.Mem.tail _ (List.Mem.tail _ (List.Mem.tail _ (List.Mem.head _))))))))))))))
theorem bw_15_14 : Cond.static yJ1_charAt_3b067 ∈ wsL_law := bc_15 (List.Mem.tail _ (List.Mem.tail _ (List.Mem.tail _ (List.Mem.tail _ (List.Mem.tail _ (List.Mem.tail _ (List.Mem.tail _ (List.Mem.tail _ (List.Mem.tail _ (List.Mem.tail _ (List.Mem.tail _ (List.Mem.tail _ (List.Mem.tail _ (List.Mem.tail _ (List.Mem.head _)))))))))))))))
theorem bw_15_15 : Cond.initialized RJ1 ∈ wsL_law := bc_15 (List.Mem.tail _ (List.Mem.tail _ (List.Mem.tail _ (List.Mem.tail _ (List.Mem.tail _ (List.Mem.tail _ (List.Mem.tail _ (List.Mem.tail _ (List.Mem.tail _ (List.Mem.tail _ (List.Mem.tail _ (List.Mem.tail _ (List.Mem.tail _ (List.Mem.tail _ (List.Mem.tail _ (List.Mem.head _))))))))))))))))
theorem bw_15_16 : Cond.code yJ1_charAt_3b067 cJ1_charAt_3b067 2 (some .char) ∈ wsL_law := bc_15 (List.Mem.tail _ (List.Mem.tail _ (List.Mem.tail _ (List.Mem.tail _ (List.Mem.tail _ (List.Mem.tail _ (List.Mem.tail _ (List.Mem.tail _ (List.Mem.tail _ (List.Mem.tail _ (List.Mem.tail _ (List.Mem.tail _ (List.Mem.tail _ (List.Mem.tail _ (List.Mem.tail _ (List.Mem.tail _ (List.Mem.head _)))))))))))))))))
theorem bw_15_17 : Cond.methodLink RJ1 9 yJ0_checkIndex_df160 ∈ wsL_law := bc_15 (List.Mem.tail _ (List.Mem.tail _ (List.Mem.tail _ (List.Mem.tail _ (List.Mem.tail _ (List.Mem.tail _ (List.Mem.tail _ (List.Mem.tail _ (List.Mem.tail _ (List.Mem.tail _ (List.Mem.tail _ (List.Mem.tail _ (List.Mem.tail _ (List.Mem.tail _ (List.Mem.tail _ (List.Mem.tail _ (List.Mem.tail _ (List.Mem.head _))))))))))))))))))
theorem bw_15_18 : Cond.static yJ0_checkIndex_df160 ∈ wsL_law := bc_15 (List.Mem.tail _ (List.Mem.tail _ (List.Mem.tail _ (List.Mem.tail _ (List.Mem.tail _ (List.Mem.tail _ (List.Mem.tail _ (List.Mem.tail _ (List.Mem.tail _ (List.Mem.tail _ (List.Mem.tail _ (List.Mem.tail _ (List.Mem.tail _ (List.Mem.tail _ (List.Mem.tail _ (List.Mem.tail _ (List.Mem.tail _ (List.Mem.tail _ (List.Mem.head _)))))))))))))))))))
theorem bw_15_19 : Cond.code yJ0_checkIndex_df160 cJ0_checkIndex_df160 2 none ∈ wsL_law := bc_15 (List.Mem.tail _ (List.Mem.tail _ (List.Mem.tail _ (List.Mem.tail _ (List.Mem.tail _ (List.Mem.tail _ (List.Mem.tail _ (List.Mem.tail _ (List.Mem.tail _ (List.Mem.tail _ (List.Mem.tail _ (List.Mem.tail _ (List.Mem.tail _ (List.Mem.tail _ (List.Mem.tail _ (List.Mem.tail _ (List.Mem.tail _ (List.Mem.tail _ (List.Mem.tail _ (List.Mem.head _))))))))))))))))))))
theorem bw_15_20 : Cond.fieldLink RJ0 1053 "jdk/internal/util/Preconditions" "SIOOBE_FORMATTER" "Ljava/util/function/BiFunction;" ∈ wsL_law := bc_15 (List.Mem.tail _ (List.Mem.tail _ (List.Mem.tail _ (List.Mem.tail _ (List.Mem.tail _ (List.Mem.tail _ (List.Mem.tail _ (List.Mem.tail _ (List.Mem.tail _ (List.Mem.tail _ (List.Mem.tail _ (List.Mem.tail _ (List.Mem.tail _ (List.Mem.tail _ (List.Mem.tail _ (List.Mem.tail _ (List.Mem.tail _ (List.Mem.tail _ (List.Mem.tail _ (List.Mem.tail _ (List.Mem.head _)))))))))))))))))))))
theorem bw_15_21 : Cond.methodLink RJ0 1059 yJ3_checkIndex_8e157 ∈ wsL_law := bc_15 (List.Mem.tail _ (List.Mem.tail _ (List.Mem.tail _ (List.Mem.tail _ (List.Mem.tail _ (List.Mem.tail _ (List.Mem.tail _ (List.Mem.tail _ (List.Mem.tail _ (List.Mem.tail _ (List.Mem.tail _ (List.Mem.tail _ (List.Mem.tail _ (List.Mem.tail _ (List.Mem.tail _ (List.Mem.tail _ (List.Mem.tail _ (List.Mem.tail _ (List.Mem.tail _ (List.Mem.tail _ (List.Mem.tail _ (List.Mem.head _))))))))))))))))))))))
theorem bw_15_22 : Cond.static yJ3_checkIndex_8e157 ∈ wsL_law := bc_15 (List.Mem.tail _ (List.Mem.tail _ (List.Mem.tail _ (List.Mem.tail _ (List.Mem.tail _ (List.Mem.tail _ (List.Mem.tail _ (List.Mem.tail _ (List.Mem.tail _ (List.Mem.tail _ (List.Mem.tail _ (List.Mem.tail _ (List.Mem.tail _ (List.Mem.tail _ (List.Mem.tail _ (List.Mem.tail _ (List.Mem.tail _ (List.Mem.tail _ (List.Mem.tail _ (List.Mem.tail _ (List.Mem.tail _ (List.Mem.tail _ (List.Mem.head _)))))))))))))))))))))))
theorem bw_15_23 : Cond.initialized RJ3 ∈ wsL_law := bc_15 (List.Mem.tail _ (List.Mem.tail _ (List.Mem.tail _ (List.Mem.tail _ (List.Mem.tail _ (List.Mem.tail _ (List.Mem.tail _ (List.Mem.tail _ (List.Mem.tail _ (List.Mem.tail _ (List.Mem.tail _ (List.Mem.tail _ (List.Mem.tail _ (List.Mem.tail _ (List.Mem.tail _ (List.Mem.tail _ (List.Mem.tail _ (List.Mem.tail _ (List.Mem.tail _ (List.Mem.tail _ (List.Mem.tail _ (List.Mem.tail _ (List.Mem.tail _ (List.Mem.head _))))))))))))))))))))))))
theorem bw_16_0 : Cond.code yJ3_checkIndex_8e157 cJ3_checkIndex_8e157 3 (some .int) ∈ wsL_law := bc_16 (List.Mem.head _)
abbrev wvJ0_coder_7d493 : List Cond := Cond.code yJ0_coder_7d493 cJ0_coder_7d493 1 (some .byte) :: wsL_law
theorem cd_J0_coder_7d493 : okN yJ0_coder_7d493 RJ0 0 := by unfold okN; decide +kernel
abbrev wvJ0_length_8abf5 : List Cond := Cond.code yJ0_length_8abf5 cJ0_length_8abf5 1 (some .int) :: wsL_law
theorem cd_J0_length_8abf5 : okN yJ0_length_8abf5 RJ0 0 := by unfold okN; decide +kernel
abbrev wvJ0_isLatin1_aae02 : List Cond := Cond.code yJ0_isLatin1_aae02 cJ0_isLatin1_aae02 1 (some .boolean) :: wsL_law
theorem cd_J0_isLatin1_aae02 : okN yJ0_isLatin1_aae02 RJ0 0 := by unfold okN; decide +kernel
abbrev wvJ3_checkIndex_8e157 : List Cond := Cond.code yJ3_checkIndex_8e157 cJ3_checkIndex_8e157 3 (some .int) :: wsL_law
theorem cd_J3_checkIndex_8e157 : okN yJ3_checkIndex_8e157 RJ3 3 := by unfold okN; decide +kernel
abbrev wvJ0_checkIndex_df160 : List Cond := Cond.code yJ0_checkIndex_df160 cJ0_checkIndex_df160 2 none :: wsL_law
theorem cd_J0_checkIndex_df160 : okN yJ0_checkIndex_df160 RJ0 2 := by unfold okN; decide +kernel
abbrev wvJ1_charAt_3b067 : List Cond := Cond.code yJ1_charAt_3b067 cJ1_charAt_3b067 2 (some .char) :: wsL_law
theorem cd_J1_charAt_3b067 : okN yJ1_charAt_3b067 RJ1 2 := by unfold okN; decide +kernel
abbrev wvJ0_charAt_5068e : List Cond := Cond.code yJ0_charAt_5068e cJ0_charAt_5068e 2 (some .char) :: wsL_law
theorem cd_J0_charAt_5068e : okN yJ0_charAt_5068e RJ0 1 := by unfold okN; decide +kernel
section SP
variable {X : XT} {cc : ByteArray} {nL : Nat} {own : String} {Ts : List Cond} {fr lo : Nat} {σ : wS} {pc : Nat} {lv : List (Nat × Value)} {st st0 : List Value} {q : Nat}
theorem x_kc (F : Fx X cc nL RJ0 Ts fr lo) (hq : q < 3) (hl : Cond.fieldLink RJ0 15 "java/lang/String" "coder" "B" ∈ Ts) (hd : decode cc pc = .ok (.getfield 15, 3)) (k : Wx X nL σ (pc + 3) lv (.int 0 :: st)) : Wx X nL σ pc lv (.ref (ad X (210 + q)) :: st) := fun H locs ls hP hS hls => vk_getf F.1.1 F.1.2.1 (F.2.1.2.2.2.2.2.1.1 q hq).2.1 hS F.1.2.2.2.1 (F.1.2.2.2.2 _ hl) (fun _ h => h) hd (k H locs ls hP hS hls)
theorem x_kv (F : Fx X cc nL RJ0 Ts fr lo) (hq : q < 3) (hl : Cond.fieldLink RJ0 9 "java/lang/String" "value" "[B" ∈ Ts) (hd : decode cc pc = .ok (.getfield 9, 3)) (k : Wx X nL σ (pc + 3) lv (.ref (ad X (213 + q)) :: st)) : Wx X nL σ pc lv (.ref (ad X (210 + q)) :: st) := fun H locs ls hP hS hls => vk_getf F.1.1 F.1.2.1 (F.2.1.2.2.2.2.2.1.1 q hq).2.2.1 hS F.1.2.2.2.1 (F.1.2.2.2.2 _ hl) (fun _ h => h) hd (k H locs ls hP hS hls)
theorem x_kl (F : Fx X cc nL own Ts fr lo) (hq : q < 3) (hd : decode cc pc = .ok (.arraylength, 1)) (k : Wx X nL σ (pc + 1) lv (.int (nI (stL.getD q 0)) :: st)) : Wx X nL σ pc lv (.ref (ad X (213 + q)) :: st) := fun H locs ls hP hS hls => va_tlen F.1.1 F.1.2.1 (F.2.1.2.2.2.2.2.1.1 q hq).2.2.2 hS rfl hd (k H locs ls hP hS hls)
theorem x_kb {j : Int32} (F : Fx X cc nL own Ts fr lo) (hq : q < 3) (hj : vp_in j (stL.getD q 0)) (hd : decode cc pc = .ok (.baload, 1)) (k : Wx X nL σ (pc + 1) lv (.int ((stB.getD q []).getD j.toNatClampNeg 0) :: st)) : Wx X nL σ pc lv (.int j :: .ref (ad X (213 + q)) :: st) := fun H locs ls hP hS hls => va_tb F.1.1 F.1.2.1 (F.2.1.2.2.2.2.2.1.1 q hq).2.2.2 hS hj rfl hd (k H locs ls hP hS hls)
theorem x_gcs (F : Fx X cc nL RJ0 Ts fr lo) (hl : Cond.fieldLink RJ0 38 "java/lang/String" "COMPACT_STRINGS" "Z" ∈ Ts) (hd : decode cc pc = .ok (.getstatic 38, 3)) (k : Wx X nL σ (pc + 3) lv (.int 1 :: st)) : Wx X nL σ pc lv st := fun H locs ls hP hS hls => va_gets F.1.1 F.1.2.1 F.2.1.2.2.2.2.2.2.2.1 hS F.1.2.2.2.1 (F.1.2.2.2.2 _ hl) (fun _ h => h) hd (k H locs ls hP hS hls)
theorem x_gsf (F : Fx X cc nL RJ0 Ts fr lo) (hl : Cond.fieldLink RJ0 1053 "jdk/internal/util/Preconditions" "SIOOBE_FORMATTER" "Ljava/util/function/BiFunction;" ∈ Ts) (hd : decode cc pc = .ok (.getstatic 1053, 3)) (k : ∀ v : Value, (v = .null ∨ ∃ t, v = .ref t) → Wx X nL σ (pc + 3) lv (v :: st)) : Wx X nL σ pc lv st := fun H locs ls hP hS hls => by
  rcases F.2.1.2.2.2.2.2.2.2.2 with h | ⟨t, h⟩
  · exact va_gets F.1.1 F.1.2.1 h hS F.1.2.2.2.1 (F.1.2.2.2.2 _ hl) (fun _ h => h) hd (k _ (Or.inl rfl) H locs ls hP hS hls)
  · exact va_gets F.1.1 F.1.2.1 h hS F.1.2.2.2.1 (F.1.2.2.2.2 _ hl) (fun _ h => h) hd (k _ (Or.inr ⟨t, rfl⟩) H locs ls hP hS hls)
theorem x_i2c {x v : Int32} (F : Fx X cc nL own Ts fr lo) (hd : decode cc pc = .ok (.i2c, 1)) (hv : (x.toUInt32 % 65536).toInt32 = v) (k : Wx X nL σ (pc + 1) lv (.int v :: st)) : Wx X nL σ pc lv (.int x :: st) := fun H locs ls hP hS hl => lv_i2c F.1.1 F.1.2.1 hd hv (k H locs ls hP hS hl)
theorem x_callVS {index n maxL fr' lo' : Nat} {y : MethodName} {ws ws' : List Cond} {bytes : ByteArray} {ret : Option FieldType} {As : List Value} {Q : Int32 → wS → Prop} (F : Fx X cc nL own Ts fr lo) (hq : q < 3) (hM : Mi (xl X) y ws fr' lo' (xg X) (xA X) (.ref (ad X (210 + q)) :: As) σ Q) (hG : GoodIn Ts (wsV own index RJ0 y ws)) (hw : ws = Cond.code y bytes maxL ret :: ws') (hy : okN y RJ0 n) (hfr : fr' + 1 ≤ fr) (hlo : 8 + (maxL + 11) + lo' ≤ lo) (hn : As.length = n) (hst : st0 = As.reverse ++ .ref (ad X (210 + q)) :: st) (hr : (st.map fun v => v.category).sum ≤ 8) (hd : decode cc pc = .ok (.invokevirtual index, 3)) (k : ∀ (r : Int32) (τ : wS), Q r τ → Wx X nL τ (pc + 3) lv (.int r :: st)) : Wx X nL σ pc lv st0 := by
  subst hst
  intro H locs ls hP hS hl
  exact va_calli (va_runV (As := As) (rest := st) F.1 hM (cwV n F.1.2.2.2.2 hG hw rfl rfl hy ⟨Nat.le_trans hfr F.2.2.2.1, Nat.le_trans hlo F.2.2.2.2.1⟩) ⟨PcG.blind, vk_recv F.2.1.2.2.2.2.2.1 hq hS, fun U hU hW => PcG.of F hP hS U hU hW⟩ rfl hn hl.1 rfl (lv_room hr) hd ⟨F.2.2.2.2.2.1, F.2.2.2.2.2.2⟩) hS (fun q _ h => h) (fun q h => h) (fun r τ t H1 locs1 ht hvm hw2 hB hz hk2 hS1 => k r τ hw2 H1 locs1 ls (by rw [ht] at hB; exact hB) hS1 hl)
end SP

set_option maxRecDepth 100000 in
set_option maxHeartbeats 4000000 in
theorem c_J0_coder_7d493 (l : Launch) (g : wG) (A : Nat → Prop) (hA : adO g A) {q : Nat} (hq : q < 3) {σ : wS} {Q : Int32 → wS → Prop} (h : Q 0 σ) : Mi l yJ0_coder_7d493 wvJ0_coder_7d493 0 0 g A [.ref (g.2.2 (210 + q))] σ Q := by
  refine mt_i (own := RJ0) (lv := [(0, .ref (g.2.2 (210 + q)))]) (by decide) rfl rfl hA (Nat.le_of_ble_eq_true rfl) rfl ?_
  intro X hl hg hAA F hret
  subst hl hg hAA
  refine x_gcs F (mc bw_15_3) dJ0_coder_7d493_0 ?_
  refine x_if_eq (tgt := 13) F dJ0_coder_7d493_3 (by decide) (fun c => absurd c (by decide)) (fun _ => ?_)
  refine x_aload_n F dJ0_coder_7d493_6 rfl 0 rfl ?_
  refine x_kc F hq (mc bw_15_4) dJ0_coder_7d493_7 ?_
  refine x_goto (tgt := 14) F dJ0_coder_7d493_10 (by decide) ?_
  exact hret _ _ _ _ h rfl dJ0_coder_7d493_14
theorem shr_L : ∀ q, q < 3 → nI (stL.getD q 0) >>> ((0 : Int32) &&& 31) = nI (stL.getD q 0) := by decide +kernel
set_option maxRecDepth 100000 in
set_option maxHeartbeats 4000000 in
theorem c_J0_length_8abf5 (l : Launch) (g : wG) (A : Nat → Prop) (hA : adO g A) {q : Nat} (hq : q < 3) {σ : wS} {Q : Int32 → wS → Prop} (h : Q (nI (stL.getD q 0)) σ) : Mi l yJ0_length_8abf5 wvJ0_length_8abf5 1 20 g A [.ref (g.2.2 (210 + q))] σ Q := by
  refine mt_i (own := RJ0) (lv := [(0, .ref (g.2.2 (210 + q)))]) (by decide) rfl rfl hA (Nat.le_of_ble_eq_true rfl) rfl ?_
  intro X hl hg hAA F hret
  subst hl hg hAA
  refine x_aload_n F dJ0_length_8abf5_0 rfl 0 rfl ?_
  refine x_kv F hq (mc bw_14_22) dJ0_length_8abf5_1 ?_
  refine x_kl F hq dJ0_length_8abf5_4 ?_
  refine x_aload_n F dJ0_length_8abf5_5 rfl 0 rfl ?_
  refine x_callVS F hq (c_J0_coder_7d493 (xl X) (xg X) (xA X) F.2.2.1 hq (Q := fun r s => r = 0 ∧ s = σ) ⟨rfl, rfl⟩) (bw_V bw_14_23 bw_15_0 bw_15_1 bw_14_20 bw_15_2) rfl cd_J0_coder_7d493 (Nat.le_of_ble_eq_true rfl) (Nat.le_of_ble_eq_true rfl) rfl rfl (Nat.le_of_ble_eq_true rfl) dJ0_length_8abf5_6 (fun r s hr => ?_)
  obtain ⟨rfl, rfl⟩ := hr
  refine x_ishr F dJ0_length_8abf5_9 ?_
  rw [shr_L q hq]
  exact hret _ _ _ _ h rfl dJ0_length_8abf5_10
set_option maxRecDepth 100000 in
set_option maxHeartbeats 4000000 in
theorem c_J0_isLatin1_aae02 (l : Launch) (g : wG) (A : Nat → Prop) (hA : adO g A) {q : Nat} (hq : q < 3) {σ : wS} {Q : Int32 → wS → Prop} (h : Q 1 σ) : Mi l yJ0_isLatin1_aae02 wvJ0_isLatin1_aae02 0 0 g A [.ref (g.2.2 (210 + q))] σ Q := by
  refine mt_i (own := RJ0) (lv := [(0, .ref (g.2.2 (210 + q)))]) (by decide) rfl rfl hA (Nat.le_of_ble_eq_true rfl) rfl ?_
  intro X hl hg hAA F hret
  subst hl hg hAA
  refine x_gcs F (mc bw_15_3) dJ0_isLatin1_aae02_0 ?_
  refine x_if_eq (tgt := 17) F dJ0_isLatin1_aae02_3 (by decide) (fun c => absurd c (by decide)) (fun _ => ?_)
  refine x_aload_n F dJ0_isLatin1_aae02_6 rfl 0 rfl ?_
  refine x_kc F hq (mc bw_15_4) dJ0_isLatin1_aae02_7 ?_
  refine x_if_ne (tgt := 17) F dJ0_isLatin1_aae02_10 (by decide) (fun c => absurd rfl c) (fun _ => ?_)
  refine x_iconst (1 : Int32) F dJ0_isLatin1_aae02_13 (by decide) ?_
  refine x_goto (tgt := 18) F dJ0_isLatin1_aae02_14 (by decide) ?_
  exact hret _ _ _ _ h (nar01 (Or.inr rfl)) dJ0_isLatin1_aae02_18
set_option maxRecDepth 100000 in
set_option maxHeartbeats 4000000 in
theorem c_J3_checkIndex_8e157a (l : Launch) (g : wG) (A : Nat → Prop) (hA : adO g A) {t : Nat} {i n : Int32} {σ : wS} {Q : Int32 → wS → Prop} (h0 : ¬ i < 0) (h1 : i < n) (h : Q i σ) : Mi l yJ3_checkIndex_8e157 wvJ3_checkIndex_8e157 0 0 g A [.int i, .int n, .null] σ Q := by
  refine mt_i (own := RJ3) (lv := [(0, .int i), (1, .int n), (2, .null)]) (by decide) rfl rfl hA (Nat.le_of_ble_eq_true rfl) rfl ?_
  intro X hl hg hAA F hret
  subst hl hg hAA
  refine x_iload_n F dJ3_checkIndex_8e157_0 rfl 0 rfl ?_
  refine x_if_lt (tgt := 9) F dJ3_checkIndex_8e157_1 (by decide) (fun c => absurd c h0) (fun _ => ?_)
  refine x_iload_n F dJ3_checkIndex_8e157_4 rfl 0 rfl ?_
  refine x_iload_n F dJ3_checkIndex_8e157_5 rfl 1 rfl ?_
  refine x_icmp_lt (tgt := 16) F dJ3_checkIndex_8e157_6 (by decide) (fun _ => ?_) (fun c => absurd h1 c)
  refine x_iload_n F dJ3_checkIndex_8e157_16 rfl 0 rfl ?_
  exact hret _ _ _ _ h rfl dJ3_checkIndex_8e157_17
set_option maxRecDepth 100000 in
set_option maxHeartbeats 4000000 in
theorem c_J3_checkIndex_8e157b (l : Launch) (g : wG) (A : Nat → Prop) (hA : adO g A) {t : Nat} {i n : Int32} {σ : wS} {Q : Int32 → wS → Prop} (h0 : ¬ i < 0) (h1 : i < n) (h : Q i σ) : Mi l yJ3_checkIndex_8e157 wvJ3_checkIndex_8e157 0 0 g A [.int i, .int n, .ref t] σ Q := by
  refine mt_i (own := RJ3) (lv := [(0, .int i), (1, .int n), (2, .ref t)]) (by decide) rfl rfl hA (Nat.le_of_ble_eq_true rfl) rfl ?_
  intro X hl hg hAA F hret
  subst hl hg hAA
  refine x_iload_n F dJ3_checkIndex_8e157_0 rfl 0 rfl ?_
  refine x_if_lt (tgt := 9) F dJ3_checkIndex_8e157_1 (by decide) (fun c => absurd c h0) (fun _ => ?_)
  refine x_iload_n F dJ3_checkIndex_8e157_4 rfl 0 rfl ?_
  refine x_iload_n F dJ3_checkIndex_8e157_5 rfl 1 rfl ?_
  refine x_icmp_lt (tgt := 16) F dJ3_checkIndex_8e157_6 (by decide) (fun _ => ?_) (fun c => absurd h1 c)
  refine x_iload_n F dJ3_checkIndex_8e157_16 rfl 0 rfl ?_
  exact hret _ _ _ _ h rfl dJ3_checkIndex_8e157_17
theorem c_J3_checkIndex_8e157 (l : Launch) (g : wG) (A : Nat → Prop) (hA : adO g A) {v : Value} (hv : v = .null ∨ ∃ t, v = .ref t) {i n : Int32} {σ : wS} {Q : Int32 → wS → Prop} (h0 : ¬ i < 0) (h1 : i < n) (h : Q i σ) : Mi l yJ3_checkIndex_8e157 wvJ3_checkIndex_8e157 0 0 g A [.int i, .int n, v] σ Q := by
  rcases hv with rfl | ⟨t, rfl⟩
  · exact c_J3_checkIndex_8e157a (t := 0) l g A hA h0 h1 h
  · exact c_J3_checkIndex_8e157b l g A hA h0 h1 h
set_option maxRecDepth 100000 in
set_option maxHeartbeats 4000000 in
theorem c_J0_checkIndex_df160 (l : Launch) (g : wG) (A : Nat → Prop) (hA : adO g A) {i n : Int32} {σ : wS} {Q : wS → Prop} (h0 : ¬ i < 0) (h1 : i < n) (h : Q σ) : Mv l yJ0_checkIndex_df160 wvJ0_checkIndex_df160 1 22 g A [.int i, .int n] σ Q := by
  refine mt_v (own := RJ0) (lv := [(0, .int i), (1, .int n)]) (by decide) rfl rfl hA (Nat.le_of_ble_eq_true rfl) rfl ?_
  intro X hl hg hAA F hret
  subst hl hg hAA
  refine x_iload_n F dJ0_checkIndex_df160_0 rfl 0 rfl ?_
  refine x_iload_n F dJ0_checkIndex_df160_1 rfl 1 rfl ?_
  refine x_gsf F (mc bw_15_20) dJ0_checkIndex_df160_2 (fun v hv => ?_)
  refine x_callT_i (As := [.int i, .int n, v]) F (c_J3_checkIndex_8e157 (xl X) (xg X) (xA X) F.2.2.1 hv h0 h1 (Q := fun r s => s = σ) rfl) (bw_S bw_15_21 bw_15_22 bw_15_23 bw_16_0) rfl cd_J3_checkIndex_8e157 (Nat.le_of_ble_eq_true rfl) (Nat.le_of_ble_eq_true rfl) rfl rfl (Nat.le_of_ble_eq_true rfl) dJ0_checkIndex_df160_5 (fun r s hr => ?_)
  subst hr
  refine x_pop F dJ0_checkIndex_df160_8 rfl ?_
  exact hret _ _ _ h dJ0_checkIndex_df160_9
theorem ch_L : ∀ q, q < 3 → ∀ j, j < stL.getD q 0 → (((((stB.getD q []).getD j 0) &&& (255 : Int32)).toUInt32 % 65536).toInt32 = (stB.getD q []).getD j 0 ∧ narrow .char (.int ((stB.getD q []).getD j 0)) = .int ((stB.getD q []).getD j 0)) := by decide +kernel
theorem ln_L : ∀ q, q < 3 → stL.getD q 0 = (stB.getD q []).length ∧ stL.getD q 0 < 8 := by decide +kernel
set_option maxRecDepth 100000 in
set_option maxHeartbeats 4000000 in
theorem c_J1_charAt_3b067 (l : Launch) (g : wG) (A : Nat → Prop) (hA : adO g A) {q : Nat} (hq : q < 3) {j : Nat} (hj : j < stL.getD q 0) {σ : wS} {Q : Int32 → wS → Prop} (h : Q ((stB.getD q []).getD j 0) σ) : Mi l yJ1_charAt_3b067 wvJ1_charAt_3b067 2 43 g A [.ref (g.2.2 (213 + q)), .int (nI j)] σ Q := by
  refine mt_i (own := RJ1) (lv := [(0, .ref (g.2.2 (213 + q))), (1, .int (nI j))]) (by decide) rfl rfl hA (Nat.le_of_ble_eq_true rfl) rfl ?_
  intro X hl hg hAA F hret
  subst hl hg hAA
  have h8 := (ln_L q hq).2
  refine x_iload_n F dJ1_charAt_3b067_0 rfl 1 rfl ?_
  refine x_aload_n F dJ1_charAt_3b067_1 rfl 0 rfl ?_
  refine x_kl F hq dJ1_charAt_3b067_2 ?_
  refine x_callT_v (As := [.int (nI j), .int (nI (stL.getD q 0))]) F (c_J0_checkIndex_df160 (xl X) (xg X) (xA X) F.2.2.1 (nI_pos (by omega)) (nI_lt hj (by omega)) (Q := fun s => s = σ) rfl) (bw_S bw_15_17 bw_15_18 bw_14_20 bw_15_19) rfl cd_J0_checkIndex_df160 (Nat.le_of_ble_eq_true rfl) (Nat.le_of_ble_eq_true rfl) rfl rfl (Nat.le_of_ble_eq_true rfl) dJ1_charAt_3b067_3 (fun s hr => ?_)
  subst hr
  refine x_aload_n F dJ1_charAt_3b067_6 rfl 0 rfl ?_
  refine x_iload_n F dJ1_charAt_3b067_7 rfl 1 rfl ?_
  refine x_kb F hq (vp_in_nI hj (by omega)) dJ1_charAt_3b067_8 ?_
  rw [nI_clamp (by omega)]
  refine x_sipush (255 : Int32) F dJ1_charAt_3b067_9 (by decide) ?_
  refine x_iand F dJ1_charAt_3b067_12 ?_
  refine x_i2c F dJ1_charAt_3b067_13 (ch_L q hq j hj).1 ?_
  exact hret _ _ _ _ h (ch_L q hq j hj).2 dJ1_charAt_3b067_14
set_option maxRecDepth 100000 in
set_option maxHeartbeats 4000000 in
theorem c_J0_charAt_5068e (l : Launch) (g : wG) (A : Nat → Prop) (hA : adO g A) {q : Nat} (hq : q < 3) {j : Nat} (hj : j < stL.getD q 0) {σ : wS} {Q : Int32 → wS → Prop} (h : Q ((stB.getD q []).getD j 0) σ) : Mi l yJ0_charAt_5068e wvJ0_charAt_5068e 3 64 g A [.ref (g.2.2 (210 + q)), .int (nI j)] σ Q := by
  refine mt_i (own := RJ0) (lv := [(0, .ref (g.2.2 (210 + q))), (1, .int (nI j))]) (by decide) rfl rfl hA (Nat.le_of_ble_eq_true rfl) rfl ?_
  intro X hl hg hAA F hret
  subst hl hg hAA
  refine x_aload_n F dJ0_charAt_5068e_0 rfl 0 rfl ?_
  refine x_callVS F hq (c_J0_isLatin1_aae02 (xl X) (xg X) (xA X) F.2.2.1 hq (Q := fun r s => r = 1 ∧ s = σ) ⟨rfl, rfl⟩) (bw_V bw_15_9 bw_15_10 bw_15_11 bw_14_20 bw_15_12) rfl cd_J0_isLatin1_aae02 (Nat.le_of_ble_eq_true rfl) (Nat.le_of_ble_eq_true rfl) rfl rfl (Nat.le_of_ble_eq_true rfl) dJ0_charAt_5068e_1 (fun r s hr => ?_)
  obtain ⟨rfl, rfl⟩ := hr
  refine x_if_eq (tgt := 16) F dJ0_charAt_5068e_4 (by decide) (fun c => absurd c (by decide)) (fun _ => ?_)
  refine x_aload_n F dJ0_charAt_5068e_7 rfl 0 rfl ?_
  refine x_kv F hq (mc bw_14_22) dJ0_charAt_5068e_8 ?_
  refine x_iload_n F dJ0_charAt_5068e_11 rfl 1 rfl ?_
  refine x_callT_i (As := [.ref (ad X (213 + q)), .int (nI j)]) F (c_J1_charAt_3b067 (xl X) (xg X) (xA X) F.2.2.1 hq hj (Q := fun r s' => r = (stB.getD q []).getD j 0 ∧ s' = s) ⟨rfl, rfl⟩) (bw_S bw_15_13 bw_15_14 bw_15_15 bw_15_16) rfl cd_J1_charAt_3b067 (Nat.le_of_ble_eq_true rfl) (Nat.le_of_ble_eq_true rfl) rfl rfl (Nat.le_of_ble_eq_true rfl) dJ0_charAt_5068e_12 (fun r2 s2 hr2 => ?_)
  obtain ⟨rfl, rfl⟩ := hr2
  exact hret _ _ _ _ h (ch_L q hq j hj).2 dJ0_charAt_5068e_15
set_option maxRecDepth 100000 in
set_option maxHeartbeats 4000000 in
theorem spot_loop {X : XT} {Q : Int32 → wS → Prop} {q : Nat} {p1 : Int32} {σ : wS} (hq : q < 3) (F : Fx X cX12_spotOf 3 RX12 wvX12_spotOf 5 106) (hret : Ri X 3 cX12_spotOf .int Q) : ∀ (l : List Int32) (j : Nat), (stB.getD q []).drop j = l → j ≤ stL.getD q 0 → Q (spF l p1 j) σ → Wx X 3 σ 2 [(2, .int (nI j)), (0, .ref (ad X (210 + q))), (1, .int p1)] [] := by
  have hL := ln_L q hq
  intro l
  induction l with
  | nil =>
    intro j hd hj h
    have hj2 : stL.getD q 0 ≤ j := by rw [hL.1]; exact List.drop_eq_nil_iff.mp hd
    refine x_iload_n F dX12_spotOf_2 rfl 0 rfl ?_
    refine x_aload_n F dX12_spotOf_3 rfl 1 rfl ?_
    refine x_callVS F hq (c_J0_length_8abf5 (xl X) (xg X) (xA X) F.2.2.1 hq (Q := fun r s => r = nI (stL.getD q 0) ∧ s = σ) ⟨rfl, rfl⟩) (bw_V bw_14_17 bw_14_18 bw_14_19 bw_14_20 bw_14_21) rfl cd_J0_length_8abf5 (Nat.le_of_ble_eq_true rfl) (Nat.le_of_ble_eq_true rfl) rfl rfl (Nat.le_of_ble_eq_true rfl) dX12_spotOf_4 (fun r s hr => ?_)
    obtain ⟨rfl, rfl⟩ := hr
    refine x_icmp_ge (tgt := 27) F dX12_spotOf_7 (by decide) (fun _ => ?_) (fun c => absurd (nI_le hj2 (by omega)) c)
    refine x_iconst (-1 : Int32) F dX12_spotOf_27 (by decide) ?_
    exact hret _ _ _ _ h rfl dX12_spotOf_28
  | cons b l ih =>
    intro j hd hj h
    have hlt : j < (stB.getD q []).length := by
      rcases Nat.lt_or_ge j (stB.getD q []).length with z | z
      · exact z
      · rw [List.drop_eq_nil_of_le z] at hd; cases hd
    have hj2 : j < stL.getD q 0 := by rw [hL.1]; exact hlt
    have hg : (stB.getD q []).getD j 0 = b ∧ (stB.getD q []).drop (j + 1) = l := by
      rw [List.drop_eq_getElem_cons hlt] at hd
      injection hd with d1 d2
      exact ⟨by rw [List.getD_eq_getElem?_getD, List.getElem?_eq_getElem hlt]; exact d1, d2⟩
    refine x_iload_n F dX12_spotOf_2 rfl 0 rfl ?_
    refine x_aload_n F dX12_spotOf_3 rfl 1 rfl ?_
    refine x_callVS F hq (c_J0_length_8abf5 (xl X) (xg X) (xA X) F.2.2.1 hq (Q := fun r s => r = nI (stL.getD q 0) ∧ s = σ) ⟨rfl, rfl⟩) (bw_V bw_14_17 bw_14_18 bw_14_19 bw_14_20 bw_14_21) rfl cd_J0_length_8abf5 (Nat.le_of_ble_eq_true rfl) (Nat.le_of_ble_eq_true rfl) rfl rfl (Nat.le_of_ble_eq_true rfl) dX12_spotOf_4 (fun r s hr => ?_)
    obtain ⟨rfl, rfl⟩ := hr
    refine x_icmp_ge (tgt := 27) F dX12_spotOf_7 (by decide) (fun c => absurd c (nI_ge hj2 (by omega))) (fun _ => ?_)
    refine x_aload_n F dX12_spotOf_10 rfl 1 rfl ?_
    refine x_iload_n F dX12_spotOf_11 rfl 0 rfl ?_
    refine x_callVS (As := [.int (nI j)]) F hq (c_J0_charAt_5068e (xl X) (xg X) (xA X) F.2.2.1 hq hj2 (Q := fun r s' => r = (stB.getD q []).getD j 0 ∧ s' = s) ⟨rfl, rfl⟩) (bw_V bw_15_5 bw_15_6 bw_15_7 bw_14_20 bw_15_8) rfl cd_J0_charAt_5068e (Nat.le_of_ble_eq_true rfl) (Nat.le_of_ble_eq_true rfl) rfl rfl (Nat.le_of_ble_eq_true rfl) dX12_spotOf_12 (fun r2 s2 hr2 => ?_)
    obtain ⟨rfl, rfl⟩ := hr2
    rw [hg.1]
    refine x_iload_n F dX12_spotOf_15 rfl 2 rfl ?_
    simp only [spF] at h
    refine x_icmp_ne (tgt := 21) F dX12_spotOf_16 (by decide) (fun c => ?_) (fun c => ?_)
    · rw [if_neg c] at h
      refine x_iinc (q := 0) (v := nI (j + 1)) (lv' := [(2, .int (nI (j + 1))), (0, .ref (ad X (210 + q))), (1, .int p1)]) F dX12_spotOf_21 rfl (nI_succ j).symm (by decide) rfl ?_
      refine x_goto (tgt := 2) F dX12_spotOf_24 (by decide) ?_
      exact ih (j + 1) hg.2 (by omega) h
    · rw [if_pos c] at h
      refine x_iload_n F dX12_spotOf_19 rfl 0 rfl ?_
      exact hret _ _ _ _ h rfl dX12_spotOf_20
set_option maxRecDepth 100000 in
set_option maxHeartbeats 4000000 in
theorem c_X12_spotOf (l : Launch) (g : wG) (A : Nat → Prop) (hA : adO g A) {p0 : Nat} (k_p0 : kd p0 = 26) {p1 : Int32} {σ : wS} {Q : Int32 → wS → Prop} (h : w_X12_spotOf p0 p1 σ Q) : Mi l yX12_spotOf wvX12_spotOf 5 106 g A [.ref (g.2.2 p0), .int p1] σ Q := by
  obtain ⟨q, hq, rfl⟩ : ∃ q, q < 3 ∧ p0 = 210 + q := by
    have h1 : ∀ i, i < 213 → kd i = 26 → 210 ≤ i := by decide +kernel
    have h2 := kd_lt (i := p0) (by rw [k_p0]; decide)
    have h3 := h1 p0 h2 k_p0
    exact ⟨p0 - 210, by omega, by omega⟩
  refine mt_i (own := RX12) (lv := [(0, .ref (g.2.2 (210 + q))), (1, .int p1)]) (by decide) rfl rfl hA (Nat.le_of_ble_eq_true rfl) rfl ?_
  intro X hl hg hAA F hret
  subst hl hg hAA
  unfold w_X12_spotOf spot at h
  rw [show 210 + q - 210 = q by omega] at h
  refine x_iconst (0 : Int32) F dX12_spotOf_0 (by decide) ?_
  refine x_istore_n (lv' := [(2, .int (nI 0)), (0, .ref (ad X (210 + q))), (1, .int p1)]) F dX12_spotOf_1 rfl (by decide) rfl ?_
  exact spot_loop hq F hret _ 0 (List.drop_zero) (Nat.zero_le _) h
