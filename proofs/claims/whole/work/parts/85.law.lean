/-! THE LAW, case by case -/
abbrev wvL : List Cond := Cond.initialized RX11 :: wsL_law
def Sx (X : XT) (b L : Nat) (sc : Nat → Int32) : Prop := va_X b L sc (xs X) (xs X).heap ∧ b < (xs X).heap.size ∧ ¬ xA X b
abbrev LV (X : XT) (b i : Nat) : List (Nat × Value) := [(4, .int (nI i)), (3, .ref (ad X 199)), (2, .ref (ad X 176)), (1, .ref (ad X 0)), (0, .ref b)]
theorem nI_plus (a b : Nat) : nI a + nI b = nI (a + b) := by unfold nI; exact (Int32.ofNat_add a b).symm
theorem lg_self (x : Int64) : lg_cmp x x = 0 := by simp [lg_cmp]
theorem x_sld {X : XT} {cc : ByteArray} {nL : Nat} {own : String} {Ts : List Cond} {fr lo : Nat} {σ : wS} {pc : Nat} {lv : List (Nat × Value)} {st : List Value} {b L i k : Nat} {sc : Nat → Int32} {kk : Int32} (F : Fx X cc nL own Ts fr lo) (hX : Sx X b L sc) (hk : kk = nI k) (h : i + k < L) (hL : L ≤ 3072) (hd : decode cc pc = .ok (.iaload, 1)) (K : Wx X nL σ (pc + 1) lv (.int (sc (i + k)) :: st)) : Wx X nL σ pc lv (.int (nI i + kk) :: .ref b :: st) := by
  intro H locs ls hP hS hl
  rw [hk, nI_plus]
  refine va_sld F.1.1 F.1.2.1 hX.1 hX.2.1 hX.2.2 hS (vp_in_nI (by omega) (by omega)) hd ?_
  rw [nI_clamp (by omega)]
  exact K H locs ls hP hS hl
theorem x_slen {X : XT} {cc : ByteArray} {nL : Nat} {own : String} {Ts : List Cond} {fr lo : Nat} {σ : wS} {pc : Nat} {lv : List (Nat × Value)} {st : List Value} {b L : Nat} {sc : Nat → Int32} (F : Fx X cc nL own Ts fr lo) (hX : Sx X b L sc) (hd : decode cc pc = .ok (.arraylength, 1)) (K : Wx X nL σ (pc + 1) lv (.int (nI L) :: st)) : Wx X nL σ pc lv (.ref b :: st) := fun H locs ls hP hS hl => va_slen F.1.1 F.1.2.1 hX.1 hX.2.1 hX.2.2 hS hd (K H locs ls hP hS hl)
theorem bw_1_7 : Cond.constantLong RL 169 (4294967295) ∈ wsL_law := bc_1 (List.Mem.tail _ (List.Mem.tail _ (List.Mem.tail _ (List.Mem.tail _ (List.Mem.tail _ (List.Mem.tail _ (List.Mem.tail _ (List.Mem.head _))))))))
theorem bw_8_5 : Cond.methodLink RL 19 yX11_feed ∈ wsL_law := bc_8 (List.Mem.tail _ (List.Mem.tail _ (List.Mem.tail _ (List.Mem.tail _ (List.Mem.tail _ (List.Mem.head _))))))
theorem bw_8_6 : Cond.instanceMethod yX11_feed ∈ wsL_law := bc_8 (List.Mem.tail _ (List.Mem.tail _ (List.Mem.tail _ (List.Mem.tail _ (List.Mem.tail _ (List.Mem.tail _ (List.Mem.head _)))))))
theorem bw_8_7 : Cond.selects RX11 yX11_feed yX11_feed ∈ wsL_law := bc_8 (List.Mem.tail _ (List.Mem.tail _ (List.Mem.tail _ (List.Mem.tail _ (List.Mem.tail _ (List.Mem.tail _ (List.Mem.tail _ (List.Mem.head _))))))))
theorem bw_8_8 : Cond.code yX11_feed cX11_feed 7 (some .int) ∈ wsL_law := bc_8 (List.Mem.tail _ (List.Mem.tail _ (List.Mem.tail _ (List.Mem.tail _ (List.Mem.tail _ (List.Mem.tail _ (List.Mem.tail _ (List.Mem.tail _ (List.Mem.head _)))))))))
theorem bw_8_17 : Cond.methodLink RL 23 yX12_feed ∈ wsL_law := bc_8 (List.Mem.tail _ (List.Mem.tail _ (List.Mem.tail _ (List.Mem.tail _ (List.Mem.tail _ (List.Mem.tail _ (List.Mem.tail _ (List.Mem.tail _ (List.Mem.tail _ (List.Mem.tail _ (List.Mem.tail _ (List.Mem.tail _ (List.Mem.tail _ (List.Mem.tail _ (List.Mem.tail _ (List.Mem.tail _ (List.Mem.tail _ (List.Mem.head _))))))))))))))))))
theorem bw_8_18 : Cond.instanceMethod yX12_feed ∈ wsL_law := bc_8 (List.Mem.tail _ (List.Mem.tail _ (List.Mem.tail _ (List.Mem.tail _ (List.Mem.tail _ (List.Mem.tail _ (List.Mem.tail _ (List.Mem.tail _ (List.Mem.tail _ (List.Mem.tail _ (List.Mem.tail _ (List.Mem.tail _ (List.Mem.tail _ (List.Mem.tail _ (List.Mem.tail _ (List.Mem.tail _ (List.Mem.tail _ (List.Mem.tail _ (List.Mem.head _)))))))))))))))))))
theorem bw_8_19 : Cond.selects RX12 yX12_feed yX12_feed ∈ wsL_law := bc_8 (List.Mem.tail _ (List.Mem.tail _ (List.Mem.tail _ (List.Mem.tail _ (List.Mem.tail _ (List.Mem.tail _ (List.Mem.tail _ (List.Mem.tail _ (List.Mem.tail _ (List.Mem.tail _ (List.Mem.tail _ (List.Mem.tail _ (List.Mem.tail _ (List.Mem.tail _ (List.Mem.tail _ (List.Mem.tail _ (List.Mem.tail _ (List.Mem.tail _ (List.Mem.tail _ (List.Mem.head _))))))))))))))))))))
theorem bw_8_20 : Cond.code yX12_feed cX12_feed 6 (some .int) ∈ wsL_law := bc_8 (List.Mem.tail _ (List.Mem.tail _ (List.Mem.tail _ (List.Mem.tail _ (List.Mem.tail _ (List.Mem.tail _ (List.Mem.tail _ (List.Mem.tail _ (List.Mem.tail _ (List.Mem.tail _ (List.Mem.tail _ (List.Mem.tail _ (List.Mem.tail _ (List.Mem.tail _ (List.Mem.tail _ (List.Mem.tail _ (List.Mem.tail _ (List.Mem.tail _ (List.Mem.tail _ (List.Mem.tail _ (List.Mem.head _)))))))))))))))))))))
theorem bw_9_6 : Cond.methodLink RL 24 yX11_end ∈ wsL_law := bc_9 (List.Mem.tail _ (List.Mem.tail _ (List.Mem.tail _ (List.Mem.tail _ (List.Mem.tail _ (List.Mem.tail _ (List.Mem.head _)))))))
theorem bw_9_7 : Cond.instanceMethod yX11_end ∈ wsL_law := bc_9 (List.Mem.tail _ (List.Mem.tail _ (List.Mem.tail _ (List.Mem.tail _ (List.Mem.tail _ (List.Mem.tail _ (List.Mem.tail _ (List.Mem.head _))))))))
theorem bw_9_8 : Cond.selects RX11 yX11_end yX11_end ∈ wsL_law := bc_9 (List.Mem.tail _ (List.Mem.tail _ (List.Mem.tail _ (List.Mem.tail _ (List.Mem.tail _ (List.Mem.tail _ (List.Mem.tail _ (List.Mem.tail _ (List.Mem.head _)))))))))
theorem bw_9_9 : Cond.code yX11_end cX11_end 2 (some .boolean) ∈ wsL_law := bc_9 (List.Mem.tail _ (List.Mem.tail _ (List.Mem.tail _ (List.Mem.tail _ (List.Mem.tail _ (List.Mem.tail _ (List.Mem.tail _ (List.Mem.tail _ (List.Mem.tail _ (List.Mem.head _))))))))))
theorem bw_9_10 : Cond.methodLink RL 28 yX12_end ∈ wsL_law := bc_9 (List.Mem.tail _ (List.Mem.tail _ (List.Mem.tail _ (List.Mem.tail _ (List.Mem.tail _ (List.Mem.tail _ (List.Mem.tail _ (List.Mem.tail _ (List.Mem.tail _ (List.Mem.tail _ (List.Mem.head _)))))))))))
theorem bw_9_11 : Cond.instanceMethod yX12_end ∈ wsL_law := bc_9 (List.Mem.tail _ (List.Mem.tail _ (List.Mem.tail _ (List.Mem.tail _ (List.Mem.tail _ (List.Mem.tail _ (List.Mem.tail _ (List.Mem.tail _ (List.Mem.tail _ (List.Mem.tail _ (List.Mem.tail _ (List.Mem.head _))))))))))))
theorem bw_9_12 : Cond.selects RX12 yX12_end yX12_end ∈ wsL_law := bc_9 (List.Mem.tail _ (List.Mem.tail _ (List.Mem.tail _ (List.Mem.tail _ (List.Mem.tail _ (List.Mem.tail _ (List.Mem.tail _ (List.Mem.tail _ (List.Mem.tail _ (List.Mem.tail _ (List.Mem.tail _ (List.Mem.tail _ (List.Mem.head _)))))))))))))
theorem bw_9_13 : Cond.code yX12_end cX12_end 2 (some .boolean) ∈ wsL_law := bc_9 (List.Mem.tail _ (List.Mem.tail _ (List.Mem.tail _ (List.Mem.tail _ (List.Mem.tail _ (List.Mem.tail _ (List.Mem.tail _ (List.Mem.tail _ (List.Mem.tail _ (List.Mem.tail _ (List.Mem.tail _ (List.Mem.tail _ (List.Mem.tail _ (List.Mem.head _))))))))))))))
theorem bw_9_14 : Cond.methodLink RL 29 yX11_fault ∈ wsL_law := bc_9 (List.Mem.tail _ (List.Mem.tail _ (List.Mem.tail _ (List.Mem.tail _ (List.Mem.tail _ (List.Mem.tail _ (List.Mem.tail _ (List.Mem.tail _ (List.Mem.tail _ (List.Mem.tail _ (List.Mem.tail _ (List.Mem.tail _ (List.Mem.tail _ (List.Mem.tail _ (List.Mem.head _)))))))))))))))
theorem bw_9_15 : Cond.instanceMethod yX11_fault ∈ wsL_law := bc_9 (List.Mem.tail _ (List.Mem.tail _ (List.Mem.tail _ (List.Mem.tail _ (List.Mem.tail _ (List.Mem.tail _ (List.Mem.tail _ (List.Mem.tail _ (List.Mem.tail _ (List.Mem.tail _ (List.Mem.tail _ (List.Mem.tail _ (List.Mem.tail _ (List.Mem.tail _ (List.Mem.tail _ (List.Mem.head _))))))))))))))))
theorem bw_9_16 : Cond.selects RX11 yX11_fault yX11_fault ∈ wsL_law := bc_9 (List.Mem.tail _ (List.Mem.tail _ (List.Mem.tail _ (List.Mem.tail _ (List.Mem.tail _ (List.Mem.tail _ (List.Mem.tail _ (List.Mem.tail _ (List.Mem.tail _ (List.Mem.tail _ (List.Mem.tail _ (List.Mem.tail _ (List.Mem.tail _ (List.Mem.tail _ (List.Mem.tail _ (List.Mem.tail _ (List.Mem.head _)))))))))))))))))
theorem bw_9_17 : Cond.code yX11_fault cX11_fault 2 (some .int) ∈ wsL_law := bc_9 (List.Mem.tail _ (List.Mem.tail _ (List.Mem.tail _ (List.Mem.tail _ (List.Mem.tail _ (List.Mem.tail _ (List.Mem.tail _ (List.Mem.tail _ (List.Mem.tail _ (List.Mem.tail _ (List.Mem.tail _ (List.Mem.tail _ (List.Mem.tail _ (List.Mem.tail _ (List.Mem.tail _ (List.Mem.tail _ (List.Mem.tail _ (List.Mem.head _))))))))))))))))))
theorem bw_13_7 : Cond.methodLink RL 33 yX12_fault ∈ wsL_law := bc_13 (List.Mem.tail _ (List.Mem.tail _ (List.Mem.tail _ (List.Mem.tail _ (List.Mem.tail _ (List.Mem.tail _ (List.Mem.tail _ (List.Mem.head _))))))))
theorem bw_18_18 : Cond.methodLink RL 34 yX11_text ∈ wsL_law := bc_18 (List.Mem.tail _ (List.Mem.tail _ (List.Mem.tail _ (List.Mem.tail _ (List.Mem.tail _ (List.Mem.tail _ (List.Mem.tail _ (List.Mem.tail _ (List.Mem.tail _ (List.Mem.tail _ (List.Mem.tail _ (List.Mem.tail _ (List.Mem.tail _ (List.Mem.tail _ (List.Mem.tail _ (List.Mem.tail _ (List.Mem.tail _ (List.Mem.tail _ (List.Mem.head _)))))))))))))))))))
theorem bw_18_19 : Cond.instanceMethod yX11_text ∈ wsL_law := bc_18 (List.Mem.tail _ (List.Mem.tail _ (List.Mem.tail _ (List.Mem.tail _ (List.Mem.tail _ (List.Mem.tail _ (List.Mem.tail _ (List.Mem.tail _ (List.Mem.tail _ (List.Mem.tail _ (List.Mem.tail _ (List.Mem.tail _ (List.Mem.tail _ (List.Mem.tail _ (List.Mem.tail _ (List.Mem.tail _ (List.Mem.tail _ (List.Mem.tail _ (List.Mem.tail _ (List.Mem.head _))))))))))))))))))))
theorem bw_18_20 : Cond.selects RX11 yX11_text yX11_text ∈ wsL_law := bc_18 (List.Mem.tail _ (List.Mem.tail _ (List.Mem.tail _ (List.Mem.tail _ (List.Mem.tail _ (List.Mem.tail _ (List.Mem.tail _ (List.Mem.tail _ (List.Mem.tail _ (List.Mem.tail _ (List.Mem.tail _ (List.Mem.tail _ (List.Mem.tail _ (List.Mem.tail _ (List.Mem.tail _ (List.Mem.tail _ (List.Mem.tail _ (List.Mem.tail _ (List.Mem.tail _ (List.Mem.tail _ (List.Mem.head _)))))))))))))))))))))
theorem bw_18_21 : Cond.code yX11_text cX11_text 2 (some .int) ∈ wsL_law := bc_18 (List.Mem.tail _ (List.Mem.tail _ (List.Mem.tail _ (List.Mem.tail _ (List.Mem.tail _ (List.Mem.tail _ (List.Mem.tail _ (List.Mem.tail _ (List.Mem.tail _ (List.Mem.tail _ (List.Mem.tail _ (List.Mem.tail _ (List.Mem.tail _ (List.Mem.tail _ (List.Mem.tail _ (List.Mem.tail _ (List.Mem.tail _ (List.Mem.tail _ (List.Mem.tail _ (List.Mem.tail _ (List.Mem.tail _ (List.Mem.head _))))))))))))))))))))))
theorem bw_22_13 : Cond.methodLink RL 37 yX12_text ∈ wsL_law := bc_22 (List.Mem.tail _ (List.Mem.tail _ (List.Mem.tail _ (List.Mem.tail _ (List.Mem.tail _ (List.Mem.tail _ (List.Mem.tail _ (List.Mem.tail _ (List.Mem.tail _ (List.Mem.tail _ (List.Mem.tail _ (List.Mem.tail _ (List.Mem.tail _ (List.Mem.head _))))))))))))))
theorem bw_22_14 : Cond.instanceMethod yX12_text ∈ wsL_law := bc_22 (List.Mem.tail _ (List.Mem.tail _ (List.Mem.tail _ (List.Mem.tail _ (List.Mem.tail _ (List.Mem.tail _ (List.Mem.tail _ (List.Mem.tail _ (List.Mem.tail _ (List.Mem.tail _ (List.Mem.tail _ (List.Mem.tail _ (List.Mem.tail _ (List.Mem.tail _ (List.Mem.head _)))))))))))))))
theorem bw_22_15 : Cond.selects RX12 yX12_text yX12_text ∈ wsL_law := bc_22 (List.Mem.tail _ (List.Mem.tail _ (List.Mem.tail _ (List.Mem.tail _ (List.Mem.tail _ (List.Mem.tail _ (List.Mem.tail _ (List.Mem.tail _ (List.Mem.tail _ (List.Mem.tail _ (List.Mem.tail _ (List.Mem.tail _ (List.Mem.tail _ (List.Mem.tail _ (List.Mem.tail _ (List.Mem.head _))))))))))))))))
theorem bw_22_16 : Cond.code yX12_text cX12_text 4 (some .int) ∈ wsL_law := bc_22 (List.Mem.tail _ (List.Mem.tail _ (List.Mem.tail _ (List.Mem.tail _ (List.Mem.tail _ (List.Mem.tail _ (List.Mem.tail _ (List.Mem.tail _ (List.Mem.tail _ (List.Mem.tail _ (List.Mem.tail _ (List.Mem.tail _ (List.Mem.tail _ (List.Mem.tail _ (List.Mem.tail _ (List.Mem.tail _ (List.Mem.head _)))))))))))))))))
theorem bw_25_17 : Cond.methodLink RL 38 yX11_rule ∈ wsL_law := bc_25 (List.Mem.tail _ (List.Mem.tail _ (List.Mem.tail _ (List.Mem.tail _ (List.Mem.tail _ (List.Mem.tail _ (List.Mem.tail _ (List.Mem.tail _ (List.Mem.tail _ (List.Mem.tail _ (List.Mem.tail _ (List.Mem.tail _ (List.Mem.tail _ (List.Mem.tail _ (List.Mem.tail _ (List.Mem.tail _ (List.Mem.tail _ (List.Mem.head _))))))))))))))))))
theorem bw_25_18 : Cond.instanceMethod yX11_rule ∈ wsL_law := bc_25 (List.Mem.tail _ (List.Mem.tail _ (List.Mem.tail _ (List.Mem.tail _ (List.Mem.tail _ (List.Mem.tail _ (List.Mem.tail _ (List.Mem.tail _ (List.Mem.tail _ (List.Mem.tail _ (List.Mem.tail _ (List.Mem.tail _ (List.Mem.tail _ (List.Mem.tail _ (List.Mem.tail _ (List.Mem.tail _ (List.Mem.tail _ (List.Mem.tail _ (List.Mem.head _)))))))))))))))))))
theorem bw_25_19 : Cond.selects RX11 yX11_rule yX11_rule ∈ wsL_law := bc_25 (List.Mem.tail _ (List.Mem.tail _ (List.Mem.tail _ (List.Mem.tail _ (List.Mem.tail _ (List.Mem.tail _ (List.Mem.tail _ (List.Mem.tail _ (List.Mem.tail _ (List.Mem.tail _ (List.Mem.tail _ (List.Mem.tail _ (List.Mem.tail _ (List.Mem.tail _ (List.Mem.tail _ (List.Mem.tail _ (List.Mem.tail _ (List.Mem.tail _ (List.Mem.tail _ (List.Mem.head _))))))))))))))))))))
theorem bw_25_20 : Cond.code yX11_rule cX11_rule 2 (some .int) ∈ wsL_law := bc_25 (List.Mem.tail _ (List.Mem.tail _ (List.Mem.tail _ (List.Mem.tail _ (List.Mem.tail _ (List.Mem.tail _ (List.Mem.tail _ (List.Mem.tail _ (List.Mem.tail _ (List.Mem.tail _ (List.Mem.tail _ (List.Mem.tail _ (List.Mem.tail _ (List.Mem.tail _ (List.Mem.tail _ (List.Mem.tail _ (List.Mem.tail _ (List.Mem.tail _ (List.Mem.tail _ (List.Mem.tail _ (List.Mem.head _)))))))))))))))))))))
theorem bw_26_8 : Cond.methodLink RL 41 yX12_rule ∈ wsL_law := bc_26 (List.Mem.tail _ (List.Mem.tail _ (List.Mem.tail _ (List.Mem.tail _ (List.Mem.tail _ (List.Mem.tail _ (List.Mem.tail _ (List.Mem.tail _ (List.Mem.head _)))))))))
theorem bw_26_9 : Cond.instanceMethod yX12_rule ∈ wsL_law := bc_26 (List.Mem.tail _ (List.Mem.tail _ (List.Mem.tail _ (List.Mem.tail _ (List.Mem.tail _ (List.Mem.tail _ (List.Mem.tail _ (List.Mem.tail _ (List.Mem.tail _ (List.Mem.head _))))))))))
theorem bw_26_10 : Cond.selects RX12 yX12_rule yX12_rule ∈ wsL_law := bc_26 (List.Mem.tail _ (List.Mem.tail _ (List.Mem.tail _ (List.Mem.tail _ (List.Mem.tail _ (List.Mem.tail _ (List.Mem.tail _ (List.Mem.tail _ (List.Mem.tail _ (List.Mem.tail _ (List.Mem.head _)))))))))))
theorem bw_26_11 : Cond.code yX12_rule cX12_rule 2 (some .int) ∈ wsL_law := bc_26 (List.Mem.tail _ (List.Mem.tail _ (List.Mem.tail _ (List.Mem.tail _ (List.Mem.tail _ (List.Mem.tail _ (List.Mem.tail _ (List.Mem.tail _ (List.Mem.tail _ (List.Mem.tail _ (List.Mem.tail _ (List.Mem.head _))))))))))))
theorem bw_28_5 : Cond.methodLink RL 52 yX11_pull ∈ wsL_law := bc_28 (List.Mem.tail _ (List.Mem.tail _ (List.Mem.tail _ (List.Mem.tail _ (List.Mem.tail _ (List.Mem.head _))))))
theorem bw_28_6 : Cond.instanceMethod yX11_pull ∈ wsL_law := bc_28 (List.Mem.tail _ (List.Mem.tail _ (List.Mem.tail _ (List.Mem.tail _ (List.Mem.tail _ (List.Mem.tail _ (List.Mem.head _)))))))
theorem bw_28_7 : Cond.selects RX11 yX11_pull yX11_pull ∈ wsL_law := bc_28 (List.Mem.tail _ (List.Mem.tail _ (List.Mem.tail _ (List.Mem.tail _ (List.Mem.tail _ (List.Mem.tail _ (List.Mem.tail _ (List.Mem.head _))))))))
theorem bw_28_8 : Cond.code yX11_pull cX11_pull 4 (some .long) ∈ wsL_law := bc_28 (List.Mem.tail _ (List.Mem.tail _ (List.Mem.tail _ (List.Mem.tail _ (List.Mem.tail _ (List.Mem.tail _ (List.Mem.tail _ (List.Mem.tail _ (List.Mem.head _)))))))))
theorem bw_29_15 : Cond.methodLink RL 56 yX12_pull ∈ wsL_law := bc_29 (List.Mem.tail _ (List.Mem.tail _ (List.Mem.tail _ (List.Mem.tail _ (List.Mem.tail _ (List.Mem.tail _ (List.Mem.tail _ (List.Mem.tail _ (List.Mem.tail _ (List.Mem.tail _ (List.Mem.tail _ (List.Mem.tail _ (List.Mem.tail _ (List.Mem.tail _ (List.Mem.tail _ (List.Mem.head _))))))))))))))))
theorem bw_29_16 : Cond.instanceMethod yX12_pull ∈ wsL_law := bc_29 (List.Mem.tail _ (List.Mem.tail _ (List.Mem.tail _ (List.Mem.tail _ (List.Mem.tail _ (List.Mem.tail _ (List.Mem.tail _ (List.Mem.tail _ (List.Mem.tail _ (List.Mem.tail _ (List.Mem.tail _ (List.Mem.tail _ (List.Mem.tail _ (List.Mem.tail _ (List.Mem.tail _ (List.Mem.tail _ (List.Mem.head _)))))))))))))))))
theorem bw_29_17 : Cond.selects RX12 yX12_pull yX12_pull ∈ wsL_law := bc_29 (List.Mem.tail _ (List.Mem.tail _ (List.Mem.tail _ (List.Mem.tail _ (List.Mem.tail _ (List.Mem.tail _ (List.Mem.tail _ (List.Mem.tail _ (List.Mem.tail _ (List.Mem.tail _ (List.Mem.tail _ (List.Mem.tail _ (List.Mem.tail _ (List.Mem.tail _ (List.Mem.tail _ (List.Mem.tail _ (List.Mem.tail _ (List.Mem.head _))))))))))))))))))
theorem bw_29_18 : Cond.code yX12_pull cX12_pull 3 (some .long) ∈ wsL_law := bc_29 (List.Mem.tail _ (List.Mem.tail _ (List.Mem.tail _ (List.Mem.tail _ (List.Mem.tail _ (List.Mem.tail _ (List.Mem.tail _ (List.Mem.tail _ (List.Mem.tail _ (List.Mem.tail _ (List.Mem.tail _ (List.Mem.tail _ (List.Mem.tail _ (List.Mem.tail _ (List.Mem.tail _ (List.Mem.tail _ (List.Mem.tail _ (List.Mem.tail _ (List.Mem.head _)))))))))))))))))))
theorem bw_30_6 : Cond.methodLink RL 57 yX11_shift ∈ wsL_law := bc_30 (List.Mem.tail _ (List.Mem.tail _ (List.Mem.tail _ (List.Mem.tail _ (List.Mem.tail _ (List.Mem.tail _ (List.Mem.head _)))))))
theorem bw_30_7 : Cond.instanceMethod yX11_shift ∈ wsL_law := bc_30 (List.Mem.tail _ (List.Mem.tail _ (List.Mem.tail _ (List.Mem.tail _ (List.Mem.tail _ (List.Mem.tail _ (List.Mem.tail _ (List.Mem.head _))))))))
theorem bw_30_8 : Cond.selects RX11 yX11_shift yX11_shift ∈ wsL_law := bc_30 (List.Mem.tail _ (List.Mem.tail _ (List.Mem.tail _ (List.Mem.tail _ (List.Mem.tail _ (List.Mem.tail _ (List.Mem.tail _ (List.Mem.tail _ (List.Mem.head _)))))))))
theorem bw_30_9 : Cond.code yX11_shift cX11_shift 4 (some .long) ∈ wsL_law := bc_30 (List.Mem.tail _ (List.Mem.tail _ (List.Mem.tail _ (List.Mem.tail _ (List.Mem.tail _ (List.Mem.tail _ (List.Mem.tail _ (List.Mem.tail _ (List.Mem.tail _ (List.Mem.head _))))))))))
theorem bw_30_14 : Cond.methodLink RL 60 yX12_shift ∈ wsL_law := bc_30 (List.Mem.tail _ (List.Mem.tail _ (List.Mem.tail _ (List.Mem.tail _ (List.Mem.tail _ (List.Mem.tail _ (List.Mem.tail _ (List.Mem.tail _ (List.Mem.tail _ (List.Mem.tail _ (List.Mem.tail _ (List.Mem.tail _ (List.Mem.tail _ (List.Mem.tail _ (List.Mem.head _)))))))))))))))
theorem bw_30_15 : Cond.instanceMethod yX12_shift ∈ wsL_law := bc_30 (List.Mem.tail _ (List.Mem.tail _ (List.Mem.tail _ (List.Mem.tail _ (List.Mem.tail _ (List.Mem.tail _ (List.Mem.tail _ (List.Mem.tail _ (List.Mem.tail _ (List.Mem.tail _ (List.Mem.tail _ (List.Mem.tail _ (List.Mem.tail _ (List.Mem.tail _ (List.Mem.tail _ (List.Mem.head _))))))))))))))))
theorem bw_30_16 : Cond.selects RX12 yX12_shift yX12_shift ∈ wsL_law := bc_30 (List.Mem.tail _ (List.Mem.tail _ (List.Mem.tail _ (List.Mem.tail _ (List.Mem.tail _ (List.Mem.tail _ (List.Mem.tail _ (List.Mem.tail _ (List.Mem.tail _ (List.Mem.tail _ (List.Mem.tail _ (List.Mem.tail _ (List.Mem.tail _ (List.Mem.tail _ (List.Mem.tail _ (List.Mem.tail _ (List.Mem.head _)))))))))))))))))
theorem bw_30_17 : Cond.code yX12_shift cX12_shift 3 (some .long) ∈ wsL_law := bc_30 (List.Mem.tail _ (List.Mem.tail _ (List.Mem.tail _ (List.Mem.tail _ (List.Mem.tail _ (List.Mem.tail _ (List.Mem.tail _ (List.Mem.tail _ (List.Mem.tail _ (List.Mem.tail _ (List.Mem.tail _ (List.Mem.tail _ (List.Mem.tail _ (List.Mem.tail _ (List.Mem.tail _ (List.Mem.tail _ (List.Mem.tail _ (List.Mem.head _))))))))))))))))))
theorem bw_30_19 : Cond.methodLink RL 61 yX11_held ∈ wsL_law := bc_30 (List.Mem.tail _ (List.Mem.tail _ (List.Mem.tail _ (List.Mem.tail _ (List.Mem.tail _ (List.Mem.tail _ (List.Mem.tail _ (List.Mem.tail _ (List.Mem.tail _ (List.Mem.tail _ (List.Mem.tail _ (List.Mem.tail _ (List.Mem.tail _ (List.Mem.tail _ (List.Mem.tail _ (List.Mem.tail _ (List.Mem.tail _ (List.Mem.tail _ (List.Mem.tail _ (List.Mem.head _))))))))))))))))))))
theorem bw_30_20 : Cond.instanceMethod yX11_held ∈ wsL_law := bc_30 (List.Mem.tail _ (List.Mem.tail _ (List.Mem.tail _ (List.Mem.tail _ (List.Mem.tail _ (List.Mem.tail _ (List.Mem.tail _ (List.Mem.tail _ (List.Mem.tail _ (List.Mem.tail _ (List.Mem.tail _ (List.Mem.tail _ (List.Mem.tail _ (List.Mem.tail _ (List.Mem.tail _ (List.Mem.tail _ (List.Mem.tail _ (List.Mem.tail _ (List.Mem.tail _ (List.Mem.tail _ (List.Mem.head _)))))))))))))))))))))
theorem bw_30_21 : Cond.selects RX11 yX11_held yX11_held ∈ wsL_law := bc_30 (List.Mem.tail _ (List.Mem.tail _ (List.Mem.tail _ (List.Mem.tail _ (List.Mem.tail _ (List.Mem.tail _ (List.Mem.tail _ (List.Mem.tail _ (List.Mem.tail _ (List.Mem.tail _ (List.Mem.tail _ (List.Mem.tail _ (List.Mem.tail _ (List.Mem.tail _ (List.Mem.tail _ (List.Mem.tail _ (List.Mem.tail _ (List.Mem.tail _ (List.Mem.tail _ (List.Mem.tail _ (List.Mem.tail _ (List.Mem.head _))))))))))))))))))))))
theorem bw_30_22 : Cond.code yX11_held cX11_held 4 (some .long) ∈ wsL_law := bc_30 (List.Mem.tail _ (List.Mem.tail _ (List.Mem.tail _ (List.Mem.tail _ (List.Mem.tail _ (List.Mem.tail _ (List.Mem.tail _ (List.Mem.tail _ (List.Mem.tail _ (List.Mem.tail _ (List.Mem.tail _ (List.Mem.tail _ (List.Mem.tail _ (List.Mem.tail _ (List.Mem.tail _ (List.Mem.tail _ (List.Mem.tail _ (List.Mem.tail _ (List.Mem.tail _ (List.Mem.tail _ (List.Mem.tail _ (List.Mem.tail _ (List.Mem.head _)))))))))))))))))))))))
theorem bw_31_5 : Cond.methodLink RL 64 yX12_held ∈ wsL_law := bc_31 (List.Mem.tail _ (List.Mem.tail _ (List.Mem.tail _ (List.Mem.tail _ (List.Mem.tail _ (List.Mem.head _))))))
theorem bw_31_6 : Cond.instanceMethod yX12_held ∈ wsL_law := bc_31 (List.Mem.tail _ (List.Mem.tail _ (List.Mem.tail _ (List.Mem.tail _ (List.Mem.tail _ (List.Mem.tail _ (List.Mem.head _)))))))
theorem bw_31_7 : Cond.selects RX12 yX12_held yX12_held ∈ wsL_law := bc_31 (List.Mem.tail _ (List.Mem.tail _ (List.Mem.tail _ (List.Mem.tail _ (List.Mem.tail _ (List.Mem.tail _ (List.Mem.tail _ (List.Mem.head _))))))))
theorem bw_31_8 : Cond.code yX12_held cX12_held 6 (some .long) ∈ wsL_law := bc_31 (List.Mem.tail _ (List.Mem.tail _ (List.Mem.tail _ (List.Mem.tail _ (List.Mem.tail _ (List.Mem.tail _ (List.Mem.tail _ (List.Mem.tail _ (List.Mem.head _)))))))))
theorem bw_31_9 : Cond.methodLink RL 65 yX11_load ∈ wsL_law := bc_31 (List.Mem.tail _ (List.Mem.tail _ (List.Mem.tail _ (List.Mem.tail _ (List.Mem.tail _ (List.Mem.tail _ (List.Mem.tail _ (List.Mem.tail _ (List.Mem.tail _ (List.Mem.head _))))))))))
theorem bw_31_10 : Cond.instanceMethod yX11_load ∈ wsL_law := bc_31 (List.Mem.tail _ (List.Mem.tail _ (List.Mem.tail _ (List.Mem.tail _ (List.Mem.tail _ (List.Mem.tail _ (List.Mem.tail _ (List.Mem.tail _ (List.Mem.tail _ (List.Mem.tail _ (List.Mem.head _)))))))))))
theorem bw_31_11 : Cond.selects RX11 yX11_load yX11_load ∈ wsL_law := bc_31 (List.Mem.tail _ (List.Mem.tail _ (List.Mem.tail _ (List.Mem.tail _ (List.Mem.tail _ (List.Mem.tail _ (List.Mem.tail _ (List.Mem.tail _ (List.Mem.tail _ (List.Mem.tail _ (List.Mem.tail _ (List.Mem.head _))))))))))))
theorem bw_31_12 : Cond.code yX11_load cX11_load 3 (some .long) ∈ wsL_law := bc_31 (List.Mem.tail _ (List.Mem.tail _ (List.Mem.tail _ (List.Mem.tail _ (List.Mem.tail _ (List.Mem.tail _ (List.Mem.tail _ (List.Mem.tail _ (List.Mem.tail _ (List.Mem.tail _ (List.Mem.tail _ (List.Mem.tail _ (List.Mem.head _)))))))))))))
theorem bw_31_21 : Cond.methodLink RL 68 yX12_load ∈ wsL_law := bc_31 (List.Mem.tail _ (List.Mem.tail _ (List.Mem.tail _ (List.Mem.tail _ (List.Mem.tail _ (List.Mem.tail _ (List.Mem.tail _ (List.Mem.tail _ (List.Mem.tail _ (List.Mem.tail _ (List.Mem.tail _ (List.Mem.tail _ (List.Mem.tail _ (List.Mem.tail _ (List.Mem.tail _ (List.Mem.tail _ (List.Mem.tail _ (List.Mem.tail _ (List.Mem.tail _ (List.Mem.tail _ (List.Mem.tail _ (List.Mem.head _))))))))))))))))))))))
theorem bw_31_22 : Cond.instanceMethod yX12_load ∈ wsL_law := bc_31 (List.Mem.tail _ (List.Mem.tail _ (List.Mem.tail _ (List.Mem.tail _ (List.Mem.tail _ (List.Mem.tail _ (List.Mem.tail _ (List.Mem.tail _ (List.Mem.tail _ (List.Mem.tail _ (List.Mem.tail _ (List.Mem.tail _ (List.Mem.tail _ (List.Mem.tail _ (List.Mem.tail _ (List.Mem.tail _ (List.Mem.tail _ (List.Mem.tail _ (List.Mem.tail _ (List.Mem.tail _ (List.Mem.tail _ (List.Mem.tail _ (List.Mem.head _)))))))))))))))))))))))
theorem bw_31_23 : Cond.selects RX12 yX12_load yX12_load ∈ wsL_law := bc_31 (List.Mem.tail _ (List.Mem.tail _ (List.Mem.tail _ (List.Mem.tail _ (List.Mem.tail _ (List.Mem.tail _ (List.Mem.tail _ (List.Mem.tail _ (List.Mem.tail _ (List.Mem.tail _ (List.Mem.tail _ (List.Mem.tail _ (List.Mem.tail _ (List.Mem.tail _ (List.Mem.tail _ (List.Mem.tail _ (List.Mem.tail _ (List.Mem.tail _ (List.Mem.tail _ (List.Mem.tail _ (List.Mem.tail _ (List.Mem.tail _ (List.Mem.tail _ (List.Mem.head _))))))))))))))))))))))))
theorem bw_32_0 : Cond.code yX12_load cX12_load 3 (some .long) ∈ wsL_law := bc_32 (List.Mem.head _)
theorem bw_32_1 : Cond.methodLink RL 69 yX11_worst ∈ wsL_law := bc_32 (List.Mem.tail _ (List.Mem.head _))
theorem bw_32_2 : Cond.instanceMethod yX11_worst ∈ wsL_law := bc_32 (List.Mem.tail _ (List.Mem.tail _ (List.Mem.head _)))
theorem bw_32_3 : Cond.selects RX11 yX11_worst yX11_worst ∈ wsL_law := bc_32 (List.Mem.tail _ (List.Mem.tail _ (List.Mem.tail _ (List.Mem.head _))))
theorem bw_32_4 : Cond.code yX11_worst cX11_worst 1 (some .int) ∈ wsL_law := bc_32 (List.Mem.tail _ (List.Mem.tail _ (List.Mem.tail _ (List.Mem.tail _ (List.Mem.head _)))))
theorem bw_32_6 : Cond.methodLink RL 72 yX12_worst ∈ wsL_law := bc_32 (List.Mem.tail _ (List.Mem.tail _ (List.Mem.tail _ (List.Mem.tail _ (List.Mem.tail _ (List.Mem.tail _ (List.Mem.head _)))))))
theorem bw_32_7 : Cond.instanceMethod yX12_worst ∈ wsL_law := bc_32 (List.Mem.tail _ (List.Mem.tail _ (List.Mem.tail _ (List.Mem.tail _ (List.Mem.tail _ (List.Mem.tail _ (List.Mem.tail _ (List.Mem.head _))))))))
theorem bw_32_8 : Cond.selects RX12 yX12_worst yX12_worst ∈ wsL_law := bc_32 (List.Mem.tail _ (List.Mem.tail _ (List.Mem.tail _ (List.Mem.tail _ (List.Mem.tail _ (List.Mem.tail _ (List.Mem.tail _ (List.Mem.tail _ (List.Mem.head _)))))))))
theorem bw_32_9 : Cond.code yX12_worst cX12_worst 1 (some .int) ∈ wsL_law := bc_32 (List.Mem.tail _ (List.Mem.tail _ (List.Mem.tail _ (List.Mem.tail _ (List.Mem.tail _ (List.Mem.tail _ (List.Mem.tail _ (List.Mem.tail _ (List.Mem.tail _ (List.Mem.head _))))))))))
theorem bw_32_10 : Cond.methodLink RL 73 yX11_wind ∈ wsL_law := bc_32 (List.Mem.tail _ (List.Mem.tail _ (List.Mem.tail _ (List.Mem.tail _ (List.Mem.tail _ (List.Mem.tail _ (List.Mem.tail _ (List.Mem.tail _ (List.Mem.tail _ (List.Mem.tail _ (List.Mem.head _)))))))))))
theorem bw_32_11 : Cond.instanceMethod yX11_wind ∈ wsL_law := bc_32 (List.Mem.tail _ (List.Mem.tail _ (List.Mem.tail _ (List.Mem.tail _ (List.Mem.tail _ (List.Mem.tail _ (List.Mem.tail _ (List.Mem.tail _ (List.Mem.tail _ (List.Mem.tail _ (List.Mem.tail _ (List.Mem.head _))))))))))))
theorem bw_32_12 : Cond.selects RX11 yX11_wind yX11_wind ∈ wsL_law := bc_32 (List.Mem.tail _ (List.Mem.tail _ (List.Mem.tail _ (List.Mem.tail _ (List.Mem.tail _ (List.Mem.tail _ (List.Mem.tail _ (List.Mem.tail _ (List.Mem.tail _ (List.Mem.tail _ (List.Mem.tail _ (List.Mem.tail _ (List.Mem.head _)))))))))))))
theorem bw_32_13 : Cond.code yX11_wind cX11_wind 4 (some .int) ∈ wsL_law := bc_32 (List.Mem.tail _ (List.Mem.tail _ (List.Mem.tail _ (List.Mem.tail _ (List.Mem.tail _ (List.Mem.tail _ (List.Mem.tail _ (List.Mem.tail _ (List.Mem.tail _ (List.Mem.tail _ (List.Mem.tail _ (List.Mem.tail _ (List.Mem.tail _ (List.Mem.head _))))))))))))))
theorem bw_35_17 : Cond.methodLink RL 77 yX12_wind ∈ wsL_law := bc_35 (List.Mem.tail _ (List.Mem.tail _ (List.Mem.tail _ (List.Mem.tail _ (List.Mem.tail _ (List.Mem.tail _ (List.Mem.tail _ (List.Mem.tail _ (List.Mem.tail _ (List.Mem.tail _ (List.Mem.tail _ (List.Mem.tail _ (List.Mem.tail _ (List.Mem.tail _ (List.Mem.tail _ (List.Mem.tail _ (List.Mem.tail _ (List.Mem.head _))))))))))))))))))
theorem bw_35_18 : Cond.instanceMethod yX12_wind ∈ wsL_law := bc_35 (List.Mem.tail _ (List.Mem.tail _ (List.Mem.tail _ (List.Mem.tail _ (List.Mem.tail _ (List.Mem.tail _ (List.Mem.tail _ (List.Mem.tail _ (List.Mem.tail _ (List.Mem.tail _ (List.Mem.tail _ (List.Mem.tail _ (List.Mem.tail _ (List.Mem.tail _ (List.Mem.tail _ (List.Mem.tail _ (List.Mem.tail _ (List.Mem.tail _ (List.Mem.head _)))))))))))))))))))
theorem bw_35_19 : Cond.selects RX12 yX12_wind yX12_wind ∈ wsL_law := bc_35 (List.Mem.tail _ (List.Mem.tail _ (List.Mem.tail _ (List.Mem.tail _ (List.Mem.tail _ (List.Mem.tail _ (List.Mem.tail _ (List.Mem.tail _ (List.Mem.tail _ (List.Mem.tail _ (List.Mem.tail _ (List.Mem.tail _ (List.Mem.tail _ (List.Mem.tail _ (List.Mem.tail _ (List.Mem.tail _ (List.Mem.tail _ (List.Mem.tail _ (List.Mem.tail _ (List.Mem.head _))))))))))))))))))))
theorem bw_35_20 : Cond.code yX12_wind cX12_wind 4 (some .int) ∈ wsL_law := bc_35 (List.Mem.tail _ (List.Mem.tail _ (List.Mem.tail _ (List.Mem.tail _ (List.Mem.tail _ (List.Mem.tail _ (List.Mem.tail _ (List.Mem.tail _ (List.Mem.tail _ (List.Mem.tail _ (List.Mem.tail _ (List.Mem.tail _ (List.Mem.tail _ (List.Mem.tail _ (List.Mem.tail _ (List.Mem.tail _ (List.Mem.tail _ (List.Mem.tail _ (List.Mem.tail _ (List.Mem.tail _ (List.Mem.head _)))))))))))))))))))))
theorem bw_38_0 : Cond.methodLink RL 78 yX11_winch ∈ wsL_law := bc_38 (List.Mem.head _)
theorem bw_38_1 : Cond.instanceMethod yX11_winch ∈ wsL_law := bc_38 (List.Mem.tail _ (List.Mem.head _))
theorem bw_38_2 : Cond.selects RX11 yX11_winch yX11_winch ∈ wsL_law := bc_38 (List.Mem.tail _ (List.Mem.tail _ (List.Mem.head _)))
theorem bw_38_3 : Cond.code yX11_winch cX11_winch 3 (some .int) ∈ wsL_law := bc_38 (List.Mem.tail _ (List.Mem.tail _ (List.Mem.tail _ (List.Mem.head _))))
theorem bw_38_4 : Cond.methodLink RL 81 yX12_winch ∈ wsL_law := bc_38 (List.Mem.tail _ (List.Mem.tail _ (List.Mem.tail _ (List.Mem.tail _ (List.Mem.head _)))))
theorem bw_38_5 : Cond.instanceMethod yX12_winch ∈ wsL_law := bc_38 (List.Mem.tail _ (List.Mem.tail _ (List.Mem.tail _ (List.Mem.tail _ (List.Mem.tail _ (List.Mem.head _))))))
theorem bw_38_6 : Cond.selects RX12 yX12_winch yX12_winch ∈ wsL_law := bc_38 (List.Mem.tail _ (List.Mem.tail _ (List.Mem.tail _ (List.Mem.tail _ (List.Mem.tail _ (List.Mem.tail _ (List.Mem.head _)))))))
theorem bw_38_7 : Cond.code yX12_winch cX12_winch 3 (some .int) ∈ wsL_law := bc_38 (List.Mem.tail _ (List.Mem.tail _ (List.Mem.tail _ (List.Mem.tail _ (List.Mem.tail _ (List.Mem.tail _ (List.Mem.tail _ (List.Mem.head _))))))))
theorem bw_38_8 : Cond.methodLink RL 82 yX11_cast ∈ wsL_law := bc_38 (List.Mem.tail _ (List.Mem.tail _ (List.Mem.tail _ (List.Mem.tail _ (List.Mem.tail _ (List.Mem.tail _ (List.Mem.tail _ (List.Mem.tail _ (List.Mem.head _)))))))))
theorem bw_38_9 : Cond.instanceMethod yX11_cast ∈ wsL_law := bc_38 (List.Mem.tail _ (List.Mem.tail _ (List.Mem.tail _ (List.Mem.tail _ (List.Mem.tail _ (List.Mem.tail _ (List.Mem.tail _ (List.Mem.tail _ (List.Mem.tail _ (List.Mem.head _))))))))))
theorem bw_38_10 : Cond.selects RX11 yX11_cast yX11_cast ∈ wsL_law := bc_38 (List.Mem.tail _ (List.Mem.tail _ (List.Mem.tail _ (List.Mem.tail _ (List.Mem.tail _ (List.Mem.tail _ (List.Mem.tail _ (List.Mem.tail _ (List.Mem.tail _ (List.Mem.tail _ (List.Mem.head _)))))))))))
theorem bw_38_11 : Cond.code yX11_cast cX11_cast 2 (some .int) ∈ wsL_law := bc_38 (List.Mem.tail _ (List.Mem.tail _ (List.Mem.tail _ (List.Mem.tail _ (List.Mem.tail _ (List.Mem.tail _ (List.Mem.tail _ (List.Mem.tail _ (List.Mem.tail _ (List.Mem.tail _ (List.Mem.tail _ (List.Mem.head _))))))))))))
theorem bw_38_12 : Cond.methodLink RL 85 yX12_cast ∈ wsL_law := bc_38 (List.Mem.tail _ (List.Mem.tail _ (List.Mem.tail _ (List.Mem.tail _ (List.Mem.tail _ (List.Mem.tail _ (List.Mem.tail _ (List.Mem.tail _ (List.Mem.tail _ (List.Mem.tail _ (List.Mem.tail _ (List.Mem.tail _ (List.Mem.head _)))))))))))))
theorem bw_38_13 : Cond.instanceMethod yX12_cast ∈ wsL_law := bc_38 (List.Mem.tail _ (List.Mem.tail _ (List.Mem.tail _ (List.Mem.tail _ (List.Mem.tail _ (List.Mem.tail _ (List.Mem.tail _ (List.Mem.tail _ (List.Mem.tail _ (List.Mem.tail _ (List.Mem.tail _ (List.Mem.tail _ (List.Mem.tail _ (List.Mem.head _))))))))))))))
theorem bw_38_14 : Cond.selects RX12 yX12_cast yX12_cast ∈ wsL_law := bc_38 (List.Mem.tail _ (List.Mem.tail _ (List.Mem.tail _ (List.Mem.tail _ (List.Mem.tail _ (List.Mem.tail _ (List.Mem.tail _ (List.Mem.tail _ (List.Mem.tail _ (List.Mem.tail _ (List.Mem.tail _ (List.Mem.tail _ (List.Mem.tail _ (List.Mem.tail _ (List.Mem.head _)))))))))))))))
theorem bw_38_15 : Cond.code yX12_cast cX12_cast 2 (some .int) ∈ wsL_law := bc_38 (List.Mem.tail _ (List.Mem.tail _ (List.Mem.tail _ (List.Mem.tail _ (List.Mem.tail _ (List.Mem.tail _ (List.Mem.tail _ (List.Mem.tail _ (List.Mem.tail _ (List.Mem.tail _ (List.Mem.tail _ (List.Mem.tail _ (List.Mem.tail _ (List.Mem.tail _ (List.Mem.tail _ (List.Mem.head _))))))))))))))))
theorem bw_38_16 : Cond.methodLink RL 86 yX11_renew ∈ wsL_law := bc_38 (List.Mem.tail _ (List.Mem.tail _ (List.Mem.tail _ (List.Mem.tail _ (List.Mem.tail _ (List.Mem.tail _ (List.Mem.tail _ (List.Mem.tail _ (List.Mem.tail _ (List.Mem.tail _ (List.Mem.tail _ (List.Mem.tail _ (List.Mem.tail _ (List.Mem.tail _ (List.Mem.tail _ (List.Mem.tail _ (List.Mem.head _)))))))))))))))))
theorem bw_38_17 : Cond.instanceMethod yX11_renew ∈ wsL_law := bc_38 (List.Mem.tail _ (List.Mem.tail _ (List.Mem.tail _ (List.Mem.tail _ (List.Mem.tail _ (List.Mem.tail _ (List.Mem.tail _ (List.Mem.tail _ (List.Mem.tail _ (List.Mem.tail _ (List.Mem.tail _ (List.Mem.tail _ (List.Mem.tail _ (List.Mem.tail _ (List.Mem.tail _ (List.Mem.tail _ (List.Mem.tail _ (List.Mem.head _))))))))))))))))))
theorem bw_38_18 : Cond.selects RX11 yX11_renew yX11_renew ∈ wsL_law := bc_38 (List.Mem.tail _ (List.Mem.tail _ (List.Mem.tail _ (List.Mem.tail _ (List.Mem.tail _ (List.Mem.tail _ (List.Mem.tail _ (List.Mem.tail _ (List.Mem.tail _ (List.Mem.tail _ (List.Mem.tail _ (List.Mem.tail _ (List.Mem.tail _ (List.Mem.tail _ (List.Mem.tail _ (List.Mem.tail _ (List.Mem.tail _ (List.Mem.tail _ (List.Mem.head _)))))))))))))))))))
theorem bw_38_19 : Cond.code yX11_renew cX11_renew 2 (some .int) ∈ wsL_law := bc_38 (List.Mem.tail _ (List.Mem.tail _ (List.Mem.tail _ (List.Mem.tail _ (List.Mem.tail _ (List.Mem.tail _ (List.Mem.tail _ (List.Mem.tail _ (List.Mem.tail _ (List.Mem.tail _ (List.Mem.tail _ (List.Mem.tail _ (List.Mem.tail _ (List.Mem.tail _ (List.Mem.tail _ (List.Mem.tail _ (List.Mem.tail _ (List.Mem.tail _ (List.Mem.tail _ (List.Mem.head _))))))))))))))))))))
theorem bw_38_20 : Cond.methodLink RL 89 yX12_renew ∈ wsL_law := bc_38 (List.Mem.tail _ (List.Mem.tail _ (List.Mem.tail _ (List.Mem.tail _ (List.Mem.tail _ (List.Mem.tail _ (List.Mem.tail _ (List.Mem.tail _ (List.Mem.tail _ (List.Mem.tail _ (List.Mem.tail _ (List.Mem.tail _ (List.Mem.tail _ (List.Mem.tail _ (List.Mem.tail _ (List.Mem.tail _ (List.Mem.tail _ (List.Mem.tail _ (List.Mem.tail _ (List.Mem.tail _ (List.Mem.head _)))))))))))))))))))))
theorem bw_38_21 : Cond.instanceMethod yX12_renew ∈ wsL_law := bc_38 (List.Mem.tail _ (List.Mem.tail _ (List.Mem.tail _ (List.Mem.tail _ (List.Mem.tail _ (List.Mem.tail _ (List.Mem.tail _ (List.Mem.tail _ (List.Mem.tail _ (List.Mem.tail _ (List.Mem.tail _ (List.Mem.tail _ (List.Mem.tail _ (List.Mem.tail _ (List.Mem.tail _ (List.Mem.tail _ (List.Mem.tail _ (List.Mem.tail _ (List.Mem.tail _ (List.Mem.tail _ (List.Mem.tail _ (List.Mem.head _))))))))))))))))))))))
theorem bw_38_22 : Cond.selects RX12 yX12_renew yX12_renew ∈ wsL_law := bc_38 (List.Mem.tail _ (List.Mem.tail _ (List.Mem.tail _ (List.Mem.tail _ (List.Mem.tail _ (List.Mem.tail _ (List.Mem.tail _ (List.Mem.tail _ (List.Mem.tail _ (List.Mem.tail _ (List.Mem.tail _ (List.Mem.tail _ (List.Mem.tail _ (List.Mem.tail _ (List.Mem.tail _ (List.Mem.tail _ (List.Mem.tail _ (List.Mem.tail _ (List.Mem.tail _ (List.Mem.tail _ (List.Mem.tail _ (List.Mem.tail _ (List.Mem.head _)))))))))))))))))))))))
theorem bw_38_23 : Cond.code yX12_renew cX12_renew 2 (some .int) ∈ wsL_law := bc_38 (List.Mem.tail _ (List.Mem.tail _ (List.Mem.tail _ (List.Mem.tail _ (List.Mem.tail _ (List.Mem.tail _ (List.Mem.tail _ (List.Mem.tail _ (List.Mem.tail _ (List.Mem.tail _ (List.Mem.tail _ (List.Mem.tail _ (List.Mem.tail _ (List.Mem.tail _ (List.Mem.tail _ (List.Mem.tail _ (List.Mem.tail _ (List.Mem.tail _ (List.Mem.tail _ (List.Mem.tail _ (List.Mem.tail _ (List.Mem.tail _ (List.Mem.tail _ (List.Mem.head _))))))))))))))))))))))))
theorem bw_39_0 : Cond.methodLink RL 90 yX11_status ∈ wsL_law := bc_39 (List.Mem.head _)
theorem bw_39_1 : Cond.instanceMethod yX11_status ∈ wsL_law := bc_39 (List.Mem.tail _ (List.Mem.head _))
theorem bw_39_2 : Cond.selects RX11 yX11_status yX11_status ∈ wsL_law := bc_39 (List.Mem.tail _ (List.Mem.tail _ (List.Mem.head _)))
theorem bw_39_3 : Cond.code yX11_status cX11_status 2 (some .int) ∈ wsL_law := bc_39 (List.Mem.tail _ (List.Mem.tail _ (List.Mem.tail _ (List.Mem.head _))))
theorem bw_39_5 : Cond.methodLink RL 93 yX12_status ∈ wsL_law := bc_39 (List.Mem.tail _ (List.Mem.tail _ (List.Mem.tail _ (List.Mem.tail _ (List.Mem.tail _ (List.Mem.head _))))))
theorem bw_39_6 : Cond.instanceMethod yX12_status ∈ wsL_law := bc_39 (List.Mem.tail _ (List.Mem.tail _ (List.Mem.tail _ (List.Mem.tail _ (List.Mem.tail _ (List.Mem.tail _ (List.Mem.head _)))))))
theorem bw_39_7 : Cond.selects RX12 yX12_status yX12_status ∈ wsL_law := bc_39 (List.Mem.tail _ (List.Mem.tail _ (List.Mem.tail _ (List.Mem.tail _ (List.Mem.tail _ (List.Mem.tail _ (List.Mem.tail _ (List.Mem.head _))))))))
theorem bw_39_8 : Cond.code yX12_status cX12_status 2 (some .int) ∈ wsL_law := bc_39 (List.Mem.tail _ (List.Mem.tail _ (List.Mem.tail _ (List.Mem.tail _ (List.Mem.tail _ (List.Mem.tail _ (List.Mem.tail _ (List.Mem.tail _ (List.Mem.head _)))))))))
theorem bw_39_9 : Cond.methodLink RL 94 yX11_cause ∈ wsL_law := bc_39 (List.Mem.tail _ (List.Mem.tail _ (List.Mem.tail _ (List.Mem.tail _ (List.Mem.tail _ (List.Mem.tail _ (List.Mem.tail _ (List.Mem.tail _ (List.Mem.tail _ (List.Mem.head _))))))))))
theorem bw_39_10 : Cond.instanceMethod yX11_cause ∈ wsL_law := bc_39 (List.Mem.tail _ (List.Mem.tail _ (List.Mem.tail _ (List.Mem.tail _ (List.Mem.tail _ (List.Mem.tail _ (List.Mem.tail _ (List.Mem.tail _ (List.Mem.tail _ (List.Mem.tail _ (List.Mem.head _)))))))))))
theorem bw_39_11 : Cond.selects RX11 yX11_cause yX11_cause ∈ wsL_law := bc_39 (List.Mem.tail _ (List.Mem.tail _ (List.Mem.tail _ (List.Mem.tail _ (List.Mem.tail _ (List.Mem.tail _ (List.Mem.tail _ (List.Mem.tail _ (List.Mem.tail _ (List.Mem.tail _ (List.Mem.tail _ (List.Mem.head _))))))))))))
theorem bw_39_12 : Cond.code yX11_cause cX11_cause 2 (some .int) ∈ wsL_law := bc_39 (List.Mem.tail _ (List.Mem.tail _ (List.Mem.tail _ (List.Mem.tail _ (List.Mem.tail _ (List.Mem.tail _ (List.Mem.tail _ (List.Mem.tail _ (List.Mem.tail _ (List.Mem.tail _ (List.Mem.tail _ (List.Mem.tail _ (List.Mem.head _)))))))))))))
theorem bw_39_17 : Cond.methodLink RL 97 yX12_cause ∈ wsL_law := bc_39 (List.Mem.tail _ (List.Mem.tail _ (List.Mem.tail _ (List.Mem.tail _ (List.Mem.tail _ (List.Mem.tail _ (List.Mem.tail _ (List.Mem.tail _ (List.Mem.tail _ (List.Mem.tail _ (List.Mem.tail _ (List.Mem.tail _ (List.Mem.tail _ (List.Mem.tail _ (List.Mem.tail _ (List.Mem.tail _ (List.Mem.tail _ (List.Mem.head _))))))))))))))))))
theorem bw_39_18 : Cond.instanceMethod yX12_cause ∈ wsL_law := bc_39 (List.Mem.tail _ (List.Mem.tail _ (List.Mem.tail _ (List.Mem.tail _ (List.Mem.tail _ (List.Mem.tail _ (List.Mem.tail _ (List.Mem.tail _ (List.Mem.tail _ (List.Mem.tail _ (List.Mem.tail _ (List.Mem.tail _ (List.Mem.tail _ (List.Mem.tail _ (List.Mem.tail _ (List.Mem.tail _ (List.Mem.tail _ (List.Mem.tail _ (List.Mem.head _)))))))))))))))))))
theorem bw_39_19 : Cond.selects RX12 yX12_cause yX12_cause ∈ wsL_law := bc_39 (List.Mem.tail _ (List.Mem.tail _ (List.Mem.tail _ (List.Mem.tail _ (List.Mem.tail _ (List.Mem.tail _ (List.Mem.tail _ (List.Mem.tail _ (List.Mem.tail _ (List.Mem.tail _ (List.Mem.tail _ (List.Mem.tail _ (List.Mem.tail _ (List.Mem.tail _ (List.Mem.tail _ (List.Mem.tail _ (List.Mem.tail _ (List.Mem.tail _ (List.Mem.tail _ (List.Mem.head _))))))))))))))))))))
theorem bw_39_20 : Cond.code yX12_cause cX12_cause 2 (some .int) ∈ wsL_law := bc_39 (List.Mem.tail _ (List.Mem.tail _ (List.Mem.tail _ (List.Mem.tail _ (List.Mem.tail _ (List.Mem.tail _ (List.Mem.tail _ (List.Mem.tail _ (List.Mem.tail _ (List.Mem.tail _ (List.Mem.tail _ (List.Mem.tail _ (List.Mem.tail _ (List.Mem.tail _ (List.Mem.tail _ (List.Mem.tail _ (List.Mem.tail _ (List.Mem.tail _ (List.Mem.tail _ (List.Mem.tail _ (List.Mem.head _)))))))))))))))))))))
theorem bw_39_21 : Cond.methodLink RL 98 yX11_undo ∈ wsL_law := bc_39 (List.Mem.tail _ (List.Mem.tail _ (List.Mem.tail _ (List.Mem.tail _ (List.Mem.tail _ (List.Mem.tail _ (List.Mem.tail _ (List.Mem.tail _ (List.Mem.tail _ (List.Mem.tail _ (List.Mem.tail _ (List.Mem.tail _ (List.Mem.tail _ (List.Mem.tail _ (List.Mem.tail _ (List.Mem.tail _ (List.Mem.tail _ (List.Mem.tail _ (List.Mem.tail _ (List.Mem.tail _ (List.Mem.tail _ (List.Mem.head _))))))))))))))))))))))
theorem bw_39_22 : Cond.instanceMethod yX11_undo ∈ wsL_law := bc_39 (List.Mem.tail _ (List.Mem.tail _ (List.Mem.tail _ (List.Mem.tail _ (List.Mem.tail _ (List.Mem.tail _ (List.Mem.tail _ (List.Mem.tail _ (List.Mem.tail _ (List.Mem.tail _ (List.Mem.tail _ (List.Mem.tail _ (List.Mem.tail _ (List.Mem.tail _ (List.Mem.tail _ (List.Mem.tail _ (List.Mem.tail _ (List.Mem.tail _ (List.Mem.tail _ (List.Mem.tail _ (List.Mem.tail _ (List.Mem.tail _ (List.Mem.head _)))))))))))))))))))))))
theorem bw_39_23 : Cond.selects RX11 yX11_undo yX11_undo ∈ wsL_law := bc_39 (List.Mem.tail _ (List.Mem.tail _ (List.Mem.tail _ (List.Mem.tail _ (List.Mem.tail _ (List.Mem.tail _ (List.Mem.tail _ (List.Mem.tail _ (List.Mem.tail _ (List.Mem.tail _ (List.Mem.tail _ (List.Mem.tail _ (List.Mem.tail _ (List.Mem.tail _ (List.Mem.tail _ (List.Mem.tail _ (List.Mem.tail _ (List.Mem.tail _ (List.Mem.tail _ (List.Mem.tail _ (List.Mem.tail _ (List.Mem.tail _ (List.Mem.tail _ (List.Mem.head _))))))))))))))))))))))))
theorem bw_40_0 : Cond.code yX11_undo cX11_undo 1 (some .int) ∈ wsL_law := bc_40 (List.Mem.head _)
theorem bw_40_6 : Cond.methodLink RL 101 yX12_undo ∈ wsL_law := bc_40 (List.Mem.tail _ (List.Mem.tail _ (List.Mem.tail _ (List.Mem.tail _ (List.Mem.tail _ (List.Mem.tail _ (List.Mem.head _)))))))
theorem bw_40_7 : Cond.instanceMethod yX12_undo ∈ wsL_law := bc_40 (List.Mem.tail _ (List.Mem.tail _ (List.Mem.tail _ (List.Mem.tail _ (List.Mem.tail _ (List.Mem.tail _ (List.Mem.tail _ (List.Mem.head _))))))))
theorem bw_40_8 : Cond.selects RX12 yX12_undo yX12_undo ∈ wsL_law := bc_40 (List.Mem.tail _ (List.Mem.tail _ (List.Mem.tail _ (List.Mem.tail _ (List.Mem.tail _ (List.Mem.tail _ (List.Mem.tail _ (List.Mem.tail _ (List.Mem.head _)))))))))
theorem bw_40_9 : Cond.code yX12_undo cX12_undo 1 (some .int) ∈ wsL_law := bc_40 (List.Mem.tail _ (List.Mem.tail _ (List.Mem.tail _ (List.Mem.tail _ (List.Mem.tail _ (List.Mem.tail _ (List.Mem.tail _ (List.Mem.tail _ (List.Mem.tail _ (List.Mem.head _))))))))))
theorem bw_40_10 : Cond.methodLink RL 102 yX11_log ∈ wsL_law := bc_40 (List.Mem.tail _ (List.Mem.tail _ (List.Mem.tail _ (List.Mem.tail _ (List.Mem.tail _ (List.Mem.tail _ (List.Mem.tail _ (List.Mem.tail _ (List.Mem.tail _ (List.Mem.tail _ (List.Mem.head _)))))))))))
theorem bw_40_11 : Cond.instanceMethod yX11_log ∈ wsL_law := bc_40 (List.Mem.tail _ (List.Mem.tail _ (List.Mem.tail _ (List.Mem.tail _ (List.Mem.tail _ (List.Mem.tail _ (List.Mem.tail _ (List.Mem.tail _ (List.Mem.tail _ (List.Mem.tail _ (List.Mem.tail _ (List.Mem.head _))))))))))))
theorem bw_40_12 : Cond.selects RX11 yX11_log yX11_log ∈ wsL_law := bc_40 (List.Mem.tail _ (List.Mem.tail _ (List.Mem.tail _ (List.Mem.tail _ (List.Mem.tail _ (List.Mem.tail _ (List.Mem.tail _ (List.Mem.tail _ (List.Mem.tail _ (List.Mem.tail _ (List.Mem.tail _ (List.Mem.tail _ (List.Mem.head _)))))))))))))
theorem bw_40_13 : Cond.code yX11_log cX11_log 3 (some .int) ∈ wsL_law := bc_40 (List.Mem.tail _ (List.Mem.tail _ (List.Mem.tail _ (List.Mem.tail _ (List.Mem.tail _ (List.Mem.tail _ (List.Mem.tail _ (List.Mem.tail _ (List.Mem.tail _ (List.Mem.tail _ (List.Mem.tail _ (List.Mem.tail _ (List.Mem.tail _ (List.Mem.head _))))))))))))))
theorem bw_40_23 : Cond.methodLink RL 105 yX12_log ∈ wsL_law := bc_40 (List.Mem.tail _ (List.Mem.tail _ (List.Mem.tail _ (List.Mem.tail _ (List.Mem.tail _ (List.Mem.tail _ (List.Mem.tail _ (List.Mem.tail _ (List.Mem.tail _ (List.Mem.tail _ (List.Mem.tail _ (List.Mem.tail _ (List.Mem.tail _ (List.Mem.tail _ (List.Mem.tail _ (List.Mem.tail _ (List.Mem.tail _ (List.Mem.tail _ (List.Mem.tail _ (List.Mem.tail _ (List.Mem.tail _ (List.Mem.tail _ (List.Mem.tail _ (List.Mem.head _))))))))))))))))))))))))
theorem bw_41_0 : Cond.instanceMethod yX12_log ∈ wsL_law := bc_41 (List.Mem.head _)
theorem bw_41_1 : Cond.selects RX12 yX12_log yX12_log ∈ wsL_law := bc_41 (List.Mem.tail _ (List.Mem.head _))
theorem bw_41_2 : Cond.code yX12_log cX12_log 3 (some .int) ∈ wsL_law := bc_41 (List.Mem.tail _ (List.Mem.tail _ (List.Mem.head _)))
theorem bw_41_3 : Cond.methodLink RL 106 yX11_step ∈ wsL_law := bc_41 (List.Mem.tail _ (List.Mem.tail _ (List.Mem.tail _ (List.Mem.head _))))
theorem bw_41_4 : Cond.instanceMethod yX11_step ∈ wsL_law := bc_41 (List.Mem.tail _ (List.Mem.tail _ (List.Mem.tail _ (List.Mem.tail _ (List.Mem.head _)))))
theorem bw_41_5 : Cond.selects RX11 yX11_step yX11_step ∈ wsL_law := bc_41 (List.Mem.tail _ (List.Mem.tail _ (List.Mem.tail _ (List.Mem.tail _ (List.Mem.tail _ (List.Mem.head _))))))
theorem bw_41_6 : Cond.code yX11_step cX11_step 4 (some .int) ∈ wsL_law := bc_41 (List.Mem.tail _ (List.Mem.tail _ (List.Mem.tail _ (List.Mem.tail _ (List.Mem.tail _ (List.Mem.tail _ (List.Mem.head _)))))))
theorem bw_41_21 : Cond.methodLink RL 109 yX12_step ∈ wsL_law := bc_41 (List.Mem.tail _ (List.Mem.tail _ (List.Mem.tail _ (List.Mem.tail _ (List.Mem.tail _ (List.Mem.tail _ (List.Mem.tail _ (List.Mem.tail _ (List.Mem.tail _ (List.Mem.tail _ (List.Mem.tail _ (List.Mem.tail _ (List.Mem.tail _ (List.Mem.tail _ (List.Mem.tail _ (List.Mem.tail _ (List.Mem.tail _ (List.Mem.tail _ (List.Mem.tail _ (List.Mem.tail _ (List.Mem.tail _ (List.Mem.head _))))))))))))))))))))))
theorem bw_41_22 : Cond.instanceMethod yX12_step ∈ wsL_law := bc_41 (List.Mem.tail _ (List.Mem.tail _ (List.Mem.tail _ (List.Mem.tail _ (List.Mem.tail _ (List.Mem.tail _ (List.Mem.tail _ (List.Mem.tail _ (List.Mem.tail _ (List.Mem.tail _ (List.Mem.tail _ (List.Mem.tail _ (List.Mem.tail _ (List.Mem.tail _ (List.Mem.tail _ (List.Mem.tail _ (List.Mem.tail _ (List.Mem.tail _ (List.Mem.tail _ (List.Mem.tail _ (List.Mem.tail _ (List.Mem.tail _ (List.Mem.head _)))))))))))))))))))))))
theorem bw_41_23 : Cond.selects RX12 yX12_step yX12_step ∈ wsL_law := bc_41 (List.Mem.tail _ (List.Mem.tail _ (List.Mem.tail _ (List.Mem.tail _ (List.Mem.tail _ (List.Mem.tail _ (List.Mem.tail _ (List.Mem.tail _ (List.Mem.tail _ (List.Mem.tail _ (List.Mem.tail _ (List.Mem.tail _ (List.Mem.tail _ (List.Mem.tail _ (List.Mem.tail _ (List.Mem.tail _ (List.Mem.tail _ (List.Mem.tail _ (List.Mem.tail _ (List.Mem.tail _ (List.Mem.tail _ (List.Mem.tail _ (List.Mem.tail _ (List.Mem.head _))))))))))))))))))))))))
theorem bw_42_0 : Cond.code yX12_step cX12_step 4 (some .int) ∈ wsL_law := bc_42 (List.Mem.head _)
theorem bw_42_6 : Cond.methodLink RL 110 yX11_run ∈ wsL_law := bc_42 (List.Mem.tail _ (List.Mem.tail _ (List.Mem.tail _ (List.Mem.tail _ (List.Mem.tail _ (List.Mem.tail _ (List.Mem.head _)))))))
theorem bw_42_7 : Cond.instanceMethod yX11_run ∈ wsL_law := bc_42 (List.Mem.tail _ (List.Mem.tail _ (List.Mem.tail _ (List.Mem.tail _ (List.Mem.tail _ (List.Mem.tail _ (List.Mem.tail _ (List.Mem.head _))))))))
theorem bw_42_8 : Cond.selects RX11 yX11_run yX11_run ∈ wsL_law := bc_42 (List.Mem.tail _ (List.Mem.tail _ (List.Mem.tail _ (List.Mem.tail _ (List.Mem.tail _ (List.Mem.tail _ (List.Mem.tail _ (List.Mem.tail _ (List.Mem.head _)))))))))
theorem bw_42_9 : Cond.code yX11_run cX11_run 6 (some .int) ∈ wsL_law := bc_42 (List.Mem.tail _ (List.Mem.tail _ (List.Mem.tail _ (List.Mem.tail _ (List.Mem.tail _ (List.Mem.tail _ (List.Mem.tail _ (List.Mem.tail _ (List.Mem.tail _ (List.Mem.head _))))))))))
theorem bw_42_22 : Cond.methodLink RL 113 yX12_run ∈ wsL_law := bc_42 (List.Mem.tail _ (List.Mem.tail _ (List.Mem.tail _ (List.Mem.tail _ (List.Mem.tail _ (List.Mem.tail _ (List.Mem.tail _ (List.Mem.tail _ (List.Mem.tail _ (List.Mem.tail _ (List.Mem.tail _ (List.Mem.tail _ (List.Mem.tail _ (List.Mem.tail _ (List.Mem.tail _ (List.Mem.tail _ (List.Mem.tail _ (List.Mem.tail _ (List.Mem.tail _ (List.Mem.tail _ (List.Mem.tail _ (List.Mem.tail _ (List.Mem.head _)))))))))))))))))))))))
theorem bw_42_23 : Cond.instanceMethod yX12_run ∈ wsL_law := bc_42 (List.Mem.tail _ (List.Mem.tail _ (List.Mem.tail _ (List.Mem.tail _ (List.Mem.tail _ (List.Mem.tail _ (List.Mem.tail _ (List.Mem.tail _ (List.Mem.tail _ (List.Mem.tail _ (List.Mem.tail _ (List.Mem.tail _ (List.Mem.tail _ (List.Mem.tail _ (List.Mem.tail _ (List.Mem.tail _ (List.Mem.tail _ (List.Mem.tail _ (List.Mem.tail _ (List.Mem.tail _ (List.Mem.tail _ (List.Mem.tail _ (List.Mem.tail _ (List.Mem.head _))))))))))))))))))))))))
theorem bw_43_0 : Cond.selects RX12 yX12_run yX12_run ∈ wsL_law := bc_43 (List.Mem.head _)
theorem bw_43_1 : Cond.code yX12_run cX12_run 4 (some .int) ∈ wsL_law := bc_43 (List.Mem.tail _ (List.Mem.head _))
theorem bw_43_14 : Cond.methodLink RL 114 yX11_perform ∈ wsL_law := bc_43 (List.Mem.tail _ (List.Mem.tail _ (List.Mem.tail _ (List.Mem.tail _ (List.Mem.tail _ (List.Mem.tail _ (List.Mem.tail _ (List.Mem.tail _ (List.Mem.tail _ (List.Mem.tail _ (List.Mem.tail _ (List.Mem.tail _ (List.Mem.tail _ (List.Mem.tail _ (List.Mem.head _)))))))))))))))
theorem bw_43_15 : Cond.instanceMethod yX11_perform ∈ wsL_law := bc_43 (List.Mem.tail _ (List.Mem.tail _ (List.Mem.tail _ (List.Mem.tail _ (List.Mem.tail _ (List.Mem.tail _ (List.Mem.tail _ (List.Mem.tail _ (List.Mem.tail _ (List.Mem.tail _ (List.Mem.tail _ (List.Mem.tail _ (List.Mem.tail _ (List.Mem.tail _ (List.Mem.tail _ (List.Mem.head _))))))))))))))))
theorem bw_43_16 : Cond.selects RX11 yX11_perform yX11_perform ∈ wsL_law := bc_43 (List.Mem.tail _ (List.Mem.tail _ (List.Mem.tail _ (List.Mem.tail _ (List.Mem.tail _ (List.Mem.tail _ (List.Mem.tail _ (List.Mem.tail _ (List.Mem.tail _ (List.Mem.tail _ (List.Mem.tail _ (List.Mem.tail _ (List.Mem.tail _ (List.Mem.tail _ (List.Mem.tail _ (List.Mem.tail _ (List.Mem.head _)))))))))))))))))
theorem bw_43_17 : Cond.code yX11_perform cX11_perform 5 (some .int) ∈ wsL_law := bc_43 (List.Mem.tail _ (List.Mem.tail _ (List.Mem.tail _ (List.Mem.tail _ (List.Mem.tail _ (List.Mem.tail _ (List.Mem.tail _ (List.Mem.tail _ (List.Mem.tail _ (List.Mem.tail _ (List.Mem.tail _ (List.Mem.tail _ (List.Mem.tail _ (List.Mem.tail _ (List.Mem.tail _ (List.Mem.tail _ (List.Mem.tail _ (List.Mem.head _))))))))))))))))))
theorem bw_43_18 : Cond.methodLink RL 117 yX12_perform ∈ wsL_law := bc_43 (List.Mem.tail _ (List.Mem.tail _ (List.Mem.tail _ (List.Mem.tail _ (List.Mem.tail _ (List.Mem.tail _ (List.Mem.tail _ (List.Mem.tail _ (List.Mem.tail _ (List.Mem.tail _ (List.Mem.tail _ (List.Mem.tail _ (List.Mem.tail _ (List.Mem.tail _ (List.Mem.tail _ (List.Mem.tail _ (List.Mem.tail _ (List.Mem.tail _ (List.Mem.head _)))))))))))))))))))
theorem bw_43_19 : Cond.instanceMethod yX12_perform ∈ wsL_law := bc_43 (List.Mem.tail _ (List.Mem.tail _ (List.Mem.tail _ (List.Mem.tail _ (List.Mem.tail _ (List.Mem.tail _ (List.Mem.tail _ (List.Mem.tail _ (List.Mem.tail _ (List.Mem.tail _ (List.Mem.tail _ (List.Mem.tail _ (List.Mem.tail _ (List.Mem.tail _ (List.Mem.tail _ (List.Mem.tail _ (List.Mem.tail _ (List.Mem.tail _ (List.Mem.tail _ (List.Mem.head _))))))))))))))))))))
theorem bw_43_20 : Cond.selects RX12 yX12_perform yX12_perform ∈ wsL_law := bc_43 (List.Mem.tail _ (List.Mem.tail _ (List.Mem.tail _ (List.Mem.tail _ (List.Mem.tail _ (List.Mem.tail _ (List.Mem.tail _ (List.Mem.tail _ (List.Mem.tail _ (List.Mem.tail _ (List.Mem.tail _ (List.Mem.tail _ (List.Mem.tail _ (List.Mem.tail _ (List.Mem.tail _ (List.Mem.tail _ (List.Mem.tail _ (List.Mem.tail _ (List.Mem.tail _ (List.Mem.tail _ (List.Mem.head _)))))))))))))))))))))
theorem bw_43_21 : Cond.code yX12_perform cX12_perform 3 (some .int) ∈ wsL_law := bc_43 (List.Mem.tail _ (List.Mem.tail _ (List.Mem.tail _ (List.Mem.tail _ (List.Mem.tail _ (List.Mem.tail _ (List.Mem.tail _ (List.Mem.tail _ (List.Mem.tail _ (List.Mem.tail _ (List.Mem.tail _ (List.Mem.tail _ (List.Mem.tail _ (List.Mem.tail _ (List.Mem.tail _ (List.Mem.tail _ (List.Mem.tail _ (List.Mem.tail _ (List.Mem.tail _ (List.Mem.tail _ (List.Mem.tail _ (List.Mem.head _))))))))))))))))))))))
theorem bw_43_22 : Cond.methodLink RL 118 yX11_stand ∈ wsL_law := bc_43 (List.Mem.tail _ (List.Mem.tail _ (List.Mem.tail _ (List.Mem.tail _ (List.Mem.tail _ (List.Mem.tail _ (List.Mem.tail _ (List.Mem.tail _ (List.Mem.tail _ (List.Mem.tail _ (List.Mem.tail _ (List.Mem.tail _ (List.Mem.tail _ (List.Mem.tail _ (List.Mem.tail _ (List.Mem.tail _ (List.Mem.tail _ (List.Mem.tail _ (List.Mem.tail _ (List.Mem.tail _ (List.Mem.tail _ (List.Mem.tail _ (List.Mem.head _)))))))))))))))))))))))
theorem bw_43_23 : Cond.instanceMethod yX11_stand ∈ wsL_law := bc_43 (List.Mem.tail _ (List.Mem.tail _ (List.Mem.tail _ (List.Mem.tail _ (List.Mem.tail _ (List.Mem.tail _ (List.Mem.tail _ (List.Mem.tail _ (List.Mem.tail _ (List.Mem.tail _ (List.Mem.tail _ (List.Mem.tail _ (List.Mem.tail _ (List.Mem.tail _ (List.Mem.tail _ (List.Mem.tail _ (List.Mem.tail _ (List.Mem.tail _ (List.Mem.tail _ (List.Mem.tail _ (List.Mem.tail _ (List.Mem.tail _ (List.Mem.tail _ (List.Mem.head _))))))))))))))))))))))))
theorem bw_44_0 : Cond.selects RX11 yX11_stand yX11_stand ∈ wsL_law := bc_44 (List.Mem.head _)
theorem bw_44_1 : Cond.code yX11_stand cX11_stand 6 (some .int) ∈ wsL_law := bc_44 (List.Mem.tail _ (List.Mem.head _))
theorem bw_44_15 : Cond.methodLink RL 122 yX12_stand ∈ wsL_law := bc_44 (List.Mem.tail _ (List.Mem.tail _ (List.Mem.tail _ (List.Mem.tail _ (List.Mem.tail _ (List.Mem.tail _ (List.Mem.tail _ (List.Mem.tail _ (List.Mem.tail _ (List.Mem.tail _ (List.Mem.tail _ (List.Mem.tail _ (List.Mem.tail _ (List.Mem.tail _ (List.Mem.tail _ (List.Mem.head _))))))))))))))))
theorem bw_44_16 : Cond.instanceMethod yX12_stand ∈ wsL_law := bc_44 (List.Mem.tail _ (List.Mem.tail _ (List.Mem.tail _ (List.Mem.tail _ (List.Mem.tail _ (List.Mem.tail _ (List.Mem.tail _ (List.Mem.tail _ (List.Mem.tail _ (List.Mem.tail _ (List.Mem.tail _ (List.Mem.tail _ (List.Mem.tail _ (List.Mem.tail _ (List.Mem.tail _ (List.Mem.tail _ (List.Mem.head _)))))))))))))))))
theorem bw_44_17 : Cond.selects RX12 yX12_stand yX12_stand ∈ wsL_law := bc_44 (List.Mem.tail _ (List.Mem.tail _ (List.Mem.tail _ (List.Mem.tail _ (List.Mem.tail _ (List.Mem.tail _ (List.Mem.tail _ (List.Mem.tail _ (List.Mem.tail _ (List.Mem.tail _ (List.Mem.tail _ (List.Mem.tail _ (List.Mem.tail _ (List.Mem.tail _ (List.Mem.tail _ (List.Mem.tail _ (List.Mem.tail _ (List.Mem.head _))))))))))))))))))
theorem bw_44_18 : Cond.code yX12_stand cX12_stand 6 (some .int) ∈ wsL_law := bc_44 (List.Mem.tail _ (List.Mem.tail _ (List.Mem.tail _ (List.Mem.tail _ (List.Mem.tail _ (List.Mem.tail _ (List.Mem.tail _ (List.Mem.tail _ (List.Mem.tail _ (List.Mem.tail _ (List.Mem.tail _ (List.Mem.tail _ (List.Mem.tail _ (List.Mem.tail _ (List.Mem.tail _ (List.Mem.tail _ (List.Mem.tail _ (List.Mem.tail _ (List.Mem.head _)))))))))))))))))))
theorem bw_44_23 : Cond.methodLink RL 123 yX11_fall ∈ wsL_law := bc_44 (List.Mem.tail _ (List.Mem.tail _ (List.Mem.tail _ (List.Mem.tail _ (List.Mem.tail _ (List.Mem.tail _ (List.Mem.tail _ (List.Mem.tail _ (List.Mem.tail _ (List.Mem.tail _ (List.Mem.tail _ (List.Mem.tail _ (List.Mem.tail _ (List.Mem.tail _ (List.Mem.tail _ (List.Mem.tail _ (List.Mem.tail _ (List.Mem.tail _ (List.Mem.tail _ (List.Mem.tail _ (List.Mem.tail _ (List.Mem.tail _ (List.Mem.tail _ (List.Mem.head _))))))))))))))))))))))))
theorem bw_45_0 : Cond.instanceMethod yX11_fall ∈ wsL_law := bc_45 (List.Mem.head _)
theorem bw_45_1 : Cond.selects RX11 yX11_fall yX11_fall ∈ wsL_law := bc_45 (List.Mem.tail _ (List.Mem.head _))
theorem bw_45_2 : Cond.code yX11_fall cX11_fall 8 (some .int) ∈ wsL_law := bc_45 (List.Mem.tail _ (List.Mem.tail _ (List.Mem.head _)))
theorem bw_45_4 : Cond.methodLink RL 126 yX12_fall ∈ wsL_law := bc_45 (List.Mem.tail _ (List.Mem.tail _ (List.Mem.tail _ (List.Mem.tail _ (List.Mem.head _)))))
theorem bw_45_5 : Cond.instanceMethod yX12_fall ∈ wsL_law := bc_45 (List.Mem.tail _ (List.Mem.tail _ (List.Mem.tail _ (List.Mem.tail _ (List.Mem.tail _ (List.Mem.head _))))))
theorem bw_45_6 : Cond.selects RX12 yX12_fall yX12_fall ∈ wsL_law := bc_45 (List.Mem.tail _ (List.Mem.tail _ (List.Mem.tail _ (List.Mem.tail _ (List.Mem.tail _ (List.Mem.tail _ (List.Mem.head _)))))))
theorem bw_45_7 : Cond.code yX12_fall cX12_fall 8 (some .int) ∈ wsL_law := bc_45 (List.Mem.tail _ (List.Mem.tail _ (List.Mem.tail _ (List.Mem.tail _ (List.Mem.tail _ (List.Mem.tail _ (List.Mem.tail _ (List.Mem.head _))))))))
theorem bw_45_8 : Cond.methodLink RL 127 yX11_ease ∈ wsL_law := bc_45 (List.Mem.tail _ (List.Mem.tail _ (List.Mem.tail _ (List.Mem.tail _ (List.Mem.tail _ (List.Mem.tail _ (List.Mem.tail _ (List.Mem.tail _ (List.Mem.head _)))))))))
theorem bw_45_9 : Cond.instanceMethod yX11_ease ∈ wsL_law := bc_45 (List.Mem.tail _ (List.Mem.tail _ (List.Mem.tail _ (List.Mem.tail _ (List.Mem.tail _ (List.Mem.tail _ (List.Mem.tail _ (List.Mem.tail _ (List.Mem.tail _ (List.Mem.head _))))))))))
theorem bw_45_10 : Cond.selects RX11 yX11_ease yX11_ease ∈ wsL_law := bc_45 (List.Mem.tail _ (List.Mem.tail _ (List.Mem.tail _ (List.Mem.tail _ (List.Mem.tail _ (List.Mem.tail _ (List.Mem.tail _ (List.Mem.tail _ (List.Mem.tail _ (List.Mem.tail _ (List.Mem.head _)))))))))))
theorem bw_45_11 : Cond.code yX11_ease cX11_ease 3 (some .int) ∈ wsL_law := bc_45 (List.Mem.tail _ (List.Mem.tail _ (List.Mem.tail _ (List.Mem.tail _ (List.Mem.tail _ (List.Mem.tail _ (List.Mem.tail _ (List.Mem.tail _ (List.Mem.tail _ (List.Mem.tail _ (List.Mem.tail _ (List.Mem.head _))))))))))))
theorem bw_45_12 : Cond.methodLink RL 130 yX12_ease ∈ wsL_law := bc_45 (List.Mem.tail _ (List.Mem.tail _ (List.Mem.tail _ (List.Mem.tail _ (List.Mem.tail _ (List.Mem.tail _ (List.Mem.tail _ (List.Mem.tail _ (List.Mem.tail _ (List.Mem.tail _ (List.Mem.tail _ (List.Mem.tail _ (List.Mem.head _)))))))))))))
theorem bw_45_13 : Cond.instanceMethod yX12_ease ∈ wsL_law := bc_45 (List.Mem.tail _ (List.Mem.tail _ (List.Mem.tail _ (List.Mem.tail _ (List.Mem.tail _ (List.Mem.tail _ (List.Mem.tail _ (List.Mem.tail _ (List.Mem.tail _ (List.Mem.tail _ (List.Mem.tail _ (List.Mem.tail _ (List.Mem.tail _ (List.Mem.head _))))))))))))))
theorem bw_45_14 : Cond.selects RX12 yX12_ease yX12_ease ∈ wsL_law := bc_45 (List.Mem.tail _ (List.Mem.tail _ (List.Mem.tail _ (List.Mem.tail _ (List.Mem.tail _ (List.Mem.tail _ (List.Mem.tail _ (List.Mem.tail _ (List.Mem.tail _ (List.Mem.tail _ (List.Mem.tail _ (List.Mem.tail _ (List.Mem.tail _ (List.Mem.tail _ (List.Mem.head _)))))))))))))))
theorem bw_45_15 : Cond.code yX12_ease cX12_ease 3 (some .int) ∈ wsL_law := bc_45 (List.Mem.tail _ (List.Mem.tail _ (List.Mem.tail _ (List.Mem.tail _ (List.Mem.tail _ (List.Mem.tail _ (List.Mem.tail _ (List.Mem.tail _ (List.Mem.tail _ (List.Mem.tail _ (List.Mem.tail _ (List.Mem.tail _ (List.Mem.tail _ (List.Mem.tail _ (List.Mem.tail _ (List.Mem.head _))))))))))))))))
theorem bw_45_16 : Cond.methodLink RL 131 yX11_range ∈ wsL_law := bc_45 (List.Mem.tail _ (List.Mem.tail _ (List.Mem.tail _ (List.Mem.tail _ (List.Mem.tail _ (List.Mem.tail _ (List.Mem.tail _ (List.Mem.tail _ (List.Mem.tail _ (List.Mem.tail _ (List.Mem.tail _ (List.Mem.tail _ (List.Mem.tail _ (List.Mem.tail _ (List.Mem.tail _ (List.Mem.tail _ (List.Mem.head _)))))))))))))))))
theorem bw_45_17 : Cond.instanceMethod yX11_range ∈ wsL_law := bc_45 (List.Mem.tail _ (List.Mem.tail _ (List.Mem.tail _ (List.Mem.tail _ (List.Mem.tail _ (List.Mem.tail _ (List.Mem.tail _ (List.Mem.tail _ (List.Mem.tail _ (List.Mem.tail _ (List.Mem.tail _ (List.Mem.tail _ (List.Mem.tail _ (List.Mem.tail _ (List.Mem.tail _ (List.Mem.tail _ (List.Mem.tail _ (List.Mem.head _))))))))))))))))))
theorem bw_45_18 : Cond.selects RX11 yX11_range yX11_range ∈ wsL_law := bc_45 (List.Mem.tail _ (List.Mem.tail _ (List.Mem.tail _ (List.Mem.tail _ (List.Mem.tail _ (List.Mem.tail _ (List.Mem.tail _ (List.Mem.tail _ (List.Mem.tail _ (List.Mem.tail _ (List.Mem.tail _ (List.Mem.tail _ (List.Mem.tail _ (List.Mem.tail _ (List.Mem.tail _ (List.Mem.tail _ (List.Mem.tail _ (List.Mem.tail _ (List.Mem.head _)))))))))))))))))))
theorem bw_45_19 : Cond.code yX11_range cX11_range 6 (some .int) ∈ wsL_law := bc_45 (List.Mem.tail _ (List.Mem.tail _ (List.Mem.tail _ (List.Mem.tail _ (List.Mem.tail _ (List.Mem.tail _ (List.Mem.tail _ (List.Mem.tail _ (List.Mem.tail _ (List.Mem.tail _ (List.Mem.tail _ (List.Mem.tail _ (List.Mem.tail _ (List.Mem.tail _ (List.Mem.tail _ (List.Mem.tail _ (List.Mem.tail _ (List.Mem.tail _ (List.Mem.tail _ (List.Mem.head _))))))))))))))))))))
theorem bw_45_20 : Cond.methodLink RL 135 yX12_range ∈ wsL_law := bc_45 (List.Mem.tail _ (List.Mem.tail _ (List.Mem.tail _ (List.Mem.tail _ (List.Mem.tail _ (List.Mem.tail _ (List.Mem.tail _ (List.Mem.tail _ (List.Mem.tail _ (List.Mem.tail _ (List.Mem.tail _ (List.Mem.tail _ (List.Mem.tail _ (List.Mem.tail _ (List.Mem.tail _ (List.Mem.tail _ (List.Mem.tail _ (List.Mem.tail _ (List.Mem.tail _ (List.Mem.tail _ (List.Mem.head _)))))))))))))))))))))
theorem bw_45_21 : Cond.instanceMethod yX12_range ∈ wsL_law := bc_45 (List.Mem.tail _ (List.Mem.tail _ (List.Mem.tail _ (List.Mem.tail _ (List.Mem.tail _ (List.Mem.tail _ (List.Mem.tail _ (List.Mem.tail _ (List.Mem.tail _ (List.Mem.tail _ (List.Mem.tail _ (List.Mem.tail _ (List.Mem.tail _ (List.Mem.tail _ (List.Mem.tail _ (List.Mem.tail _ (List.Mem.tail _ (List.Mem.tail _ (List.Mem.tail _ (List.Mem.tail _ (List.Mem.tail _ (List.Mem.head _))))))))))))))))))))))
theorem bw_45_22 : Cond.selects RX12 yX12_range yX12_range ∈ wsL_law := bc_45 (List.Mem.tail _ (List.Mem.tail _ (List.Mem.tail _ (List.Mem.tail _ (List.Mem.tail _ (List.Mem.tail _ (List.Mem.tail _ (List.Mem.tail _ (List.Mem.tail _ (List.Mem.tail _ (List.Mem.tail _ (List.Mem.tail _ (List.Mem.tail _ (List.Mem.tail _ (List.Mem.tail _ (List.Mem.tail _ (List.Mem.tail _ (List.Mem.tail _ (List.Mem.tail _ (List.Mem.tail _ (List.Mem.tail _ (List.Mem.tail _ (List.Mem.head _)))))))))))))))))))))))
theorem bw_45_23 : Cond.code yX12_range cX12_range 6 (some .int) ∈ wsL_law := bc_45 (List.Mem.tail _ (List.Mem.tail _ (List.Mem.tail _ (List.Mem.tail _ (List.Mem.tail _ (List.Mem.tail _ (List.Mem.tail _ (List.Mem.tail _ (List.Mem.tail _ (List.Mem.tail _ (List.Mem.tail _ (List.Mem.tail _ (List.Mem.tail _ (List.Mem.tail _ (List.Mem.tail _ (List.Mem.tail _ (List.Mem.tail _ (List.Mem.tail _ (List.Mem.tail _ (List.Mem.tail _ (List.Mem.tail _ (List.Mem.tail _ (List.Mem.tail _ (List.Mem.head _))))))))))))))))))))))))
theorem bw_46_0 : Cond.methodLink RL 136 yX11_uneven ∈ wsL_law := bc_46 (List.Mem.head _)
theorem bw_46_1 : Cond.instanceMethod yX11_uneven ∈ wsL_law := bc_46 (List.Mem.tail _ (List.Mem.head _))
theorem bw_46_2 : Cond.selects RX11 yX11_uneven yX11_uneven ∈ wsL_law := bc_46 (List.Mem.tail _ (List.Mem.tail _ (List.Mem.head _)))
theorem bw_46_3 : Cond.code yX11_uneven cX11_uneven 2 (some .long) ∈ wsL_law := bc_46 (List.Mem.tail _ (List.Mem.tail _ (List.Mem.tail _ (List.Mem.head _))))
theorem bw_46_8 : Cond.methodLink RL 140 yX12_uneven ∈ wsL_law := bc_46 (List.Mem.tail _ (List.Mem.tail _ (List.Mem.tail _ (List.Mem.tail _ (List.Mem.tail _ (List.Mem.tail _ (List.Mem.tail _ (List.Mem.tail _ (List.Mem.head _)))))))))
theorem bw_46_9 : Cond.instanceMethod yX12_uneven ∈ wsL_law := bc_46 (List.Mem.tail _ (List.Mem.tail _ (List.Mem.tail _ (List.Mem.tail _ (List.Mem.tail _ (List.Mem.tail _ (List.Mem.tail _ (List.Mem.tail _ (List.Mem.tail _ (List.Mem.head _))))))))))
theorem bw_46_10 : Cond.selects RX12 yX12_uneven yX12_uneven ∈ wsL_law := bc_46 (List.Mem.tail _ (List.Mem.tail _ (List.Mem.tail _ (List.Mem.tail _ (List.Mem.tail _ (List.Mem.tail _ (List.Mem.tail _ (List.Mem.tail _ (List.Mem.tail _ (List.Mem.tail _ (List.Mem.head _)))))))))))
theorem bw_46_11 : Cond.code yX12_uneven cX12_uneven 4 (some .long) ∈ wsL_law := bc_46 (List.Mem.tail _ (List.Mem.tail _ (List.Mem.tail _ (List.Mem.tail _ (List.Mem.tail _ (List.Mem.tail _ (List.Mem.tail _ (List.Mem.tail _ (List.Mem.tail _ (List.Mem.tail _ (List.Mem.tail _ (List.Mem.head _))))))))))))
theorem bw_46_16 : Cond.methodLink RL 141 yX11_accord ∈ wsL_law := bc_46 (List.Mem.tail _ (List.Mem.tail _ (List.Mem.tail _ (List.Mem.tail _ (List.Mem.tail _ (List.Mem.tail _ (List.Mem.tail _ (List.Mem.tail _ (List.Mem.tail _ (List.Mem.tail _ (List.Mem.tail _ (List.Mem.tail _ (List.Mem.tail _ (List.Mem.tail _ (List.Mem.tail _ (List.Mem.tail _ (List.Mem.head _)))))))))))))))))
theorem bw_46_17 : Cond.instanceMethod yX11_accord ∈ wsL_law := bc_46 (List.Mem.tail _ (List.Mem.tail _ (List.Mem.tail _ (List.Mem.tail _ (List.Mem.tail _ (List.Mem.tail _ (List.Mem.tail _ (List.Mem.tail _ (List.Mem.tail _ (List.Mem.tail _ (List.Mem.tail _ (List.Mem.tail _ (List.Mem.tail _ (List.Mem.tail _ (List.Mem.tail _ (List.Mem.tail _ (List.Mem.tail _ (List.Mem.head _))))))))))))))))))
theorem bw_46_18 : Cond.selects RX11 yX11_accord yX11_accord ∈ wsL_law := bc_46 (List.Mem.tail _ (List.Mem.tail _ (List.Mem.tail _ (List.Mem.tail _ (List.Mem.tail _ (List.Mem.tail _ (List.Mem.tail _ (List.Mem.tail _ (List.Mem.tail _ (List.Mem.tail _ (List.Mem.tail _ (List.Mem.tail _ (List.Mem.tail _ (List.Mem.tail _ (List.Mem.tail _ (List.Mem.tail _ (List.Mem.tail _ (List.Mem.tail _ (List.Mem.head _)))))))))))))))))))
theorem bw_46_19 : Cond.code yX11_accord cX11_accord 3 (some .int) ∈ wsL_law := bc_46 (List.Mem.tail _ (List.Mem.tail _ (List.Mem.tail _ (List.Mem.tail _ (List.Mem.tail _ (List.Mem.tail _ (List.Mem.tail _ (List.Mem.tail _ (List.Mem.tail _ (List.Mem.tail _ (List.Mem.tail _ (List.Mem.tail _ (List.Mem.tail _ (List.Mem.tail _ (List.Mem.tail _ (List.Mem.tail _ (List.Mem.tail _ (List.Mem.tail _ (List.Mem.tail _ (List.Mem.head _))))))))))))))))))))
theorem bw_47_0 : Cond.methodLink RL 144 yX12_accord ∈ wsL_law := bc_47 (List.Mem.head _)
theorem bw_47_1 : Cond.instanceMethod yX12_accord ∈ wsL_law := bc_47 (List.Mem.tail _ (List.Mem.head _))
theorem bw_47_2 : Cond.selects RX12 yX12_accord yX12_accord ∈ wsL_law := bc_47 (List.Mem.tail _ (List.Mem.tail _ (List.Mem.head _)))
theorem bw_47_3 : Cond.code yX12_accord cX12_accord 3 (some .int) ∈ wsL_law := bc_47 (List.Mem.tail _ (List.Mem.tail _ (List.Mem.tail _ (List.Mem.head _))))
theorem bw_47_8 : Cond.methodLink RL 145 yX11_trim ∈ wsL_law := bc_47 (List.Mem.tail _ (List.Mem.tail _ (List.Mem.tail _ (List.Mem.tail _ (List.Mem.tail _ (List.Mem.tail _ (List.Mem.tail _ (List.Mem.tail _ (List.Mem.head _)))))))))
theorem bw_47_9 : Cond.instanceMethod yX11_trim ∈ wsL_law := bc_47 (List.Mem.tail _ (List.Mem.tail _ (List.Mem.tail _ (List.Mem.tail _ (List.Mem.tail _ (List.Mem.tail _ (List.Mem.tail _ (List.Mem.tail _ (List.Mem.tail _ (List.Mem.head _))))))))))
theorem bw_47_10 : Cond.selects RX11 yX11_trim yX11_trim ∈ wsL_law := bc_47 (List.Mem.tail _ (List.Mem.tail _ (List.Mem.tail _ (List.Mem.tail _ (List.Mem.tail _ (List.Mem.tail _ (List.Mem.tail _ (List.Mem.tail _ (List.Mem.tail _ (List.Mem.tail _ (List.Mem.head _)))))))))))
theorem bw_47_11 : Cond.code yX11_trim cX11_trim 7 (some .long) ∈ wsL_law := bc_47 (List.Mem.tail _ (List.Mem.tail _ (List.Mem.tail _ (List.Mem.tail _ (List.Mem.tail _ (List.Mem.tail _ (List.Mem.tail _ (List.Mem.tail _ (List.Mem.tail _ (List.Mem.tail _ (List.Mem.tail _ (List.Mem.head _))))))))))))
theorem bw_47_22 : Cond.methodLink RL 148 yX12_trim ∈ wsL_law := bc_47 (List.Mem.tail _ (List.Mem.tail _ (List.Mem.tail _ (List.Mem.tail _ (List.Mem.tail _ (List.Mem.tail _ (List.Mem.tail _ (List.Mem.tail _ (List.Mem.tail _ (List.Mem.tail _ (List.Mem.tail _ (List.Mem.tail _ (List.Mem.tail _ (List.Mem.tail _ (List.Mem.tail _ (List.Mem.tail _ (List.Mem.tail _ (List.Mem.tail _ (List.Mem.tail _ (List.Mem.tail _ (List.Mem.tail _ (List.Mem.tail _ (List.Mem.head _)))))))))))))))))))))))
theorem bw_47_23 : Cond.instanceMethod yX12_trim ∈ wsL_law := bc_47 (List.Mem.tail _ (List.Mem.tail _ (List.Mem.tail _ (List.Mem.tail _ (List.Mem.tail _ (List.Mem.tail _ (List.Mem.tail _ (List.Mem.tail _ (List.Mem.tail _ (List.Mem.tail _ (List.Mem.tail _ (List.Mem.tail _ (List.Mem.tail _ (List.Mem.tail _ (List.Mem.tail _ (List.Mem.tail _ (List.Mem.tail _ (List.Mem.tail _ (List.Mem.tail _ (List.Mem.tail _ (List.Mem.tail _ (List.Mem.tail _ (List.Mem.tail _ (List.Mem.head _))))))))))))))))))))))))
theorem bw_48_0 : Cond.selects RX12 yX12_trim yX12_trim ∈ wsL_law := bc_48 (List.Mem.head _)
theorem bw_48_1 : Cond.code yX12_trim cX12_trim 5 (some .long) ∈ wsL_law := bc_48 (List.Mem.tail _ (List.Mem.head _))
theorem bw_48_13 : Cond.methodLink RL 149 yX11_fewest ∈ wsL_law := bc_48 (List.Mem.tail _ (List.Mem.tail _ (List.Mem.tail _ (List.Mem.tail _ (List.Mem.tail _ (List.Mem.tail _ (List.Mem.tail _ (List.Mem.tail _ (List.Mem.tail _ (List.Mem.tail _ (List.Mem.tail _ (List.Mem.tail _ (List.Mem.tail _ (List.Mem.head _))))))))))))))
theorem bw_48_14 : Cond.instanceMethod yX11_fewest ∈ wsL_law := bc_48 (List.Mem.tail _ (List.Mem.tail _ (List.Mem.tail _ (List.Mem.tail _ (List.Mem.tail _ (List.Mem.tail _ (List.Mem.tail _ (List.Mem.tail _ (List.Mem.tail _ (List.Mem.tail _ (List.Mem.tail _ (List.Mem.tail _ (List.Mem.tail _ (List.Mem.tail _ (List.Mem.head _)))))))))))))))
theorem bw_48_15 : Cond.selects RX11 yX11_fewest yX11_fewest ∈ wsL_law := bc_48 (List.Mem.tail _ (List.Mem.tail _ (List.Mem.tail _ (List.Mem.tail _ (List.Mem.tail _ (List.Mem.tail _ (List.Mem.tail _ (List.Mem.tail _ (List.Mem.tail _ (List.Mem.tail _ (List.Mem.tail _ (List.Mem.tail _ (List.Mem.tail _ (List.Mem.tail _ (List.Mem.tail _ (List.Mem.head _))))))))))))))))
theorem bw_48_16 : Cond.code yX11_fewest cX11_fewest 5 (some .int) ∈ wsL_law := bc_48 (List.Mem.tail _ (List.Mem.tail _ (List.Mem.tail _ (List.Mem.tail _ (List.Mem.tail _ (List.Mem.tail _ (List.Mem.tail _ (List.Mem.tail _ (List.Mem.tail _ (List.Mem.tail _ (List.Mem.tail _ (List.Mem.tail _ (List.Mem.tail _ (List.Mem.tail _ (List.Mem.tail _ (List.Mem.tail _ (List.Mem.head _)))))))))))))))))
theorem bw_48_23 : Cond.methodLink RL 152 yX12_fewest ∈ wsL_law := bc_48 (List.Mem.tail _ (List.Mem.tail _ (List.Mem.tail _ (List.Mem.tail _ (List.Mem.tail _ (List.Mem.tail _ (List.Mem.tail _ (List.Mem.tail _ (List.Mem.tail _ (List.Mem.tail _ (List.Mem.tail _ (List.Mem.tail _ (List.Mem.tail _ (List.Mem.tail _ (List.Mem.tail _ (List.Mem.tail _ (List.Mem.tail _ (List.Mem.tail _ (List.Mem.tail _ (List.Mem.tail _ (List.Mem.tail _ (List.Mem.tail _ (List.Mem.tail _ (List.Mem.head _))))))))))))))))))))))))
theorem bw_49_0 : Cond.instanceMethod yX12_fewest ∈ wsL_law := bc_49 (List.Mem.head _)
theorem bw_49_1 : Cond.selects RX12 yX12_fewest yX12_fewest ∈ wsL_law := bc_49 (List.Mem.tail _ (List.Mem.head _))
theorem bw_49_2 : Cond.code yX12_fewest cX12_fewest 5 (some .int) ∈ wsL_law := bc_49 (List.Mem.tail _ (List.Mem.tail _ (List.Mem.head _)))
theorem bw_49_7 : Cond.methodLink RL 153 yX11_without ∈ wsL_law := bc_49 (List.Mem.tail _ (List.Mem.tail _ (List.Mem.tail _ (List.Mem.tail _ (List.Mem.tail _ (List.Mem.tail _ (List.Mem.tail _ (List.Mem.head _))))))))
theorem bw_49_8 : Cond.instanceMethod yX11_without ∈ wsL_law := bc_49 (List.Mem.tail _ (List.Mem.tail _ (List.Mem.tail _ (List.Mem.tail _ (List.Mem.tail _ (List.Mem.tail _ (List.Mem.tail _ (List.Mem.tail _ (List.Mem.head _)))))))))
theorem bw_49_9 : Cond.selects RX11 yX11_without yX11_without ∈ wsL_law := bc_49 (List.Mem.tail _ (List.Mem.tail _ (List.Mem.tail _ (List.Mem.tail _ (List.Mem.tail _ (List.Mem.tail _ (List.Mem.tail _ (List.Mem.tail _ (List.Mem.tail _ (List.Mem.head _))))))))))
theorem bw_49_10 : Cond.code yX11_without cX11_without 3 (some .int) ∈ wsL_law := bc_49 (List.Mem.tail _ (List.Mem.tail _ (List.Mem.tail _ (List.Mem.tail _ (List.Mem.tail _ (List.Mem.tail _ (List.Mem.tail _ (List.Mem.tail _ (List.Mem.tail _ (List.Mem.tail _ (List.Mem.head _)))))))))))
theorem bw_49_15 : Cond.methodLink RL 156 yX12_without ∈ wsL_law := bc_49 (List.Mem.tail _ (List.Mem.tail _ (List.Mem.tail _ (List.Mem.tail _ (List.Mem.tail _ (List.Mem.tail _ (List.Mem.tail _ (List.Mem.tail _ (List.Mem.tail _ (List.Mem.tail _ (List.Mem.tail _ (List.Mem.tail _ (List.Mem.tail _ (List.Mem.tail _ (List.Mem.tail _ (List.Mem.head _))))))))))))))))
theorem bw_49_16 : Cond.instanceMethod yX12_without ∈ wsL_law := bc_49 (List.Mem.tail _ (List.Mem.tail _ (List.Mem.tail _ (List.Mem.tail _ (List.Mem.tail _ (List.Mem.tail _ (List.Mem.tail _ (List.Mem.tail _ (List.Mem.tail _ (List.Mem.tail _ (List.Mem.tail _ (List.Mem.tail _ (List.Mem.tail _ (List.Mem.tail _ (List.Mem.tail _ (List.Mem.tail _ (List.Mem.head _)))))))))))))))))
theorem bw_49_17 : Cond.selects RX12 yX12_without yX12_without ∈ wsL_law := bc_49 (List.Mem.tail _ (List.Mem.tail _ (List.Mem.tail _ (List.Mem.tail _ (List.Mem.tail _ (List.Mem.tail _ (List.Mem.tail _ (List.Mem.tail _ (List.Mem.tail _ (List.Mem.tail _ (List.Mem.tail _ (List.Mem.tail _ (List.Mem.tail _ (List.Mem.tail _ (List.Mem.tail _ (List.Mem.tail _ (List.Mem.tail _ (List.Mem.head _))))))))))))))))))
theorem bw_49_18 : Cond.code yX12_without cX12_without 3 (some .int) ∈ wsL_law := bc_49 (List.Mem.tail _ (List.Mem.tail _ (List.Mem.tail _ (List.Mem.tail _ (List.Mem.tail _ (List.Mem.tail _ (List.Mem.tail _ (List.Mem.tail _ (List.Mem.tail _ (List.Mem.tail _ (List.Mem.tail _ (List.Mem.tail _ (List.Mem.tail _ (List.Mem.tail _ (List.Mem.tail _ (List.Mem.tail _ (List.Mem.tail _ (List.Mem.tail _ (List.Mem.head _)))))))))))))))))))
theorem bw_49_19 : Cond.methodLink RL 157 yX11_key ∈ wsL_law := bc_49 (List.Mem.tail _ (List.Mem.tail _ (List.Mem.tail _ (List.Mem.tail _ (List.Mem.tail _ (List.Mem.tail _ (List.Mem.tail _ (List.Mem.tail _ (List.Mem.tail _ (List.Mem.tail _ (List.Mem.tail _ (List.Mem.tail _ (List.Mem.tail _ (List.Mem.tail _ (List.Mem.tail _ (List.Mem.tail _ (List.Mem.tail _ (List.Mem.tail _ (List.Mem.tail _ (List.Mem.head _))))))))))))))))))))
theorem bw_49_20 : Cond.instanceMethod yX11_key ∈ wsL_law := bc_49 (List.Mem.tail _ (List.Mem.tail _ (List.Mem.tail _ (List.Mem.tail _ (List.Mem.tail _ (List.Mem.tail _ (List.Mem.tail _ (List.Mem.tail _ (List.Mem.tail _ (List.Mem.tail _ (List.Mem.tail _ (List.Mem.tail _ (List.Mem.tail _ (List.Mem.tail _ (List.Mem.tail _ (List.Mem.tail _ (List.Mem.tail _ (List.Mem.tail _ (List.Mem.tail _ (List.Mem.tail _ (List.Mem.head _)))))))))))))))))))))
theorem bw_49_21 : Cond.selects RX11 yX11_key yX11_key ∈ wsL_law := bc_49 (List.Mem.tail _ (List.Mem.tail _ (List.Mem.tail _ (List.Mem.tail _ (List.Mem.tail _ (List.Mem.tail _ (List.Mem.tail _ (List.Mem.tail _ (List.Mem.tail _ (List.Mem.tail _ (List.Mem.tail _ (List.Mem.tail _ (List.Mem.tail _ (List.Mem.tail _ (List.Mem.tail _ (List.Mem.tail _ (List.Mem.tail _ (List.Mem.tail _ (List.Mem.tail _ (List.Mem.tail _ (List.Mem.tail _ (List.Mem.head _))))))))))))))))))))))
theorem bw_49_22 : Cond.code yX11_key cX11_key 5 (some .int) ∈ wsL_law := bc_49 (List.Mem.tail _ (List.Mem.tail _ (List.Mem.tail _ (List.Mem.tail _ (List.Mem.tail _ (List.Mem.tail _ (List.Mem.tail _ (List.Mem.tail _ (List.Mem.tail _ (List.Mem.tail _ (List.Mem.tail _ (List.Mem.tail _ (List.Mem.tail _ (List.Mem.tail _ (List.Mem.tail _ (List.Mem.tail _ (List.Mem.tail _ (List.Mem.tail _ (List.Mem.tail _ (List.Mem.tail _ (List.Mem.tail _ (List.Mem.tail _ (List.Mem.head _)))))))))))))))))))))))
theorem bw_49_23 : Cond.methodLink RL 160 yX12_key ∈ wsL_law := bc_49 (List.Mem.tail _ (List.Mem.tail _ (List.Mem.tail _ (List.Mem.tail _ (List.Mem.tail _ (List.Mem.tail _ (List.Mem.tail _ (List.Mem.tail _ (List.Mem.tail _ (List.Mem.tail _ (List.Mem.tail _ (List.Mem.tail _ (List.Mem.tail _ (List.Mem.tail _ (List.Mem.tail _ (List.Mem.tail _ (List.Mem.tail _ (List.Mem.tail _ (List.Mem.tail _ (List.Mem.tail _ (List.Mem.tail _ (List.Mem.tail _ (List.Mem.tail _ (List.Mem.head _))))))))))))))))))))))))
theorem bw_50_0 : Cond.instanceMethod yX12_key ∈ wsL_law := bc_50 (List.Mem.head _)
theorem bw_50_1 : Cond.selects RX12 yX12_key yX12_key ∈ wsL_law := bc_50 (List.Mem.tail _ (List.Mem.head _))
theorem bw_50_2 : Cond.code yX12_key cX12_key 5 (some .int) ∈ wsL_law := bc_50 (List.Mem.tail _ (List.Mem.tail _ (List.Mem.head _)))
theorem bw_50_3 : Cond.methodLink RL 161 yX11_odds ∈ wsL_law := bc_50 (List.Mem.tail _ (List.Mem.tail _ (List.Mem.tail _ (List.Mem.head _))))
theorem bw_50_4 : Cond.instanceMethod yX11_odds ∈ wsL_law := bc_50 (List.Mem.tail _ (List.Mem.tail _ (List.Mem.tail _ (List.Mem.tail _ (List.Mem.head _)))))
theorem bw_50_5 : Cond.selects RX11 yX11_odds yX11_odds ∈ wsL_law := bc_50 (List.Mem.tail _ (List.Mem.tail _ (List.Mem.tail _ (List.Mem.tail _ (List.Mem.tail _ (List.Mem.head _))))))
theorem bw_50_6 : Cond.code yX11_odds cX11_odds 10 (some .int) ∈ wsL_law := bc_50 (List.Mem.tail _ (List.Mem.tail _ (List.Mem.tail _ (List.Mem.tail _ (List.Mem.tail _ (List.Mem.tail _ (List.Mem.head _)))))))
theorem bw_50_12 : Cond.methodLink RL 164 yX12_odds ∈ wsL_law := bc_50 (List.Mem.tail _ (List.Mem.tail _ (List.Mem.tail _ (List.Mem.tail _ (List.Mem.tail _ (List.Mem.tail _ (List.Mem.tail _ (List.Mem.tail _ (List.Mem.tail _ (List.Mem.tail _ (List.Mem.tail _ (List.Mem.tail _ (List.Mem.head _)))))))))))))
theorem bw_50_13 : Cond.instanceMethod yX12_odds ∈ wsL_law := bc_50 (List.Mem.tail _ (List.Mem.tail _ (List.Mem.tail _ (List.Mem.tail _ (List.Mem.tail _ (List.Mem.tail _ (List.Mem.tail _ (List.Mem.tail _ (List.Mem.tail _ (List.Mem.tail _ (List.Mem.tail _ (List.Mem.tail _ (List.Mem.tail _ (List.Mem.head _))))))))))))))
theorem bw_50_14 : Cond.selects RX12 yX12_odds yX12_odds ∈ wsL_law := bc_50 (List.Mem.tail _ (List.Mem.tail _ (List.Mem.tail _ (List.Mem.tail _ (List.Mem.tail _ (List.Mem.tail _ (List.Mem.tail _ (List.Mem.tail _ (List.Mem.tail _ (List.Mem.tail _ (List.Mem.tail _ (List.Mem.tail _ (List.Mem.tail _ (List.Mem.tail _ (List.Mem.head _)))))))))))))))
theorem bw_50_15 : Cond.code yX12_odds cX12_odds 14 (some .int) ∈ wsL_law := bc_50 (List.Mem.tail _ (List.Mem.tail _ (List.Mem.tail _ (List.Mem.tail _ (List.Mem.tail _ (List.Mem.tail _ (List.Mem.tail _ (List.Mem.tail _ (List.Mem.tail _ (List.Mem.tail _ (List.Mem.tail _ (List.Mem.tail _ (List.Mem.tail _ (List.Mem.tail _ (List.Mem.tail _ (List.Mem.head _))))))))))))))))
theorem bw_50_23 : Cond.methodLink RL 165 yX11_shares ∈ wsL_law := bc_50 (List.Mem.tail _ (List.Mem.tail _ (List.Mem.tail _ (List.Mem.tail _ (List.Mem.tail _ (List.Mem.tail _ (List.Mem.tail _ (List.Mem.tail _ (List.Mem.tail _ (List.Mem.tail _ (List.Mem.tail _ (List.Mem.tail _ (List.Mem.tail _ (List.Mem.tail _ (List.Mem.tail _ (List.Mem.tail _ (List.Mem.tail _ (List.Mem.tail _ (List.Mem.tail _ (List.Mem.tail _ (List.Mem.tail _ (List.Mem.tail _ (List.Mem.tail _ (List.Mem.head _))))))))))))))))))))))))
theorem bw_51_0 : Cond.instanceMethod yX11_shares ∈ wsL_law := bc_51 (List.Mem.head _)
theorem bw_51_1 : Cond.selects RX11 yX11_shares yX11_shares ∈ wsL_law := bc_51 (List.Mem.tail _ (List.Mem.head _))
theorem bw_51_2 : Cond.code yX11_shares cX11_shares 4 (some .int) ∈ wsL_law := bc_51 (List.Mem.tail _ (List.Mem.tail _ (List.Mem.head _)))
theorem bw_51_8 : Cond.methodLink RL 168 yX12_shares ∈ wsL_law := bc_51 (List.Mem.tail _ (List.Mem.tail _ (List.Mem.tail _ (List.Mem.tail _ (List.Mem.tail _ (List.Mem.tail _ (List.Mem.tail _ (List.Mem.tail _ (List.Mem.head _)))))))))
theorem bw_51_9 : Cond.instanceMethod yX12_shares ∈ wsL_law := bc_51 (List.Mem.tail _ (List.Mem.tail _ (List.Mem.tail _ (List.Mem.tail _ (List.Mem.tail _ (List.Mem.tail _ (List.Mem.tail _ (List.Mem.tail _ (List.Mem.tail _ (List.Mem.head _))))))))))
theorem bw_51_10 : Cond.selects RX12 yX12_shares yX12_shares ∈ wsL_law := bc_51 (List.Mem.tail _ (List.Mem.tail _ (List.Mem.tail _ (List.Mem.tail _ (List.Mem.tail _ (List.Mem.tail _ (List.Mem.tail _ (List.Mem.tail _ (List.Mem.tail _ (List.Mem.tail _ (List.Mem.head _)))))))))))
theorem bw_51_11 : Cond.code yX12_shares cX12_shares 3 (some .int) ∈ wsL_law := bc_51 (List.Mem.tail _ (List.Mem.tail _ (List.Mem.tail _ (List.Mem.tail _ (List.Mem.tail _ (List.Mem.tail _ (List.Mem.tail _ (List.Mem.tail _ (List.Mem.tail _ (List.Mem.tail _ (List.Mem.tail _ (List.Mem.head _))))))))))))
theorem bw_51_16 : Cond.methodLink RL 171 yX11_years ∈ wsL_law := bc_51 (List.Mem.tail _ (List.Mem.tail _ (List.Mem.tail _ (List.Mem.tail _ (List.Mem.tail _ (List.Mem.tail _ (List.Mem.tail _ (List.Mem.tail _ (List.Mem.tail _ (List.Mem.tail _ (List.Mem.tail _ (List.Mem.tail _ (List.Mem.tail _ (List.Mem.tail _ (List.Mem.tail _ (List.Mem.tail _ (List.Mem.head _)))))))))))))))))
theorem bw_51_17 : Cond.instanceMethod yX11_years ∈ wsL_law := bc_51 (List.Mem.tail _ (List.Mem.tail _ (List.Mem.tail _ (List.Mem.tail _ (List.Mem.tail _ (List.Mem.tail _ (List.Mem.tail _ (List.Mem.tail _ (List.Mem.tail _ (List.Mem.tail _ (List.Mem.tail _ (List.Mem.tail _ (List.Mem.tail _ (List.Mem.tail _ (List.Mem.tail _ (List.Mem.tail _ (List.Mem.tail _ (List.Mem.head _))))))))))))))))))
theorem bw_51_18 : Cond.selects RX11 yX11_years yX11_years ∈ wsL_law := bc_51 (List.Mem.tail _ (List.Mem.tail _ (List.Mem.tail _ (List.Mem.tail _ (List.Mem.tail _ (List.Mem.tail _ (List.Mem.tail _ (List.Mem.tail _ (List.Mem.tail _ (List.Mem.tail _ (List.Mem.tail _ (List.Mem.tail _ (List.Mem.tail _ (List.Mem.tail _ (List.Mem.tail _ (List.Mem.tail _ (List.Mem.tail _ (List.Mem.tail _ (List.Mem.head _)))))))))))))))))))
theorem bw_51_19 : Cond.code yX11_years cX11_years 5 (some .int) ∈ wsL_law := bc_51 (List.Mem.tail _ (List.Mem.tail _ (List.Mem.tail _ (List.Mem.tail _ (List.Mem.tail _ (List.Mem.tail _ (List.Mem.tail _ (List.Mem.tail _ (List.Mem.tail _ (List.Mem.tail _ (List.Mem.tail _ (List.Mem.tail _ (List.Mem.tail _ (List.Mem.tail _ (List.Mem.tail _ (List.Mem.tail _ (List.Mem.tail _ (List.Mem.tail _ (List.Mem.tail _ (List.Mem.head _))))))))))))))))))))
theorem bw_52_6 : Cond.methodLink RL 175 yX12_years ∈ wsL_law := bc_52 (List.Mem.tail _ (List.Mem.tail _ (List.Mem.tail _ (List.Mem.tail _ (List.Mem.tail _ (List.Mem.tail _ (List.Mem.head _)))))))
theorem bw_52_7 : Cond.instanceMethod yX12_years ∈ wsL_law := bc_52 (List.Mem.tail _ (List.Mem.tail _ (List.Mem.tail _ (List.Mem.tail _ (List.Mem.tail _ (List.Mem.tail _ (List.Mem.tail _ (List.Mem.head _))))))))
theorem bw_52_8 : Cond.selects RX12 yX12_years yX12_years ∈ wsL_law := bc_52 (List.Mem.tail _ (List.Mem.tail _ (List.Mem.tail _ (List.Mem.tail _ (List.Mem.tail _ (List.Mem.tail _ (List.Mem.tail _ (List.Mem.tail _ (List.Mem.head _)))))))))
theorem bw_52_9 : Cond.code yX12_years cX12_years 5 (some .int) ∈ wsL_law := bc_52 (List.Mem.tail _ (List.Mem.tail _ (List.Mem.tail _ (List.Mem.tail _ (List.Mem.tail _ (List.Mem.tail _ (List.Mem.tail _ (List.Mem.tail _ (List.Mem.tail _ (List.Mem.head _))))))))))
theorem bw_53_2 : Cond.methodLink RL 176 yX11_most ∈ wsL_law := bc_53 (List.Mem.tail _ (List.Mem.tail _ (List.Mem.head _)))
theorem bw_53_3 : Cond.instanceMethod yX11_most ∈ wsL_law := bc_53 (List.Mem.tail _ (List.Mem.tail _ (List.Mem.tail _ (List.Mem.head _))))
theorem bw_53_4 : Cond.selects RX11 yX11_most yX11_most ∈ wsL_law := bc_53 (List.Mem.tail _ (List.Mem.tail _ (List.Mem.tail _ (List.Mem.tail _ (List.Mem.head _)))))
theorem bw_53_5 : Cond.code yX11_most cX11_most 2 (some .int) ∈ wsL_law := bc_53 (List.Mem.tail _ (List.Mem.tail _ (List.Mem.tail _ (List.Mem.tail _ (List.Mem.tail _ (List.Mem.head _))))))
theorem bw_53_13 : Cond.methodLink RL 179 yX12_most ∈ wsL_law := bc_53 (List.Mem.tail _ (List.Mem.tail _ (List.Mem.tail _ (List.Mem.tail _ (List.Mem.tail _ (List.Mem.tail _ (List.Mem.tail _ (List.Mem.tail _ (List.Mem.tail _ (List.Mem.tail _ (List.Mem.tail _ (List.Mem.tail _ (List.Mem.tail _ (List.Mem.head _))))))))))))))
theorem bw_53_14 : Cond.instanceMethod yX12_most ∈ wsL_law := bc_53 (List.Mem.tail _ (List.Mem.tail _ (List.Mem.tail _ (List.Mem.tail _ (List.Mem.tail _ (List.Mem.tail _ (List.Mem.tail _ (List.Mem.tail _ (List.Mem.tail _ (List.Mem.tail _ (List.Mem.tail _ (List.Mem.tail _ (List.Mem.tail _ (List.Mem.tail _ (List.Mem.head _)))))))))))))))
theorem bw_53_15 : Cond.selects RX12 yX12_most yX12_most ∈ wsL_law := bc_53 (List.Mem.tail _ (List.Mem.tail _ (List.Mem.tail _ (List.Mem.tail _ (List.Mem.tail _ (List.Mem.tail _ (List.Mem.tail _ (List.Mem.tail _ (List.Mem.tail _ (List.Mem.tail _ (List.Mem.tail _ (List.Mem.tail _ (List.Mem.tail _ (List.Mem.tail _ (List.Mem.tail _ (List.Mem.head _))))))))))))))))
theorem bw_53_16 : Cond.code yX12_most cX12_most 2 (some .int) ∈ wsL_law := bc_53 (List.Mem.tail _ (List.Mem.tail _ (List.Mem.tail _ (List.Mem.tail _ (List.Mem.tail _ (List.Mem.tail _ (List.Mem.tail _ (List.Mem.tail _ (List.Mem.tail _ (List.Mem.tail _ (List.Mem.tail _ (List.Mem.tail _ (List.Mem.tail _ (List.Mem.tail _ (List.Mem.tail _ (List.Mem.tail _ (List.Mem.head _)))))))))))))))))
theorem bw_54_1 : Cond.methodLink RL 180 yX11_image ∈ wsL_law := bc_54 (List.Mem.tail _ (List.Mem.head _))
theorem bw_54_2 : Cond.instanceMethod yX11_image ∈ wsL_law := bc_54 (List.Mem.tail _ (List.Mem.tail _ (List.Mem.head _)))
theorem bw_54_3 : Cond.selects RX11 yX11_image yX11_image ∈ wsL_law := bc_54 (List.Mem.tail _ (List.Mem.tail _ (List.Mem.tail _ (List.Mem.head _))))
theorem bw_54_4 : Cond.code yX11_image cX11_image 3 (some .int) ∈ wsL_law := bc_54 (List.Mem.tail _ (List.Mem.tail _ (List.Mem.tail _ (List.Mem.tail _ (List.Mem.head _)))))
theorem bw_54_6 : Cond.methodLink RL 183 yX12_image ∈ wsL_law := bc_54 (List.Mem.tail _ (List.Mem.tail _ (List.Mem.tail _ (List.Mem.tail _ (List.Mem.tail _ (List.Mem.tail _ (List.Mem.head _)))))))
theorem bw_54_7 : Cond.instanceMethod yX12_image ∈ wsL_law := bc_54 (List.Mem.tail _ (List.Mem.tail _ (List.Mem.tail _ (List.Mem.tail _ (List.Mem.tail _ (List.Mem.tail _ (List.Mem.tail _ (List.Mem.head _))))))))
theorem bw_54_8 : Cond.selects RX12 yX12_image yX12_image ∈ wsL_law := bc_54 (List.Mem.tail _ (List.Mem.tail _ (List.Mem.tail _ (List.Mem.tail _ (List.Mem.tail _ (List.Mem.tail _ (List.Mem.tail _ (List.Mem.tail _ (List.Mem.head _)))))))))
theorem bw_54_9 : Cond.code yX12_image cX12_image 1 (some .int) ∈ wsL_law := bc_54 (List.Mem.tail _ (List.Mem.tail _ (List.Mem.tail _ (List.Mem.tail _ (List.Mem.tail _ (List.Mem.tail _ (List.Mem.tail _ (List.Mem.tail _ (List.Mem.tail _ (List.Mem.head _))))))))))
theorem bw_54_10 : Cond.methodLink RL 184 yX11_back ∈ wsL_law := bc_54 (List.Mem.tail _ (List.Mem.tail _ (List.Mem.tail _ (List.Mem.tail _ (List.Mem.tail _ (List.Mem.tail _ (List.Mem.tail _ (List.Mem.tail _ (List.Mem.tail _ (List.Mem.tail _ (List.Mem.head _)))))))))))
theorem bw_54_11 : Cond.instanceMethod yX11_back ∈ wsL_law := bc_54 (List.Mem.tail _ (List.Mem.tail _ (List.Mem.tail _ (List.Mem.tail _ (List.Mem.tail _ (List.Mem.tail _ (List.Mem.tail _ (List.Mem.tail _ (List.Mem.tail _ (List.Mem.tail _ (List.Mem.tail _ (List.Mem.head _))))))))))))
theorem bw_54_12 : Cond.selects RX11 yX11_back yX11_back ∈ wsL_law := bc_54 (List.Mem.tail _ (List.Mem.tail _ (List.Mem.tail _ (List.Mem.tail _ (List.Mem.tail _ (List.Mem.tail _ (List.Mem.tail _ (List.Mem.tail _ (List.Mem.tail _ (List.Mem.tail _ (List.Mem.tail _ (List.Mem.tail _ (List.Mem.head _)))))))))))))
theorem bw_54_13 : Cond.code yX11_back cX11_back 2 (some .int) ∈ wsL_law := bc_54 (List.Mem.tail _ (List.Mem.tail _ (List.Mem.tail _ (List.Mem.tail _ (List.Mem.tail _ (List.Mem.tail _ (List.Mem.tail _ (List.Mem.tail _ (List.Mem.tail _ (List.Mem.tail _ (List.Mem.tail _ (List.Mem.tail _ (List.Mem.tail _ (List.Mem.head _))))))))))))))
theorem bw_54_15 : Cond.methodLink RL 187 yX12_back ∈ wsL_law := bc_54 (List.Mem.tail _ (List.Mem.tail _ (List.Mem.tail _ (List.Mem.tail _ (List.Mem.tail _ (List.Mem.tail _ (List.Mem.tail _ (List.Mem.tail _ (List.Mem.tail _ (List.Mem.tail _ (List.Mem.tail _ (List.Mem.tail _ (List.Mem.tail _ (List.Mem.tail _ (List.Mem.tail _ (List.Mem.head _))))))))))))))))
theorem bw_54_16 : Cond.instanceMethod yX12_back ∈ wsL_law := bc_54 (List.Mem.tail _ (List.Mem.tail _ (List.Mem.tail _ (List.Mem.tail _ (List.Mem.tail _ (List.Mem.tail _ (List.Mem.tail _ (List.Mem.tail _ (List.Mem.tail _ (List.Mem.tail _ (List.Mem.tail _ (List.Mem.tail _ (List.Mem.tail _ (List.Mem.tail _ (List.Mem.tail _ (List.Mem.tail _ (List.Mem.head _)))))))))))))))))
theorem bw_54_17 : Cond.selects RX12 yX12_back yX12_back ∈ wsL_law := bc_54 (List.Mem.tail _ (List.Mem.tail _ (List.Mem.tail _ (List.Mem.tail _ (List.Mem.tail _ (List.Mem.tail _ (List.Mem.tail _ (List.Mem.tail _ (List.Mem.tail _ (List.Mem.tail _ (List.Mem.tail _ (List.Mem.tail _ (List.Mem.tail _ (List.Mem.tail _ (List.Mem.tail _ (List.Mem.tail _ (List.Mem.tail _ (List.Mem.head _))))))))))))))))))
theorem bw_54_18 : Cond.code yX12_back cX12_back 1 (some .int) ∈ wsL_law := bc_54 (List.Mem.tail _ (List.Mem.tail _ (List.Mem.tail _ (List.Mem.tail _ (List.Mem.tail _ (List.Mem.tail _ (List.Mem.tail _ (List.Mem.tail _ (List.Mem.tail _ (List.Mem.tail _ (List.Mem.tail _ (List.Mem.tail _ (List.Mem.tail _ (List.Mem.tail _ (List.Mem.tail _ (List.Mem.tail _ (List.Mem.tail _ (List.Mem.tail _ (List.Mem.head _)))))))))))))))))))
theorem bw_54_19 : Cond.methodLink RL 188 yX11_count ∈ wsL_law := bc_54 (List.Mem.tail _ (List.Mem.tail _ (List.Mem.tail _ (List.Mem.tail _ (List.Mem.tail _ (List.Mem.tail _ (List.Mem.tail _ (List.Mem.tail _ (List.Mem.tail _ (List.Mem.tail _ (List.Mem.tail _ (List.Mem.tail _ (List.Mem.tail _ (List.Mem.tail _ (List.Mem.tail _ (List.Mem.tail _ (List.Mem.tail _ (List.Mem.tail _ (List.Mem.tail _ (List.Mem.head _))))))))))))))))))))
theorem bw_54_20 : Cond.instanceMethod yX11_count ∈ wsL_law := bc_54 (List.Mem.tail _ (List.Mem.tail _ (List.Mem.tail _ (List.Mem.tail _ (List.Mem.tail _ (List.Mem.tail _ (List.Mem.tail _ (List.Mem.tail _ (List.Mem.tail _ (List.Mem.tail _ (List.Mem.tail _ (List.Mem.tail _ (List.Mem.tail _ (List.Mem.tail _ (List.Mem.tail _ (List.Mem.tail _ (List.Mem.tail _ (List.Mem.tail _ (List.Mem.tail _ (List.Mem.tail _ (List.Mem.head _)))))))))))))))))))))
theorem bw_54_21 : Cond.selects RX11 yX11_count yX11_count ∈ wsL_law := bc_54 (List.Mem.tail _ (List.Mem.tail _ (List.Mem.tail _ (List.Mem.tail _ (List.Mem.tail _ (List.Mem.tail _ (List.Mem.tail _ (List.Mem.tail _ (List.Mem.tail _ (List.Mem.tail _ (List.Mem.tail _ (List.Mem.tail _ (List.Mem.tail _ (List.Mem.tail _ (List.Mem.tail _ (List.Mem.tail _ (List.Mem.tail _ (List.Mem.tail _ (List.Mem.tail _ (List.Mem.tail _ (List.Mem.tail _ (List.Mem.head _))))))))))))))))))))))
theorem bw_54_22 : Cond.code yX11_count cX11_count 2 (some .int) ∈ wsL_law := bc_54 (List.Mem.tail _ (List.Mem.tail _ (List.Mem.tail _ (List.Mem.tail _ (List.Mem.tail _ (List.Mem.tail _ (List.Mem.tail _ (List.Mem.tail _ (List.Mem.tail _ (List.Mem.tail _ (List.Mem.tail _ (List.Mem.tail _ (List.Mem.tail _ (List.Mem.tail _ (List.Mem.tail _ (List.Mem.tail _ (List.Mem.tail _ (List.Mem.tail _ (List.Mem.tail _ (List.Mem.tail _ (List.Mem.tail _ (List.Mem.tail _ (List.Mem.head _)))))))))))))))))))))))
theorem bw_54_23 : Cond.methodLink RL 191 yX12_count ∈ wsL_law := bc_54 (List.Mem.tail _ (List.Mem.tail _ (List.Mem.tail _ (List.Mem.tail _ (List.Mem.tail _ (List.Mem.tail _ (List.Mem.tail _ (List.Mem.tail _ (List.Mem.tail _ (List.Mem.tail _ (List.Mem.tail _ (List.Mem.tail _ (List.Mem.tail _ (List.Mem.tail _ (List.Mem.tail _ (List.Mem.tail _ (List.Mem.tail _ (List.Mem.tail _ (List.Mem.tail _ (List.Mem.tail _ (List.Mem.tail _ (List.Mem.tail _ (List.Mem.tail _ (List.Mem.head _))))))))))))))))))))))))
theorem bw_55_0 : Cond.instanceMethod yX12_count ∈ wsL_law := bc_55 (List.Mem.head _)
theorem bw_55_1 : Cond.selects RX12 yX12_count yX12_count ∈ wsL_law := bc_55 (List.Mem.tail _ (List.Mem.head _))
theorem bw_55_2 : Cond.code yX12_count cX12_count 2 (some .int) ∈ wsL_law := bc_55 (List.Mem.tail _ (List.Mem.tail _ (List.Mem.head _)))
set_option maxRecDepth 100000 in
set_option maxHeartbeats 4000000 in
theorem lc_feed {X : XT} {b L i bd : Nat} {sc : Nat → Int32} {σ : wS} (F : Fx X cL_law 7 RL wvL 13 482) (hX : Sx X b L sc) (hi : i + 6 ≤ L) (hL : L ≤ 3072) (h60 : 60 ≤ bd) (hb : bd < 2 ^ 30) (hb2 : bd + 40 < 2 ^ 30) (hI : In bd σ) (K : ∀ τ : wS, In (bd + 40) τ → Wx X 7 τ 1608 (LV X b i) []) : Wx X 7 σ 212 (LV X b i) [] := by
  refine x_aload_n F dL_law_212 rfl 3 rfl ?_
  refine x_aload_n F dL_law_213 rfl 4 rfl ?_
  refine x_iload F dL_law_214 0 rfl ?_
  refine x_iconst (1 : Int32) F dL_law_216 (by decide) ?_
  refine x_iadd F dL_law_217 ?_
  refine x_sld (k := 1) F hX rfl (by omega) hL dL_law_218 ?_
  refine x_aload_n F dL_law_219 rfl 4 rfl ?_
  refine x_iload F dL_law_220 0 rfl ?_
  refine x_iconst (2 : Int32) F dL_law_222 (by decide) ?_
  refine x_iadd F dL_law_223 ?_
  refine x_sld (k := 2) F hX rfl (by omega) hL dL_law_224 ?_
  refine x_aload_n F dL_law_225 rfl 4 rfl ?_
  refine x_iload F dL_law_226 0 rfl ?_
  refine x_iconst (3 : Int32) F dL_law_228 (by decide) ?_
  refine x_iadd F dL_law_229 ?_
  refine x_sld (k := 3) F hX rfl (by omega) hL dL_law_230 ?_
  refine x_aload_n F dL_law_231 rfl 4 rfl ?_
  refine x_iload F dL_law_232 0 rfl ?_
  refine x_iconst (4 : Int32) F dL_law_234 (by decide) ?_
  refine x_iadd F dL_law_235 ?_
  refine x_sld (k := 4) F hX rfl (by omega) hL dL_law_236 ?_
  refine x_aload_n F dL_law_237 rfl 4 rfl ?_
  refine x_iload F dL_law_238 0 rfl ?_
  refine x_iconst (5 : Int32) F dL_law_240 (by decide) ?_
  refine x_iadd F dL_law_241 ?_
  refine x_sld (k := 5) F hX rfl (by omega) hL dL_law_242 ?_
  have h : w_X11_feed (sc (i + 1)) (sc (i + 2)) (sc (i + 3)) (sc (i + 4)) (sc (i + 5)) σ (fun r1 s => w_X12_feed (sc (i + 1)) (sc (i + 2)) (sc (i + 3)) (sc (i + 4)) (sc (i + 5)) s (fun r' s' => r1 = r' ∧ In (bd + 40) s')) := o_feed  hI
  refine x_callV_i F (c_X11_feed (xl X) (xg X) (xA X) F.2.2.1 h) (bw_V bw_8_5 bw_8_6 bw_8_7 bw_1_2 bw_8_8) rfl cd_X11_feed (Nat.le_of_ble_eq_true rfl) (Nat.le_of_ble_eq_true rfl) (kd_w (by decide) kz_0) rfl (cl_11 kz_0) rfl rfl (Nat.le_of_ble_eq_true rfl) dL_law_243 (fun r1 s1 h1 => ?_)
  refine x_aload_n F dL_law_246 rfl 2 rfl ?_
  refine x_aload_n F dL_law_247 rfl 4 rfl ?_
  refine x_iload F dL_law_248 0 rfl ?_
  refine x_iconst (1 : Int32) F dL_law_250 (by decide) ?_
  refine x_iadd F dL_law_251 ?_
  refine x_sld (k := 1) F hX rfl (by omega) hL dL_law_252 ?_
  refine x_aload_n F dL_law_253 rfl 4 rfl ?_
  refine x_iload F dL_law_254 0 rfl ?_
  refine x_iconst (2 : Int32) F dL_law_256 (by decide) ?_
  refine x_iadd F dL_law_257 ?_
  refine x_sld (k := 2) F hX rfl (by omega) hL dL_law_258 ?_
  refine x_aload_n F dL_law_259 rfl 4 rfl ?_
  refine x_iload F dL_law_260 0 rfl ?_
  refine x_iconst (3 : Int32) F dL_law_262 (by decide) ?_
  refine x_iadd F dL_law_263 ?_
  refine x_sld (k := 3) F hX rfl (by omega) hL dL_law_264 ?_
  refine x_aload_n F dL_law_265 rfl 4 rfl ?_
  refine x_iload F dL_law_266 0 rfl ?_
  refine x_iconst (4 : Int32) F dL_law_268 (by decide) ?_
  refine x_iadd F dL_law_269 ?_
  refine x_sld (k := 4) F hX rfl (by omega) hL dL_law_270 ?_
  refine x_aload_n F dL_law_271 rfl 4 rfl ?_
  refine x_iload F dL_law_272 0 rfl ?_
  refine x_iconst (5 : Int32) F dL_law_274 (by decide) ?_
  refine x_iadd F dL_law_275 ?_
  refine x_sld (k := 5) F hX rfl (by omega) hL dL_law_276 ?_
  refine x_callV_i F (c_X12_feed (xl X) (xg X) (xA X) F.2.2.1 h1) (bw_V bw_8_17 bw_8_18 bw_8_19 bw_1_5 bw_8_20) rfl cd_X12_feed (Nat.le_of_ble_eq_true rfl) (Nat.le_of_ble_eq_true rfl) (kd_w (by decide) kz_176) rfl (cl_12 kz_176) rfl rfl (Nat.le_of_ble_eq_true rfl) dL_law_277 (fun r2 s2 h2 => ?_)
  exact x_icmp_eq (tgt := 1608) F dL_law_280 (by decide) (fun _ => K s2 h2.2) (fun c => absurd h2.1 c)
set_option maxRecDepth 100000 in
set_option maxHeartbeats 4000000 in
theorem lc_end {X : XT} {b L i bd : Nat} {sc : Nat → Int32} {σ : wS} (F : Fx X cL_law 7 RL wvL 13 482) (hX : Sx X b L sc) (hi : i + 6 ≤ L) (hL : L ≤ 3072) (h60 : 60 ≤ bd) (hb : bd < 2 ^ 30) (hb2 : bd + 40 < 2 ^ 30) (hI : In bd σ) (K : ∀ τ : wS, In (bd + 40) τ → Wx X 7 τ 1608 (LV X b i) []) : Wx X 7 σ 285 (LV X b i) [] := by
  refine x_aload_n F dL_law_285 rfl 3 rfl ?_
  refine x_aload_n F dL_law_286 rfl 4 rfl ?_
  refine x_iload F dL_law_287 0 rfl ?_
  refine x_iconst (1 : Int32) F dL_law_289 (by decide) ?_
  refine x_iadd F dL_law_290 ?_
  refine x_sld (k := 1) F hX rfl (by omega) hL dL_law_291 ?_
  have h : w_X11_end (sc (i + 1)) σ (fun r1 s => w_X12_end (sc (i + 1)) s (fun r' s' => r1 = r' ∧ In (bd + 40) s')) := o_end  hI
  refine x_callV_i F (c_X11_end (xl X) (xg X) (xA X) F.2.2.1 h) (bw_V bw_9_6 bw_9_7 bw_9_8 bw_1_2 bw_9_9) rfl cd_X11_end (Nat.le_of_ble_eq_true rfl) (Nat.le_of_ble_eq_true rfl) (kd_w (by decide) kz_0) rfl (cl_11 kz_0) rfl rfl (Nat.le_of_ble_eq_true rfl) dL_law_292 (fun r1 s1 h1 => ?_)
  refine x_aload_n F dL_law_295 rfl 2 rfl ?_
  refine x_aload_n F dL_law_296 rfl 4 rfl ?_
  refine x_iload F dL_law_297 0 rfl ?_
  refine x_iconst (1 : Int32) F dL_law_299 (by decide) ?_
  refine x_iadd F dL_law_300 ?_
  refine x_sld (k := 1) F hX rfl (by omega) hL dL_law_301 ?_
  refine x_callV_i F (c_X12_end (xl X) (xg X) (xA X) F.2.2.1 h1) (bw_V bw_9_10 bw_9_11 bw_9_12 bw_1_5 bw_9_13) rfl cd_X12_end (Nat.le_of_ble_eq_true rfl) (Nat.le_of_ble_eq_true rfl) (kd_w (by decide) kz_176) rfl (cl_12 kz_176) rfl rfl (Nat.le_of_ble_eq_true rfl) dL_law_302 (fun r2 s2 h2 => ?_)
  exact x_icmp_eq (tgt := 1608) F dL_law_305 (by decide) (fun _ => K s2 h2.2) (fun c => absurd h2.1 c)
set_option maxRecDepth 100000 in
set_option maxHeartbeats 4000000 in
theorem lc_fault {X : XT} {b L i bd : Nat} {sc : Nat → Int32} {σ : wS} (F : Fx X cL_law 7 RL wvL 13 482) (hX : Sx X b L sc) (hi : i + 6 ≤ L) (hL : L ≤ 3072) (h60 : 60 ≤ bd) (hb : bd < 2 ^ 30) (hb2 : bd + 40 < 2 ^ 30) (hI : In bd σ) (K : ∀ τ : wS, In (bd + 40) τ → Wx X 7 τ 1608 (LV X b i) []) : Wx X 7 σ 310 (LV X b i) [] := by
  refine x_aload_n F dL_law_310 rfl 3 rfl ?_
  refine x_aload_n F dL_law_311 rfl 4 rfl ?_
  refine x_iload F dL_law_312 0 rfl ?_
  refine x_iconst (1 : Int32) F dL_law_314 (by decide) ?_
  refine x_iadd F dL_law_315 ?_
  refine x_sld (k := 1) F hX rfl (by omega) hL dL_law_316 ?_
  have h : w_X11_fault (sc (i + 1)) σ (fun r1 s => w_X12_fault (sc (i + 1)) s (fun r' s' => r1 = r' ∧ In (bd + 40) s')) := o_fault  hI
  refine x_callV_i F (c_X11_fault (xl X) (xg X) (xA X) F.2.2.1 h) (bw_V bw_9_14 bw_9_15 bw_9_16 bw_1_2 bw_9_17) rfl cd_X11_fault (Nat.le_of_ble_eq_true rfl) (Nat.le_of_ble_eq_true rfl) (kd_w (by decide) kz_0) rfl (cl_11 kz_0) rfl rfl (Nat.le_of_ble_eq_true rfl) dL_law_317 (fun r1 s1 h1 => ?_)
  refine x_aload_n F dL_law_320 rfl 2 rfl ?_
  refine x_aload_n F dL_law_321 rfl 4 rfl ?_
  refine x_iload F dL_law_322 0 rfl ?_
  refine x_iconst (1 : Int32) F dL_law_324 (by decide) ?_
  refine x_iadd F dL_law_325 ?_
  refine x_sld (k := 1) F hX rfl (by omega) hL dL_law_326 ?_
  refine x_callV_i F (c_X12_fault (xl X) (xg X) (xA X) F.2.2.1 h1) (bw_V bw_13_7 bw_13_8 bw_13_9 bw_1_5 bw_13_10) rfl cd_X12_fault (Nat.le_of_ble_eq_true rfl) (Nat.le_of_ble_eq_true rfl) (kd_w (by decide) kz_176) rfl (cl_12 kz_176) rfl rfl (Nat.le_of_ble_eq_true rfl) dL_law_327 (fun r2 s2 h2 => ?_)
  exact x_icmp_eq (tgt := 1608) F dL_law_330 (by decide) (fun _ => K s2 h2.2) (fun c => absurd h2.1 c)
set_option maxRecDepth 100000 in
set_option maxHeartbeats 4000000 in
theorem lc_text {X : XT} {b L i bd : Nat} {sc : Nat → Int32} {σ : wS} (F : Fx X cL_law 7 RL wvL 13 482) (hX : Sx X b L sc) (hi : i + 6 ≤ L) (hL : L ≤ 3072) (h60 : 60 ≤ bd) (hb : bd < 2 ^ 30) (hb2 : bd + 40 < 2 ^ 30) (hI : In bd σ) (K : ∀ τ : wS, In (bd + 40) τ → Wx X 7 τ 1608 (LV X b i) []) : Wx X 7 σ 335 (LV X b i) [] := by
  refine x_aload_n F dL_law_335 rfl 3 rfl ?_
  refine x_aload_n F dL_law_336 rfl 4 rfl ?_
  refine x_iload F dL_law_337 0 rfl ?_
  refine x_iconst (1 : Int32) F dL_law_339 (by decide) ?_
  refine x_iadd F dL_law_340 ?_
  refine x_sld (k := 1) F hX rfl (by omega) hL dL_law_341 ?_
  have h : w_X11_text (sc (i + 1)) σ (fun r1 s => w_X12_text (sc (i + 1)) s (fun r' s' => r1 = r' ∧ In (bd + 40) s')) := o_text  hI
  refine x_callV_i F (c_X11_text (xl X) (xg X) (xA X) F.2.2.1 h) (bw_V bw_18_18 bw_18_19 bw_18_20 bw_1_2 bw_18_21) rfl cd_X11_text (Nat.le_of_ble_eq_true rfl) (Nat.le_of_ble_eq_true rfl) (kd_w (by decide) kz_0) rfl (cl_11 kz_0) rfl rfl (Nat.le_of_ble_eq_true rfl) dL_law_342 (fun r1 s1 h1 => ?_)
  refine x_aload_n F dL_law_345 rfl 2 rfl ?_
  refine x_aload_n F dL_law_346 rfl 4 rfl ?_
  refine x_iload F dL_law_347 0 rfl ?_
  refine x_iconst (1 : Int32) F dL_law_349 (by decide) ?_
  refine x_iadd F dL_law_350 ?_
  refine x_sld (k := 1) F hX rfl (by omega) hL dL_law_351 ?_
  refine x_callV_i F (c_X12_text (xl X) (xg X) (xA X) F.2.2.1 h1) (bw_V bw_22_13 bw_22_14 bw_22_15 bw_1_5 bw_22_16) rfl cd_X12_text (Nat.le_of_ble_eq_true rfl) (Nat.le_of_ble_eq_true rfl) (kd_w (by decide) kz_176) rfl (cl_12 kz_176) rfl rfl (Nat.le_of_ble_eq_true rfl) dL_law_352 (fun r2 s2 h2 => ?_)
  exact x_icmp_eq (tgt := 1608) F dL_law_355 (by decide) (fun _ => K s2 h2.2) (fun c => absurd h2.1 c)
set_option maxRecDepth 100000 in
set_option maxHeartbeats 4000000 in
theorem lc_rule {X : XT} {b L i bd : Nat} {sc : Nat → Int32} {σ : wS} (F : Fx X cL_law 7 RL wvL 13 482) (hX : Sx X b L sc) (hi : i + 6 ≤ L) (hL : L ≤ 3072) (h60 : 60 ≤ bd) (hb : bd < 2 ^ 30) (hb2 : bd + 40 < 2 ^ 30) (hI : In bd σ) (K : ∀ τ : wS, In (bd + 40) τ → Wx X 7 τ 1608 (LV X b i) []) : Wx X 7 σ 360 (LV X b i) [] := by
  refine x_aload_n F dL_law_360 rfl 3 rfl ?_
  refine x_aload_n F dL_law_361 rfl 4 rfl ?_
  refine x_iload F dL_law_362 0 rfl ?_
  refine x_iconst (1 : Int32) F dL_law_364 (by decide) ?_
  refine x_iadd F dL_law_365 ?_
  refine x_sld (k := 1) F hX rfl (by omega) hL dL_law_366 ?_
  have h : w_X11_rule (sc (i + 1)) σ (fun r1 s => w_X12_rule (sc (i + 1)) s (fun r' s' => r1 = r' ∧ In (bd + 40) s')) := o_rule  hI
  refine x_callV_i F (c_X11_rule (xl X) (xg X) (xA X) F.2.2.1 h) (bw_V bw_25_17 bw_25_18 bw_25_19 bw_1_2 bw_25_20) rfl cd_X11_rule (Nat.le_of_ble_eq_true rfl) (Nat.le_of_ble_eq_true rfl) (kd_w (by decide) kz_0) rfl (cl_11 kz_0) rfl rfl (Nat.le_of_ble_eq_true rfl) dL_law_367 (fun r1 s1 h1 => ?_)
  refine x_aload_n F dL_law_370 rfl 2 rfl ?_
  refine x_aload_n F dL_law_371 rfl 4 rfl ?_
  refine x_iload F dL_law_372 0 rfl ?_
  refine x_iconst (1 : Int32) F dL_law_374 (by decide) ?_
  refine x_iadd F dL_law_375 ?_
  refine x_sld (k := 1) F hX rfl (by omega) hL dL_law_376 ?_
  refine x_callV_i F (c_X12_rule (xl X) (xg X) (xA X) F.2.2.1 h1) (bw_V bw_26_8 bw_26_9 bw_26_10 bw_1_5 bw_26_11) rfl cd_X12_rule (Nat.le_of_ble_eq_true rfl) (Nat.le_of_ble_eq_true rfl) (kd_w (by decide) kz_176) rfl (cl_12 kz_176) rfl rfl (Nat.le_of_ble_eq_true rfl) dL_law_377 (fun r2 s2 h2 => ?_)
  exact x_icmp_eq (tgt := 1608) F dL_law_380 (by decide) (fun _ => K s2 h2.2) (fun c => absurd h2.1 c)
set_option maxRecDepth 100000 in
set_option maxHeartbeats 4000000 in
theorem lc_pull {X : XT} {b L i bd : Nat} {sc : Nat → Int32} {σ : wS} (F : Fx X cL_law 7 RL wvL 13 482) (hX : Sx X b L sc) (hi : i + 6 ≤ L) (hL : L ≤ 3072) (h60 : 60 ≤ bd) (hb : bd < 2 ^ 30) (hb2 : bd + 40 < 2 ^ 30) (hI : In bd σ) (K : ∀ τ : wS, In (bd + 40) τ → Wx X 7 τ 1608 (LV X b i) []) : Wx X 7 σ 453 (LV X b i) [] := by
  refine x_aload_n F dL_law_453 rfl 3 rfl ?_
  refine x_aload_n F dL_law_454 rfl 4 rfl ?_
  refine x_iload F dL_law_455 0 rfl ?_
  refine x_iconst (1 : Int32) F dL_law_457 (by decide) ?_
  refine x_iadd F dL_law_458 ?_
  refine x_sld (k := 1) F hX rfl (by omega) hL dL_law_459 ?_
  refine x_aload_n F dL_law_460 rfl 4 rfl ?_
  refine x_iload F dL_law_461 0 rfl ?_
  refine x_iconst (2 : Int32) F dL_law_463 (by decide) ?_
  refine x_iadd F dL_law_464 ?_
  refine x_sld (k := 2) F hX rfl (by omega) hL dL_law_465 ?_
  have h : w_X11_pull (sc (i + 1)) (sc (i + 2)) σ (fun r1 s => w_X12_pull (sc (i + 1)) (sc (i + 2)) s (fun r' s' => r1 = r' ∧ In (bd + 40) s')) := o_pull  hI
  refine x_callV_l F (c_X11_pull (xl X) (xg X) (xA X) F.2.2.1 h) (bw_V bw_28_5 bw_28_6 bw_28_7 bw_1_2 bw_28_8) rfl cd_X11_pull (Nat.le_of_ble_eq_true rfl) (Nat.le_of_ble_eq_true rfl) (kd_w (by decide) kz_0) rfl (cl_11 kz_0) rfl rfl (Nat.le_of_ble_eq_true rfl) dL_law_466 (fun r1 s1 h1 => ?_)
  refine x_aload_n F dL_law_469 rfl 2 rfl ?_
  refine x_aload_n F dL_law_470 rfl 4 rfl ?_
  refine x_iload F dL_law_471 0 rfl ?_
  refine x_iconst (1 : Int32) F dL_law_473 (by decide) ?_
  refine x_iadd F dL_law_474 ?_
  refine x_sld (k := 1) F hX rfl (by omega) hL dL_law_475 ?_
  refine x_aload_n F dL_law_476 rfl 4 rfl ?_
  refine x_iload F dL_law_477 0 rfl ?_
  refine x_iconst (2 : Int32) F dL_law_479 (by decide) ?_
  refine x_iadd F dL_law_480 ?_
  refine x_sld (k := 2) F hX rfl (by omega) hL dL_law_481 ?_
  refine x_callV_l F (c_X12_pull (xl X) (xg X) (xA X) F.2.2.1 h1) (bw_V bw_29_15 bw_29_16 bw_29_17 bw_1_5 bw_29_18) rfl cd_X12_pull (Nat.le_of_ble_eq_true rfl) (Nat.le_of_ble_eq_true rfl) (kd_w (by decide) kz_176) rfl (cl_12 kz_176) rfl rfl (Nat.le_of_ble_eq_true rfl) dL_law_482 (fun r2 s2 h2 => ?_)
  refine x_lcmp F dL_law_485 ?_
  exact x_if_eq (tgt := 1608) F dL_law_486 (by decide) (fun _ => K s2 h2.2) (fun c => absurd (by rw [h2.1]; exact lg_self _) c)
set_option maxRecDepth 100000 in
set_option maxHeartbeats 4000000 in
theorem lc_shift {X : XT} {b L i bd : Nat} {sc : Nat → Int32} {σ : wS} (F : Fx X cL_law 7 RL wvL 13 482) (hX : Sx X b L sc) (hi : i + 6 ≤ L) (hL : L ≤ 3072) (h60 : 60 ≤ bd) (hb : bd < 2 ^ 30) (hb2 : bd + 40 < 2 ^ 30) (hI : In bd σ) (K : ∀ τ : wS, In (bd + 40) τ → Wx X 7 τ 1608 (LV X b i) []) : Wx X 7 σ 491 (LV X b i) [] := by
  refine x_aload_n F dL_law_491 rfl 3 rfl ?_
  refine x_aload_n F dL_law_492 rfl 4 rfl ?_
  refine x_iload F dL_law_493 0 rfl ?_
  refine x_iconst (1 : Int32) F dL_law_495 (by decide) ?_
  refine x_iadd F dL_law_496 ?_
  refine x_sld (k := 1) F hX rfl (by omega) hL dL_law_497 ?_
  refine x_aload_n F dL_law_498 rfl 4 rfl ?_
  refine x_iload F dL_law_499 0 rfl ?_
  refine x_iconst (2 : Int32) F dL_law_501 (by decide) ?_
  refine x_iadd F dL_law_502 ?_
  refine x_sld (k := 2) F hX rfl (by omega) hL dL_law_503 ?_
  have h : w_X11_shift (sc (i + 1)) (sc (i + 2)) σ (fun r1 s => w_X12_shift (sc (i + 1)) (sc (i + 2)) s (fun r' s' => r1 = r' ∧ In (bd + 40) s')) := o_shift  hI
  refine x_callV_l F (c_X11_shift (xl X) (xg X) (xA X) F.2.2.1 h) (bw_V bw_30_6 bw_30_7 bw_30_8 bw_1_2 bw_30_9) rfl cd_X11_shift (Nat.le_of_ble_eq_true rfl) (Nat.le_of_ble_eq_true rfl) (kd_w (by decide) kz_0) rfl (cl_11 kz_0) rfl rfl (Nat.le_of_ble_eq_true rfl) dL_law_504 (fun r1 s1 h1 => ?_)
  refine x_aload_n F dL_law_507 rfl 2 rfl ?_
  refine x_aload_n F dL_law_508 rfl 4 rfl ?_
  refine x_iload F dL_law_509 0 rfl ?_
  refine x_iconst (1 : Int32) F dL_law_511 (by decide) ?_
  refine x_iadd F dL_law_512 ?_
  refine x_sld (k := 1) F hX rfl (by omega) hL dL_law_513 ?_
  refine x_aload_n F dL_law_514 rfl 4 rfl ?_
  refine x_iload F dL_law_515 0 rfl ?_
  refine x_iconst (2 : Int32) F dL_law_517 (by decide) ?_
  refine x_iadd F dL_law_518 ?_
  refine x_sld (k := 2) F hX rfl (by omega) hL dL_law_519 ?_
  refine x_callV_l F (c_X12_shift (xl X) (xg X) (xA X) F.2.2.1 h1) (bw_V bw_30_14 bw_30_15 bw_30_16 bw_1_5 bw_30_17) rfl cd_X12_shift (Nat.le_of_ble_eq_true rfl) (Nat.le_of_ble_eq_true rfl) (kd_w (by decide) kz_176) rfl (cl_12 kz_176) rfl rfl (Nat.le_of_ble_eq_true rfl) dL_law_520 (fun r2 s2 h2 => ?_)
  refine x_lcmp F dL_law_523 ?_
  exact x_if_eq (tgt := 1608) F dL_law_524 (by decide) (fun _ => K s2 h2.2) (fun c => absurd (by rw [h2.1]; exact lg_self _) c)
set_option maxRecDepth 100000 in
set_option maxHeartbeats 4000000 in
theorem lc_held {X : XT} {b L i bd : Nat} {sc : Nat → Int32} {σ : wS} (F : Fx X cL_law 7 RL wvL 13 482) (hX : Sx X b L sc) (hi : i + 6 ≤ L) (hL : L ≤ 3072) (h60 : 60 ≤ bd) (hb : bd < 2 ^ 30) (hb2 : bd + 40 < 2 ^ 30) (hI : In bd σ) (K : ∀ τ : wS, In (bd + 40) τ → Wx X 7 τ 1608 (LV X b i) []) : Wx X 7 σ 529 (LV X b i) [] := by
  refine x_aload_n F dL_law_529 rfl 3 rfl ?_
  refine x_aload_n F dL_law_530 rfl 4 rfl ?_
  refine x_iload F dL_law_531 0 rfl ?_
  refine x_iconst (1 : Int32) F dL_law_533 (by decide) ?_
  refine x_iadd F dL_law_534 ?_
  refine x_sld (k := 1) F hX rfl (by omega) hL dL_law_535 ?_
  refine x_aload_n F dL_law_536 rfl 4 rfl ?_
  refine x_iload F dL_law_537 0 rfl ?_
  refine x_iconst (2 : Int32) F dL_law_539 (by decide) ?_
  refine x_iadd F dL_law_540 ?_
  refine x_sld (k := 2) F hX rfl (by omega) hL dL_law_541 ?_
  have h : w_X11_held (sc (i + 1)) (sc (i + 2)) σ (fun r1 s => w_X12_held (sc (i + 1)) (sc (i + 2)) s (fun r' s' => r1 = r' ∧ In (bd + 40) s')) := o_held  hI
  refine x_callV_l F (c_X11_held (xl X) (xg X) (xA X) F.2.2.1 h) (bw_V bw_30_19 bw_30_20 bw_30_21 bw_1_2 bw_30_22) rfl cd_X11_held (Nat.le_of_ble_eq_true rfl) (Nat.le_of_ble_eq_true rfl) (kd_w (by decide) kz_0) rfl (cl_11 kz_0) rfl rfl (Nat.le_of_ble_eq_true rfl) dL_law_542 (fun r1 s1 h1 => ?_)
  refine x_aload_n F dL_law_545 rfl 2 rfl ?_
  refine x_aload_n F dL_law_546 rfl 4 rfl ?_
  refine x_iload F dL_law_547 0 rfl ?_
  refine x_iconst (1 : Int32) F dL_law_549 (by decide) ?_
  refine x_iadd F dL_law_550 ?_
  refine x_sld (k := 1) F hX rfl (by omega) hL dL_law_551 ?_
  refine x_aload_n F dL_law_552 rfl 4 rfl ?_
  refine x_iload F dL_law_553 0 rfl ?_
  refine x_iconst (2 : Int32) F dL_law_555 (by decide) ?_
  refine x_iadd F dL_law_556 ?_
  refine x_sld (k := 2) F hX rfl (by omega) hL dL_law_557 ?_
  refine x_callV_l F (c_X12_held (xl X) (xg X) (xA X) F.2.2.1 h1) (bw_V bw_31_5 bw_31_6 bw_31_7 bw_1_5 bw_31_8) rfl cd_X12_held (Nat.le_of_ble_eq_true rfl) (Nat.le_of_ble_eq_true rfl) (kd_w (by decide) kz_176) rfl (cl_12 kz_176) rfl rfl (Nat.le_of_ble_eq_true rfl) dL_law_558 (fun r2 s2 h2 => ?_)
  refine x_lcmp F dL_law_561 ?_
  exact x_if_eq (tgt := 1608) F dL_law_562 (by decide) (fun _ => K s2 h2.2) (fun c => absurd (by rw [h2.1]; exact lg_self _) c)
set_option maxRecDepth 100000 in
set_option maxHeartbeats 4000000 in
theorem lc_load {X : XT} {b L i bd : Nat} {sc : Nat → Int32} {σ : wS} (F : Fx X cL_law 7 RL wvL 13 482) (hX : Sx X b L sc) (hi : i + 6 ≤ L) (hL : L ≤ 3072) (h60 : 60 ≤ bd) (hb : bd < 2 ^ 30) (hb2 : bd + 40 < 2 ^ 30) (hI : In bd σ) (K : ∀ τ : wS, In (bd + 40) τ → Wx X 7 τ 1608 (LV X b i) []) : Wx X 7 σ 567 (LV X b i) [] := by
  refine x_aload_n F dL_law_567 rfl 3 rfl ?_
  refine x_aload_n F dL_law_568 rfl 4 rfl ?_
  refine x_iload F dL_law_569 0 rfl ?_
  refine x_iconst (1 : Int32) F dL_law_571 (by decide) ?_
  refine x_iadd F dL_law_572 ?_
  refine x_sld (k := 1) F hX rfl (by omega) hL dL_law_573 ?_
  refine x_aload_n F dL_law_574 rfl 4 rfl ?_
  refine x_iload F dL_law_575 0 rfl ?_
  refine x_iconst (2 : Int32) F dL_law_577 (by decide) ?_
  refine x_iadd F dL_law_578 ?_
  refine x_sld (k := 2) F hX rfl (by omega) hL dL_law_579 ?_
  have h : w_X11_load (sc (i + 1)) (sc (i + 2)) σ (fun r1 s => w_X12_load (sc (i + 1)) (sc (i + 2)) s (fun r' s' => r1 = r' ∧ In (bd + 40) s')) := o_load  hI
  refine x_callV_l F (c_X11_load (xl X) (xg X) (xA X) F.2.2.1 h) (bw_V bw_31_9 bw_31_10 bw_31_11 bw_1_2 bw_31_12) rfl cd_X11_load (Nat.le_of_ble_eq_true rfl) (Nat.le_of_ble_eq_true rfl) (kd_w (by decide) kz_0) rfl (cl_11 kz_0) rfl rfl (Nat.le_of_ble_eq_true rfl) dL_law_580 (fun r1 s1 h1 => ?_)
  refine x_aload_n F dL_law_583 rfl 2 rfl ?_
  refine x_aload_n F dL_law_584 rfl 4 rfl ?_
  refine x_iload F dL_law_585 0 rfl ?_
  refine x_iconst (1 : Int32) F dL_law_587 (by decide) ?_
  refine x_iadd F dL_law_588 ?_
  refine x_sld (k := 1) F hX rfl (by omega) hL dL_law_589 ?_
  refine x_aload_n F dL_law_590 rfl 4 rfl ?_
  refine x_iload F dL_law_591 0 rfl ?_
  refine x_iconst (2 : Int32) F dL_law_593 (by decide) ?_
  refine x_iadd F dL_law_594 ?_
  refine x_sld (k := 2) F hX rfl (by omega) hL dL_law_595 ?_
  refine x_callV_l F (c_X12_load (xl X) (xg X) (xA X) F.2.2.1 h1) (bw_V bw_31_21 bw_31_22 bw_31_23 bw_1_5 bw_32_0) rfl cd_X12_load (Nat.le_of_ble_eq_true rfl) (Nat.le_of_ble_eq_true rfl) (kd_w (by decide) kz_176) rfl (cl_12 kz_176) rfl rfl (Nat.le_of_ble_eq_true rfl) dL_law_596 (fun r2 s2 h2 => ?_)
  refine x_lcmp F dL_law_599 ?_
  exact x_if_eq (tgt := 1608) F dL_law_600 (by decide) (fun _ => K s2 h2.2) (fun c => absurd (by rw [h2.1]; exact lg_self _) c)
set_option maxRecDepth 100000 in
set_option maxHeartbeats 4000000 in
theorem lc_worst {X : XT} {b L i bd : Nat} {sc : Nat → Int32} {σ : wS} (F : Fx X cL_law 7 RL wvL 13 482) (hX : Sx X b L sc) (hi : i + 6 ≤ L) (hL : L ≤ 3072) (h60 : 60 ≤ bd) (hb : bd < 2 ^ 30) (hb2 : bd + 40 < 2 ^ 30) (hI : In bd σ) (K : ∀ τ : wS, In (bd + 40) τ → Wx X 7 τ 1608 (LV X b i) []) : Wx X 7 σ 605 (LV X b i) [] := by
  refine x_aload_n F dL_law_605 rfl 3 rfl ?_
  have h : w_X11_worst  σ (fun r1 s => w_X12_worst  s (fun r' s' => r1 = r' ∧ In (bd + 40) s')) := o_worst  hI
  refine x_callV_i F (c_X11_worst (xl X) (xg X) (xA X) F.2.2.1 h) (bw_V bw_32_1 bw_32_2 bw_32_3 bw_1_2 bw_32_4) rfl cd_X11_worst (Nat.le_of_ble_eq_true rfl) (Nat.le_of_ble_eq_true rfl) (kd_w (by decide) kz_0) rfl (cl_11 kz_0) rfl rfl (Nat.le_of_ble_eq_true rfl) dL_law_606 (fun r1 s1 h1 => ?_)
  refine x_aload_n F dL_law_609 rfl 2 rfl ?_
  refine x_callV_i F (c_X12_worst (xl X) (xg X) (xA X) F.2.2.1 h1) (bw_V bw_32_6 bw_32_7 bw_32_8 bw_1_5 bw_32_9) rfl cd_X12_worst (Nat.le_of_ble_eq_true rfl) (Nat.le_of_ble_eq_true rfl) (kd_w (by decide) kz_176) rfl (cl_12 kz_176) rfl rfl (Nat.le_of_ble_eq_true rfl) dL_law_610 (fun r2 s2 h2 => ?_)
  exact x_icmp_eq (tgt := 1608) F dL_law_613 (by decide) (fun _ => K s2 h2.2) (fun c => absurd h2.1 c)
set_option maxRecDepth 100000 in
set_option maxHeartbeats 4000000 in
theorem lc_wind {X : XT} {b L i bd : Nat} {sc : Nat → Int32} {σ : wS} (F : Fx X cL_law 7 RL wvL 13 482) (hX : Sx X b L sc) (hi : i + 6 ≤ L) (hL : L ≤ 3072) (h60 : 60 ≤ bd) (hb : bd < 2 ^ 30) (hb2 : bd + 40 < 2 ^ 30) (hI : In bd σ) (K : ∀ τ : wS, In (bd + 40) τ → Wx X 7 τ 1608 (LV X b i) []) : Wx X 7 σ 618 (LV X b i) [] := by
  refine x_aload_n F dL_law_618 rfl 3 rfl ?_
  refine x_aload_n F dL_law_619 rfl 4 rfl ?_
  refine x_iload F dL_law_620 0 rfl ?_
  refine x_iconst (1 : Int32) F dL_law_622 (by decide) ?_
  refine x_iadd F dL_law_623 ?_
  refine x_sld (k := 1) F hX rfl (by omega) hL dL_law_624 ?_
  refine x_aload_n F dL_law_625 rfl 4 rfl ?_
  refine x_iload F dL_law_626 0 rfl ?_
  refine x_iconst (2 : Int32) F dL_law_628 (by decide) ?_
  refine x_iadd F dL_law_629 ?_
  refine x_sld (k := 2) F hX rfl (by omega) hL dL_law_630 ?_
  refine x_aload_n F dL_law_631 rfl 4 rfl ?_
  refine x_iload F dL_law_632 0 rfl ?_
  refine x_iconst (3 : Int32) F dL_law_634 (by decide) ?_
  refine x_iadd F dL_law_635 ?_
  refine x_sld (k := 3) F hX rfl (by omega) hL dL_law_636 ?_
  have h : w_X11_wind (sc (i + 1)) (sc (i + 2)) (sc (i + 3)) σ (fun r1 s => w_X12_wind (sc (i + 1)) (sc (i + 2)) (sc (i + 3)) s (fun r' s' => r1 = r' ∧ In (bd + 40) s')) := o_wind hb hI
  refine x_callV_i F (c_X11_wind (xl X) (xg X) (xA X) F.2.2.1 h) (bw_V bw_32_10 bw_32_11 bw_32_12 bw_1_2 bw_32_13) rfl cd_X11_wind (Nat.le_of_ble_eq_true rfl) (Nat.le_of_ble_eq_true rfl) (kd_w (by decide) kz_0) rfl (cl_11 kz_0) rfl rfl (Nat.le_of_ble_eq_true rfl) dL_law_637 (fun r1 s1 h1 => ?_)
  refine x_aload_n F dL_law_640 rfl 2 rfl ?_
  refine x_aload_n F dL_law_641 rfl 4 rfl ?_
  refine x_iload F dL_law_642 0 rfl ?_
  refine x_iconst (1 : Int32) F dL_law_644 (by decide) ?_
  refine x_iadd F dL_law_645 ?_
  refine x_sld (k := 1) F hX rfl (by omega) hL dL_law_646 ?_
  refine x_aload_n F dL_law_647 rfl 4 rfl ?_
  refine x_iload F dL_law_648 0 rfl ?_
  refine x_iconst (2 : Int32) F dL_law_650 (by decide) ?_
  refine x_iadd F dL_law_651 ?_
  refine x_sld (k := 2) F hX rfl (by omega) hL dL_law_652 ?_
  refine x_aload_n F dL_law_653 rfl 4 rfl ?_
  refine x_iload F dL_law_654 0 rfl ?_
  refine x_iconst (3 : Int32) F dL_law_656 (by decide) ?_
  refine x_iadd F dL_law_657 ?_
  refine x_sld (k := 3) F hX rfl (by omega) hL dL_law_658 ?_
  refine x_callV_i F (c_X12_wind (xl X) (xg X) (xA X) F.2.2.1 h1) (bw_V bw_35_17 bw_35_18 bw_35_19 bw_1_5 bw_35_20) rfl cd_X12_wind (Nat.le_of_ble_eq_true rfl) (Nat.le_of_ble_eq_true rfl) (kd_w (by decide) kz_176) rfl (cl_12 kz_176) rfl rfl (Nat.le_of_ble_eq_true rfl) dL_law_659 (fun r2 s2 h2 => ?_)
  exact x_icmp_eq (tgt := 1608) F dL_law_662 (by decide) (fun _ => K s2 h2.2) (fun c => absurd h2.1 c)
set_option maxRecDepth 100000 in
set_option maxHeartbeats 4000000 in
theorem lc_winch {X : XT} {b L i bd : Nat} {sc : Nat → Int32} {σ : wS} (F : Fx X cL_law 7 RL wvL 13 482) (hX : Sx X b L sc) (hi : i + 6 ≤ L) (hL : L ≤ 3072) (h60 : 60 ≤ bd) (hb : bd < 2 ^ 30) (hb2 : bd + 40 < 2 ^ 30) (hI : In bd σ) (K : ∀ τ : wS, In (bd + 40) τ → Wx X 7 τ 1608 (LV X b i) []) : Wx X 7 σ 667 (LV X b i) [] := by
  refine x_aload_n F dL_law_667 rfl 3 rfl ?_
  refine x_aload_n F dL_law_668 rfl 4 rfl ?_
  refine x_iload F dL_law_669 0 rfl ?_
  refine x_iconst (1 : Int32) F dL_law_671 (by decide) ?_
  refine x_iadd F dL_law_672 ?_
  refine x_sld (k := 1) F hX rfl (by omega) hL dL_law_673 ?_
  refine x_aload_n F dL_law_674 rfl 4 rfl ?_
  refine x_iload F dL_law_675 0 rfl ?_
  refine x_iconst (2 : Int32) F dL_law_677 (by decide) ?_
  refine x_iadd F dL_law_678 ?_
  refine x_sld (k := 2) F hX rfl (by omega) hL dL_law_679 ?_
  have h : w_X11_winch (sc (i + 1)) (sc (i + 2)) σ (fun r1 s => w_X12_winch (sc (i + 1)) (sc (i + 2)) s (fun r' s' => r1 = r' ∧ In (bd + 40) s')) := o_winch hb hI
  refine x_callV_i F (c_X11_winch (xl X) (xg X) (xA X) F.2.2.1 h) (bw_V bw_38_0 bw_38_1 bw_38_2 bw_1_2 bw_38_3) rfl cd_X11_winch (Nat.le_of_ble_eq_true rfl) (Nat.le_of_ble_eq_true rfl) (kd_w (by decide) kz_0) rfl (cl_11 kz_0) rfl rfl (Nat.le_of_ble_eq_true rfl) dL_law_680 (fun r1 s1 h1 => ?_)
  refine x_aload_n F dL_law_683 rfl 2 rfl ?_
  refine x_aload_n F dL_law_684 rfl 4 rfl ?_
  refine x_iload F dL_law_685 0 rfl ?_
  refine x_iconst (1 : Int32) F dL_law_687 (by decide) ?_
  refine x_iadd F dL_law_688 ?_
  refine x_sld (k := 1) F hX rfl (by omega) hL dL_law_689 ?_
  refine x_aload_n F dL_law_690 rfl 4 rfl ?_
  refine x_iload F dL_law_691 0 rfl ?_
  refine x_iconst (2 : Int32) F dL_law_693 (by decide) ?_
  refine x_iadd F dL_law_694 ?_
  refine x_sld (k := 2) F hX rfl (by omega) hL dL_law_695 ?_
  refine x_callV_i F (c_X12_winch (xl X) (xg X) (xA X) F.2.2.1 h1) (bw_V bw_38_4 bw_38_5 bw_38_6 bw_1_5 bw_38_7) rfl cd_X12_winch (Nat.le_of_ble_eq_true rfl) (Nat.le_of_ble_eq_true rfl) (kd_w (by decide) kz_176) rfl (cl_12 kz_176) rfl rfl (Nat.le_of_ble_eq_true rfl) dL_law_696 (fun r2 s2 h2 => ?_)
  exact x_icmp_eq (tgt := 1608) F dL_law_699 (by decide) (fun _ => K s2 h2.2) (fun c => absurd h2.1 c)
set_option maxRecDepth 100000 in
set_option maxHeartbeats 4000000 in
theorem lc_cast {X : XT} {b L i bd : Nat} {sc : Nat → Int32} {σ : wS} (F : Fx X cL_law 7 RL wvL 13 482) (hX : Sx X b L sc) (hi : i + 6 ≤ L) (hL : L ≤ 3072) (h60 : 60 ≤ bd) (hb : bd < 2 ^ 30) (hb2 : bd + 40 < 2 ^ 30) (hI : In bd σ) (K : ∀ τ : wS, In (bd + 40) τ → Wx X 7 τ 1608 (LV X b i) []) : Wx X 7 σ 704 (LV X b i) [] := by
  refine x_aload_n F dL_law_704 rfl 3 rfl ?_
  refine x_aload_n F dL_law_705 rfl 4 rfl ?_
  refine x_iload F dL_law_706 0 rfl ?_
  refine x_iconst (1 : Int32) F dL_law_708 (by decide) ?_
  refine x_iadd F dL_law_709 ?_
  refine x_sld (k := 1) F hX rfl (by omega) hL dL_law_710 ?_
  have h : w_X11_cast (sc (i + 1)) σ (fun r1 s => w_X12_cast (sc (i + 1)) s (fun r' s' => r1 = r' ∧ In (bd + 40) s')) := o_cast hb hI
  refine x_callV_i F (c_X11_cast (xl X) (xg X) (xA X) F.2.2.1 h) (bw_V bw_38_8 bw_38_9 bw_38_10 bw_1_2 bw_38_11) rfl cd_X11_cast (Nat.le_of_ble_eq_true rfl) (Nat.le_of_ble_eq_true rfl) (kd_w (by decide) kz_0) rfl (cl_11 kz_0) rfl rfl (Nat.le_of_ble_eq_true rfl) dL_law_711 (fun r1 s1 h1 => ?_)
  refine x_aload_n F dL_law_714 rfl 2 rfl ?_
  refine x_aload_n F dL_law_715 rfl 4 rfl ?_
  refine x_iload F dL_law_716 0 rfl ?_
  refine x_iconst (1 : Int32) F dL_law_718 (by decide) ?_
  refine x_iadd F dL_law_719 ?_
  refine x_sld (k := 1) F hX rfl (by omega) hL dL_law_720 ?_
  refine x_callV_i F (c_X12_cast (xl X) (xg X) (xA X) F.2.2.1 h1) (bw_V bw_38_12 bw_38_13 bw_38_14 bw_1_5 bw_38_15) rfl cd_X12_cast (Nat.le_of_ble_eq_true rfl) (Nat.le_of_ble_eq_true rfl) (kd_w (by decide) kz_176) rfl (cl_12 kz_176) rfl rfl (Nat.le_of_ble_eq_true rfl) dL_law_721 (fun r2 s2 h2 => ?_)
  exact x_icmp_eq (tgt := 1608) F dL_law_724 (by decide) (fun _ => K s2 h2.2) (fun c => absurd h2.1 c)
set_option maxRecDepth 100000 in
set_option maxHeartbeats 4000000 in
theorem lc_renew {X : XT} {b L i bd : Nat} {sc : Nat → Int32} {σ : wS} (F : Fx X cL_law 7 RL wvL 13 482) (hX : Sx X b L sc) (hi : i + 6 ≤ L) (hL : L ≤ 3072) (h60 : 60 ≤ bd) (hb : bd < 2 ^ 30) (hb2 : bd + 40 < 2 ^ 30) (hI : In bd σ) (K : ∀ τ : wS, In (bd + 40) τ → Wx X 7 τ 1608 (LV X b i) []) : Wx X 7 σ 729 (LV X b i) [] := by
  refine x_aload_n F dL_law_729 rfl 3 rfl ?_
  refine x_aload_n F dL_law_730 rfl 4 rfl ?_
  refine x_iload F dL_law_731 0 rfl ?_
  refine x_iconst (1 : Int32) F dL_law_733 (by decide) ?_
  refine x_iadd F dL_law_734 ?_
  refine x_sld (k := 1) F hX rfl (by omega) hL dL_law_735 ?_
  have h : w_X11_renew (sc (i + 1)) σ (fun r1 s => w_X12_renew (sc (i + 1)) s (fun r' s' => r1 = r' ∧ In (bd + 40) s')) := o_renew hb hI
  refine x_callV_i F (c_X11_renew (xl X) (xg X) (xA X) F.2.2.1 h) (bw_V bw_38_16 bw_38_17 bw_38_18 bw_1_2 bw_38_19) rfl cd_X11_renew (Nat.le_of_ble_eq_true rfl) (Nat.le_of_ble_eq_true rfl) (kd_w (by decide) kz_0) rfl (cl_11 kz_0) rfl rfl (Nat.le_of_ble_eq_true rfl) dL_law_736 (fun r1 s1 h1 => ?_)
  refine x_aload_n F dL_law_739 rfl 2 rfl ?_
  refine x_aload_n F dL_law_740 rfl 4 rfl ?_
  refine x_iload F dL_law_741 0 rfl ?_
  refine x_iconst (1 : Int32) F dL_law_743 (by decide) ?_
  refine x_iadd F dL_law_744 ?_
  refine x_sld (k := 1) F hX rfl (by omega) hL dL_law_745 ?_
  refine x_callV_i F (c_X12_renew (xl X) (xg X) (xA X) F.2.2.1 h1) (bw_V bw_38_20 bw_38_21 bw_38_22 bw_1_5 bw_38_23) rfl cd_X12_renew (Nat.le_of_ble_eq_true rfl) (Nat.le_of_ble_eq_true rfl) (kd_w (by decide) kz_176) rfl (cl_12 kz_176) rfl rfl (Nat.le_of_ble_eq_true rfl) dL_law_746 (fun r2 s2 h2 => ?_)
  exact x_icmp_eq (tgt := 1608) F dL_law_749 (by decide) (fun _ => K s2 h2.2) (fun c => absurd h2.1 c)
set_option maxRecDepth 100000 in
set_option maxHeartbeats 4000000 in
theorem lc_status {X : XT} {b L i bd : Nat} {sc : Nat → Int32} {σ : wS} (F : Fx X cL_law 7 RL wvL 13 482) (hX : Sx X b L sc) (hi : i + 6 ≤ L) (hL : L ≤ 3072) (h60 : 60 ≤ bd) (hb : bd < 2 ^ 30) (hb2 : bd + 40 < 2 ^ 30) (hI : In bd σ) (K : ∀ τ : wS, In (bd + 40) τ → Wx X 7 τ 1608 (LV X b i) []) : Wx X 7 σ 754 (LV X b i) [] := by
  refine x_aload_n F dL_law_754 rfl 3 rfl ?_
  refine x_aload_n F dL_law_755 rfl 4 rfl ?_
  refine x_iload F dL_law_756 0 rfl ?_
  refine x_iconst (1 : Int32) F dL_law_758 (by decide) ?_
  refine x_iadd F dL_law_759 ?_
  refine x_sld (k := 1) F hX rfl (by omega) hL dL_law_760 ?_
  have h : w_X11_status (sc (i + 1)) σ (fun r1 s => w_X12_status (sc (i + 1)) s (fun r' s' => r1 = r' ∧ In (bd + 40) s')) := o_status  hI
  refine x_callV_i F (c_X11_status (xl X) (xg X) (xA X) F.2.2.1 h) (bw_V bw_39_0 bw_39_1 bw_39_2 bw_1_2 bw_39_3) rfl cd_X11_status (Nat.le_of_ble_eq_true rfl) (Nat.le_of_ble_eq_true rfl) (kd_w (by decide) kz_0) rfl (cl_11 kz_0) rfl rfl (Nat.le_of_ble_eq_true rfl) dL_law_761 (fun r1 s1 h1 => ?_)
  refine x_aload_n F dL_law_764 rfl 2 rfl ?_
  refine x_aload_n F dL_law_765 rfl 4 rfl ?_
  refine x_iload F dL_law_766 0 rfl ?_
  refine x_iconst (1 : Int32) F dL_law_768 (by decide) ?_
  refine x_iadd F dL_law_769 ?_
  refine x_sld (k := 1) F hX rfl (by omega) hL dL_law_770 ?_
  refine x_callV_i F (c_X12_status (xl X) (xg X) (xA X) F.2.2.1 h1) (bw_V bw_39_5 bw_39_6 bw_39_7 bw_1_5 bw_39_8) rfl cd_X12_status (Nat.le_of_ble_eq_true rfl) (Nat.le_of_ble_eq_true rfl) (kd_w (by decide) kz_176) rfl (cl_12 kz_176) rfl rfl (Nat.le_of_ble_eq_true rfl) dL_law_771 (fun r2 s2 h2 => ?_)
  exact x_icmp_eq (tgt := 1608) F dL_law_774 (by decide) (fun _ => K s2 h2.2) (fun c => absurd h2.1 c)
set_option maxRecDepth 100000 in
set_option maxHeartbeats 4000000 in
theorem lc_cause {X : XT} {b L i bd : Nat} {sc : Nat → Int32} {σ : wS} (F : Fx X cL_law 7 RL wvL 13 482) (hX : Sx X b L sc) (hi : i + 6 ≤ L) (hL : L ≤ 3072) (h60 : 60 ≤ bd) (hb : bd < 2 ^ 30) (hb2 : bd + 40 < 2 ^ 30) (hI : In bd σ) (K : ∀ τ : wS, In (bd + 40) τ → Wx X 7 τ 1608 (LV X b i) []) : Wx X 7 σ 779 (LV X b i) [] := by
  refine x_aload_n F dL_law_779 rfl 3 rfl ?_
  refine x_aload_n F dL_law_780 rfl 4 rfl ?_
  refine x_iload F dL_law_781 0 rfl ?_
  refine x_iconst (1 : Int32) F dL_law_783 (by decide) ?_
  refine x_iadd F dL_law_784 ?_
  refine x_sld (k := 1) F hX rfl (by omega) hL dL_law_785 ?_
  have h : w_X11_cause (sc (i + 1)) σ (fun r1 s => w_X12_cause (sc (i + 1)) s (fun r' s' => r1 = r' ∧ In (bd + 40) s')) := o_cause  hI
  refine x_callV_i F (c_X11_cause (xl X) (xg X) (xA X) F.2.2.1 h) (bw_V bw_39_9 bw_39_10 bw_39_11 bw_1_2 bw_39_12) rfl cd_X11_cause (Nat.le_of_ble_eq_true rfl) (Nat.le_of_ble_eq_true rfl) (kd_w (by decide) kz_0) rfl (cl_11 kz_0) rfl rfl (Nat.le_of_ble_eq_true rfl) dL_law_786 (fun r1 s1 h1 => ?_)
  refine x_aload_n F dL_law_789 rfl 2 rfl ?_
  refine x_aload_n F dL_law_790 rfl 4 rfl ?_
  refine x_iload F dL_law_791 0 rfl ?_
  refine x_iconst (1 : Int32) F dL_law_793 (by decide) ?_
  refine x_iadd F dL_law_794 ?_
  refine x_sld (k := 1) F hX rfl (by omega) hL dL_law_795 ?_
  refine x_callV_i F (c_X12_cause (xl X) (xg X) (xA X) F.2.2.1 h1) (bw_V bw_39_17 bw_39_18 bw_39_19 bw_1_5 bw_39_20) rfl cd_X12_cause (Nat.le_of_ble_eq_true rfl) (Nat.le_of_ble_eq_true rfl) (kd_w (by decide) kz_176) rfl (cl_12 kz_176) rfl rfl (Nat.le_of_ble_eq_true rfl) dL_law_796 (fun r2 s2 h2 => ?_)
  exact x_icmp_eq (tgt := 1608) F dL_law_799 (by decide) (fun _ => K s2 h2.2) (fun c => absurd h2.1 c)
set_option maxRecDepth 100000 in
set_option maxHeartbeats 4000000 in
theorem lc_undo {X : XT} {b L i bd : Nat} {sc : Nat → Int32} {σ : wS} (F : Fx X cL_law 7 RL wvL 13 482) (hX : Sx X b L sc) (hi : i + 6 ≤ L) (hL : L ≤ 3072) (h60 : 60 ≤ bd) (hb : bd < 2 ^ 30) (hb2 : bd + 40 < 2 ^ 30) (hI : In bd σ) (K : ∀ τ : wS, In (bd + 40) τ → Wx X 7 τ 1608 (LV X b i) []) : Wx X 7 σ 804 (LV X b i) [] := by
  refine x_aload_n F dL_law_804 rfl 3 rfl ?_
  have h : w_X11_undo  σ (fun r1 s => w_X12_undo  s (fun r' s' => r1 = r' ∧ In (bd + 40) s')) := o_undo  hI
  refine x_callV_i F (c_X11_undo (xl X) (xg X) (xA X) F.2.2.1 h) (bw_V bw_39_21 bw_39_22 bw_39_23 bw_1_2 bw_40_0) rfl cd_X11_undo (Nat.le_of_ble_eq_true rfl) (Nat.le_of_ble_eq_true rfl) (kd_w (by decide) kz_0) rfl (cl_11 kz_0) rfl rfl (Nat.le_of_ble_eq_true rfl) dL_law_805 (fun r1 s1 h1 => ?_)
  refine x_aload_n F dL_law_808 rfl 2 rfl ?_
  refine x_callV_i F (c_X12_undo (xl X) (xg X) (xA X) F.2.2.1 h1) (bw_V bw_40_6 bw_40_7 bw_40_8 bw_1_5 bw_40_9) rfl cd_X12_undo (Nat.le_of_ble_eq_true rfl) (Nat.le_of_ble_eq_true rfl) (kd_w (by decide) kz_176) rfl (cl_12 kz_176) rfl rfl (Nat.le_of_ble_eq_true rfl) dL_law_809 (fun r2 s2 h2 => ?_)
  exact x_icmp_eq (tgt := 1608) F dL_law_812 (by decide) (fun _ => K s2 h2.2) (fun c => absurd h2.1 c)
set_option maxRecDepth 100000 in
set_option maxHeartbeats 4000000 in
theorem lc_log {X : XT} {b L i bd : Nat} {sc : Nat → Int32} {σ : wS} (F : Fx X cL_law 7 RL wvL 13 482) (hX : Sx X b L sc) (hi : i + 6 ≤ L) (hL : L ≤ 3072) (h60 : 60 ≤ bd) (hb : bd < 2 ^ 30) (hb2 : bd + 40 < 2 ^ 30) (hI : In bd σ) (K : ∀ τ : wS, In (bd + 40) τ → Wx X 7 τ 1608 (LV X b i) []) : Wx X 7 σ 817 (LV X b i) [] := by
  refine x_aload_n F dL_law_817 rfl 3 rfl ?_
  refine x_aload_n F dL_law_818 rfl 4 rfl ?_
  refine x_iload F dL_law_819 0 rfl ?_
  refine x_iconst (1 : Int32) F dL_law_821 (by decide) ?_
  refine x_iadd F dL_law_822 ?_
  refine x_sld (k := 1) F hX rfl (by omega) hL dL_law_823 ?_
  refine x_aload_n F dL_law_824 rfl 4 rfl ?_
  refine x_iload F dL_law_825 0 rfl ?_
  refine x_iconst (2 : Int32) F dL_law_827 (by decide) ?_
  refine x_iadd F dL_law_828 ?_
  refine x_sld (k := 2) F hX rfl (by omega) hL dL_law_829 ?_
  have h : w_X11_log (sc (i + 1)) (sc (i + 2)) σ (fun r1 s => w_X12_log (sc (i + 1)) (sc (i + 2)) s (fun r' s' => r1 = r' ∧ In (bd + 40) s')) := o_log hb hI
  refine x_callV_i F (c_X11_log (xl X) (xg X) (xA X) F.2.2.1 h) (bw_V bw_40_10 bw_40_11 bw_40_12 bw_1_2 bw_40_13) rfl cd_X11_log (Nat.le_of_ble_eq_true rfl) (Nat.le_of_ble_eq_true rfl) (kd_w (by decide) kz_0) rfl (cl_11 kz_0) rfl rfl (Nat.le_of_ble_eq_true rfl) dL_law_830 (fun r1 s1 h1 => ?_)
  refine x_aload_n F dL_law_833 rfl 2 rfl ?_
  refine x_aload_n F dL_law_834 rfl 4 rfl ?_
  refine x_iload F dL_law_835 0 rfl ?_
  refine x_iconst (1 : Int32) F dL_law_837 (by decide) ?_
  refine x_iadd F dL_law_838 ?_
  refine x_sld (k := 1) F hX rfl (by omega) hL dL_law_839 ?_
  refine x_aload_n F dL_law_840 rfl 4 rfl ?_
  refine x_iload F dL_law_841 0 rfl ?_
  refine x_iconst (2 : Int32) F dL_law_843 (by decide) ?_
  refine x_iadd F dL_law_844 ?_
  refine x_sld (k := 2) F hX rfl (by omega) hL dL_law_845 ?_
  refine x_callV_i F (c_X12_log (xl X) (xg X) (xA X) F.2.2.1 h1) (bw_V bw_40_23 bw_41_0 bw_41_1 bw_1_5 bw_41_2) rfl cd_X12_log (Nat.le_of_ble_eq_true rfl) (Nat.le_of_ble_eq_true rfl) (kd_w (by decide) kz_176) rfl (cl_12 kz_176) rfl rfl (Nat.le_of_ble_eq_true rfl) dL_law_846 (fun r2 s2 h2 => ?_)
  exact x_icmp_eq (tgt := 1608) F dL_law_849 (by decide) (fun _ => K s2 h2.2) (fun c => absurd h2.1 c)
set_option maxRecDepth 100000 in
set_option maxHeartbeats 4000000 in
theorem lc_step {X : XT} {b L i bd : Nat} {sc : Nat → Int32} {σ : wS} (F : Fx X cL_law 7 RL wvL 13 482) (hX : Sx X b L sc) (hi : i + 6 ≤ L) (hL : L ≤ 3072) (h60 : 60 ≤ bd) (hb : bd < 2 ^ 30) (hb2 : bd + 40 < 2 ^ 30) (hI : In bd σ) (K : ∀ τ : wS, In (bd + 40) τ → Wx X 7 τ 1608 (LV X b i) []) : Wx X 7 σ 854 (LV X b i) [] := by
  refine x_aload_n F dL_law_854 rfl 3 rfl ?_
  refine x_aload_n F dL_law_855 rfl 4 rfl ?_
  refine x_iload F dL_law_856 0 rfl ?_
  refine x_iconst (1 : Int32) F dL_law_858 (by decide) ?_
  refine x_iadd F dL_law_859 ?_
  refine x_sld (k := 1) F hX rfl (by omega) hL dL_law_860 ?_
  refine x_aload_n F dL_law_861 rfl 4 rfl ?_
  refine x_iload F dL_law_862 0 rfl ?_
  refine x_iconst (2 : Int32) F dL_law_864 (by decide) ?_
  refine x_iadd F dL_law_865 ?_
  refine x_sld (k := 2) F hX rfl (by omega) hL dL_law_866 ?_
  refine x_aload_n F dL_law_867 rfl 4 rfl ?_
  refine x_iload F dL_law_868 0 rfl ?_
  refine x_iconst (3 : Int32) F dL_law_870 (by decide) ?_
  refine x_iadd F dL_law_871 ?_
  refine x_sld (k := 3) F hX rfl (by omega) hL dL_law_872 ?_
  have h : w_X11_step (sc (i + 1)) (sc (i + 2)) (sc (i + 3)) σ (fun r1 s => w_X12_step (sc (i + 1)) (sc (i + 2)) (sc (i + 3)) s (fun r' s' => r1 = r' ∧ In (bd + 40) s')) := o_step  hI
  refine x_callV_i F (c_X11_step (xl X) (xg X) (xA X) F.2.2.1 h) (bw_V bw_41_3 bw_41_4 bw_41_5 bw_1_2 bw_41_6) rfl cd_X11_step (Nat.le_of_ble_eq_true rfl) (Nat.le_of_ble_eq_true rfl) (kd_w (by decide) kz_0) rfl (cl_11 kz_0) rfl rfl (Nat.le_of_ble_eq_true rfl) dL_law_873 (fun r1 s1 h1 => ?_)
  refine x_aload_n F dL_law_876 rfl 2 rfl ?_
  refine x_aload_n F dL_law_877 rfl 4 rfl ?_
  refine x_iload F dL_law_878 0 rfl ?_
  refine x_iconst (1 : Int32) F dL_law_880 (by decide) ?_
  refine x_iadd F dL_law_881 ?_
  refine x_sld (k := 1) F hX rfl (by omega) hL dL_law_882 ?_
  refine x_aload_n F dL_law_883 rfl 4 rfl ?_
  refine x_iload F dL_law_884 0 rfl ?_
  refine x_iconst (2 : Int32) F dL_law_886 (by decide) ?_
  refine x_iadd F dL_law_887 ?_
  refine x_sld (k := 2) F hX rfl (by omega) hL dL_law_888 ?_
  refine x_aload_n F dL_law_889 rfl 4 rfl ?_
  refine x_iload F dL_law_890 0 rfl ?_
  refine x_iconst (3 : Int32) F dL_law_892 (by decide) ?_
  refine x_iadd F dL_law_893 ?_
  refine x_sld (k := 3) F hX rfl (by omega) hL dL_law_894 ?_
  refine x_callV_i F (c_X12_step (xl X) (xg X) (xA X) F.2.2.1 h1) (bw_V bw_41_21 bw_41_22 bw_41_23 bw_1_5 bw_42_0) rfl cd_X12_step (Nat.le_of_ble_eq_true rfl) (Nat.le_of_ble_eq_true rfl) (kd_w (by decide) kz_176) rfl (cl_12 kz_176) rfl rfl (Nat.le_of_ble_eq_true rfl) dL_law_895 (fun r2 s2 h2 => ?_)
  exact x_icmp_eq (tgt := 1608) F dL_law_898 (by decide) (fun _ => K s2 h2.2) (fun c => absurd h2.1 c)
set_option maxRecDepth 100000 in
set_option maxHeartbeats 4000000 in
theorem lc_run {X : XT} {b L i bd : Nat} {sc : Nat → Int32} {σ : wS} (F : Fx X cL_law 7 RL wvL 13 482) (hX : Sx X b L sc) (hi : i + 6 ≤ L) (hL : L ≤ 3072) (h60 : 60 ≤ bd) (hb : bd < 2 ^ 30) (hb2 : bd + 40 < 2 ^ 30) (hI : In bd σ) (K : ∀ τ : wS, In (bd + 40) τ → Wx X 7 τ 1608 (LV X b i) []) : Wx X 7 σ 903 (LV X b i) [] := by
  refine x_aload_n F dL_law_903 rfl 3 rfl ?_
  refine x_aload_n F dL_law_904 rfl 4 rfl ?_
  refine x_iload F dL_law_905 0 rfl ?_
  refine x_iconst (1 : Int32) F dL_law_907 (by decide) ?_
  refine x_iadd F dL_law_908 ?_
  refine x_sld (k := 1) F hX rfl (by omega) hL dL_law_909 ?_
  refine x_aload_n F dL_law_910 rfl 4 rfl ?_
  refine x_iload F dL_law_911 0 rfl ?_
  refine x_iconst (2 : Int32) F dL_law_913 (by decide) ?_
  refine x_iadd F dL_law_914 ?_
  refine x_sld (k := 2) F hX rfl (by omega) hL dL_law_915 ?_
  have h : w_X11_run (sc (i + 1)) (sc (i + 2)) σ (fun r1 s => w_X12_run (sc (i + 1)) (sc (i + 2)) s (fun r' s' => r1 = r' ∧ In (bd + 40) s')) := o_run  hI
  refine x_callV_i F (c_X11_run (xl X) (xg X) (xA X) F.2.2.1 h) (bw_V bw_42_6 bw_42_7 bw_42_8 bw_1_2 bw_42_9) rfl cd_X11_run (Nat.le_of_ble_eq_true rfl) (Nat.le_of_ble_eq_true rfl) (kd_w (by decide) kz_0) rfl (cl_11 kz_0) rfl rfl (Nat.le_of_ble_eq_true rfl) dL_law_916 (fun r1 s1 h1 => ?_)
  refine x_aload_n F dL_law_919 rfl 2 rfl ?_
  refine x_aload_n F dL_law_920 rfl 4 rfl ?_
  refine x_iload F dL_law_921 0 rfl ?_
  refine x_iconst (1 : Int32) F dL_law_923 (by decide) ?_
  refine x_iadd F dL_law_924 ?_
  refine x_sld (k := 1) F hX rfl (by omega) hL dL_law_925 ?_
  refine x_aload_n F dL_law_926 rfl 4 rfl ?_
  refine x_iload F dL_law_927 0 rfl ?_
  refine x_iconst (2 : Int32) F dL_law_929 (by decide) ?_
  refine x_iadd F dL_law_930 ?_
  refine x_sld (k := 2) F hX rfl (by omega) hL dL_law_931 ?_
  refine x_callV_i F (c_X12_run (xl X) (xg X) (xA X) F.2.2.1 h1) (bw_V bw_42_22 bw_42_23 bw_43_0 bw_1_5 bw_43_1) rfl cd_X12_run (Nat.le_of_ble_eq_true rfl) (Nat.le_of_ble_eq_true rfl) (kd_w (by decide) kz_176) rfl (cl_12 kz_176) rfl rfl (Nat.le_of_ble_eq_true rfl) dL_law_932 (fun r2 s2 h2 => ?_)
  exact x_icmp_eq (tgt := 1608) F dL_law_935 (by decide) (fun _ => K s2 h2.2) (fun c => absurd h2.1 c)
set_option maxRecDepth 100000 in
set_option maxHeartbeats 4000000 in
theorem lc_perform {X : XT} {b L i bd : Nat} {sc : Nat → Int32} {σ : wS} (F : Fx X cL_law 7 RL wvL 13 482) (hX : Sx X b L sc) (hi : i + 6 ≤ L) (hL : L ≤ 3072) (h60 : 60 ≤ bd) (hb : bd < 2 ^ 30) (hb2 : bd + 40 < 2 ^ 30) (hI : In bd σ) (K : ∀ τ : wS, In (bd + 40) τ → Wx X 7 τ 1608 (LV X b i) []) : Wx X 7 σ 940 (LV X b i) [] := by
  refine x_aload_n F dL_law_940 rfl 3 rfl ?_
  refine x_aload_n F dL_law_941 rfl 4 rfl ?_
  refine x_iload F dL_law_942 0 rfl ?_
  refine x_iconst (1 : Int32) F dL_law_944 (by decide) ?_
  refine x_iadd F dL_law_945 ?_
  refine x_sld (k := 1) F hX rfl (by omega) hL dL_law_946 ?_
  have h : w_X11_perform (sc (i + 1)) σ (fun r1 s => w_X12_perform (sc (i + 1)) s (fun r' s' => r1 = r' ∧ In (bd + 40) s')) := o_perform hb hI
  refine x_callV_i F (c_X11_perform (xl X) (xg X) (xA X) F.2.2.1 h) (bw_V bw_43_14 bw_43_15 bw_43_16 bw_1_2 bw_43_17) rfl cd_X11_perform (Nat.le_of_ble_eq_true rfl) (Nat.le_of_ble_eq_true rfl) (kd_w (by decide) kz_0) rfl (cl_11 kz_0) rfl rfl (Nat.le_of_ble_eq_true rfl) dL_law_947 (fun r1 s1 h1 => ?_)
  refine x_aload_n F dL_law_950 rfl 2 rfl ?_
  refine x_aload_n F dL_law_951 rfl 4 rfl ?_
  refine x_iload F dL_law_952 0 rfl ?_
  refine x_iconst (1 : Int32) F dL_law_954 (by decide) ?_
  refine x_iadd F dL_law_955 ?_
  refine x_sld (k := 1) F hX rfl (by omega) hL dL_law_956 ?_
  refine x_callV_i F (c_X12_perform (xl X) (xg X) (xA X) F.2.2.1 h1) (bw_V bw_43_18 bw_43_19 bw_43_20 bw_1_5 bw_43_21) rfl cd_X12_perform (Nat.le_of_ble_eq_true rfl) (Nat.le_of_ble_eq_true rfl) (kd_w (by decide) kz_176) rfl (cl_12 kz_176) rfl rfl (Nat.le_of_ble_eq_true rfl) dL_law_957 (fun r2 s2 h2 => ?_)
  exact x_icmp_eq (tgt := 1608) F dL_law_960 (by decide) (fun _ => K s2 h2.2) (fun c => absurd h2.1 c)
set_option maxRecDepth 100000 in
set_option maxHeartbeats 4000000 in
theorem lc_stand {X : XT} {b L i bd : Nat} {sc : Nat → Int32} {σ : wS} (F : Fx X cL_law 7 RL wvL 13 482) (hX : Sx X b L sc) (hi : i + 6 ≤ L) (hL : L ≤ 3072) (h60 : 60 ≤ bd) (hb : bd < 2 ^ 30) (hb2 : bd + 40 < 2 ^ 30) (hI : In bd σ) (K : ∀ τ : wS, In (bd + 40) τ → Wx X 7 τ 1608 (LV X b i) []) : Wx X 7 σ 965 (LV X b i) [] := by
  refine x_aload_n F dL_law_965 rfl 3 rfl ?_
  refine x_aload_n F dL_law_966 rfl 4 rfl ?_
  refine x_iload F dL_law_967 0 rfl ?_
  refine x_iconst (1 : Int32) F dL_law_969 (by decide) ?_
  refine x_iadd F dL_law_970 ?_
  refine x_sld (k := 1) F hX rfl (by omega) hL dL_law_971 ?_
  refine x_aload_n F dL_law_972 rfl 4 rfl ?_
  refine x_iload F dL_law_973 0 rfl ?_
  refine x_iconst (2 : Int32) F dL_law_975 (by decide) ?_
  refine x_iadd F dL_law_976 ?_
  refine x_sld (k := 2) F hX rfl (by omega) hL dL_law_977 ?_
  refine x_aload_n F dL_law_978 rfl 4 rfl ?_
  refine x_iload F dL_law_979 0 rfl ?_
  refine x_iconst (3 : Int32) F dL_law_981 (by decide) ?_
  refine x_iadd F dL_law_982 ?_
  refine x_sld (k := 3) F hX rfl (by omega) hL dL_law_983 ?_
  refine x_aload_n F dL_law_984 rfl 4 rfl ?_
  refine x_iload F dL_law_985 0 rfl ?_
  refine x_iconst (4 : Int32) F dL_law_987 (by decide) ?_
  refine x_iadd F dL_law_988 ?_
  refine x_sld (k := 4) F hX rfl (by omega) hL dL_law_989 ?_
  have h : w_X11_stand (sc (i + 1)) (sc (i + 2)) (sc (i + 3)) (sc (i + 4)) σ (fun r1 s => w_X12_stand (sc (i + 1)) (sc (i + 2)) (sc (i + 3)) (sc (i + 4)) s (fun r' s' => r1 = r' ∧ In (bd + 40) s')) := o_stand  hI
  refine x_callV_i F (c_X11_stand (xl X) (xg X) (xA X) F.2.2.1 h) (bw_V bw_43_22 bw_43_23 bw_44_0 bw_1_2 bw_44_1) rfl cd_X11_stand (Nat.le_of_ble_eq_true rfl) (Nat.le_of_ble_eq_true rfl) (kd_w (by decide) kz_0) rfl (cl_11 kz_0) rfl rfl (Nat.le_of_ble_eq_true rfl) dL_law_990 (fun r1 s1 h1 => ?_)
  refine x_aload_n F dL_law_993 rfl 2 rfl ?_
  refine x_aload_n F dL_law_994 rfl 4 rfl ?_
  refine x_iload F dL_law_995 0 rfl ?_
  refine x_iconst (1 : Int32) F dL_law_997 (by decide) ?_
  refine x_iadd F dL_law_998 ?_
  refine x_sld (k := 1) F hX rfl (by omega) hL dL_law_999 ?_
  refine x_aload_n F dL_law_1000 rfl 4 rfl ?_
  refine x_iload F dL_law_1001 0 rfl ?_
  refine x_iconst (2 : Int32) F dL_law_1003 (by decide) ?_
  refine x_iadd F dL_law_1004 ?_
  refine x_sld (k := 2) F hX rfl (by omega) hL dL_law_1005 ?_
  refine x_aload_n F dL_law_1006 rfl 4 rfl ?_
  refine x_iload F dL_law_1007 0 rfl ?_
  refine x_iconst (3 : Int32) F dL_law_1009 (by decide) ?_
  refine x_iadd F dL_law_1010 ?_
  refine x_sld (k := 3) F hX rfl (by omega) hL dL_law_1011 ?_
  refine x_aload_n F dL_law_1012 rfl 4 rfl ?_
  refine x_iload F dL_law_1013 0 rfl ?_
  refine x_iconst (4 : Int32) F dL_law_1015 (by decide) ?_
  refine x_iadd F dL_law_1016 ?_
  refine x_sld (k := 4) F hX rfl (by omega) hL dL_law_1017 ?_
  refine x_callV_i F (c_X12_stand (xl X) (xg X) (xA X) F.2.2.1 h1) (bw_V bw_44_15 bw_44_16 bw_44_17 bw_1_5 bw_44_18) rfl cd_X12_stand (Nat.le_of_ble_eq_true rfl) (Nat.le_of_ble_eq_true rfl) (kd_w (by decide) kz_176) rfl (cl_12 kz_176) rfl rfl (Nat.le_of_ble_eq_true rfl) dL_law_1018 (fun r2 s2 h2 => ?_)
  exact x_icmp_eq (tgt := 1608) F dL_law_1021 (by decide) (fun _ => K s2 h2.2) (fun c => absurd h2.1 c)
set_option maxRecDepth 100000 in
set_option maxHeartbeats 4000000 in
theorem lc_fall {X : XT} {b L i bd : Nat} {sc : Nat → Int32} {σ : wS} (F : Fx X cL_law 7 RL wvL 13 482) (hX : Sx X b L sc) (hi : i + 6 ≤ L) (hL : L ≤ 3072) (h60 : 60 ≤ bd) (hb : bd < 2 ^ 30) (hb2 : bd + 40 < 2 ^ 30) (hI : In bd σ) (K : ∀ τ : wS, In (bd + 40) τ → Wx X 7 τ 1608 (LV X b i) []) : Wx X 7 σ 1026 (LV X b i) [] := by
  refine x_aload_n F dL_law_1026 rfl 3 rfl ?_
  refine x_aload_n F dL_law_1027 rfl 4 rfl ?_
  refine x_iload F dL_law_1028 0 rfl ?_
  refine x_iconst (1 : Int32) F dL_law_1030 (by decide) ?_
  refine x_iadd F dL_law_1031 ?_
  refine x_sld (k := 1) F hX rfl (by omega) hL dL_law_1032 ?_
  refine x_aload_n F dL_law_1033 rfl 4 rfl ?_
  refine x_iload F dL_law_1034 0 rfl ?_
  refine x_iconst (2 : Int32) F dL_law_1036 (by decide) ?_
  refine x_iadd F dL_law_1037 ?_
  refine x_sld (k := 2) F hX rfl (by omega) hL dL_law_1038 ?_
  refine x_aload_n F dL_law_1039 rfl 4 rfl ?_
  refine x_iload F dL_law_1040 0 rfl ?_
  refine x_iconst (3 : Int32) F dL_law_1042 (by decide) ?_
  refine x_iadd F dL_law_1043 ?_
  refine x_sld (k := 3) F hX rfl (by omega) hL dL_law_1044 ?_
  refine x_aload_n F dL_law_1045 rfl 4 rfl ?_
  refine x_iload F dL_law_1046 0 rfl ?_
  refine x_iconst (4 : Int32) F dL_law_1048 (by decide) ?_
  refine x_iadd F dL_law_1049 ?_
  refine x_sld (k := 4) F hX rfl (by omega) hL dL_law_1050 ?_
  refine x_aload_n F dL_law_1051 rfl 4 rfl ?_
  refine x_iload F dL_law_1052 0 rfl ?_
  refine x_iconst (5 : Int32) F dL_law_1054 (by decide) ?_
  refine x_iadd F dL_law_1055 ?_
  refine x_sld (k := 5) F hX rfl (by omega) hL dL_law_1056 ?_
  have h : w_X11_fall (sc (i + 1)) (sc (i + 2)) (sc (i + 3)) (sc (i + 4)) (sc (i + 5)) σ (fun r1 s => w_X12_fall (sc (i + 1)) (sc (i + 2)) (sc (i + 3)) (sc (i + 4)) (sc (i + 5)) s (fun r' s' => r1 = r' ∧ In (bd + 40) s')) := o_fall  hI
  refine x_callV_i F (c_X11_fall (xl X) (xg X) (xA X) F.2.2.1 h) (bw_V bw_44_23 bw_45_0 bw_45_1 bw_1_2 bw_45_2) rfl cd_X11_fall (Nat.le_of_ble_eq_true rfl) (Nat.le_of_ble_eq_true rfl) (kd_w (by decide) kz_0) rfl (cl_11 kz_0) rfl rfl (Nat.le_of_ble_eq_true rfl) dL_law_1057 (fun r1 s1 h1 => ?_)
  refine x_aload_n F dL_law_1060 rfl 2 rfl ?_
  refine x_aload_n F dL_law_1061 rfl 4 rfl ?_
  refine x_iload F dL_law_1062 0 rfl ?_
  refine x_iconst (1 : Int32) F dL_law_1064 (by decide) ?_
  refine x_iadd F dL_law_1065 ?_
  refine x_sld (k := 1) F hX rfl (by omega) hL dL_law_1066 ?_
  refine x_aload_n F dL_law_1067 rfl 4 rfl ?_
  refine x_iload F dL_law_1068 0 rfl ?_
  refine x_iconst (2 : Int32) F dL_law_1070 (by decide) ?_
  refine x_iadd F dL_law_1071 ?_
  refine x_sld (k := 2) F hX rfl (by omega) hL dL_law_1072 ?_
  refine x_aload_n F dL_law_1073 rfl 4 rfl ?_
  refine x_iload F dL_law_1074 0 rfl ?_
  refine x_iconst (3 : Int32) F dL_law_1076 (by decide) ?_
  refine x_iadd F dL_law_1077 ?_
  refine x_sld (k := 3) F hX rfl (by omega) hL dL_law_1078 ?_
  refine x_aload_n F dL_law_1079 rfl 4 rfl ?_
  refine x_iload F dL_law_1080 0 rfl ?_
  refine x_iconst (4 : Int32) F dL_law_1082 (by decide) ?_
  refine x_iadd F dL_law_1083 ?_
  refine x_sld (k := 4) F hX rfl (by omega) hL dL_law_1084 ?_
  refine x_aload_n F dL_law_1085 rfl 4 rfl ?_
  refine x_iload F dL_law_1086 0 rfl ?_
  refine x_iconst (5 : Int32) F dL_law_1088 (by decide) ?_
  refine x_iadd F dL_law_1089 ?_
  refine x_sld (k := 5) F hX rfl (by omega) hL dL_law_1090 ?_
  refine x_callV_i F (c_X12_fall (xl X) (xg X) (xA X) F.2.2.1 h1) (bw_V bw_45_4 bw_45_5 bw_45_6 bw_1_5 bw_45_7) rfl cd_X12_fall (Nat.le_of_ble_eq_true rfl) (Nat.le_of_ble_eq_true rfl) (kd_w (by decide) kz_176) rfl (cl_12 kz_176) rfl rfl (Nat.le_of_ble_eq_true rfl) dL_law_1091 (fun r2 s2 h2 => ?_)
  exact x_icmp_eq (tgt := 1608) F dL_law_1094 (by decide) (fun _ => K s2 h2.2) (fun c => absurd h2.1 c)
set_option maxRecDepth 100000 in
set_option maxHeartbeats 4000000 in
theorem lc_ease {X : XT} {b L i bd : Nat} {sc : Nat → Int32} {σ : wS} (F : Fx X cL_law 7 RL wvL 13 482) (hX : Sx X b L sc) (hi : i + 6 ≤ L) (hL : L ≤ 3072) (h60 : 60 ≤ bd) (hb : bd < 2 ^ 30) (hb2 : bd + 40 < 2 ^ 30) (hI : In bd σ) (K : ∀ τ : wS, In (bd + 40) τ → Wx X 7 τ 1608 (LV X b i) []) : Wx X 7 σ 1099 (LV X b i) [] := by
  refine x_aload_n F dL_law_1099 rfl 3 rfl ?_
  refine x_aload_n F dL_law_1100 rfl 4 rfl ?_
  refine x_iload F dL_law_1101 0 rfl ?_
  refine x_iconst (1 : Int32) F dL_law_1103 (by decide) ?_
  refine x_iadd F dL_law_1104 ?_
  refine x_sld (k := 1) F hX rfl (by omega) hL dL_law_1105 ?_
  have h : w_X11_ease (sc (i + 1)) σ (fun r1 s => w_X12_ease (sc (i + 1)) s (fun r' s' => r1 = r' ∧ In (bd + 40) s')) := o_ease  hI
  refine x_callV_i F (c_X11_ease (xl X) (xg X) (xA X) F.2.2.1 h) (bw_V bw_45_8 bw_45_9 bw_45_10 bw_1_2 bw_45_11) rfl cd_X11_ease (Nat.le_of_ble_eq_true rfl) (Nat.le_of_ble_eq_true rfl) (kd_w (by decide) kz_0) rfl (cl_11 kz_0) rfl rfl (Nat.le_of_ble_eq_true rfl) dL_law_1106 (fun r1 s1 h1 => ?_)
  refine x_aload_n F dL_law_1109 rfl 2 rfl ?_
  refine x_aload_n F dL_law_1110 rfl 4 rfl ?_
  refine x_iload F dL_law_1111 0 rfl ?_
  refine x_iconst (1 : Int32) F dL_law_1113 (by decide) ?_
  refine x_iadd F dL_law_1114 ?_
  refine x_sld (k := 1) F hX rfl (by omega) hL dL_law_1115 ?_
  refine x_callV_i F (c_X12_ease (xl X) (xg X) (xA X) F.2.2.1 h1) (bw_V bw_45_12 bw_45_13 bw_45_14 bw_1_5 bw_45_15) rfl cd_X12_ease (Nat.le_of_ble_eq_true rfl) (Nat.le_of_ble_eq_true rfl) (kd_w (by decide) kz_176) rfl (cl_12 kz_176) rfl rfl (Nat.le_of_ble_eq_true rfl) dL_law_1116 (fun r2 s2 h2 => ?_)
  exact x_icmp_eq (tgt := 1608) F dL_law_1119 (by decide) (fun _ => K s2 h2.2) (fun c => absurd h2.1 c)
set_option maxRecDepth 100000 in
set_option maxHeartbeats 4000000 in
theorem lc_range {X : XT} {b L i bd : Nat} {sc : Nat → Int32} {σ : wS} (F : Fx X cL_law 7 RL wvL 13 482) (hX : Sx X b L sc) (hi : i + 6 ≤ L) (hL : L ≤ 3072) (h60 : 60 ≤ bd) (hb : bd < 2 ^ 30) (hb2 : bd + 40 < 2 ^ 30) (hI : In bd σ) (K : ∀ τ : wS, In (bd + 40) τ → Wx X 7 τ 1608 (LV X b i) []) : Wx X 7 σ 1124 (LV X b i) [] := by
  refine x_aload_n F dL_law_1124 rfl 3 rfl ?_
  refine x_aload_n F dL_law_1125 rfl 4 rfl ?_
  refine x_iload F dL_law_1126 0 rfl ?_
  refine x_iconst (1 : Int32) F dL_law_1128 (by decide) ?_
  refine x_iadd F dL_law_1129 ?_
  refine x_sld (k := 1) F hX rfl (by omega) hL dL_law_1130 ?_
  refine x_aload_n F dL_law_1131 rfl 4 rfl ?_
  refine x_iload F dL_law_1132 0 rfl ?_
  refine x_iconst (2 : Int32) F dL_law_1134 (by decide) ?_
  refine x_iadd F dL_law_1135 ?_
  refine x_sld (k := 2) F hX rfl (by omega) hL dL_law_1136 ?_
  by_cases hz : (sc (i + 2)) = 0
  · refine x_if_eq (tgt := 1144) F dL_law_1137 (by decide) (fun c => ?_) (fun c => ?_)
    case refine_2 => exact absurd hz c
    refine x_iconst (0 : Int32) F dL_law_1144 (by decide) ?_
    have h : w_X11_range (sc (i + 1)) (0 : Int32) σ (fun r1 s => w_X12_range (sc (i + 1)) (0 : Int32) s (fun r' s' => r1 = r' ∧ In (bd + 40) s')) := o_range  hI
    refine x_callV_i F (c_X11_range (xl X) (xg X) (xA X) F.2.2.1 h) (bw_V bw_45_16 bw_45_17 bw_45_18 bw_1_2 bw_45_19) rfl cd_X11_range (Nat.le_of_ble_eq_true rfl) (Nat.le_of_ble_eq_true rfl) (kd_w (by decide) kz_0) rfl (cl_11 kz_0) rfl rfl (Nat.le_of_ble_eq_true rfl) dL_law_1145 (fun r1 s1 h1 => ?_)
    refine x_aload_n F dL_law_1148 rfl 2 rfl ?_
    refine x_aload_n F dL_law_1149 rfl 4 rfl ?_
    refine x_iload F dL_law_1150 0 rfl ?_
    refine x_iconst (1 : Int32) F dL_law_1152 (by decide) ?_
    refine x_iadd F dL_law_1153 ?_
    refine x_sld (k := 1) F hX rfl (by omega) hL dL_law_1154 ?_
    refine x_aload_n F dL_law_1155 rfl 4 rfl ?_
    refine x_iload F dL_law_1156 0 rfl ?_
    refine x_iconst (2 : Int32) F dL_law_1158 (by decide) ?_
    refine x_iadd F dL_law_1159 ?_
    refine x_sld (k := 2) F hX rfl (by omega) hL dL_law_1160 ?_
    refine x_if_eq (tgt := 1168) F dL_law_1161 (by decide) (fun c => ?_) (fun c => ?_)
    case refine_2 => exact absurd hz c
    refine x_iconst (0 : Int32) F dL_law_1168 (by decide) ?_
    refine x_callV_i F (c_X12_range (xl X) (xg X) (xA X) F.2.2.1 h1) (bw_V bw_45_20 bw_45_21 bw_45_22 bw_1_5 bw_45_23) rfl cd_X12_range (Nat.le_of_ble_eq_true rfl) (Nat.le_of_ble_eq_true rfl) (kd_w (by decide) kz_176) rfl (cl_12 kz_176) rfl rfl (Nat.le_of_ble_eq_true rfl) dL_law_1169 (fun r2 s2 h2 => ?_)
    exact x_icmp_eq (tgt := 1608) F dL_law_1172 (by decide) (fun _ => K s2 h2.2) (fun c => absurd h2.1 c)
  · refine x_if_eq (tgt := 1144) F dL_law_1137 (by decide) (fun c => ?_) (fun c => ?_)
    case refine_1 => exact absurd c hz
    refine x_iconst (1 : Int32) F dL_law_1140 (by decide) ?_
    refine x_goto (tgt := 1145) F dL_law_1141 (by decide) ?_
    have h : w_X11_range (sc (i + 1)) (1 : Int32) σ (fun r1 s => w_X12_range (sc (i + 1)) (1 : Int32) s (fun r' s' => r1 = r' ∧ In (bd + 40) s')) := o_range  hI
    refine x_callV_i F (c_X11_range (xl X) (xg X) (xA X) F.2.2.1 h) (bw_V bw_45_16 bw_45_17 bw_45_18 bw_1_2 bw_45_19) rfl cd_X11_range (Nat.le_of_ble_eq_true rfl) (Nat.le_of_ble_eq_true rfl) (kd_w (by decide) kz_0) rfl (cl_11 kz_0) rfl rfl (Nat.le_of_ble_eq_true rfl) dL_law_1145 (fun r1 s1 h1 => ?_)
    refine x_aload_n F dL_law_1148 rfl 2 rfl ?_
    refine x_aload_n F dL_law_1149 rfl 4 rfl ?_
    refine x_iload F dL_law_1150 0 rfl ?_
    refine x_iconst (1 : Int32) F dL_law_1152 (by decide) ?_
    refine x_iadd F dL_law_1153 ?_
    refine x_sld (k := 1) F hX rfl (by omega) hL dL_law_1154 ?_
    refine x_aload_n F dL_law_1155 rfl 4 rfl ?_
    refine x_iload F dL_law_1156 0 rfl ?_
    refine x_iconst (2 : Int32) F dL_law_1158 (by decide) ?_
    refine x_iadd F dL_law_1159 ?_
    refine x_sld (k := 2) F hX rfl (by omega) hL dL_law_1160 ?_
    refine x_if_eq (tgt := 1168) F dL_law_1161 (by decide) (fun c => ?_) (fun c => ?_)
    case refine_1 => exact absurd c hz
    refine x_iconst (1 : Int32) F dL_law_1164 (by decide) ?_
    refine x_goto (tgt := 1169) F dL_law_1165 (by decide) ?_
    refine x_callV_i F (c_X12_range (xl X) (xg X) (xA X) F.2.2.1 h1) (bw_V bw_45_20 bw_45_21 bw_45_22 bw_1_5 bw_45_23) rfl cd_X12_range (Nat.le_of_ble_eq_true rfl) (Nat.le_of_ble_eq_true rfl) (kd_w (by decide) kz_176) rfl (cl_12 kz_176) rfl rfl (Nat.le_of_ble_eq_true rfl) dL_law_1169 (fun r2 s2 h2 => ?_)
    exact x_icmp_eq (tgt := 1608) F dL_law_1172 (by decide) (fun _ => K s2 h2.2) (fun c => absurd h2.1 c)
set_option maxRecDepth 100000 in
set_option maxHeartbeats 4000000 in
theorem lc_uneven {X : XT} {b L i bd : Nat} {sc : Nat → Int32} {σ : wS} (F : Fx X cL_law 7 RL wvL 13 482) (hX : Sx X b L sc) (hi : i + 6 ≤ L) (hL : L ≤ 3072) (h60 : 60 ≤ bd) (hb : bd < 2 ^ 30) (hb2 : bd + 40 < 2 ^ 30) (hI : In bd σ) (K : ∀ τ : wS, In (bd + 40) τ → Wx X 7 τ 1608 (LV X b i) []) : Wx X 7 σ 1177 (LV X b i) [] := by
  refine x_aload_n F dL_law_1177 rfl 3 rfl ?_
  refine x_aload_n F dL_law_1178 rfl 4 rfl ?_
  refine x_iload F dL_law_1179 0 rfl ?_
  refine x_iconst (1 : Int32) F dL_law_1181 (by decide) ?_
  refine x_iadd F dL_law_1182 ?_
  refine x_sld (k := 1) F hX rfl (by omega) hL dL_law_1183 ?_
  have h : w_X11_uneven (sc (i + 1)) σ (fun r1 s => w_X12_uneven (sc (i + 1)) s (fun r' s' => r1 = r' ∧ In (bd + 40) s')) := o_uneven  hI
  refine x_callV_l F (c_X11_uneven (xl X) (xg X) (xA X) F.2.2.1 h) (bw_V bw_46_0 bw_46_1 bw_46_2 bw_1_2 bw_46_3) rfl cd_X11_uneven (Nat.le_of_ble_eq_true rfl) (Nat.le_of_ble_eq_true rfl) (kd_w (by decide) kz_0) rfl (cl_11 kz_0) rfl rfl (Nat.le_of_ble_eq_true rfl) dL_law_1184 (fun r1 s1 h1 => ?_)
  refine x_aload_n F dL_law_1187 rfl 2 rfl ?_
  refine x_aload_n F dL_law_1188 rfl 4 rfl ?_
  refine x_iload F dL_law_1189 0 rfl ?_
  refine x_iconst (1 : Int32) F dL_law_1191 (by decide) ?_
  refine x_iadd F dL_law_1192 ?_
  refine x_sld (k := 1) F hX rfl (by omega) hL dL_law_1193 ?_
  refine x_callV_l F (c_X12_uneven (xl X) (xg X) (xA X) F.2.2.1 h1) (bw_V bw_46_8 bw_46_9 bw_46_10 bw_1_5 bw_46_11) rfl cd_X12_uneven (Nat.le_of_ble_eq_true rfl) (Nat.le_of_ble_eq_true rfl) (kd_w (by decide) kz_176) rfl (cl_12 kz_176) rfl rfl (Nat.le_of_ble_eq_true rfl) dL_law_1194 (fun r2 s2 h2 => ?_)
  refine x_lcmp F dL_law_1197 ?_
  exact x_if_eq (tgt := 1608) F dL_law_1198 (by decide) (fun _ => K s2 h2.2) (fun c => absurd (by rw [h2.1]; exact lg_self _) c)
set_option maxRecDepth 100000 in
set_option maxHeartbeats 4000000 in
theorem lc_accord {X : XT} {b L i bd : Nat} {sc : Nat → Int32} {σ : wS} (F : Fx X cL_law 7 RL wvL 13 482) (hX : Sx X b L sc) (hi : i + 6 ≤ L) (hL : L ≤ 3072) (h60 : 60 ≤ bd) (hb : bd < 2 ^ 30) (hb2 : bd + 40 < 2 ^ 30) (hI : In bd σ) (K : ∀ τ : wS, In (bd + 40) τ → Wx X 7 τ 1608 (LV X b i) []) : Wx X 7 σ 1203 (LV X b i) [] := by
  refine x_aload_n F dL_law_1203 rfl 3 rfl ?_
  refine x_aload_n F dL_law_1204 rfl 4 rfl ?_
  refine x_iload F dL_law_1205 0 rfl ?_
  refine x_iconst (1 : Int32) F dL_law_1207 (by decide) ?_
  refine x_iadd F dL_law_1208 ?_
  refine x_sld (k := 1) F hX rfl (by omega) hL dL_law_1209 ?_
  refine x_aload_n F dL_law_1210 rfl 4 rfl ?_
  refine x_iload F dL_law_1211 0 rfl ?_
  refine x_iconst (2 : Int32) F dL_law_1213 (by decide) ?_
  refine x_iadd F dL_law_1214 ?_
  refine x_sld (k := 2) F hX rfl (by omega) hL dL_law_1215 ?_
  have h : w_X11_accord (sc (i + 1)) (sc (i + 2)) σ (fun r1 s => w_X12_accord (sc (i + 1)) (sc (i + 2)) s (fun r' s' => r1 = r' ∧ In (bd + 40) s')) := o_accord  hI
  refine x_callV_i F (c_X11_accord (xl X) (xg X) (xA X) F.2.2.1 h) (bw_V bw_46_16 bw_46_17 bw_46_18 bw_1_2 bw_46_19) rfl cd_X11_accord (Nat.le_of_ble_eq_true rfl) (Nat.le_of_ble_eq_true rfl) (kd_w (by decide) kz_0) rfl (cl_11 kz_0) rfl rfl (Nat.le_of_ble_eq_true rfl) dL_law_1216 (fun r1 s1 h1 => ?_)
  refine x_aload_n F dL_law_1219 rfl 2 rfl ?_
  refine x_aload_n F dL_law_1220 rfl 4 rfl ?_
  refine x_iload F dL_law_1221 0 rfl ?_
  refine x_iconst (1 : Int32) F dL_law_1223 (by decide) ?_
  refine x_iadd F dL_law_1224 ?_
  refine x_sld (k := 1) F hX rfl (by omega) hL dL_law_1225 ?_
  refine x_aload_n F dL_law_1226 rfl 4 rfl ?_
  refine x_iload F dL_law_1227 0 rfl ?_
  refine x_iconst (2 : Int32) F dL_law_1229 (by decide) ?_
  refine x_iadd F dL_law_1230 ?_
  refine x_sld (k := 2) F hX rfl (by omega) hL dL_law_1231 ?_
  refine x_callV_i F (c_X12_accord (xl X) (xg X) (xA X) F.2.2.1 h1) (bw_V bw_47_0 bw_47_1 bw_47_2 bw_1_5 bw_47_3) rfl cd_X12_accord (Nat.le_of_ble_eq_true rfl) (Nat.le_of_ble_eq_true rfl) (kd_w (by decide) kz_176) rfl (cl_12 kz_176) rfl rfl (Nat.le_of_ble_eq_true rfl) dL_law_1232 (fun r2 s2 h2 => ?_)
  exact x_icmp_eq (tgt := 1608) F dL_law_1235 (by decide) (fun _ => K s2 h2.2) (fun c => absurd h2.1 c)
set_option maxRecDepth 100000 in
set_option maxHeartbeats 4000000 in
theorem lc_trim {X : XT} {b L i bd : Nat} {sc : Nat → Int32} {σ : wS} (F : Fx X cL_law 7 RL wvL 13 482) (hX : Sx X b L sc) (hi : i + 6 ≤ L) (hL : L ≤ 3072) (h60 : 60 ≤ bd) (hb : bd < 2 ^ 30) (hb2 : bd + 40 < 2 ^ 30) (hI : In bd σ) (K : ∀ τ : wS, In (bd + 40) τ → Wx X 7 τ 1608 (LV X b i) []) : Wx X 7 σ 1240 (LV X b i) [] := by
  refine x_aload_n F dL_law_1240 rfl 3 rfl ?_
  refine x_aload_n F dL_law_1241 rfl 4 rfl ?_
  refine x_iload F dL_law_1242 0 rfl ?_
  refine x_iconst (1 : Int32) F dL_law_1244 (by decide) ?_
  refine x_iadd F dL_law_1245 ?_
  refine x_sld (k := 1) F hX rfl (by omega) hL dL_law_1246 ?_
  refine x_aload_n F dL_law_1247 rfl 4 rfl ?_
  refine x_iload F dL_law_1248 0 rfl ?_
  refine x_iconst (2 : Int32) F dL_law_1250 (by decide) ?_
  refine x_iadd F dL_law_1251 ?_
  refine x_sld (k := 2) F hX rfl (by omega) hL dL_law_1252 ?_
  have h : w_X11_trim (sc (i + 1)) (sc (i + 2)) σ (fun r1 s => w_X12_trim (sc (i + 1)) (sc (i + 2)) s (fun r' s' => r1 = r' ∧ In (bd + 40) s')) := o_trim  hI
  refine x_callV_l F (c_X11_trim (xl X) (xg X) (xA X) F.2.2.1 h) (bw_V bw_47_8 bw_47_9 bw_47_10 bw_1_2 bw_47_11) rfl cd_X11_trim (Nat.le_of_ble_eq_true rfl) (Nat.le_of_ble_eq_true rfl) (kd_w (by decide) kz_0) rfl (cl_11 kz_0) rfl rfl (Nat.le_of_ble_eq_true rfl) dL_law_1253 (fun r1 s1 h1 => ?_)
  refine x_aload_n F dL_law_1256 rfl 2 rfl ?_
  refine x_aload_n F dL_law_1257 rfl 4 rfl ?_
  refine x_iload F dL_law_1258 0 rfl ?_
  refine x_iconst (1 : Int32) F dL_law_1260 (by decide) ?_
  refine x_iadd F dL_law_1261 ?_
  refine x_sld (k := 1) F hX rfl (by omega) hL dL_law_1262 ?_
  refine x_aload_n F dL_law_1263 rfl 4 rfl ?_
  refine x_iload F dL_law_1264 0 rfl ?_
  refine x_iconst (2 : Int32) F dL_law_1266 (by decide) ?_
  refine x_iadd F dL_law_1267 ?_
  refine x_sld (k := 2) F hX rfl (by omega) hL dL_law_1268 ?_
  refine x_callV_l F (c_X12_trim (xl X) (xg X) (xA X) F.2.2.1 h1) (bw_V bw_47_22 bw_47_23 bw_48_0 bw_1_5 bw_48_1) rfl cd_X12_trim (Nat.le_of_ble_eq_true rfl) (Nat.le_of_ble_eq_true rfl) (kd_w (by decide) kz_176) rfl (cl_12 kz_176) rfl rfl (Nat.le_of_ble_eq_true rfl) dL_law_1269 (fun r2 s2 h2 => ?_)
  refine x_lcmp F dL_law_1272 ?_
  exact x_if_eq (tgt := 1608) F dL_law_1273 (by decide) (fun _ => K s2 h2.2) (fun c => absurd (by rw [h2.1]; exact lg_self _) c)
set_option maxRecDepth 100000 in
set_option maxHeartbeats 4000000 in
theorem lc_fewest {X : XT} {b L i bd : Nat} {sc : Nat → Int32} {σ : wS} (F : Fx X cL_law 7 RL wvL 13 482) (hX : Sx X b L sc) (hi : i + 6 ≤ L) (hL : L ≤ 3072) (h60 : 60 ≤ bd) (hb : bd < 2 ^ 30) (hb2 : bd + 40 < 2 ^ 30) (hI : In bd σ) (K : ∀ τ : wS, In (bd + 40) τ → Wx X 7 τ 1608 (LV X b i) []) : Wx X 7 σ 1278 (LV X b i) [] := by
  refine x_aload_n F dL_law_1278 rfl 3 rfl ?_
  refine x_aload_n F dL_law_1279 rfl 4 rfl ?_
  refine x_iload F dL_law_1280 0 rfl ?_
  refine x_iconst (1 : Int32) F dL_law_1282 (by decide) ?_
  refine x_iadd F dL_law_1283 ?_
  refine x_sld (k := 1) F hX rfl (by omega) hL dL_law_1284 ?_
  have h : w_X11_fewest (sc (i + 1)) σ (fun r1 s => w_X12_fewest (sc (i + 1)) s (fun r' s' => r1 = r' ∧ In (bd + 40) s')) := o_fewest  hI
  refine x_callV_i F (c_X11_fewest (xl X) (xg X) (xA X) F.2.2.1 h) (bw_V bw_48_13 bw_48_14 bw_48_15 bw_1_2 bw_48_16) rfl cd_X11_fewest (Nat.le_of_ble_eq_true rfl) (Nat.le_of_ble_eq_true rfl) (kd_w (by decide) kz_0) rfl (cl_11 kz_0) rfl rfl (Nat.le_of_ble_eq_true rfl) dL_law_1285 (fun r1 s1 h1 => ?_)
  refine x_aload_n F dL_law_1288 rfl 2 rfl ?_
  refine x_aload_n F dL_law_1289 rfl 4 rfl ?_
  refine x_iload F dL_law_1290 0 rfl ?_
  refine x_iconst (1 : Int32) F dL_law_1292 (by decide) ?_
  refine x_iadd F dL_law_1293 ?_
  refine x_sld (k := 1) F hX rfl (by omega) hL dL_law_1294 ?_
  refine x_callV_i F (c_X12_fewest (xl X) (xg X) (xA X) F.2.2.1 h1) (bw_V bw_48_23 bw_49_0 bw_49_1 bw_1_5 bw_49_2) rfl cd_X12_fewest (Nat.le_of_ble_eq_true rfl) (Nat.le_of_ble_eq_true rfl) (kd_w (by decide) kz_176) rfl (cl_12 kz_176) rfl rfl (Nat.le_of_ble_eq_true rfl) dL_law_1295 (fun r2 s2 h2 => ?_)
  exact x_icmp_eq (tgt := 1608) F dL_law_1298 (by decide) (fun _ => K s2 h2.2) (fun c => absurd h2.1 c)
set_option maxRecDepth 100000 in
set_option maxHeartbeats 4000000 in
theorem lc_without {X : XT} {b L i bd : Nat} {sc : Nat → Int32} {σ : wS} (F : Fx X cL_law 7 RL wvL 13 482) (hX : Sx X b L sc) (hi : i + 6 ≤ L) (hL : L ≤ 3072) (h60 : 60 ≤ bd) (hb : bd < 2 ^ 30) (hb2 : bd + 40 < 2 ^ 30) (hI : In bd σ) (K : ∀ τ : wS, In (bd + 40) τ → Wx X 7 τ 1608 (LV X b i) []) : Wx X 7 σ 1303 (LV X b i) [] := by
  refine x_aload_n F dL_law_1303 rfl 3 rfl ?_
  refine x_aload_n F dL_law_1304 rfl 4 rfl ?_
  refine x_iload F dL_law_1305 0 rfl ?_
  refine x_iconst (1 : Int32) F dL_law_1307 (by decide) ?_
  refine x_iadd F dL_law_1308 ?_
  refine x_sld (k := 1) F hX rfl (by omega) hL dL_law_1309 ?_
  refine x_aload_n F dL_law_1310 rfl 4 rfl ?_
  refine x_iload F dL_law_1311 0 rfl ?_
  refine x_iconst (2 : Int32) F dL_law_1313 (by decide) ?_
  refine x_iadd F dL_law_1314 ?_
  refine x_sld (k := 2) F hX rfl (by omega) hL dL_law_1315 ?_
  have h : w_X11_without (sc (i + 1)) (sc (i + 2)) σ (fun r1 s => w_X12_without (sc (i + 1)) (sc (i + 2)) s (fun r' s' => r1 = r' ∧ In (bd + 40) s')) := o_without  hI
  refine x_callV_i F (c_X11_without (xl X) (xg X) (xA X) F.2.2.1 h) (bw_V bw_49_7 bw_49_8 bw_49_9 bw_1_2 bw_49_10) rfl cd_X11_without (Nat.le_of_ble_eq_true rfl) (Nat.le_of_ble_eq_true rfl) (kd_w (by decide) kz_0) rfl (cl_11 kz_0) rfl rfl (Nat.le_of_ble_eq_true rfl) dL_law_1316 (fun r1 s1 h1 => ?_)
  refine x_aload_n F dL_law_1319 rfl 2 rfl ?_
  refine x_aload_n F dL_law_1320 rfl 4 rfl ?_
  refine x_iload F dL_law_1321 0 rfl ?_
  refine x_iconst (1 : Int32) F dL_law_1323 (by decide) ?_
  refine x_iadd F dL_law_1324 ?_
  refine x_sld (k := 1) F hX rfl (by omega) hL dL_law_1325 ?_
  refine x_aload_n F dL_law_1326 rfl 4 rfl ?_
  refine x_iload F dL_law_1327 0 rfl ?_
  refine x_iconst (2 : Int32) F dL_law_1329 (by decide) ?_
  refine x_iadd F dL_law_1330 ?_
  refine x_sld (k := 2) F hX rfl (by omega) hL dL_law_1331 ?_
  refine x_callV_i F (c_X12_without (xl X) (xg X) (xA X) F.2.2.1 h1) (bw_V bw_49_15 bw_49_16 bw_49_17 bw_1_5 bw_49_18) rfl cd_X12_without (Nat.le_of_ble_eq_true rfl) (Nat.le_of_ble_eq_true rfl) (kd_w (by decide) kz_176) rfl (cl_12 kz_176) rfl rfl (Nat.le_of_ble_eq_true rfl) dL_law_1332 (fun r2 s2 h2 => ?_)
  exact x_icmp_eq (tgt := 1608) F dL_law_1335 (by decide) (fun _ => K s2 h2.2) (fun c => absurd h2.1 c)
set_option maxRecDepth 100000 in
set_option maxHeartbeats 4000000 in
theorem lc_key {X : XT} {b L i bd : Nat} {sc : Nat → Int32} {σ : wS} (F : Fx X cL_law 7 RL wvL 13 482) (hX : Sx X b L sc) (hi : i + 6 ≤ L) (hL : L ≤ 3072) (h60 : 60 ≤ bd) (hb : bd < 2 ^ 30) (hb2 : bd + 40 < 2 ^ 30) (hI : In bd σ) (K : ∀ τ : wS, In (bd + 40) τ → Wx X 7 τ 1608 (LV X b i) []) : Wx X 7 σ 1340 (LV X b i) [] := by
  refine x_aload_n F dL_law_1340 rfl 3 rfl ?_
  have h : w_X11_key  σ (fun r1 s => w_X12_key  s (fun r' s' => r1 = r' ∧ In (bd + 40) s')) := o_key  hI
  refine x_callV_i F (c_X11_key (xl X) (xg X) (xA X) F.2.2.1 h) (bw_V bw_49_19 bw_49_20 bw_49_21 bw_1_2 bw_49_22) rfl cd_X11_key (Nat.le_of_ble_eq_true rfl) (Nat.le_of_ble_eq_true rfl) (kd_w (by decide) kz_0) rfl (cl_11 kz_0) rfl rfl (Nat.le_of_ble_eq_true rfl) dL_law_1341 (fun r1 s1 h1 => ?_)
  refine x_aload_n F dL_law_1344 rfl 2 rfl ?_
  refine x_callV_i F (c_X12_key (xl X) (xg X) (xA X) F.2.2.1 h1) (bw_V bw_49_23 bw_50_0 bw_50_1 bw_1_5 bw_50_2) rfl cd_X12_key (Nat.le_of_ble_eq_true rfl) (Nat.le_of_ble_eq_true rfl) (kd_w (by decide) kz_176) rfl (cl_12 kz_176) rfl rfl (Nat.le_of_ble_eq_true rfl) dL_law_1345 (fun r2 s2 h2 => ?_)
  exact x_icmp_eq (tgt := 1608) F dL_law_1348 (by decide) (fun _ => K s2 h2.2) (fun c => absurd h2.1 c)
set_option maxRecDepth 100000 in
set_option maxHeartbeats 4000000 in
theorem lc_odds {X : XT} {b L i bd : Nat} {sc : Nat → Int32} {σ : wS} (F : Fx X cL_law 7 RL wvL 13 482) (hX : Sx X b L sc) (hi : i + 6 ≤ L) (hL : L ≤ 3072) (h60 : 60 ≤ bd) (hb : bd < 2 ^ 30) (hb2 : bd + 40 < 2 ^ 30) (hI : In bd σ) (K : ∀ τ : wS, In (bd + 40) τ → Wx X 7 τ 1608 (LV X b i) []) : Wx X 7 σ 1353 (LV X b i) [] := by
  refine x_aload_n F dL_law_1353 rfl 3 rfl ?_
  refine x_aload_n F dL_law_1354 rfl 4 rfl ?_
  refine x_iload F dL_law_1355 0 rfl ?_
  refine x_iconst (1 : Int32) F dL_law_1357 (by decide) ?_
  refine x_iadd F dL_law_1358 ?_
  refine x_sld (k := 1) F hX rfl (by omega) hL dL_law_1359 ?_
  refine x_aload_n F dL_law_1360 rfl 4 rfl ?_
  refine x_iload F dL_law_1361 0 rfl ?_
  refine x_iconst (2 : Int32) F dL_law_1363 (by decide) ?_
  refine x_iadd F dL_law_1364 ?_
  refine x_sld (k := 2) F hX rfl (by omega) hL dL_law_1365 ?_
  refine x_aload_n F dL_law_1366 rfl 4 rfl ?_
  refine x_iload F dL_law_1367 0 rfl ?_
  refine x_iconst (3 : Int32) F dL_law_1369 (by decide) ?_
  refine x_iadd F dL_law_1370 ?_
  refine x_sld (k := 3) F hX rfl (by omega) hL dL_law_1371 ?_
  refine x_aload_n F dL_law_1372 rfl 4 rfl ?_
  refine x_iload F dL_law_1373 0 rfl ?_
  refine x_iconst (4 : Int32) F dL_law_1375 (by decide) ?_
  refine x_iadd F dL_law_1376 ?_
  refine x_sld (k := 4) F hX rfl (by omega) hL dL_law_1377 ?_
  refine x_aload_n F dL_law_1378 rfl 4 rfl ?_
  refine x_iload F dL_law_1379 0 rfl ?_
  refine x_iconst (5 : Int32) F dL_law_1381 (by decide) ?_
  refine x_iadd F dL_law_1382 ?_
  refine x_sld (k := 5) F hX rfl (by omega) hL dL_law_1383 ?_
  have h : w_X11_odds (sc (i + 1)) (sc (i + 2)) (sc (i + 3)) (sc (i + 4)) (sc (i + 5)) σ (fun r1 s => w_X12_odds (sc (i + 1)) (sc (i + 2)) (sc (i + 3)) (sc (i + 4)) (sc (i + 5)) s (fun r' s' => r1 = r' ∧ In (bd + 40) s')) := o_odds  hI
  refine x_callV_i F (c_X11_odds (xl X) (xg X) (xA X) F.2.2.1 h) (bw_V bw_50_3 bw_50_4 bw_50_5 bw_1_2 bw_50_6) rfl cd_X11_odds (Nat.le_of_ble_eq_true rfl) (Nat.le_of_ble_eq_true rfl) (kd_w (by decide) kz_0) rfl (cl_11 kz_0) rfl rfl (Nat.le_of_ble_eq_true rfl) dL_law_1384 (fun r1 s1 h1 => ?_)
  refine x_aload_n F dL_law_1387 rfl 2 rfl ?_
  refine x_aload_n F dL_law_1388 rfl 4 rfl ?_
  refine x_iload F dL_law_1389 0 rfl ?_
  refine x_iconst (1 : Int32) F dL_law_1391 (by decide) ?_
  refine x_iadd F dL_law_1392 ?_
  refine x_sld (k := 1) F hX rfl (by omega) hL dL_law_1393 ?_
  refine x_aload_n F dL_law_1394 rfl 4 rfl ?_
  refine x_iload F dL_law_1395 0 rfl ?_
  refine x_iconst (2 : Int32) F dL_law_1397 (by decide) ?_
  refine x_iadd F dL_law_1398 ?_
  refine x_sld (k := 2) F hX rfl (by omega) hL dL_law_1399 ?_
  refine x_aload_n F dL_law_1400 rfl 4 rfl ?_
  refine x_iload F dL_law_1401 0 rfl ?_
  refine x_iconst (3 : Int32) F dL_law_1403 (by decide) ?_
  refine x_iadd F dL_law_1404 ?_
  refine x_sld (k := 3) F hX rfl (by omega) hL dL_law_1405 ?_
  refine x_aload_n F dL_law_1406 rfl 4 rfl ?_
  refine x_iload F dL_law_1407 0 rfl ?_
  refine x_iconst (4 : Int32) F dL_law_1409 (by decide) ?_
  refine x_iadd F dL_law_1410 ?_
  refine x_sld (k := 4) F hX rfl (by omega) hL dL_law_1411 ?_
  refine x_aload_n F dL_law_1412 rfl 4 rfl ?_
  refine x_iload F dL_law_1413 0 rfl ?_
  refine x_iconst (5 : Int32) F dL_law_1415 (by decide) ?_
  refine x_iadd F dL_law_1416 ?_
  refine x_sld (k := 5) F hX rfl (by omega) hL dL_law_1417 ?_
  refine x_callV_i F (c_X12_odds (xl X) (xg X) (xA X) F.2.2.1 h1) (bw_V bw_50_12 bw_50_13 bw_50_14 bw_1_5 bw_50_15) rfl cd_X12_odds (Nat.le_of_ble_eq_true rfl) (Nat.le_of_ble_eq_true rfl) (kd_w (by decide) kz_176) rfl (cl_12 kz_176) rfl rfl (Nat.le_of_ble_eq_true rfl) dL_law_1418 (fun r2 s2 h2 => ?_)
  exact x_icmp_eq (tgt := 1608) F dL_law_1421 (by decide) (fun _ => K s2 h2.2) (fun c => absurd h2.1 c)
set_option maxRecDepth 100000 in
set_option maxHeartbeats 4000000 in
theorem lc_shares {X : XT} {b L i bd : Nat} {sc : Nat → Int32} {σ : wS} (F : Fx X cL_law 7 RL wvL 13 482) (hX : Sx X b L sc) (hi : i + 6 ≤ L) (hL : L ≤ 3072) (h60 : 60 ≤ bd) (hb : bd < 2 ^ 30) (hb2 : bd + 40 < 2 ^ 30) (hI : In bd σ) (K : ∀ τ : wS, In (bd + 40) τ → Wx X 7 τ 1608 (LV X b i) []) : Wx X 7 σ 1426 (LV X b i) [] := by
  refine x_aload_n F dL_law_1426 rfl 3 rfl ?_
  refine x_aload_n F dL_law_1427 rfl 4 rfl ?_
  refine x_iload F dL_law_1428 0 rfl ?_
  refine x_iconst (1 : Int32) F dL_law_1430 (by decide) ?_
  refine x_iadd F dL_law_1431 ?_
  refine x_sld (k := 1) F hX rfl (by omega) hL dL_law_1432 ?_
  refine x_aload_n F dL_law_1433 rfl 4 rfl ?_
  refine x_iload F dL_law_1434 0 rfl ?_
  refine x_iconst (2 : Int32) F dL_law_1436 (by decide) ?_
  refine x_iadd F dL_law_1437 ?_
  refine x_sld (k := 2) F hX rfl (by omega) hL dL_law_1438 ?_
  have h : w_X11_shares (sc (i + 1)) (sc (i + 2)) σ (fun r1 s => w_X12_shares (sc (i + 1)) (sc (i + 2)) s (fun r' s' => r1 = r' ∧ In (bd + 40) s')) := o_shares  hI
  refine x_callV_i F (c_X11_shares (xl X) (xg X) (xA X) F.2.2.1 h) (bw_V bw_50_23 bw_51_0 bw_51_1 bw_1_2 bw_51_2) rfl cd_X11_shares (Nat.le_of_ble_eq_true rfl) (Nat.le_of_ble_eq_true rfl) (kd_w (by decide) kz_0) rfl (cl_11 kz_0) rfl rfl (Nat.le_of_ble_eq_true rfl) dL_law_1439 (fun r1 s1 h1 => ?_)
  refine x_aload_n F dL_law_1442 rfl 2 rfl ?_
  refine x_aload_n F dL_law_1443 rfl 4 rfl ?_
  refine x_iload F dL_law_1444 0 rfl ?_
  refine x_iconst (1 : Int32) F dL_law_1446 (by decide) ?_
  refine x_iadd F dL_law_1447 ?_
  refine x_sld (k := 1) F hX rfl (by omega) hL dL_law_1448 ?_
  refine x_aload_n F dL_law_1449 rfl 4 rfl ?_
  refine x_iload F dL_law_1450 0 rfl ?_
  refine x_iconst (2 : Int32) F dL_law_1452 (by decide) ?_
  refine x_iadd F dL_law_1453 ?_
  refine x_sld (k := 2) F hX rfl (by omega) hL dL_law_1454 ?_
  refine x_callV_i F (c_X12_shares (xl X) (xg X) (xA X) F.2.2.1 h1) (bw_V bw_51_8 bw_51_9 bw_51_10 bw_1_5 bw_51_11) rfl cd_X12_shares (Nat.le_of_ble_eq_true rfl) (Nat.le_of_ble_eq_true rfl) (kd_w (by decide) kz_176) rfl (cl_12 kz_176) rfl rfl (Nat.le_of_ble_eq_true rfl) dL_law_1455 (fun r2 s2 h2 => ?_)
  exact x_icmp_eq (tgt := 1608) F dL_law_1458 (by decide) (fun _ => K s2 h2.2) (fun c => absurd h2.1 c)
set_option maxRecDepth 100000 in
set_option maxHeartbeats 4000000 in
theorem lc_years {X : XT} {b L i bd : Nat} {sc : Nat → Int32} {σ : wS} (F : Fx X cL_law 7 RL wvL 13 482) (hX : Sx X b L sc) (hi : i + 6 ≤ L) (hL : L ≤ 3072) (h60 : 60 ≤ bd) (hb : bd < 2 ^ 30) (hb2 : bd + 40 < 2 ^ 30) (hI : In bd σ) (K : ∀ τ : wS, In (bd + 40) τ → Wx X 7 τ 1608 (LV X b i) []) : Wx X 7 σ 1463 (LV X b i) [] := by
  refine x_aload_n F dL_law_1463 rfl 3 rfl ?_
  refine x_aload_n F dL_law_1464 rfl 4 rfl ?_
  refine x_iload F dL_law_1465 0 rfl ?_
  refine x_iconst (1 : Int32) F dL_law_1467 (by decide) ?_
  refine x_iadd F dL_law_1468 ?_
  refine x_sld (k := 1) F hX rfl (by omega) hL dL_law_1469 ?_
  refine x_aload_n F dL_law_1470 rfl 4 rfl ?_
  refine x_iload F dL_law_1471 0 rfl ?_
  refine x_iconst (2 : Int32) F dL_law_1473 (by decide) ?_
  refine x_iadd F dL_law_1474 ?_
  refine x_sld (k := 2) F hX rfl (by omega) hL dL_law_1475 ?_
  refine x_i2l F dL_law_1476 ?_
  refine x_bipush (32 : Int32) F dL_law_1477 (by decide) ?_
  refine x_lshl F dL_law_1479 ?_
  refine x_aload_n F dL_law_1480 rfl 4 rfl ?_
  refine x_iload F dL_law_1481 0 rfl ?_
  refine x_iconst (3 : Int32) F dL_law_1483 (by decide) ?_
  refine x_iadd F dL_law_1484 ?_
  refine x_sld (k := 3) F hX rfl (by omega) hL dL_law_1485 ?_
  refine x_i2l F dL_law_1486 ?_
  refine x_ldc2 F dL_law_1487 (mc bw_1_7) ?_
  refine x_land F dL_law_1490 ?_
  refine x_lor F dL_law_1491 ?_
  have h : w_X11_years (sc (i + 1)) ((((sc (i + 2))).toInt64 <<< (((32 : Int32)).toInt64 &&& 63)) ||| (((sc (i + 3))).toInt64 &&& (4294967295 : Int64))) σ (fun r1 s => w_X12_years (sc (i + 1)) ((((sc (i + 2))).toInt64 <<< (((32 : Int32)).toInt64 &&& 63)) ||| (((sc (i + 3))).toInt64 &&& (4294967295 : Int64))) s (fun r' s' => r1 = r' ∧ In (bd + 40) s')) := o_years hb2 hI
  refine x_callV_i F (c_X11_years (xl X) (xg X) (xA X) F.2.2.1 h) (bw_V bw_51_16 bw_51_17 bw_51_18 bw_1_2 bw_51_19) rfl cd_X11_years (Nat.le_of_ble_eq_true rfl) (Nat.le_of_ble_eq_true rfl) (kd_w (by decide) kz_0) rfl (cl_11 kz_0) rfl rfl (Nat.le_of_ble_eq_true rfl) dL_law_1492 (fun r1 s1 h1 => ?_)
  refine x_aload_n F dL_law_1495 rfl 2 rfl ?_
  refine x_aload_n F dL_law_1496 rfl 4 rfl ?_
  refine x_iload F dL_law_1497 0 rfl ?_
  refine x_iconst (1 : Int32) F dL_law_1499 (by decide) ?_
  refine x_iadd F dL_law_1500 ?_
  refine x_sld (k := 1) F hX rfl (by omega) hL dL_law_1501 ?_
  refine x_aload_n F dL_law_1502 rfl 4 rfl ?_
  refine x_iload F dL_law_1503 0 rfl ?_
  refine x_iconst (2 : Int32) F dL_law_1505 (by decide) ?_
  refine x_iadd F dL_law_1506 ?_
  refine x_sld (k := 2) F hX rfl (by omega) hL dL_law_1507 ?_
  refine x_i2l F dL_law_1508 ?_
  refine x_bipush (32 : Int32) F dL_law_1509 (by decide) ?_
  refine x_lshl F dL_law_1511 ?_
  refine x_aload_n F dL_law_1512 rfl 4 rfl ?_
  refine x_iload F dL_law_1513 0 rfl ?_
  refine x_iconst (3 : Int32) F dL_law_1515 (by decide) ?_
  refine x_iadd F dL_law_1516 ?_
  refine x_sld (k := 3) F hX rfl (by omega) hL dL_law_1517 ?_
  refine x_i2l F dL_law_1518 ?_
  refine x_ldc2 F dL_law_1519 (mc bw_1_7) ?_
  refine x_land F dL_law_1522 ?_
  refine x_lor F dL_law_1523 ?_
  refine x_callV_i F (c_X12_years (xl X) (xg X) (xA X) F.2.2.1 h1) (bw_V bw_52_6 bw_52_7 bw_52_8 bw_1_5 bw_52_9) rfl cd_X12_years (Nat.le_of_ble_eq_true rfl) (Nat.le_of_ble_eq_true rfl) (kd_w (by decide) kz_176) rfl (cl_12 kz_176) rfl rfl (Nat.le_of_ble_eq_true rfl) dL_law_1524 (fun r2 s2 h2 => ?_)
  exact x_icmp_eq (tgt := 1608) F dL_law_1527 (by decide) (fun _ => K s2 h2.2) (fun c => absurd h2.1 c)
set_option maxRecDepth 100000 in
set_option maxHeartbeats 4000000 in
theorem lc_most {X : XT} {b L i bd : Nat} {sc : Nat → Int32} {σ : wS} (F : Fx X cL_law 7 RL wvL 13 482) (hX : Sx X b L sc) (hi : i + 6 ≤ L) (hL : L ≤ 3072) (h60 : 60 ≤ bd) (hb : bd < 2 ^ 30) (hb2 : bd + 40 < 2 ^ 30) (hI : In bd σ) (K : ∀ τ : wS, In (bd + 40) τ → Wx X 7 τ 1608 (LV X b i) []) : Wx X 7 σ 1532 (LV X b i) [] := by
  refine x_aload_n F dL_law_1532 rfl 3 rfl ?_
  refine x_aload_n F dL_law_1533 rfl 4 rfl ?_
  refine x_iload F dL_law_1534 0 rfl ?_
  refine x_iconst (1 : Int32) F dL_law_1536 (by decide) ?_
  refine x_iadd F dL_law_1537 ?_
  refine x_sld (k := 1) F hX rfl (by omega) hL dL_law_1538 ?_
  have h : w_X11_most (sc (i + 1)) σ (fun r1 s => w_X12_most (sc (i + 1)) s (fun r' s' => r1 = r' ∧ In (bd + 40) s')) := o_most  hI
  refine x_callV_i F (c_X11_most (xl X) (xg X) (xA X) F.2.2.1 h) (bw_V bw_53_2 bw_53_3 bw_53_4 bw_1_2 bw_53_5) rfl cd_X11_most (Nat.le_of_ble_eq_true rfl) (Nat.le_of_ble_eq_true rfl) (kd_w (by decide) kz_0) rfl (cl_11 kz_0) rfl rfl (Nat.le_of_ble_eq_true rfl) dL_law_1539 (fun r1 s1 h1 => ?_)
  refine x_aload_n F dL_law_1542 rfl 2 rfl ?_
  refine x_aload_n F dL_law_1543 rfl 4 rfl ?_
  refine x_iload F dL_law_1544 0 rfl ?_
  refine x_iconst (1 : Int32) F dL_law_1546 (by decide) ?_
  refine x_iadd F dL_law_1547 ?_
  refine x_sld (k := 1) F hX rfl (by omega) hL dL_law_1548 ?_
  refine x_callV_i F (c_X12_most (xl X) (xg X) (xA X) F.2.2.1 h1) (bw_V bw_53_13 bw_53_14 bw_53_15 bw_1_5 bw_53_16) rfl cd_X12_most (Nat.le_of_ble_eq_true rfl) (Nat.le_of_ble_eq_true rfl) (kd_w (by decide) kz_176) rfl (cl_12 kz_176) rfl rfl (Nat.le_of_ble_eq_true rfl) dL_law_1549 (fun r2 s2 h2 => ?_)
  exact x_icmp_eq (tgt := 1608) F dL_law_1552 (by decide) (fun _ => K s2 h2.2) (fun c => absurd h2.1 c)
set_option maxRecDepth 100000 in
set_option maxHeartbeats 4000000 in
theorem lc_image {X : XT} {b L i bd : Nat} {sc : Nat → Int32} {σ : wS} (F : Fx X cL_law 7 RL wvL 13 482) (hX : Sx X b L sc) (hi : i + 6 ≤ L) (hL : L ≤ 3072) (h60 : 60 ≤ bd) (hb : bd < 2 ^ 30) (hb2 : bd + 40 < 2 ^ 30) (hI : In bd σ) (K : ∀ τ : wS, In (bd + 40) τ → Wx X 7 τ 1608 (LV X b i) []) : Wx X 7 σ 1557 (LV X b i) [] := by
  refine x_aload_n F dL_law_1557 rfl 3 rfl ?_
  have h : w_X11_image  σ (fun r1 s => w_X12_image  s (fun r' s' => r1 = r' ∧ In (bd + 40) s')) := o_image hb hI
  refine x_callV_i F (c_X11_image (xl X) (xg X) (xA X) F.2.2.1 h) (bw_V bw_54_1 bw_54_2 bw_54_3 bw_1_2 bw_54_4) rfl cd_X11_image (Nat.le_of_ble_eq_true rfl) (Nat.le_of_ble_eq_true rfl) (kd_w (by decide) kz_0) rfl (cl_11 kz_0) rfl rfl (Nat.le_of_ble_eq_true rfl) dL_law_1558 (fun r1 s1 h1 => ?_)
  refine x_aload_n F dL_law_1561 rfl 2 rfl ?_
  refine x_callV_i F (c_X12_image (xl X) (xg X) (xA X) F.2.2.1 h1) (bw_V bw_54_6 bw_54_7 bw_54_8 bw_1_5 bw_54_9) rfl cd_X12_image (Nat.le_of_ble_eq_true rfl) (Nat.le_of_ble_eq_true rfl) (kd_w (by decide) kz_176) rfl (cl_12 kz_176) rfl rfl (Nat.le_of_ble_eq_true rfl) dL_law_1562 (fun r2 s2 h2 => ?_)
  exact x_icmp_eq (tgt := 1608) F dL_law_1565 (by decide) (fun _ => K s2 h2.2) (fun c => absurd h2.1 c)
set_option maxRecDepth 100000 in
set_option maxHeartbeats 4000000 in
theorem lc_back {X : XT} {b L i bd : Nat} {sc : Nat → Int32} {σ : wS} (F : Fx X cL_law 7 RL wvL 13 482) (hX : Sx X b L sc) (hi : i + 6 ≤ L) (hL : L ≤ 3072) (h60 : 60 ≤ bd) (hb : bd < 2 ^ 30) (hb2 : bd + 40 < 2 ^ 30) (hI : In bd σ) (K : ∀ τ : wS, In (bd + 40) τ → Wx X 7 τ 1608 (LV X b i) []) : Wx X 7 σ 1570 (LV X b i) [] := by
  refine x_aload_n F dL_law_1570 rfl 3 rfl ?_
  have h : w_X11_back  σ (fun r1 s => w_X12_back  s (fun r' s' => r1 = r' ∧ In (bd + 40) s')) := o_back h60 hI
  refine x_callV_i F (c_X11_back (xl X) (xg X) (xA X) F.2.2.1 h) (bw_V bw_54_10 bw_54_11 bw_54_12 bw_1_2 bw_54_13) rfl cd_X11_back (Nat.le_of_ble_eq_true rfl) (Nat.le_of_ble_eq_true rfl) (kd_w (by decide) kz_0) rfl (cl_11 kz_0) rfl rfl (Nat.le_of_ble_eq_true rfl) dL_law_1571 (fun r1 s1 h1 => ?_)
  refine x_aload_n F dL_law_1574 rfl 2 rfl ?_
  refine x_callV_i F (c_X12_back (xl X) (xg X) (xA X) F.2.2.1 h1) (bw_V bw_54_15 bw_54_16 bw_54_17 bw_1_5 bw_54_18) rfl cd_X12_back (Nat.le_of_ble_eq_true rfl) (Nat.le_of_ble_eq_true rfl) (kd_w (by decide) kz_176) rfl (cl_12 kz_176) rfl rfl (Nat.le_of_ble_eq_true rfl) dL_law_1575 (fun r2 s2 h2 => ?_)
  exact x_icmp_eq (tgt := 1608) F dL_law_1578 (by decide) (fun _ => K s2 h2.2) (fun c => absurd h2.1 c)
set_option maxRecDepth 100000 in
set_option maxHeartbeats 4000000 in
theorem lc_count {X : XT} {b L i bd : Nat} {sc : Nat → Int32} {σ : wS} (F : Fx X cL_law 7 RL wvL 13 482) (hX : Sx X b L sc) (hi : i + 6 ≤ L) (hL : L ≤ 3072) (h60 : 60 ≤ bd) (hb : bd < 2 ^ 30) (hb2 : bd + 40 < 2 ^ 30) (hI : In bd σ) (K : ∀ τ : wS, In (bd + 40) τ → Wx X 7 τ 1608 (LV X b i) []) : Wx X 7 σ 1583 (LV X b i) [] := by
  refine x_aload_n F dL_law_1583 rfl 3 rfl ?_
  refine x_aload_n F dL_law_1584 rfl 4 rfl ?_
  refine x_iload F dL_law_1585 0 rfl ?_
  refine x_iconst (1 : Int32) F dL_law_1587 (by decide) ?_
  refine x_iadd F dL_law_1588 ?_
  refine x_sld (k := 1) F hX rfl (by omega) hL dL_law_1589 ?_
  have h : w_X11_count (sc (i + 1)) σ (fun r1 s => w_X12_count (sc (i + 1)) s (fun r' s' => r1 = r' ∧ In (bd + 40) s')) := o_count hb hI
  refine x_callV_i F (c_X11_count (xl X) (xg X) (xA X) F.2.2.1 h) (bw_V bw_54_19 bw_54_20 bw_54_21 bw_1_2 bw_54_22) rfl cd_X11_count (Nat.le_of_ble_eq_true rfl) (Nat.le_of_ble_eq_true rfl) (kd_w (by decide) kz_0) rfl (cl_11 kz_0) rfl rfl (Nat.le_of_ble_eq_true rfl) dL_law_1590 (fun r1 s1 h1 => ?_)
  refine x_aload_n F dL_law_1593 rfl 2 rfl ?_
  refine x_aload_n F dL_law_1594 rfl 4 rfl ?_
  refine x_iload F dL_law_1595 0 rfl ?_
  refine x_iconst (1 : Int32) F dL_law_1597 (by decide) ?_
  refine x_iadd F dL_law_1598 ?_
  refine x_sld (k := 1) F hX rfl (by omega) hL dL_law_1599 ?_
  refine x_callV_i F (c_X12_count (xl X) (xg X) (xA X) F.2.2.1 h1) (bw_V bw_54_23 bw_55_0 bw_55_1 bw_1_5 bw_55_2) rfl cd_X12_count (Nat.le_of_ble_eq_true rfl) (Nat.le_of_ble_eq_true rfl) (kd_w (by decide) kz_176) rfl (cl_12 kz_176) rfl rfl (Nat.le_of_ble_eq_true rfl) dL_law_1600 (fun r2 s2 h2 => ?_)
  exact x_icmp_eq (tgt := 1608) F dL_law_1603 (by decide) (fun _ => K s2 h2.2) (fun c => absurd h2.1 c)
