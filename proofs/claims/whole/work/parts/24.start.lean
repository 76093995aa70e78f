/-! the start of the law's loop -/
def pM1 (L : Nat) (xs : Nat → Int32) : pm := i_L_law (pM0 L xs)
theorem law_of (hG : ∀ (L : Nat) (xs : Nat → Int32), pG (pM1 L xs)) (hm : ∀ (L : Nat) (xs : Nat → Int32), L ≤ 3072 → w_L_law_b (pM1 L xs) (fun x _ => x = 1)) : ∀ (nm : String) (L : Nat) (xs : Nat → Int32), L ≤ 3072 → PW (mL_law nm) 400 350 0 (pfr 4 [.ref 1]) [] (pM0 L xs) (fun r _ => r = some (.int 1)) := by
  intro nm L xs hL
  show PW (mL_law nm) 400 350 0 [.ref 1, .null, .null, .null] [] (pM0 L xs) _
  refine c_L_law_a rfl (PW.weak (c_L_law_b (hG L xs) (hm L xs hL)) ?_)
  rintro r M' ⟨-, x, rfl, -, rfl⟩
  rfl
/-- two memories with the same references and as many cells -/
def sNR (M M' : pm) : Prop := mN M = mN M' ∧ mR M = mR M'
theorem sn_I {M M' : pm} (h : sNR M M') (a k : Nat) (v v' : Int32) : sNR (sI M a k v) (sI M' a k v') := h
theorem sn_J {M M' : pm} (h : sNR M M') (a k : Nat) (v v' : Int64) : sNR (sJ M a k v) (sJ M' a k v') := h
theorem sn_R {M M' : pm} (h : sNR M M') (a k v : Nat) : sNR (sR M a k v) (sR M' a k v) := ⟨h.1, by funext b j; rw [mR_sR, mR_sR, h.2]⟩
theorem sn_nw {M M' : pm} (h : sNR M M') : sNR (nw M) (nw M') := ⟨by rw [mN_nw, mN_nw, h.1], by funext b j; rw [mR_nw, mR_nw, h.1, h.2]⟩
theorem mR_nm (M : pm) (N b j : Nat) : mR (nm M N) b j = if b = mN M + 3 then (if j < N then mN M + 4 + j else 0) else if mN M + 3 ≤ b ∧ b ≤ mN M + 3 + N then 0 else mR M b j := rfl
theorem sn_nm {M M' : pm} (h : sNR M M') (N : Nat) : sNR (nm M N) (nm M' N) := ⟨by rw [mN_nm, mN_nm, h.1], by funext b j; rw [mR_nm, mR_nm, h.1, h.2]⟩
theorem sn_u_X6_6_0 {M M' : pm} (h : sNR M M') : sNR (u_X6_6_0 M) (u_X6_6_0 M') := (sn_I (sn_I (sn_I (sn_I (sn_I (sn_I (sn_I (sn_I (sn_R (sn_nw (sn_R (sn_nw h) _ _ _)) _ _ _) _ _ _ _) _ _ _ _) _ _ _ _) _ _ _ _) _ _ _ _) _ _ _ _) _ _ _ _) _ _ _ _)
theorem sn_u_X6_6_1 {M M' : pm} (h : sNR M M') : sNR (u_X6_6_1 M) (u_X6_6_1 M') := (sn_I h _ _ _ _)
theorem sn_u_X6_6_2 {M M' : pm} (h : sNR M M') : sNR (u_X6_6_2 M) (u_X6_6_2 M') := (sn_I h _ _ _ _)
theorem sn_u_X6_6_3 {M M' : pm} (h : sNR M M') : sNR (u_X6_6_3 M) (u_X6_6_3 M') := (sn_I h _ _ _ _)
theorem sn_u_X6_6_4 {M M' : pm} (h : sNR M M') : sNR (u_X6_6_4 M) (u_X6_6_4 M') := (sn_I h _ _ _ _)
theorem sn_u_X6_6_5 {M M' : pm} (h : sNR M M') : sNR (u_X6_6_5 M) (u_X6_6_5 M') := (sn_I h _ _ _ _)
theorem sn_u_X6_6_6 {M M' : pm} (h : sNR M M') : sNR (u_X6_6_6 M) (u_X6_6_6 M') := (sn_I h _ _ _ _)
theorem sn_u_X6_6_7 {M M' : pm} (h : sNR M M') : sNR (u_X6_6_7 M) (u_X6_6_7 M') := (sn_I h _ _ _ _)
theorem sn_u_X6_6_8 {M M' : pm} (h : sNR M M') : sNR (u_X6_6_8 M) (u_X6_6_8 M') := (sn_I h _ _ _ _)
theorem sn_u_X6_6_9 {M M' : pm} (h : sNR M M') : sNR (u_X6_6_9 M) (u_X6_6_9 M') := (sn_I h _ _ _ _)
theorem sn_u_X6_6_10 {M M' : pm} (h : sNR M M') : sNR (u_X6_6_10 M) (u_X6_6_10 M') := (sn_I h _ _ _ _)
theorem sn_u_X6_6_11 {M M' : pm} (h : sNR M M') : sNR (u_X6_6_11 M) (u_X6_6_11 M') := (sn_I h _ _ _ _)
theorem sn_u_X6_6_12 {M M' : pm} (h : sNR M M') : sNR (u_X6_6_12 M) (u_X6_6_12 M') := (sn_I h _ _ _ _)
theorem sn_u_X6_6_13 {M M' : pm} (h : sNR M M') : sNR (u_X6_6_13 M) (u_X6_6_13 M') := (sn_I h _ _ _ _)
theorem sn_u_X6_6_14 {M M' : pm} (h : sNR M M') : sNR (u_X6_6_14 M) (u_X6_6_14 M') := (sn_I h _ _ _ _)
theorem sn_u_X6_6_15 {M M' : pm} (h : sNR M M') : sNR (u_X6_6_15 M) (u_X6_6_15 M') := (sn_I h _ _ _ _)
theorem sn_u_X6_6_16 {M M' : pm} (h : sNR M M') : sNR (u_X6_6_16 M) (u_X6_6_16 M') := (sn_I h _ _ _ _)
theorem sn_u_X6_6_17 {M M' : pm} (h : sNR M M') : sNR (u_X6_6_17 M) (u_X6_6_17 M') := (sn_I h _ _ _ _)
theorem sn_u_X6_6_18 {M M' : pm} (h : sNR M M') : sNR (u_X6_6_18 M) (u_X6_6_18 M') := (sn_I h _ _ _ _)
theorem sn_u_X6_6_19 {M M' : pm} (h : sNR M M') : sNR (u_X6_6_19 M) (u_X6_6_19 M') := (sn_I h _ _ _ _)
theorem sn_u_X6_6_20 {M M' : pm} (h : sNR M M') : sNR (u_X6_6_20 M) (u_X6_6_20 M') := (sn_I h _ _ _ _)
theorem sn_u_X6_6_21 {M M' : pm} (h : sNR M M') : sNR (u_X6_6_21 M) (u_X6_6_21 M') := (sn_I h _ _ _ _)
theorem sn_u_X6_6_22 {M M' : pm} (h : sNR M M') : sNR (u_X6_6_22 M) (u_X6_6_22 M') := (sn_I h _ _ _ _)
theorem sn_u_X6_6_23 {M M' : pm} (h : sNR M M') : sNR (u_X6_6_23 M) (u_X6_6_23 M') := (sn_I h _ _ _ _)
theorem sn_u_X6_6_24 {M M' : pm} (h : sNR M M') : sNR (u_X6_6_24 M) (u_X6_6_24 M') := (sn_I h _ _ _ _)
theorem sn_u_X6_6_25 {M M' : pm} (h : sNR M M') : sNR (u_X6_6_25 M) (u_X6_6_25 M') := (sn_I h _ _ _ _)
theorem sn_u_X6_6_26 {M M' : pm} (h : sNR M M') : sNR (u_X6_6_26 M) (u_X6_6_26 M') := (sn_I h _ _ _ _)
theorem sn_u_X6_6_27 {M M' : pm} (h : sNR M M') : sNR (u_X6_6_27 M) (u_X6_6_27 M') := (sn_I h _ _ _ _)
theorem sn_u_X6_6_28 {M M' : pm} (h : sNR M M') : sNR (u_X6_6_28 M) (u_X6_6_28 M') := (sn_I h _ _ _ _)
theorem sn_u_X6_6_29 {M M' : pm} (h : sNR M M') : sNR (u_X6_6_29 M) (u_X6_6_29 M') := (sn_I h _ _ _ _)
theorem sn_u_X6_6_30 {M M' : pm} (h : sNR M M') : sNR (u_X6_6_30 M) (u_X6_6_30 M') := (sn_I h _ _ _ _)
theorem sn_u_X6_6_31 {M M' : pm} (h : sNR M M') : sNR (u_X6_6_31 M) (u_X6_6_31 M') := (sn_I h _ _ _ _)
theorem sn_u_X6_6_32 {M M' : pm} (h : sNR M M') : sNR (u_X6_6_32 M) (u_X6_6_32 M') := (sn_I h _ _ _ _)
theorem sn_u_X6_6_33 {M M' : pm} (h : sNR M M') : sNR (u_X6_6_33 M) (u_X6_6_33 M') := (sn_I h _ _ _ _)
theorem sn_u_X6_6_34 {M M' : pm} (h : sNR M M') : sNR (u_X6_6_34 M) (u_X6_6_34 M') := h
theorem sn_i_X6_6 {M M' : pm} (h : sNR M M') : sNR (i_X6_6 M) (i_X6_6 M') := (sn_u_X6_6_34 (sn_u_X6_6_33 (sn_u_X6_6_32 (sn_u_X6_6_31 (sn_u_X6_6_30 (sn_u_X6_6_29 (sn_u_X6_6_28 (sn_u_X6_6_27 (sn_u_X6_6_26 (sn_u_X6_6_25 (sn_u_X6_6_24 (sn_u_X6_6_23 (sn_u_X6_6_22 (sn_u_X6_6_21 (sn_u_X6_6_20 (sn_u_X6_6_19 (sn_u_X6_6_18 (sn_u_X6_6_17 (sn_u_X6_6_16 (sn_u_X6_6_15 (sn_u_X6_6_14 (sn_u_X6_6_13 (sn_u_X6_6_12 (sn_u_X6_6_11 (sn_u_X6_6_10 (sn_u_X6_6_9 (sn_u_X6_6_8 (sn_u_X6_6_7 (sn_u_X6_6_6 (sn_u_X6_6_5 (sn_u_X6_6_4 (sn_u_X6_6_3 (sn_u_X6_6_2 (sn_u_X6_6_1 (sn_u_X6_6_0 h)))))))))))))))))))))))))))))))))))
theorem sn_u_X2_9_0 {M M' : pm} (h : sNR M M') : sNR (u_X2_9_0 M) (u_X2_9_0 M') := (sn_R (sn_nw (sn_R (sn_nw (sn_R (sn_nw (sn_I (sn_R (sn_nw h) _ _ _) _ _ _ _)) _ _ _)) _ _ _)) _ _ _)
theorem sn_i_X2_9 {M M' : pm} (h : sNR M M') : sNR (i_X2_9 M) (i_X2_9 M') := (sn_u_X2_9_0 h)
theorem sn_u_X3_5_0 {M M' : pm} (h : sNR M M') : sNR (u_X3_5_0 M) (u_X3_5_0 M') := (sn_i_X6_6 (sn_nw h))
theorem sn_u_X3_5_1 {M M' : pm} (h : sNR M M') : sNR (u_X3_5_1 M) (u_X3_5_1 M') := (sn_i_X2_9 (sn_nw (sn_R h _ _ _)))
theorem sn_u_X3_5_2 {M M' : pm} (h : sNR M M') : sNR (u_X3_5_2 M) (u_X3_5_2 M') := (sn_I (sn_I (sn_I (sn_R (sn_R h _ _ _) _ _ _) _ _ _ _) _ _ _ _) _ _ _ _)
theorem sn_i_X3_5 {M M' : pm} (h : sNR M M') : sNR (i_X3_5 M) (i_X3_5 M') := (sn_u_X3_5_2 (sn_u_X3_5_1 (sn_u_X3_5_0 h)))
theorem sn_u_X2_24_0 {M M' : pm} (h : sNR M M') : sNR (u_X2_24_0 M) (u_X2_24_0 M') := (sn_R (sn_nw (sn_R (sn_nw (sn_R (sn_nw (sn_I (sn_R (sn_nw h) _ _ _) _ _ _ _)) _ _ _)) _ _ _)) _ _ _)
theorem sn_i_X2_24 {M M' : pm} (h : sNR M M') : sNR (i_X2_24 M) (i_X2_24 M') := (sn_u_X2_24_0 h)
theorem sn_u_X5_14_0 {M M' : pm} (h : sNR M M') : sNR (u_X5_14_0 M) (u_X5_14_0 M') := (sn_R (sn_nw (sn_R (sn_nw (sn_R (sn_nw (sn_I (sn_R (sn_nw (sn_R (sn_nw (sn_R (sn_nw (sn_I (sn_I (sn_I (sn_I (sn_I h _ _ _ _) _ _ _ _) _ _ _ _) _ _ _ _) _ _ _ _)) _ _ _)) _ _ _)) _ _ _) _ _ _ _)) _ _ _)) _ _ _)) _ _ _)
theorem sn_u_X5_14_1 {M M' : pm} (h : sNR M M') : sNR (u_X5_14_1 M) (u_X5_14_1 M') := (sn_i_X2_24 (sn_nw (sn_R (sn_nw (sn_R (sn_nw (sn_I (sn_R (sn_nw h) _ _ _) _ _ _ _)) _ _ _)) _ _ _)))
theorem sn_u_X5_14_2 {M M' : pm} (h : sNR M M') : sNR (u_X5_14_2 M) (u_X5_14_2 M') := (sn_R h _ _ _)
theorem sn_i_X5_14 {M M' : pm} (h : sNR M M') : sNR (i_X5_14 M) (i_X5_14 M') := (sn_u_X5_14_2 (sn_u_X5_14_1 (sn_u_X5_14_0 h)))
theorem sn_u_X2_39_0 {M M' : pm} (h : sNR M M') : sNR (u_X2_39_0 M) (u_X2_39_0 M') := (sn_R (sn_nw (sn_R (sn_nw (sn_R (sn_nw (sn_I (sn_R (sn_nw h) _ _ _) _ _ _ _)) _ _ _)) _ _ _)) _ _ _)
theorem sn_i_X2_39 {M M' : pm} (h : sNR M M') : sNR (i_X2_39 M) (i_X2_39 M') := (sn_u_X2_39_0 h)
theorem sn_u_X5_29_0 {M M' : pm} (h : sNR M M') : sNR (u_X5_29_0 M) (u_X5_29_0 M') := (sn_R (sn_nw (sn_R (sn_nw (sn_R (sn_nw (sn_I (sn_R (sn_nw (sn_R (sn_nw (sn_R (sn_nw (sn_I (sn_I (sn_I (sn_I (sn_I h _ _ _ _) _ _ _ _) _ _ _ _) _ _ _ _) _ _ _ _)) _ _ _)) _ _ _)) _ _ _) _ _ _ _)) _ _ _)) _ _ _)) _ _ _)
theorem sn_u_X5_29_1 {M M' : pm} (h : sNR M M') : sNR (u_X5_29_1 M) (u_X5_29_1 M') := (sn_i_X2_39 (sn_nw (sn_R (sn_nw (sn_R (sn_nw (sn_I (sn_R (sn_nw h) _ _ _) _ _ _ _)) _ _ _)) _ _ _)))
theorem sn_u_X5_29_2 {M M' : pm} (h : sNR M M') : sNR (u_X5_29_2 M) (u_X5_29_2 M') := (sn_R h _ _ _)
theorem sn_i_X5_29 {M M' : pm} (h : sNR M M') : sNR (i_X5_29 M) (i_X5_29 M') := (sn_u_X5_29_2 (sn_u_X5_29_1 (sn_u_X5_29_0 h)))
theorem sn_u_X1_44_0 {M M' : pm} (h : sNR M M') : sNR (u_X1_44_0 M) (u_X1_44_0 M') := (sn_R (sn_nm (sn_R (sn_nw (sn_R (sn_nw (sn_R (sn_nw (sn_R (sn_nw (sn_R (sn_nw h) _ _ _)) _ _ _)) _ _ _)) _ _ _)) _ _ _) _) _ _ _)
theorem sn_i_X1_44 {M M' : pm} (h : sNR M M') : sNR (i_X1_44 M) (i_X1_44 M') := (sn_u_X1_44_0 h)
theorem sn_u_X4_57_0 {M M' : pm} (h : sNR M M') : sNR (u_X4_57_0 M) (u_X4_57_0 M') := (sn_R (sn_nw (sn_R (sn_nw (sn_R (sn_nw (sn_I (sn_R (sn_nw (sn_R (sn_nw (sn_R (sn_nw (sn_R (sn_nw (sn_R (sn_nw (sn_I (sn_I h _ _ _ _) _ _ _ _)) _ _ _)) _ _ _)) _ _ _)) _ _ _)) _ _ _) _ _ _ _)) _ _ _)) _ _ _)) _ _ _)
theorem sn_i_X4_57 {M M' : pm} (h : sNR M M') : sNR (i_X4_57 M) (i_X4_57 M') := (sn_u_X4_57_0 h)
theorem sn_u_X4_66_0 {M M' : pm} (h : sNR M M') : sNR (u_X4_66_0 M) (u_X4_66_0 M') := (sn_R (sn_nw (sn_R (sn_nw (sn_R (sn_nw (sn_I (sn_R (sn_nw (sn_R (sn_nw (sn_R (sn_nw (sn_R (sn_nw (sn_R (sn_nw (sn_I (sn_I h _ _ _ _) _ _ _ _)) _ _ _)) _ _ _)) _ _ _)) _ _ _)) _ _ _) _ _ _ _)) _ _ _)) _ _ _)) _ _ _)
theorem sn_i_X4_66 {M M' : pm} (h : sNR M M') : sNR (i_X4_66 M) (i_X4_66 M') := (sn_u_X4_66_0 h)
theorem sn_u_X4_77_0 {M M' : pm} (h : sNR M M') : sNR (u_X4_77_0 M) (u_X4_77_0 M') := (sn_R (sn_nw (sn_R (sn_nw (sn_R (sn_nw (sn_I (sn_R (sn_nw (sn_R (sn_nw (sn_R (sn_nw (sn_R (sn_nw (sn_R (sn_nw (sn_I (sn_I h _ _ _ _) _ _ _ _)) _ _ _)) _ _ _)) _ _ _)) _ _ _)) _ _ _) _ _ _ _)) _ _ _)) _ _ _)) _ _ _)
theorem sn_i_X4_77 {M M' : pm} (h : sNR M M') : sNR (i_X4_77 M) (i_X4_77 M') := (sn_u_X4_77_0 h)
theorem sn_u_X4_86_0 {M M' : pm} (h : sNR M M') : sNR (u_X4_86_0 M) (u_X4_86_0 M') := (sn_R (sn_nw (sn_R (sn_nw (sn_R (sn_nw (sn_I (sn_R (sn_nw (sn_R (sn_nw (sn_R (sn_nw (sn_R (sn_nw (sn_R (sn_nw (sn_I (sn_I h _ _ _ _) _ _ _ _)) _ _ _)) _ _ _)) _ _ _)) _ _ _)) _ _ _) _ _ _ _)) _ _ _)) _ _ _)) _ _ _)
theorem sn_i_X4_86 {M M' : pm} (h : sNR M M') : sNR (i_X4_86 M) (i_X4_86 M') := (sn_u_X4_86_0 h)
theorem sn_u_X4_95_0 {M M' : pm} (h : sNR M M') : sNR (u_X4_95_0 M) (u_X4_95_0 M') := (sn_R (sn_nw (sn_R (sn_nw (sn_R (sn_nw (sn_I (sn_R (sn_nw (sn_R (sn_nw (sn_R (sn_nw (sn_R (sn_nw (sn_R (sn_nw (sn_I (sn_I h _ _ _ _) _ _ _ _)) _ _ _)) _ _ _)) _ _ _)) _ _ _)) _ _ _) _ _ _ _)) _ _ _)) _ _ _)) _ _ _)
theorem sn_i_X4_95 {M M' : pm} (h : sNR M M') : sNR (i_X4_95 M) (i_X4_95 M') := (sn_u_X4_95_0 h)
theorem sn_u_X4_104_0 {M M' : pm} (h : sNR M M') : sNR (u_X4_104_0 M) (u_X4_104_0 M') := (sn_R (sn_nw (sn_R (sn_nw (sn_R (sn_nw (sn_I (sn_R (sn_nw (sn_R (sn_nw (sn_R (sn_nw (sn_R (sn_nw (sn_R (sn_nw (sn_I (sn_I h _ _ _ _) _ _ _ _)) _ _ _)) _ _ _)) _ _ _)) _ _ _)) _ _ _) _ _ _ _)) _ _ _)) _ _ _)) _ _ _)
theorem sn_i_X4_104 {M M' : pm} (h : sNR M M') : sNR (i_X4_104 M) (i_X4_104 M') := (sn_u_X4_104_0 h)
theorem sn_u_X4_113_0 {M M' : pm} (h : sNR M M') : sNR (u_X4_113_0 M) (u_X4_113_0 M') := (sn_R (sn_nw (sn_R (sn_nw (sn_R (sn_nw (sn_I (sn_R (sn_nw (sn_R (sn_nw (sn_R (sn_nw (sn_R (sn_nw (sn_R (sn_nw (sn_I (sn_I h _ _ _ _) _ _ _ _)) _ _ _)) _ _ _)) _ _ _)) _ _ _)) _ _ _) _ _ _ _)) _ _ _)) _ _ _)) _ _ _)
theorem sn_i_X4_113 {M M' : pm} (h : sNR M M') : sNR (i_X4_113 M) (i_X4_113 M') := (sn_u_X4_113_0 h)
theorem sn_u_X4_122_0 {M M' : pm} (h : sNR M M') : sNR (u_X4_122_0 M) (u_X4_122_0 M') := (sn_R (sn_nw (sn_R (sn_nw (sn_R (sn_nw (sn_I (sn_R (sn_nw (sn_R (sn_nw (sn_R (sn_nw (sn_R (sn_nw (sn_R (sn_nw (sn_I (sn_I h _ _ _ _) _ _ _ _)) _ _ _)) _ _ _)) _ _ _)) _ _ _)) _ _ _) _ _ _ _)) _ _ _)) _ _ _)) _ _ _)
theorem sn_i_X4_122 {M M' : pm} (h : sNR M M') : sNR (i_X4_122 M) (i_X4_122 M') := (sn_u_X4_122_0 h)
theorem sn_u_X4_131_0 {M M' : pm} (h : sNR M M') : sNR (u_X4_131_0 M) (u_X4_131_0 M') := (sn_R (sn_nw (sn_R (sn_nw (sn_R (sn_nw (sn_I (sn_R (sn_nw (sn_R (sn_nw (sn_R (sn_nw (sn_R (sn_nw (sn_R (sn_nw (sn_I (sn_I h _ _ _ _) _ _ _ _)) _ _ _)) _ _ _)) _ _ _)) _ _ _)) _ _ _) _ _ _ _)) _ _ _)) _ _ _)) _ _ _)
theorem sn_i_X4_131 {M M' : pm} (h : sNR M M') : sNR (i_X4_131 M) (i_X4_131 M') := (sn_u_X4_131_0 h)
theorem sn_u_X4_140_0 {M M' : pm} (h : sNR M M') : sNR (u_X4_140_0 M) (u_X4_140_0 M') := (sn_R (sn_nw (sn_R (sn_nw (sn_R (sn_nw (sn_I (sn_R (sn_nw (sn_R (sn_nw (sn_R (sn_nw (sn_R (sn_nw (sn_R (sn_nw (sn_I (sn_I h _ _ _ _) _ _ _ _)) _ _ _)) _ _ _)) _ _ _)) _ _ _)) _ _ _) _ _ _ _)) _ _ _)) _ _ _)) _ _ _)
theorem sn_i_X4_140 {M M' : pm} (h : sNR M M') : sNR (i_X4_140 M) (i_X4_140 M') := (sn_u_X4_140_0 h)
theorem sn_u_X4_149_0 {M M' : pm} (h : sNR M M') : sNR (u_X4_149_0 M) (u_X4_149_0 M') := (sn_R (sn_nw (sn_R (sn_nw (sn_R (sn_nw (sn_I (sn_R (sn_nw (sn_R (sn_nw (sn_R (sn_nw (sn_R (sn_nw (sn_R (sn_nw (sn_I (sn_I h _ _ _ _) _ _ _ _)) _ _ _)) _ _ _)) _ _ _)) _ _ _)) _ _ _) _ _ _ _)) _ _ _)) _ _ _)) _ _ _)
theorem sn_i_X4_149 {M M' : pm} (h : sNR M M') : sNR (i_X4_149 M) (i_X4_149 M') := (sn_u_X4_149_0 h)
theorem sn_u_X4_158_0 {M M' : pm} (h : sNR M M') : sNR (u_X4_158_0 M) (u_X4_158_0 M') := (sn_R (sn_nw (sn_R (sn_nw (sn_R (sn_nw (sn_I (sn_R (sn_nw (sn_R (sn_nw (sn_R (sn_nw (sn_R (sn_nw (sn_R (sn_nw (sn_I (sn_I h _ _ _ _) _ _ _ _)) _ _ _)) _ _ _)) _ _ _)) _ _ _)) _ _ _) _ _ _ _)) _ _ _)) _ _ _)) _ _ _)
theorem sn_i_X4_158 {M M' : pm} (h : sNR M M') : sNR (i_X4_158 M) (i_X4_158 M') := (sn_u_X4_158_0 h)
theorem sn_u_X4_167_0 {M M' : pm} (h : sNR M M') : sNR (u_X4_167_0 M) (u_X4_167_0 M') := (sn_R (sn_nw (sn_R (sn_nw (sn_R (sn_nw (sn_I (sn_R (sn_nw (sn_R (sn_nw (sn_R (sn_nw (sn_R (sn_nw (sn_R (sn_nw (sn_I (sn_I h _ _ _ _) _ _ _ _)) _ _ _)) _ _ _)) _ _ _)) _ _ _)) _ _ _) _ _ _ _)) _ _ _)) _ _ _)) _ _ _)
theorem sn_i_X4_167 {M M' : pm} (h : sNR M M') : sNR (i_X4_167 M) (i_X4_167 M') := (sn_u_X4_167_0 h)
theorem sn_u_X4_176_0 {M M' : pm} (h : sNR M M') : sNR (u_X4_176_0 M) (u_X4_176_0 M') := (sn_R (sn_nw (sn_R (sn_nw (sn_R (sn_nw (sn_I (sn_R (sn_nw (sn_R (sn_nw (sn_R (sn_nw (sn_R (sn_nw (sn_R (sn_nw (sn_I (sn_I h _ _ _ _) _ _ _ _)) _ _ _)) _ _ _)) _ _ _)) _ _ _)) _ _ _) _ _ _ _)) _ _ _)) _ _ _)) _ _ _)
theorem sn_i_X4_176 {M M' : pm} (h : sNR M M') : sNR (i_X4_176 M) (i_X4_176 M') := (sn_u_X4_176_0 h)
theorem sn_u_X4_185_0 {M M' : pm} (h : sNR M M') : sNR (u_X4_185_0 M) (u_X4_185_0 M') := (sn_R (sn_nw (sn_R (sn_nw (sn_R (sn_nw (sn_I (sn_R (sn_nw (sn_R (sn_nw (sn_R (sn_nw (sn_R (sn_nw (sn_R (sn_nw (sn_I (sn_I h _ _ _ _) _ _ _ _)) _ _ _)) _ _ _)) _ _ _)) _ _ _)) _ _ _) _ _ _ _)) _ _ _)) _ _ _)) _ _ _)
theorem sn_i_X4_185 {M M' : pm} (h : sNR M M') : sNR (i_X4_185 M) (i_X4_185 M') := (sn_u_X4_185_0 h)
theorem sn_u_X4_194_0 {M M' : pm} (h : sNR M M') : sNR (u_X4_194_0 M) (u_X4_194_0 M') := (sn_R (sn_nw (sn_R (sn_nw (sn_R (sn_nw (sn_I (sn_R (sn_nw (sn_R (sn_nw (sn_R (sn_nw (sn_R (sn_nw (sn_R (sn_nw (sn_I (sn_I h _ _ _ _) _ _ _ _)) _ _ _)) _ _ _)) _ _ _)) _ _ _)) _ _ _) _ _ _ _)) _ _ _)) _ _ _)) _ _ _)
theorem sn_i_X4_194 {M M' : pm} (h : sNR M M') : sNR (i_X4_194 M) (i_X4_194 M') := (sn_u_X4_194_0 h)
theorem sn_u_X4_203_0 {M M' : pm} (h : sNR M M') : sNR (u_X4_203_0 M) (u_X4_203_0 M') := (sn_R (sn_nw (sn_R (sn_nw (sn_R (sn_nw (sn_I (sn_R (sn_nw (sn_R (sn_nw (sn_R (sn_nw (sn_R (sn_nw (sn_R (sn_nw (sn_I (sn_I h _ _ _ _) _ _ _ _)) _ _ _)) _ _ _)) _ _ _)) _ _ _)) _ _ _) _ _ _ _)) _ _ _)) _ _ _)) _ _ _)
theorem sn_i_X4_203 {M M' : pm} (h : sNR M M') : sNR (i_X4_203 M) (i_X4_203 M') := (sn_u_X4_203_0 h)
theorem sn_u_X4_212_0 {M M' : pm} (h : sNR M M') : sNR (u_X4_212_0 M) (u_X4_212_0 M') := (sn_R (sn_nw (sn_R (sn_nw (sn_R (sn_nw (sn_I (sn_R (sn_nw (sn_R (sn_nw (sn_R (sn_nw (sn_R (sn_nw (sn_R (sn_nw (sn_I (sn_I h _ _ _ _) _ _ _ _)) _ _ _)) _ _ _)) _ _ _)) _ _ _)) _ _ _) _ _ _ _)) _ _ _)) _ _ _)) _ _ _)
theorem sn_i_X4_212 {M M' : pm} (h : sNR M M') : sNR (i_X4_212 M) (i_X4_212 M') := (sn_u_X4_212_0 h)
theorem sn_u_X4_221_0 {M M' : pm} (h : sNR M M') : sNR (u_X4_221_0 M) (u_X4_221_0 M') := (sn_R (sn_nw (sn_R (sn_nw (sn_R (sn_nw (sn_I (sn_R (sn_nw (sn_R (sn_nw (sn_R (sn_nw (sn_R (sn_nw (sn_R (sn_nw (sn_I (sn_I h _ _ _ _) _ _ _ _)) _ _ _)) _ _ _)) _ _ _)) _ _ _)) _ _ _) _ _ _ _)) _ _ _)) _ _ _)) _ _ _)
theorem sn_i_X4_221 {M M' : pm} (h : sNR M M') : sNR (i_X4_221 M) (i_X4_221 M') := (sn_u_X4_221_0 h)
theorem sn_u_X4_230_0 {M M' : pm} (h : sNR M M') : sNR (u_X4_230_0 M) (u_X4_230_0 M') := (sn_R (sn_nw (sn_R (sn_nw (sn_R (sn_nw (sn_I (sn_R (sn_nw (sn_R (sn_nw (sn_R (sn_nw (sn_R (sn_nw (sn_R (sn_nw (sn_I (sn_I h _ _ _ _) _ _ _ _)) _ _ _)) _ _ _)) _ _ _)) _ _ _)) _ _ _) _ _ _ _)) _ _ _)) _ _ _)) _ _ _)
theorem sn_i_X4_230 {M M' : pm} (h : sNR M M') : sNR (i_X4_230 M) (i_X4_230 M') := (sn_u_X4_230_0 h)
theorem sn_u_X4_239_0 {M M' : pm} (h : sNR M M') : sNR (u_X4_239_0 M) (u_X4_239_0 M') := (sn_R (sn_nw (sn_R (sn_nw (sn_R (sn_nw (sn_I (sn_R (sn_nw (sn_R (sn_nw (sn_R (sn_nw (sn_R (sn_nw (sn_R (sn_nw (sn_I (sn_I h _ _ _ _) _ _ _ _)) _ _ _)) _ _ _)) _ _ _)) _ _ _)) _ _ _) _ _ _ _)) _ _ _)) _ _ _)) _ _ _)
theorem sn_i_X4_239 {M M' : pm} (h : sNR M M') : sNR (i_X4_239 M) (i_X4_239 M') := (sn_u_X4_239_0 h)
theorem sn_u_X4_248_0 {M M' : pm} (h : sNR M M') : sNR (u_X4_248_0 M) (u_X4_248_0 M') := (sn_R (sn_nw (sn_R (sn_nw (sn_R (sn_nw (sn_I (sn_R (sn_nw (sn_R (sn_nw (sn_R (sn_nw (sn_R (sn_nw (sn_R (sn_nw (sn_I (sn_I h _ _ _ _) _ _ _ _)) _ _ _)) _ _ _)) _ _ _)) _ _ _)) _ _ _) _ _ _ _)) _ _ _)) _ _ _)) _ _ _)
theorem sn_i_X4_248 {M M' : pm} (h : sNR M M') : sNR (i_X4_248 M) (i_X4_248 M') := (sn_u_X4_248_0 h)
theorem sn_u_X0_75_0 {M M' : pm} (h : sNR M M') : sNR (u_X0_75_0 M) (u_X0_75_0 M') := (sn_i_X4_77 (sn_nw (sn_I (sn_R (sn_nw h) _ _ _) _ _ _ _)))
theorem sn_u_X0_75_1 {M M' : pm} (h : sNR M M') : sNR (u_X0_75_1 M) (u_X0_75_1 M') := (sn_R h _ _ _)
theorem sn_u_X0_75_2 {M M' : pm} (h : sNR M M') : sNR (u_X0_75_2 M) (u_X0_75_2 M') := (sn_i_X4_86 (sn_nw h))
theorem sn_u_X0_75_3 {M M' : pm} (h : sNR M M') : sNR (u_X0_75_3 M) (u_X0_75_3 M') := (sn_R h _ _ _)
theorem sn_u_X0_75_4 {M M' : pm} (h : sNR M M') : sNR (u_X0_75_4 M) (u_X0_75_4 M') := (sn_i_X4_95 (sn_nw h))
theorem sn_u_X0_75_5 {M M' : pm} (h : sNR M M') : sNR (u_X0_75_5 M) (u_X0_75_5 M') := (sn_R h _ _ _)
theorem sn_u_X0_75_6 {M M' : pm} (h : sNR M M') : sNR (u_X0_75_6 M) (u_X0_75_6 M') := (sn_i_X4_104 (sn_nw h))
theorem sn_u_X0_75_7 {M M' : pm} (h : sNR M M') : sNR (u_X0_75_7 M) (u_X0_75_7 M') := (sn_R h _ _ _)
theorem sn_u_X0_75_8 {M M' : pm} (h : sNR M M') : sNR (u_X0_75_8 M) (u_X0_75_8 M') := (sn_i_X4_113 (sn_nw h))
theorem sn_u_X0_75_9 {M M' : pm} (h : sNR M M') : sNR (u_X0_75_9 M) (u_X0_75_9 M') := (sn_R h _ _ _)
theorem sn_u_X0_75_10 {M M' : pm} (h : sNR M M') : sNR (u_X0_75_10 M) (u_X0_75_10 M') := (sn_i_X4_122 (sn_nw h))
theorem sn_u_X0_75_11 {M M' : pm} (h : sNR M M') : sNR (u_X0_75_11 M) (u_X0_75_11 M') := (sn_R h _ _ _)
theorem sn_u_X0_75_12 {M M' : pm} (h : sNR M M') : sNR (u_X0_75_12 M) (u_X0_75_12 M') := (sn_i_X4_131 (sn_nw h))
theorem sn_u_X0_75_13 {M M' : pm} (h : sNR M M') : sNR (u_X0_75_13 M) (u_X0_75_13 M') := (sn_R h _ _ _)
theorem sn_u_X0_75_14 {M M' : pm} (h : sNR M M') : sNR (u_X0_75_14 M) (u_X0_75_14 M') := (sn_i_X4_140 (sn_nw h))
theorem sn_u_X0_75_15 {M M' : pm} (h : sNR M M') : sNR (u_X0_75_15 M) (u_X0_75_15 M') := (sn_R h _ _ _)
theorem sn_u_X0_75_16 {M M' : pm} (h : sNR M M') : sNR (u_X0_75_16 M) (u_X0_75_16 M') := (sn_i_X4_149 (sn_nw h))
theorem sn_u_X0_75_17 {M M' : pm} (h : sNR M M') : sNR (u_X0_75_17 M) (u_X0_75_17 M') := (sn_R h _ _ _)
theorem sn_u_X0_75_18 {M M' : pm} (h : sNR M M') : sNR (u_X0_75_18 M) (u_X0_75_18 M') := (sn_i_X4_158 (sn_nw h))
theorem sn_u_X0_75_19 {M M' : pm} (h : sNR M M') : sNR (u_X0_75_19 M) (u_X0_75_19 M') := (sn_R h _ _ _)
theorem sn_u_X0_75_20 {M M' : pm} (h : sNR M M') : sNR (u_X0_75_20 M) (u_X0_75_20 M') := (sn_i_X4_167 (sn_nw h))
theorem sn_u_X0_75_21 {M M' : pm} (h : sNR M M') : sNR (u_X0_75_21 M) (u_X0_75_21 M') := (sn_R h _ _ _)
theorem sn_u_X0_75_22 {M M' : pm} (h : sNR M M') : sNR (u_X0_75_22 M) (u_X0_75_22 M') := (sn_i_X4_176 (sn_nw h))
theorem sn_u_X0_75_23 {M M' : pm} (h : sNR M M') : sNR (u_X0_75_23 M) (u_X0_75_23 M') := (sn_R h _ _ _)
theorem sn_u_X0_75_24 {M M' : pm} (h : sNR M M') : sNR (u_X0_75_24 M) (u_X0_75_24 M') := (sn_i_X4_185 (sn_nw h))
theorem sn_u_X0_75_25 {M M' : pm} (h : sNR M M') : sNR (u_X0_75_25 M) (u_X0_75_25 M') := (sn_R h _ _ _)
theorem sn_u_X0_75_26 {M M' : pm} (h : sNR M M') : sNR (u_X0_75_26 M) (u_X0_75_26 M') := (sn_i_X4_194 (sn_nw h))
theorem sn_u_X0_75_27 {M M' : pm} (h : sNR M M') : sNR (u_X0_75_27 M) (u_X0_75_27 M') := (sn_R h _ _ _)
theorem sn_u_X0_75_28 {M M' : pm} (h : sNR M M') : sNR (u_X0_75_28 M) (u_X0_75_28 M') := (sn_i_X4_203 (sn_nw h))
theorem sn_u_X0_75_29 {M M' : pm} (h : sNR M M') : sNR (u_X0_75_29 M) (u_X0_75_29 M') := (sn_R h _ _ _)
theorem sn_u_X0_75_30 {M M' : pm} (h : sNR M M') : sNR (u_X0_75_30 M) (u_X0_75_30 M') := (sn_i_X4_212 (sn_nw h))
theorem sn_u_X0_75_31 {M M' : pm} (h : sNR M M') : sNR (u_X0_75_31 M) (u_X0_75_31 M') := (sn_R h _ _ _)
theorem sn_u_X0_75_32 {M M' : pm} (h : sNR M M') : sNR (u_X0_75_32 M) (u_X0_75_32 M') := (sn_i_X4_221 (sn_nw h))
theorem sn_u_X0_75_33 {M M' : pm} (h : sNR M M') : sNR (u_X0_75_33 M) (u_X0_75_33 M') := (sn_R h _ _ _)
theorem sn_u_X0_75_34 {M M' : pm} (h : sNR M M') : sNR (u_X0_75_34 M) (u_X0_75_34 M') := (sn_i_X4_230 (sn_nw h))
theorem sn_u_X0_75_35 {M M' : pm} (h : sNR M M') : sNR (u_X0_75_35 M) (u_X0_75_35 M') := (sn_R h _ _ _)
theorem sn_u_X0_75_36 {M M' : pm} (h : sNR M M') : sNR (u_X0_75_36 M) (u_X0_75_36 M') := (sn_i_X4_239 (sn_nw h))
theorem sn_u_X0_75_37 {M M' : pm} (h : sNR M M') : sNR (u_X0_75_37 M) (u_X0_75_37 M') := (sn_R h _ _ _)
theorem sn_u_X0_75_38 {M M' : pm} (h : sNR M M') : sNR (u_X0_75_38 M) (u_X0_75_38 M') := (sn_i_X4_248 (sn_nw h))
theorem sn_u_X0_75_39 {M M' : pm} (h : sNR M M') : sNR (u_X0_75_39 M) (u_X0_75_39 M') := (sn_R h _ _ _)
theorem sn_u_X0_75_40 {M M' : pm} (h : sNR M M') : sNR (u_X0_75_40 M) (u_X0_75_40 M') := h
theorem sn_i_X0_75 {M M' : pm} (h : sNR M M') : sNR (i_X0_75 M) (i_X0_75 M') := (sn_u_X0_75_40 (sn_u_X0_75_39 (sn_u_X0_75_38 (sn_u_X0_75_37 (sn_u_X0_75_36 (sn_u_X0_75_35 (sn_u_X0_75_34 (sn_u_X0_75_33 (sn_u_X0_75_32 (sn_u_X0_75_31 (sn_u_X0_75_30 (sn_u_X0_75_29 (sn_u_X0_75_28 (sn_u_X0_75_27 (sn_u_X0_75_26 (sn_u_X0_75_25 (sn_u_X0_75_24 (sn_u_X0_75_23 (sn_u_X0_75_22 (sn_u_X0_75_21 (sn_u_X0_75_20 (sn_u_X0_75_19 (sn_u_X0_75_18 (sn_u_X0_75_17 (sn_u_X0_75_16 (sn_u_X0_75_15 (sn_u_X0_75_14 (sn_u_X0_75_13 (sn_u_X0_75_12 (sn_u_X0_75_11 (sn_u_X0_75_10 (sn_u_X0_75_9 (sn_u_X0_75_8 (sn_u_X0_75_7 (sn_u_X0_75_6 (sn_u_X0_75_5 (sn_u_X0_75_4 (sn_u_X0_75_3 (sn_u_X0_75_2 (sn_u_X0_75_1 (sn_u_X0_75_0 h)))))))))))))))))))))))))))))))))))))))))
theorem sn_u_X7_3_0 {M M' : pm} (h : sNR M M') : sNR (u_X7_3_0 M) (u_X7_3_0 M') := (sn_i_X3_5 (sn_nw (sn_I (sn_R (sn_nw h) _ _ _) _ _ _ _)))
theorem sn_u_X7_3_1 {M M' : pm} (h : sNR M M') : sNR (u_X7_3_1 M) (u_X7_3_1 M') := (sn_i_X5_14 (sn_nw (sn_R h _ _ _)))
theorem sn_u_X7_3_2 {M M' : pm} (h : sNR M M') : sNR (u_X7_3_2 M) (u_X7_3_2 M') := (sn_i_X5_29 (sn_nw (sn_R h _ _ _)))
theorem sn_u_X7_3_3 {M M' : pm} (h : sNR M M') : sNR (u_X7_3_3 M) (u_X7_3_3 M') := (sn_i_X1_44 (sn_nw (sn_I (sn_I (sn_I (sn_R h _ _ _) _ _ _ _) _ _ _ _) _ _ _ _)))
theorem sn_u_X7_3_4 {M M' : pm} (h : sNR M M') : sNR (u_X7_3_4 M) (u_X7_3_4 M') := (sn_i_X4_57 (sn_nw (sn_R h _ _ _)))
theorem sn_u_X7_3_5 {M M' : pm} (h : sNR M M') : sNR (u_X7_3_5 M) (u_X7_3_5 M') := (sn_i_X4_66 (sn_nw (sn_R h _ _ _)))
theorem sn_u_X7_3_6 {M M' : pm} (h : sNR M M') : sNR (u_X7_3_6 M) (u_X7_3_6 M') := (sn_i_X0_75 (sn_nw (sn_R h _ _ _)))
theorem sn_u_X7_3_7 {M M' : pm} (h : sNR M M') : sNR (u_X7_3_7 M) (u_X7_3_7 M') := (sn_I (sn_R (sn_nw (sn_I (sn_R (sn_nw (sn_R (sn_nw (sn_I (sn_R (sn_nm (sn_R h _ _ _) _) _ _ _) _ _ _ _)) _ _ _)) _ _ _) _ _ _ _)) _ _ _) _ _ _ _)
theorem sn_i_X7_3 {M M' : pm} (h : sNR M M') : sNR (i_X7_3 M) (i_X7_3 M') := (sn_u_X7_3_7 (sn_u_X7_3_6 (sn_u_X7_3_5 (sn_u_X7_3_4 (sn_u_X7_3_3 (sn_u_X7_3_2 (sn_u_X7_3_1 (sn_u_X7_3_0 h))))))))
theorem sn_u_X8_277_0 {M M' : pm} (h : sNR M M') : sNR (u_X8_277_0 M) (u_X8_277_0 M') := (sn_R (sn_I (sn_I (sn_I (sn_I (sn_nw (sn_R (sn_I (sn_I (sn_I (sn_I (sn_nw (sn_R (sn_nw (sn_I (sn_R (sn_nw h) _ _ _) _ _ _ _)) _ _ _)) _ _ _ _) _ _ _ _) _ _ _ _) _ _ _ _) _ _ _)) _ _ _ _) _ _ _ _) _ _ _ _) _ _ _ _) _ _ _)
theorem sn_u_X8_277_1 {M M' : pm} (h : sNR M M') : sNR (u_X8_277_1 M) (u_X8_277_1 M') := (sn_R (sn_I (sn_I (sn_I (sn_I (sn_I (sn_nw (sn_R (sn_I (sn_I (sn_I (sn_I (sn_nw h) _ _ _ _) _ _ _ _) _ _ _ _) _ _ _ _) _ _ _)) _ _ _ _) _ _ _ _) _ _ _ _) _ _ _ _) _ _ _ _) _ _ _)
theorem sn_u_X8_277_2 {M M' : pm} (h : sNR M M') : sNR (u_X8_277_2 M) (u_X8_277_2 M') := (sn_R (sn_I (sn_I (sn_I (sn_I (sn_I (sn_nw (sn_R (sn_I (sn_I (sn_I (sn_I (sn_I (sn_nw h) _ _ _ _) _ _ _ _) _ _ _ _) _ _ _ _) _ _ _ _) _ _ _)) _ _ _ _) _ _ _ _) _ _ _ _) _ _ _ _) _ _ _ _) _ _ _)
theorem sn_u_X8_277_3 {M M' : pm} (h : sNR M M') : sNR (u_X8_277_3 M) (u_X8_277_3 M') := (sn_R (sn_I (sn_I (sn_I (sn_I (sn_I (sn_nw (sn_R (sn_I (sn_I (sn_I (sn_I (sn_nw h) _ _ _ _) _ _ _ _) _ _ _ _) _ _ _ _) _ _ _)) _ _ _ _) _ _ _ _) _ _ _ _) _ _ _ _) _ _ _ _) _ _ _)
theorem sn_u_X8_277_4 {M M' : pm} (h : sNR M M') : sNR (u_X8_277_4 M) (u_X8_277_4 M') := (sn_R (sn_I (sn_I (sn_I (sn_I (sn_I (sn_nw (sn_R (sn_I (sn_I (sn_I (sn_I (sn_I (sn_nw (sn_R (sn_I (sn_I (sn_I (sn_nw h) _ _ _ _) _ _ _ _) _ _ _ _) _ _ _)) _ _ _ _) _ _ _ _) _ _ _ _) _ _ _ _) _ _ _ _) _ _ _)) _ _ _ _) _ _ _ _) _ _ _ _) _ _ _ _) _ _ _ _) _ _ _)
theorem sn_u_X8_277_5 {M M' : pm} (h : sNR M M') : sNR (u_X8_277_5 M) (u_X8_277_5 M') := (sn_R (sn_I (sn_I (sn_I (sn_I (sn_I (sn_nw (sn_R (sn_I (sn_I (sn_I (sn_I (sn_I (sn_nw h) _ _ _ _) _ _ _ _) _ _ _ _) _ _ _ _) _ _ _ _) _ _ _)) _ _ _ _) _ _ _ _) _ _ _ _) _ _ _ _) _ _ _ _) _ _ _)
theorem sn_u_X8_277_6 {M M' : pm} (h : sNR M M') : sNR (u_X8_277_6 M) (u_X8_277_6 M') := (sn_R (sn_I (sn_I (sn_I (sn_nw (sn_R (sn_I (sn_I (sn_I (sn_I (sn_nw (sn_R (sn_I (sn_I (sn_I (sn_I (sn_nw h) _ _ _ _) _ _ _ _) _ _ _ _) _ _ _ _) _ _ _)) _ _ _ _) _ _ _ _) _ _ _ _) _ _ _ _) _ _ _)) _ _ _ _) _ _ _ _) _ _ _ _) _ _ _)
theorem sn_u_X8_277_7 {M M' : pm} (h : sNR M M') : sNR (u_X8_277_7 M) (u_X8_277_7 M') := (sn_R (sn_I (sn_I (sn_I (sn_I (sn_I (sn_I (sn_nw (sn_R (sn_I (sn_I (sn_I (sn_I (sn_I (sn_nw h) _ _ _ _) _ _ _ _) _ _ _ _) _ _ _ _) _ _ _ _) _ _ _)) _ _ _ _) _ _ _ _) _ _ _ _) _ _ _ _) _ _ _ _) _ _ _ _) _ _ _)
theorem sn_u_X8_277_8 {M M' : pm} (h : sNR M M') : sNR (u_X8_277_8 M) (u_X8_277_8 M') := (sn_R (sn_I (sn_I (sn_I (sn_I (sn_I (sn_I (sn_nw (sn_R (sn_I (sn_I (sn_I (sn_nw h) _ _ _ _) _ _ _ _) _ _ _ _) _ _ _)) _ _ _ _) _ _ _ _) _ _ _ _) _ _ _ _) _ _ _ _) _ _ _ _) _ _ _)
theorem sn_u_X8_277_9 {M M' : pm} (h : sNR M M') : sNR (u_X8_277_9 M) (u_X8_277_9 M') := (sn_R (sn_I (sn_I (sn_nw (sn_R (sn_I (sn_I (sn_nw (sn_R (sn_I (sn_I (sn_I (sn_I (sn_I (sn_nw h) _ _ _ _) _ _ _ _) _ _ _ _) _ _ _ _) _ _ _ _) _ _ _)) _ _ _ _) _ _ _ _) _ _ _)) _ _ _ _) _ _ _ _) _ _ _)
theorem sn_u_X8_277_10 {M M' : pm} (h : sNR M M') : sNR (u_X8_277_10 M) (u_X8_277_10 M') := (sn_R (sn_I (sn_I (sn_I (sn_nw (sn_R (sn_I (sn_I (sn_I (sn_nw (sn_R (sn_I (sn_I (sn_I (sn_nw h) _ _ _ _) _ _ _ _) _ _ _ _) _ _ _)) _ _ _ _) _ _ _ _) _ _ _ _) _ _ _)) _ _ _ _) _ _ _ _) _ _ _ _) _ _ _)
theorem sn_u_X8_277_11 {M M' : pm} (h : sNR M M') : sNR (u_X8_277_11 M) (u_X8_277_11 M') := (sn_R (sn_nw (sn_R (sn_nw (sn_R (sn_nw (sn_R (sn_I (sn_I (sn_I (sn_nw (sn_R (sn_I (sn_I (sn_I (sn_nw h) _ _ _ _) _ _ _ _) _ _ _ _) _ _ _)) _ _ _ _) _ _ _ _) _ _ _ _) _ _ _)) _ _ _)) _ _ _)) _ _ _)
theorem sn_u_X8_277_12 {M M' : pm} (h : sNR M M') : sNR (u_X8_277_12 M) (u_X8_277_12 M') := (sn_R (sn_nw (sn_R (sn_I (sn_I (sn_I (sn_I (sn_I (sn_I (sn_nw (sn_R (sn_nw (sn_R (sn_nw (sn_R (sn_nw h) _ _ _)) _ _ _)) _ _ _)) _ _ _ _) _ _ _ _) _ _ _ _) _ _ _ _) _ _ _ _) _ _ _ _) _ _ _)) _ _ _)
theorem sn_u_X8_277_13 {M M' : pm} (h : sNR M M') : sNR (u_X8_277_13 M) (u_X8_277_13 M') := (sn_J (sn_R (sn_nw (sn_R (sn_nw (sn_R (sn_nw (sn_R (sn_nw (sn_R (sn_nw (sn_R (sn_nw (sn_R (sn_nw (sn_R (sn_nw (sn_R (sn_nw (sn_R (sn_nw h) _ _ _)) _ _ _)) _ _ _)) _ _ _)) _ _ _)) _ _ _)) _ _ _)) _ _ _)) _ _ _)) _ _ _) _ _ _ _)
theorem sn_u_X8_277_14 {M M' : pm} (h : sNR M M') : sNR (u_X8_277_14 M) (u_X8_277_14 M') := (sn_R (sn_I (sn_I (sn_I (sn_I (sn_nw (sn_R (sn_I (sn_I (sn_I (sn_I (sn_I (sn_nw h) _ _ _ _) _ _ _ _) _ _ _ _) _ _ _ _) _ _ _ _) _ _ _)) _ _ _ _) _ _ _ _) _ _ _ _) _ _ _ _) _ _ _)
theorem sn_u_X8_277_15 {M M' : pm} (h : sNR M M') : sNR (u_X8_277_15 M) (u_X8_277_15 M') := (sn_R (sn_I (sn_I (sn_I (sn_I (sn_I (sn_nw (sn_R (sn_I (sn_I (sn_I (sn_I (sn_I (sn_nw h) _ _ _ _) _ _ _ _) _ _ _ _) _ _ _ _) _ _ _ _) _ _ _)) _ _ _ _) _ _ _ _) _ _ _ _) _ _ _ _) _ _ _ _) _ _ _)
theorem sn_u_X8_277_16 {M M' : pm} (h : sNR M M') : sNR (u_X8_277_16 M) (u_X8_277_16 M') := (sn_R (sn_I (sn_I (sn_I (sn_I (sn_I (sn_nw (sn_R (sn_I (sn_I (sn_I (sn_I (sn_nw h) _ _ _ _) _ _ _ _) _ _ _ _) _ _ _ _) _ _ _)) _ _ _ _) _ _ _ _) _ _ _ _) _ _ _ _) _ _ _ _) _ _ _)
theorem sn_u_X8_277_17 {M M' : pm} (h : sNR M M') : sNR (u_X8_277_17 M) (u_X8_277_17 M') := (sn_R (sn_I (sn_I (sn_nw (sn_R (sn_I (sn_I (sn_I (sn_nw (sn_R (sn_I (sn_I (sn_I (sn_nw h) _ _ _ _) _ _ _ _) _ _ _ _) _ _ _)) _ _ _ _) _ _ _ _) _ _ _ _) _ _ _)) _ _ _ _) _ _ _ _) _ _ _)
theorem sn_u_X8_277_18 {M M' : pm} (h : sNR M M') : sNR (u_X8_277_18 M) (u_X8_277_18 M') := (sn_R (sn_I (sn_I (sn_I (sn_nw (sn_R (sn_I (sn_I (sn_I (sn_nw (sn_R (sn_I (sn_I (sn_I (sn_nw h) _ _ _ _) _ _ _ _) _ _ _ _) _ _ _)) _ _ _ _) _ _ _ _) _ _ _ _) _ _ _)) _ _ _ _) _ _ _ _) _ _ _ _) _ _ _)
theorem sn_u_X8_277_19 {M M' : pm} (h : sNR M M') : sNR (u_X8_277_19 M) (u_X8_277_19 M') := (sn_R (sn_I (sn_I (sn_I (sn_I (sn_I (sn_nw (sn_R (sn_I (sn_I (sn_I (sn_nw (sn_R (sn_I (sn_I (sn_I (sn_I (sn_I (sn_nw h) _ _ _ _) _ _ _ _) _ _ _ _) _ _ _ _) _ _ _ _) _ _ _)) _ _ _ _) _ _ _ _) _ _ _ _) _ _ _)) _ _ _ _) _ _ _ _) _ _ _ _) _ _ _ _) _ _ _ _) _ _ _)
theorem sn_u_X8_277_20 {M M' : pm} (h : sNR M M') : sNR (u_X8_277_20 M) (u_X8_277_20 M') := (sn_R (sn_I (sn_I (sn_I (sn_nw (sn_R (sn_I (sn_I (sn_I (sn_I (sn_I (sn_I (sn_nw h) _ _ _ _) _ _ _ _) _ _ _ _) _ _ _ _) _ _ _ _) _ _ _ _) _ _ _)) _ _ _ _) _ _ _ _) _ _ _ _) _ _ _)
theorem sn_u_X8_277_21 {M M' : pm} (h : sNR M M') : sNR (u_X8_277_21 M) (u_X8_277_21 M') := (sn_R (sn_I (sn_I (sn_I (sn_I (sn_I (sn_nw (sn_R (sn_I (sn_I (sn_I (sn_I (sn_nw h) _ _ _ _) _ _ _ _) _ _ _ _) _ _ _ _) _ _ _)) _ _ _ _) _ _ _ _) _ _ _ _) _ _ _ _) _ _ _ _) _ _ _)
theorem sn_u_X8_277_22 {M M' : pm} (h : sNR M M') : sNR (u_X8_277_22 M) (u_X8_277_22 M') := (sn_R (sn_I (sn_I (sn_I (sn_I (sn_I (sn_nw (sn_R (sn_I (sn_I (sn_I (sn_I (sn_I (sn_I (sn_nw h) _ _ _ _) _ _ _ _) _ _ _ _) _ _ _ _) _ _ _ _) _ _ _ _) _ _ _)) _ _ _ _) _ _ _ _) _ _ _ _) _ _ _ _) _ _ _ _) _ _ _)
theorem sn_u_X8_277_23 {M M' : pm} (h : sNR M M') : sNR (u_X8_277_23 M) (u_X8_277_23 M') := (sn_R (sn_nw (sn_R (sn_nw (sn_R (sn_I (sn_I (sn_I (sn_I (sn_I (sn_nw (sn_R (sn_I (sn_I (sn_nw h) _ _ _ _) _ _ _ _) _ _ _)) _ _ _ _) _ _ _ _) _ _ _ _) _ _ _ _) _ _ _ _) _ _ _)) _ _ _)) _ _ _)
theorem sn_u_X8_277_24 {M M' : pm} (h : sNR M M') : sNR (u_X8_277_24 M) (u_X8_277_24 M') := (sn_R (sn_nw (sn_R (sn_nw h) _ _ _)) _ _ _)
theorem sn_i_X8_277 {M M' : pm} (h : sNR M M') : sNR (i_X8_277 M) (i_X8_277 M') := (sn_u_X8_277_24 (sn_u_X8_277_23 (sn_u_X8_277_22 (sn_u_X8_277_21 (sn_u_X8_277_20 (sn_u_X8_277_19 (sn_u_X8_277_18 (sn_u_X8_277_17 (sn_u_X8_277_16 (sn_u_X8_277_15 (sn_u_X8_277_14 (sn_u_X8_277_13 (sn_u_X8_277_12 (sn_u_X8_277_11 (sn_u_X8_277_10 (sn_u_X8_277_9 (sn_u_X8_277_8 (sn_u_X8_277_7 (sn_u_X8_277_6 (sn_u_X8_277_5 (sn_u_X8_277_4 (sn_u_X8_277_3 (sn_u_X8_277_2 (sn_u_X8_277_1 (sn_u_X8_277_0 h)))))))))))))))))))))))))
theorem sn_u_L_law_0 {M M' : pm} (h : sNR M M') : sNR (u_L_law_0 M) (u_L_law_0 M') := (sn_i_X7_3 (sn_nw h))
theorem sn_u_L_law_1 {M M' : pm} (h : sNR M M') : sNR (u_L_law_1 M) (u_L_law_1 M') := (sn_i_X8_277 (sn_nw h))
theorem sn_u_L_law_2 {M M' : pm} (h : sNR M M') : sNR (u_L_law_2 M) (u_L_law_2 M') := h
theorem sn_i_L_law {M M' : pm} (h : sNR M M') : sNR (i_L_law M) (i_L_law M') := (sn_u_L_law_2 (sn_u_L_law_1 (sn_u_L_law_0 h)))
def pM2 : pm := i_L_law (pM0 0 (fun _ => 0))
theorem pM1_R (L : Nat) (xs : Nat → Int32) : sNR (pM1 L xs) pM2 := sn_i_L_law ⟨rfl, rfl⟩
def offL : Nat → List (Nat × Nat)
  | 0 => [(0, 1)]
  | 1 => [(0, 1), (1, 2), (2, 3), (3, 4), (4, 5), (5, 6)]
  | 2 => [(0, 1), (2, 2), (3, 3), (4, 4)]
  | 3 => [(0, 1), (1, 4)]
  | 4 => [(2, 1), (3, 2), (4, 3), (5, 4), (6, 5), (8, 6), (9, 7), (10, 8)]
  | 5 => [(5, 1), (6, 2), (7, 3), (9, 4), (10, 5), (11, 6), (12, 7), (14, 8), (15, 9), (16, 10)]
  | 6 => [(0, 1)]
  | 7 => [(0, 1), (2, 2), (8, 41), (9, 54), (10, 63), (11, 72), (12, 254), (14, 271), (15, 272), (17, 273)]
  | 8 => [(0, 1), (9, 2), (10, 3), (11, 4), (12, 5), (13, 6), (14, 7), (15, 8), (16, 9), (17, 10), (18, 11), (19, 12), (20, 13), (21, 14), (22, 15), (23, 16), (24, 17), (25, 18), (26, 19), (27, 20), (28, 21), (29, 22), (30, 23), (31, 24), (32, 25), (33, 26), (34, 27), (35, 28), (36, 29), (37, 30), (39, 31), (40, 32), (41, 33), (42, 34), (43, 35), (44, 36), (45, 37), (46, 38), (47, 39), (52, 40), (53, 41), (55, 42), (60, 43), (61, 44), (64, 45), (65, 46), (66, 47), (68, 48), (72, 49), (73, 50), (74, 51), (75, 52), (76, 53), (77, 54), (78, 55), (79, 56), (80, 57), (81, 58), (82, 59), (83, 60), (84, 61), (85, 62), (86, 63), (87, 64), (88, 65), (89, 66), (90, 67), (91, 68), (92, 69), (93, 70), (94, 71), (95, 72), (97, 73), (101, 74), (105, 75)]
  | _ => []
set_option maxRecDepth 100000 in
theorem offL_in : ∀ ci k, rOff ci k ≠ 0 → (k, rOff ci k) ∈ offL ci := by
  intro ci k
  unfold rOff
  split <;> intro h <;> first | decide | exact absurd rfl h
set_option maxRecDepth 100000 in
theorem pM2_fix : ∀ a, a < 353 → ∀ q ∈ offL (lay a).1, mR pM2 a q.1 = a + q.2 := by decide +kernel
set_option maxRecDepth 100000 in
theorem pM2_row : ∀ a, a < 353 → (lay a).1 = 15 → ∀ i, i < (lay a).2 → mR pM2 a i = a + 1 + i := by decide +kernel
set_option maxRecDepth 100000 in
theorem pM2_st : ∀ i, i < 20 → mR pM2 76 i = 77 + 9 * i := by decide +kernel
set_option maxRecDepth 100000 in
theorem pM2_mut : mN pM2 = 350 ∧ mR pM2 3 3 = 14 ∧ mR pM2 3 4 = 29 ∧ mR pM2 6 1 = 8 ∧ mR pM2 5 2 = 9 := by decide +kernel
theorem pS_st : ∀ i, i < 20 → (lay (77 + 9 * i)).1 = 4 := by decide +kernel
theorem pG_1 (L : Nat) (xs : Nat → Int32) : pG (pM1 L xs) := by
  obtain ⟨h1, h2⟩ := pM1_R L xs
  have hm := pM2_mut
  unfold pG
  rw [h1, h2]
  refine ⟨hm.1, fun ci a ha k hk => ?_, fun a ha i hi => pM2_row a ha.2.1 ha.2.2 i hi, fun i hi => ?_, ?_, ?_, ?_, Or.inr ?_⟩
  · have h3 := offL_in ci k hk
    rw [← ha.2.2] at h3 ⊢
    exact pM2_fix a ha.2.1 _ h3
  · rw [pM2_st i hi]
    exact ⟨by omega, by omega, pS_st i hi⟩
  · rw [hm.2.1]; exact s_14
  · rw [hm.2.2.1]; exact s_29
  · rw [hm.2.2.2.1]; exact s_8
  · rw [hm.2.2.2.2]; exact s_9
