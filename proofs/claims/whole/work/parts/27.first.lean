/-! the invariant at the start -/
def sNI (M M' : pm) : Prop := mN M = mN M' ∧ ∀ a, a ≠ 1 → mI M a = mI M' a ∧ mJ M a = mJ M' a
theorem sm_I {M M' : pm} (h : sNI M M') (a k : Nat) (v : Int32) : sNI (sI M a k v) (sI M' a k v) := ⟨h.1, fun b hb => ⟨by funext j; rw [mI_sI, mI_sI, (h.2 b hb).1], (h.2 b hb).2⟩⟩
theorem sm_J {M M' : pm} (h : sNI M M') (a k : Nat) (v : Int64) : sNI (sJ M a k v) (sJ M' a k v) := ⟨h.1, fun b hb => ⟨(h.2 b hb).1, by funext j; rw [mJ_sJ, mJ_sJ, (h.2 b hb).2]⟩⟩
theorem sm_R {M M' : pm} (h : sNI M M') (a k v v' : Nat) : sNI (sR M a k v) (sR M' a k v') := h
theorem sm_nw {M M' : pm} (h : sNI M M') : sNI (nw M) (nw M') := ⟨by rw [mN_nw, mN_nw, h.1], fun b hb => ⟨by funext j; rw [mI_nw, mI_nw, h.1, (h.2 b hb).1], by funext j; rw [mJ_nw, mJ_nw, h.1, (h.2 b hb).2]⟩⟩
theorem mI_nm (M : pm) (N b j : Nat) : mI (nm M N) b j = if mN M + 3 ≤ b ∧ b ≤ mN M + 3 + N then 0 else mI M b j := rfl
theorem mJ_nm (M : pm) (N b j : Nat) : mJ (nm M N) b j = if mN M + 3 ≤ b ∧ b ≤ mN M + 3 + N then 0 else mJ M b j := rfl
theorem sm_nm {M M' : pm} (h : sNI M M') (N : Nat) : sNI (nm M N) (nm M' N) := ⟨by rw [mN_nm, mN_nm, h.1], fun b hb => ⟨by funext j; rw [mI_nm, mI_nm, h.1, (h.2 b hb).1], by funext j; rw [mJ_nm, mJ_nm, h.1, (h.2 b hb).2]⟩⟩
theorem sm_u_X6_6_0 {M M' : pm} (h : sNI M M') : sNI (u_X6_6_0 M) (u_X6_6_0 M') := (sm_I (sm_I (sm_I (sm_I (sm_I (sm_I (sm_I (sm_I (sm_R (sm_nw (sm_R (sm_nw h) _ _ _ _)) _ _ _ _) _ _ _) _ _ _) _ _ _) _ _ _) _ _ _) _ _ _) _ _ _) _ _ _)
theorem sm_u_X6_6_1 {M M' : pm} (h : sNI M M') : sNI (u_X6_6_1 M) (u_X6_6_1 M') := (sm_I h _ _ _)
theorem sm_u_X6_6_2 {M M' : pm} (h : sNI M M') : sNI (u_X6_6_2 M) (u_X6_6_2 M') := (sm_I h _ _ _)
theorem sm_u_X6_6_3 {M M' : pm} (h : sNI M M') : sNI (u_X6_6_3 M) (u_X6_6_3 M') := (sm_I h _ _ _)
theorem sm_u_X6_6_4 {M M' : pm} (h : sNI M M') : sNI (u_X6_6_4 M) (u_X6_6_4 M') := (sm_I h _ _ _)
theorem sm_u_X6_6_5 {M M' : pm} (h : sNI M M') : sNI (u_X6_6_5 M) (u_X6_6_5 M') := (sm_I h _ _ _)
theorem sm_u_X6_6_6 {M M' : pm} (h : sNI M M') : sNI (u_X6_6_6 M) (u_X6_6_6 M') := (sm_I h _ _ _)
theorem sm_u_X6_6_7 {M M' : pm} (h : sNI M M') : sNI (u_X6_6_7 M) (u_X6_6_7 M') := (sm_I h _ _ _)
theorem sm_u_X6_6_8 {M M' : pm} (h : sNI M M') : sNI (u_X6_6_8 M) (u_X6_6_8 M') := (sm_I h _ _ _)
theorem sm_u_X6_6_9 {M M' : pm} (h : sNI M M') : sNI (u_X6_6_9 M) (u_X6_6_9 M') := (sm_I h _ _ _)
theorem sm_u_X6_6_10 {M M' : pm} (h : sNI M M') : sNI (u_X6_6_10 M) (u_X6_6_10 M') := (sm_I h _ _ _)
theorem sm_u_X6_6_11 {M M' : pm} (h : sNI M M') : sNI (u_X6_6_11 M) (u_X6_6_11 M') := (sm_I h _ _ _)
theorem sm_u_X6_6_12 {M M' : pm} (h : sNI M M') : sNI (u_X6_6_12 M) (u_X6_6_12 M') := (sm_I h _ _ _)
theorem sm_u_X6_6_13 {M M' : pm} (h : sNI M M') : sNI (u_X6_6_13 M) (u_X6_6_13 M') := (sm_I h _ _ _)
theorem sm_u_X6_6_14 {M M' : pm} (h : sNI M M') : sNI (u_X6_6_14 M) (u_X6_6_14 M') := (sm_I h _ _ _)
theorem sm_u_X6_6_15 {M M' : pm} (h : sNI M M') : sNI (u_X6_6_15 M) (u_X6_6_15 M') := (sm_I h _ _ _)
theorem sm_u_X6_6_16 {M M' : pm} (h : sNI M M') : sNI (u_X6_6_16 M) (u_X6_6_16 M') := (sm_I h _ _ _)
theorem sm_u_X6_6_17 {M M' : pm} (h : sNI M M') : sNI (u_X6_6_17 M) (u_X6_6_17 M') := (sm_I h _ _ _)
theorem sm_u_X6_6_18 {M M' : pm} (h : sNI M M') : sNI (u_X6_6_18 M) (u_X6_6_18 M') := (sm_I h _ _ _)
theorem sm_u_X6_6_19 {M M' : pm} (h : sNI M M') : sNI (u_X6_6_19 M) (u_X6_6_19 M') := (sm_I h _ _ _)
theorem sm_u_X6_6_20 {M M' : pm} (h : sNI M M') : sNI (u_X6_6_20 M) (u_X6_6_20 M') := (sm_I h _ _ _)
theorem sm_u_X6_6_21 {M M' : pm} (h : sNI M M') : sNI (u_X6_6_21 M) (u_X6_6_21 M') := (sm_I h _ _ _)
theorem sm_u_X6_6_22 {M M' : pm} (h : sNI M M') : sNI (u_X6_6_22 M) (u_X6_6_22 M') := (sm_I h _ _ _)
theorem sm_u_X6_6_23 {M M' : pm} (h : sNI M M') : sNI (u_X6_6_23 M) (u_X6_6_23 M') := (sm_I h _ _ _)
theorem sm_u_X6_6_24 {M M' : pm} (h : sNI M M') : sNI (u_X6_6_24 M) (u_X6_6_24 M') := (sm_I h _ _ _)
theorem sm_u_X6_6_25 {M M' : pm} (h : sNI M M') : sNI (u_X6_6_25 M) (u_X6_6_25 M') := (sm_I h _ _ _)
theorem sm_u_X6_6_26 {M M' : pm} (h : sNI M M') : sNI (u_X6_6_26 M) (u_X6_6_26 M') := (sm_I h _ _ _)
theorem sm_u_X6_6_27 {M M' : pm} (h : sNI M M') : sNI (u_X6_6_27 M) (u_X6_6_27 M') := (sm_I h _ _ _)
theorem sm_u_X6_6_28 {M M' : pm} (h : sNI M M') : sNI (u_X6_6_28 M) (u_X6_6_28 M') := (sm_I h _ _ _)
theorem sm_u_X6_6_29 {M M' : pm} (h : sNI M M') : sNI (u_X6_6_29 M) (u_X6_6_29 M') := (sm_I h _ _ _)
theorem sm_u_X6_6_30 {M M' : pm} (h : sNI M M') : sNI (u_X6_6_30 M) (u_X6_6_30 M') := (sm_I h _ _ _)
theorem sm_u_X6_6_31 {M M' : pm} (h : sNI M M') : sNI (u_X6_6_31 M) (u_X6_6_31 M') := (sm_I h _ _ _)
theorem sm_u_X6_6_32 {M M' : pm} (h : sNI M M') : sNI (u_X6_6_32 M) (u_X6_6_32 M') := (sm_I h _ _ _)
theorem sm_u_X6_6_33 {M M' : pm} (h : sNI M M') : sNI (u_X6_6_33 M) (u_X6_6_33 M') := (sm_I h _ _ _)
theorem sm_u_X6_6_34 {M M' : pm} (h : sNI M M') : sNI (u_X6_6_34 M) (u_X6_6_34 M') := h
theorem sm_i_X6_6 {M M' : pm} (h : sNI M M') : sNI (i_X6_6 M) (i_X6_6 M') := (sm_u_X6_6_34 (sm_u_X6_6_33 (sm_u_X6_6_32 (sm_u_X6_6_31 (sm_u_X6_6_30 (sm_u_X6_6_29 (sm_u_X6_6_28 (sm_u_X6_6_27 (sm_u_X6_6_26 (sm_u_X6_6_25 (sm_u_X6_6_24 (sm_u_X6_6_23 (sm_u_X6_6_22 (sm_u_X6_6_21 (sm_u_X6_6_20 (sm_u_X6_6_19 (sm_u_X6_6_18 (sm_u_X6_6_17 (sm_u_X6_6_16 (sm_u_X6_6_15 (sm_u_X6_6_14 (sm_u_X6_6_13 (sm_u_X6_6_12 (sm_u_X6_6_11 (sm_u_X6_6_10 (sm_u_X6_6_9 (sm_u_X6_6_8 (sm_u_X6_6_7 (sm_u_X6_6_6 (sm_u_X6_6_5 (sm_u_X6_6_4 (sm_u_X6_6_3 (sm_u_X6_6_2 (sm_u_X6_6_1 (sm_u_X6_6_0 h)))))))))))))))))))))))))))))))))))
theorem sm_u_X2_9_0 {M M' : pm} (h : sNI M M') : sNI (u_X2_9_0 M) (u_X2_9_0 M') := (sm_R (sm_nw (sm_R (sm_nw (sm_R (sm_nw (sm_I (sm_R (sm_nw h) _ _ _ _) _ _ _)) _ _ _ _)) _ _ _ _)) _ _ _ _)
theorem sm_i_X2_9 {M M' : pm} (h : sNI M M') : sNI (i_X2_9 M) (i_X2_9 M') := (sm_u_X2_9_0 h)
theorem sm_u_X3_5_0 {M M' : pm} (h : sNI M M') : sNI (u_X3_5_0 M) (u_X3_5_0 M') := (sm_i_X6_6 (sm_nw h))
theorem sm_u_X3_5_1 {M M' : pm} (h : sNI M M') : sNI (u_X3_5_1 M) (u_X3_5_1 M') := (sm_i_X2_9 (sm_nw (sm_R h _ _ _ _)))
theorem sm_u_X3_5_2 {M M' : pm} (h : sNI M M') : sNI (u_X3_5_2 M) (u_X3_5_2 M') := (sm_I (sm_I (sm_I (sm_R (sm_R h _ _ _ _) _ _ _ _) _ _ _) _ _ _) _ _ _)
theorem sm_i_X3_5 {M M' : pm} (h : sNI M M') : sNI (i_X3_5 M) (i_X3_5 M') := (sm_u_X3_5_2 (sm_u_X3_5_1 (sm_u_X3_5_0 h)))
theorem sm_u_X2_24_0 {M M' : pm} (h : sNI M M') : sNI (u_X2_24_0 M) (u_X2_24_0 M') := (sm_R (sm_nw (sm_R (sm_nw (sm_R (sm_nw (sm_I (sm_R (sm_nw h) _ _ _ _) _ _ _)) _ _ _ _)) _ _ _ _)) _ _ _ _)
theorem sm_i_X2_24 {M M' : pm} (h : sNI M M') : sNI (i_X2_24 M) (i_X2_24 M') := (sm_u_X2_24_0 h)
theorem sm_u_X5_14_0 {M M' : pm} (h : sNI M M') : sNI (u_X5_14_0 M) (u_X5_14_0 M') := (sm_R (sm_nw (sm_R (sm_nw (sm_R (sm_nw (sm_I (sm_R (sm_nw (sm_R (sm_nw (sm_R (sm_nw (sm_I (sm_I (sm_I (sm_I (sm_I h _ _ _) _ _ _) _ _ _) _ _ _) _ _ _)) _ _ _ _)) _ _ _ _)) _ _ _ _) _ _ _)) _ _ _ _)) _ _ _ _)) _ _ _ _)
theorem sm_u_X5_14_1 {M M' : pm} (h : sNI M M') : sNI (u_X5_14_1 M) (u_X5_14_1 M') := (sm_i_X2_24 (sm_nw (sm_R (sm_nw (sm_R (sm_nw (sm_I (sm_R (sm_nw h) _ _ _ _) _ _ _)) _ _ _ _)) _ _ _ _)))
theorem sm_u_X5_14_2 {M M' : pm} (h : sNI M M') : sNI (u_X5_14_2 M) (u_X5_14_2 M') := (sm_R h _ _ _ _)
theorem sm_i_X5_14 {M M' : pm} (h : sNI M M') : sNI (i_X5_14 M) (i_X5_14 M') := (sm_u_X5_14_2 (sm_u_X5_14_1 (sm_u_X5_14_0 h)))
theorem sm_u_X2_39_0 {M M' : pm} (h : sNI M M') : sNI (u_X2_39_0 M) (u_X2_39_0 M') := (sm_R (sm_nw (sm_R (sm_nw (sm_R (sm_nw (sm_I (sm_R (sm_nw h) _ _ _ _) _ _ _)) _ _ _ _)) _ _ _ _)) _ _ _ _)
theorem sm_i_X2_39 {M M' : pm} (h : sNI M M') : sNI (i_X2_39 M) (i_X2_39 M') := (sm_u_X2_39_0 h)
theorem sm_u_X5_29_0 {M M' : pm} (h : sNI M M') : sNI (u_X5_29_0 M) (u_X5_29_0 M') := (sm_R (sm_nw (sm_R (sm_nw (sm_R (sm_nw (sm_I (sm_R (sm_nw (sm_R (sm_nw (sm_R (sm_nw (sm_I (sm_I (sm_I (sm_I (sm_I h _ _ _) _ _ _) _ _ _) _ _ _) _ _ _)) _ _ _ _)) _ _ _ _)) _ _ _ _) _ _ _)) _ _ _ _)) _ _ _ _)) _ _ _ _)
theorem sm_u_X5_29_1 {M M' : pm} (h : sNI M M') : sNI (u_X5_29_1 M) (u_X5_29_1 M') := (sm_i_X2_39 (sm_nw (sm_R (sm_nw (sm_R (sm_nw (sm_I (sm_R (sm_nw h) _ _ _ _) _ _ _)) _ _ _ _)) _ _ _ _)))
theorem sm_u_X5_29_2 {M M' : pm} (h : sNI M M') : sNI (u_X5_29_2 M) (u_X5_29_2 M') := (sm_R h _ _ _ _)
theorem sm_i_X5_29 {M M' : pm} (h : sNI M M') : sNI (i_X5_29 M) (i_X5_29 M') := (sm_u_X5_29_2 (sm_u_X5_29_1 (sm_u_X5_29_0 h)))
theorem sm_u_X1_44_0 {M M' : pm} (h : sNI M M') : sNI (u_X1_44_0 M) (u_X1_44_0 M') := (sm_R (sm_nm (sm_R (sm_nw (sm_R (sm_nw (sm_R (sm_nw (sm_R (sm_nw (sm_R (sm_nw h) _ _ _ _)) _ _ _ _)) _ _ _ _)) _ _ _ _)) _ _ _ _) _) _ _ _ _)
theorem sm_i_X1_44 {M M' : pm} (h : sNI M M') : sNI (i_X1_44 M) (i_X1_44 M') := (sm_u_X1_44_0 h)
theorem sm_u_X4_57_0 {M M' : pm} (h : sNI M M') : sNI (u_X4_57_0 M) (u_X4_57_0 M') := (sm_R (sm_nw (sm_R (sm_nw (sm_R (sm_nw (sm_I (sm_R (sm_nw (sm_R (sm_nw (sm_R (sm_nw (sm_R (sm_nw (sm_R (sm_nw (sm_I (sm_I h _ _ _) _ _ _)) _ _ _ _)) _ _ _ _)) _ _ _ _)) _ _ _ _)) _ _ _ _) _ _ _)) _ _ _ _)) _ _ _ _)) _ _ _ _)
theorem sm_i_X4_57 {M M' : pm} (h : sNI M M') : sNI (i_X4_57 M) (i_X4_57 M') := (sm_u_X4_57_0 h)
theorem sm_u_X4_66_0 {M M' : pm} (h : sNI M M') : sNI (u_X4_66_0 M) (u_X4_66_0 M') := (sm_R (sm_nw (sm_R (sm_nw (sm_R (sm_nw (sm_I (sm_R (sm_nw (sm_R (sm_nw (sm_R (sm_nw (sm_R (sm_nw (sm_R (sm_nw (sm_I (sm_I h _ _ _) _ _ _)) _ _ _ _)) _ _ _ _)) _ _ _ _)) _ _ _ _)) _ _ _ _) _ _ _)) _ _ _ _)) _ _ _ _)) _ _ _ _)
theorem sm_i_X4_66 {M M' : pm} (h : sNI M M') : sNI (i_X4_66 M) (i_X4_66 M') := (sm_u_X4_66_0 h)
theorem sm_u_X4_77_0 {M M' : pm} (h : sNI M M') : sNI (u_X4_77_0 M) (u_X4_77_0 M') := (sm_R (sm_nw (sm_R (sm_nw (sm_R (sm_nw (sm_I (sm_R (sm_nw (sm_R (sm_nw (sm_R (sm_nw (sm_R (sm_nw (sm_R (sm_nw (sm_I (sm_I h _ _ _) _ _ _)) _ _ _ _)) _ _ _ _)) _ _ _ _)) _ _ _ _)) _ _ _ _) _ _ _)) _ _ _ _)) _ _ _ _)) _ _ _ _)
theorem sm_i_X4_77 {M M' : pm} (h : sNI M M') : sNI (i_X4_77 M) (i_X4_77 M') := (sm_u_X4_77_0 h)
theorem sm_u_X4_86_0 {M M' : pm} (h : sNI M M') : sNI (u_X4_86_0 M) (u_X4_86_0 M') := (sm_R (sm_nw (sm_R (sm_nw (sm_R (sm_nw (sm_I (sm_R (sm_nw (sm_R (sm_nw (sm_R (sm_nw (sm_R (sm_nw (sm_R (sm_nw (sm_I (sm_I h _ _ _) _ _ _)) _ _ _ _)) _ _ _ _)) _ _ _ _)) _ _ _ _)) _ _ _ _) _ _ _)) _ _ _ _)) _ _ _ _)) _ _ _ _)
theorem sm_i_X4_86 {M M' : pm} (h : sNI M M') : sNI (i_X4_86 M) (i_X4_86 M') := (sm_u_X4_86_0 h)
theorem sm_u_X4_95_0 {M M' : pm} (h : sNI M M') : sNI (u_X4_95_0 M) (u_X4_95_0 M') := (sm_R (sm_nw (sm_R (sm_nw (sm_R (sm_nw (sm_I (sm_R (sm_nw (sm_R (sm_nw (sm_R (sm_nw (sm_R (sm_nw (sm_R (sm_nw (sm_I (sm_I h _ _ _) _ _ _)) _ _ _ _)) _ _ _ _)) _ _ _ _)) _ _ _ _)) _ _ _ _) _ _ _)) _ _ _ _)) _ _ _ _)) _ _ _ _)
theorem sm_i_X4_95 {M M' : pm} (h : sNI M M') : sNI (i_X4_95 M) (i_X4_95 M') := (sm_u_X4_95_0 h)
theorem sm_u_X4_104_0 {M M' : pm} (h : sNI M M') : sNI (u_X4_104_0 M) (u_X4_104_0 M') := (sm_R (sm_nw (sm_R (sm_nw (sm_R (sm_nw (sm_I (sm_R (sm_nw (sm_R (sm_nw (sm_R (sm_nw (sm_R (sm_nw (sm_R (sm_nw (sm_I (sm_I h _ _ _) _ _ _)) _ _ _ _)) _ _ _ _)) _ _ _ _)) _ _ _ _)) _ _ _ _) _ _ _)) _ _ _ _)) _ _ _ _)) _ _ _ _)
theorem sm_i_X4_104 {M M' : pm} (h : sNI M M') : sNI (i_X4_104 M) (i_X4_104 M') := (sm_u_X4_104_0 h)
theorem sm_u_X4_113_0 {M M' : pm} (h : sNI M M') : sNI (u_X4_113_0 M) (u_X4_113_0 M') := (sm_R (sm_nw (sm_R (sm_nw (sm_R (sm_nw (sm_I (sm_R (sm_nw (sm_R (sm_nw (sm_R (sm_nw (sm_R (sm_nw (sm_R (sm_nw (sm_I (sm_I h _ _ _) _ _ _)) _ _ _ _)) _ _ _ _)) _ _ _ _)) _ _ _ _)) _ _ _ _) _ _ _)) _ _ _ _)) _ _ _ _)) _ _ _ _)
theorem sm_i_X4_113 {M M' : pm} (h : sNI M M') : sNI (i_X4_113 M) (i_X4_113 M') := (sm_u_X4_113_0 h)
theorem sm_u_X4_122_0 {M M' : pm} (h : sNI M M') : sNI (u_X4_122_0 M) (u_X4_122_0 M') := (sm_R (sm_nw (sm_R (sm_nw (sm_R (sm_nw (sm_I (sm_R (sm_nw (sm_R (sm_nw (sm_R (sm_nw (sm_R (sm_nw (sm_R (sm_nw (sm_I (sm_I h _ _ _) _ _ _)) _ _ _ _)) _ _ _ _)) _ _ _ _)) _ _ _ _)) _ _ _ _) _ _ _)) _ _ _ _)) _ _ _ _)) _ _ _ _)
theorem sm_i_X4_122 {M M' : pm} (h : sNI M M') : sNI (i_X4_122 M) (i_X4_122 M') := (sm_u_X4_122_0 h)
theorem sm_u_X4_131_0 {M M' : pm} (h : sNI M M') : sNI (u_X4_131_0 M) (u_X4_131_0 M') := (sm_R (sm_nw (sm_R (sm_nw (sm_R (sm_nw (sm_I (sm_R (sm_nw (sm_R (sm_nw (sm_R (sm_nw (sm_R (sm_nw (sm_R (sm_nw (sm_I (sm_I h _ _ _) _ _ _)) _ _ _ _)) _ _ _ _)) _ _ _ _)) _ _ _ _)) _ _ _ _) _ _ _)) _ _ _ _)) _ _ _ _)) _ _ _ _)
theorem sm_i_X4_131 {M M' : pm} (h : sNI M M') : sNI (i_X4_131 M) (i_X4_131 M') := (sm_u_X4_131_0 h)
theorem sm_u_X4_140_0 {M M' : pm} (h : sNI M M') : sNI (u_X4_140_0 M) (u_X4_140_0 M') := (sm_R (sm_nw (sm_R (sm_nw (sm_R (sm_nw (sm_I (sm_R (sm_nw (sm_R (sm_nw (sm_R (sm_nw (sm_R (sm_nw (sm_R (sm_nw (sm_I (sm_I h _ _ _) _ _ _)) _ _ _ _)) _ _ _ _)) _ _ _ _)) _ _ _ _)) _ _ _ _) _ _ _)) _ _ _ _)) _ _ _ _)) _ _ _ _)
theorem sm_i_X4_140 {M M' : pm} (h : sNI M M') : sNI (i_X4_140 M) (i_X4_140 M') := (sm_u_X4_140_0 h)
theorem sm_u_X4_149_0 {M M' : pm} (h : sNI M M') : sNI (u_X4_149_0 M) (u_X4_149_0 M') := (sm_R (sm_nw (sm_R (sm_nw (sm_R (sm_nw (sm_I (sm_R (sm_nw (sm_R (sm_nw (sm_R (sm_nw (sm_R (sm_nw (sm_R (sm_nw (sm_I (sm_I h _ _ _) _ _ _)) _ _ _ _)) _ _ _ _)) _ _ _ _)) _ _ _ _)) _ _ _ _) _ _ _)) _ _ _ _)) _ _ _ _)) _ _ _ _)
theorem sm_i_X4_149 {M M' : pm} (h : sNI M M') : sNI (i_X4_149 M) (i_X4_149 M') := (sm_u_X4_149_0 h)
theorem sm_u_X4_158_0 {M M' : pm} (h : sNI M M') : sNI (u_X4_158_0 M) (u_X4_158_0 M') := (sm_R (sm_nw (sm_R (sm_nw (sm_R (sm_nw (sm_I (sm_R (sm_nw (sm_R (sm_nw (sm_R (sm_nw (sm_R (sm_nw (sm_R (sm_nw (sm_I (sm_I h _ _ _) _ _ _)) _ _ _ _)) _ _ _ _)) _ _ _ _)) _ _ _ _)) _ _ _ _) _ _ _)) _ _ _ _)) _ _ _ _)) _ _ _ _)
theorem sm_i_X4_158 {M M' : pm} (h : sNI M M') : sNI (i_X4_158 M) (i_X4_158 M') := (sm_u_X4_158_0 h)
theorem sm_u_X4_167_0 {M M' : pm} (h : sNI M M') : sNI (u_X4_167_0 M) (u_X4_167_0 M') := (sm_R (sm_nw (sm_R (sm_nw (sm_R (sm_nw (sm_I (sm_R (sm_nw (sm_R (sm_nw (sm_R (sm_nw (sm_R (sm_nw (sm_R (sm_nw (sm_I (sm_I h _ _ _) _ _ _)) _ _ _ _)) _ _ _ _)) _ _ _ _)) _ _ _ _)) _ _ _ _) _ _ _)) _ _ _ _)) _ _ _ _)) _ _ _ _)
theorem sm_i_X4_167 {M M' : pm} (h : sNI M M') : sNI (i_X4_167 M) (i_X4_167 M') := (sm_u_X4_167_0 h)
theorem sm_u_X4_176_0 {M M' : pm} (h : sNI M M') : sNI (u_X4_176_0 M) (u_X4_176_0 M') := (sm_R (sm_nw (sm_R (sm_nw (sm_R (sm_nw (sm_I (sm_R (sm_nw (sm_R (sm_nw (sm_R (sm_nw (sm_R (sm_nw (sm_R (sm_nw (sm_I (sm_I h _ _ _) _ _ _)) _ _ _ _)) _ _ _ _)) _ _ _ _)) _ _ _ _)) _ _ _ _) _ _ _)) _ _ _ _)) _ _ _ _)) _ _ _ _)
theorem sm_i_X4_176 {M M' : pm} (h : sNI M M') : sNI (i_X4_176 M) (i_X4_176 M') := (sm_u_X4_176_0 h)
theorem sm_u_X4_185_0 {M M' : pm} (h : sNI M M') : sNI (u_X4_185_0 M) (u_X4_185_0 M') := (sm_R (sm_nw (sm_R (sm_nw (sm_R (sm_nw (sm_I (sm_R (sm_nw (sm_R (sm_nw (sm_R (sm_nw (sm_R (sm_nw (sm_R (sm_nw (sm_I (sm_I h _ _ _) _ _ _)) _ _ _ _)) _ _ _ _)) _ _ _ _)) _ _ _ _)) _ _ _ _) _ _ _)) _ _ _ _)) _ _ _ _)) _ _ _ _)
theorem sm_i_X4_185 {M M' : pm} (h : sNI M M') : sNI (i_X4_185 M) (i_X4_185 M') := (sm_u_X4_185_0 h)
theorem sm_u_X4_194_0 {M M' : pm} (h : sNI M M') : sNI (u_X4_194_0 M) (u_X4_194_0 M') := (sm_R (sm_nw (sm_R (sm_nw (sm_R (sm_nw (sm_I (sm_R (sm_nw (sm_R (sm_nw (sm_R (sm_nw (sm_R (sm_nw (sm_R (sm_nw (sm_I (sm_I h _ _ _) _ _ _)) _ _ _ _)) _ _ _ _)) _ _ _ _)) _ _ _ _)) _ _ _ _) _ _ _)) _ _ _ _)) _ _ _ _)) _ _ _ _)
theorem sm_i_X4_194 {M M' : pm} (h : sNI M M') : sNI (i_X4_194 M) (i_X4_194 M') := (sm_u_X4_194_0 h)
theorem sm_u_X4_203_0 {M M' : pm} (h : sNI M M') : sNI (u_X4_203_0 M) (u_X4_203_0 M') := (sm_R (sm_nw (sm_R (sm_nw (sm_R (sm_nw (sm_I (sm_R (sm_nw (sm_R (sm_nw (sm_R (sm_nw (sm_R (sm_nw (sm_R (sm_nw (sm_I (sm_I h _ _ _) _ _ _)) _ _ _ _)) _ _ _ _)) _ _ _ _)) _ _ _ _)) _ _ _ _) _ _ _)) _ _ _ _)) _ _ _ _)) _ _ _ _)
theorem sm_i_X4_203 {M M' : pm} (h : sNI M M') : sNI (i_X4_203 M) (i_X4_203 M') := (sm_u_X4_203_0 h)
theorem sm_u_X4_212_0 {M M' : pm} (h : sNI M M') : sNI (u_X4_212_0 M) (u_X4_212_0 M') := (sm_R (sm_nw (sm_R (sm_nw (sm_R (sm_nw (sm_I (sm_R (sm_nw (sm_R (sm_nw (sm_R (sm_nw (sm_R (sm_nw (sm_R (sm_nw (sm_I (sm_I h _ _ _) _ _ _)) _ _ _ _)) _ _ _ _)) _ _ _ _)) _ _ _ _)) _ _ _ _) _ _ _)) _ _ _ _)) _ _ _ _)) _ _ _ _)
theorem sm_i_X4_212 {M M' : pm} (h : sNI M M') : sNI (i_X4_212 M) (i_X4_212 M') := (sm_u_X4_212_0 h)
theorem sm_u_X4_221_0 {M M' : pm} (h : sNI M M') : sNI (u_X4_221_0 M) (u_X4_221_0 M') := (sm_R (sm_nw (sm_R (sm_nw (sm_R (sm_nw (sm_I (sm_R (sm_nw (sm_R (sm_nw (sm_R (sm_nw (sm_R (sm_nw (sm_R (sm_nw (sm_I (sm_I h _ _ _) _ _ _)) _ _ _ _)) _ _ _ _)) _ _ _ _)) _ _ _ _)) _ _ _ _) _ _ _)) _ _ _ _)) _ _ _ _)) _ _ _ _)
theorem sm_i_X4_221 {M M' : pm} (h : sNI M M') : sNI (i_X4_221 M) (i_X4_221 M') := (sm_u_X4_221_0 h)
theorem sm_u_X4_230_0 {M M' : pm} (h : sNI M M') : sNI (u_X4_230_0 M) (u_X4_230_0 M') := (sm_R (sm_nw (sm_R (sm_nw (sm_R (sm_nw (sm_I (sm_R (sm_nw (sm_R (sm_nw (sm_R (sm_nw (sm_R (sm_nw (sm_R (sm_nw (sm_I (sm_I h _ _ _) _ _ _)) _ _ _ _)) _ _ _ _)) _ _ _ _)) _ _ _ _)) _ _ _ _) _ _ _)) _ _ _ _)) _ _ _ _)) _ _ _ _)
theorem sm_i_X4_230 {M M' : pm} (h : sNI M M') : sNI (i_X4_230 M) (i_X4_230 M') := (sm_u_X4_230_0 h)
theorem sm_u_X4_239_0 {M M' : pm} (h : sNI M M') : sNI (u_X4_239_0 M) (u_X4_239_0 M') := (sm_R (sm_nw (sm_R (sm_nw (sm_R (sm_nw (sm_I (sm_R (sm_nw (sm_R (sm_nw (sm_R (sm_nw (sm_R (sm_nw (sm_R (sm_nw (sm_I (sm_I h _ _ _) _ _ _)) _ _ _ _)) _ _ _ _)) _ _ _ _)) _ _ _ _)) _ _ _ _) _ _ _)) _ _ _ _)) _ _ _ _)) _ _ _ _)
theorem sm_i_X4_239 {M M' : pm} (h : sNI M M') : sNI (i_X4_239 M) (i_X4_239 M') := (sm_u_X4_239_0 h)
theorem sm_u_X4_248_0 {M M' : pm} (h : sNI M M') : sNI (u_X4_248_0 M) (u_X4_248_0 M') := (sm_R (sm_nw (sm_R (sm_nw (sm_R (sm_nw (sm_I (sm_R (sm_nw (sm_R (sm_nw (sm_R (sm_nw (sm_R (sm_nw (sm_R (sm_nw (sm_I (sm_I h _ _ _) _ _ _)) _ _ _ _)) _ _ _ _)) _ _ _ _)) _ _ _ _)) _ _ _ _) _ _ _)) _ _ _ _)) _ _ _ _)) _ _ _ _)
theorem sm_i_X4_248 {M M' : pm} (h : sNI M M') : sNI (i_X4_248 M) (i_X4_248 M') := (sm_u_X4_248_0 h)
theorem sm_u_X0_75_0 {M M' : pm} (h : sNI M M') : sNI (u_X0_75_0 M) (u_X0_75_0 M') := (sm_i_X4_77 (sm_nw (sm_I (sm_R (sm_nw h) _ _ _ _) _ _ _)))
theorem sm_u_X0_75_1 {M M' : pm} (h : sNI M M') : sNI (u_X0_75_1 M) (u_X0_75_1 M') := (sm_R h _ _ _ _)
theorem sm_u_X0_75_2 {M M' : pm} (h : sNI M M') : sNI (u_X0_75_2 M) (u_X0_75_2 M') := (sm_i_X4_86 (sm_nw h))
theorem sm_u_X0_75_3 {M M' : pm} (h : sNI M M') : sNI (u_X0_75_3 M) (u_X0_75_3 M') := (sm_R h _ _ _ _)
theorem sm_u_X0_75_4 {M M' : pm} (h : sNI M M') : sNI (u_X0_75_4 M) (u_X0_75_4 M') := (sm_i_X4_95 (sm_nw h))
theorem sm_u_X0_75_5 {M M' : pm} (h : sNI M M') : sNI (u_X0_75_5 M) (u_X0_75_5 M') := (sm_R h _ _ _ _)
theorem sm_u_X0_75_6 {M M' : pm} (h : sNI M M') : sNI (u_X0_75_6 M) (u_X0_75_6 M') := (sm_i_X4_104 (sm_nw h))
theorem sm_u_X0_75_7 {M M' : pm} (h : sNI M M') : sNI (u_X0_75_7 M) (u_X0_75_7 M') := (sm_R h _ _ _ _)
theorem sm_u_X0_75_8 {M M' : pm} (h : sNI M M') : sNI (u_X0_75_8 M) (u_X0_75_8 M') := (sm_i_X4_113 (sm_nw h))
theorem sm_u_X0_75_9 {M M' : pm} (h : sNI M M') : sNI (u_X0_75_9 M) (u_X0_75_9 M') := (sm_R h _ _ _ _)
theorem sm_u_X0_75_10 {M M' : pm} (h : sNI M M') : sNI (u_X0_75_10 M) (u_X0_75_10 M') := (sm_i_X4_122 (sm_nw h))
theorem sm_u_X0_75_11 {M M' : pm} (h : sNI M M') : sNI (u_X0_75_11 M) (u_X0_75_11 M') := (sm_R h _ _ _ _)
theorem sm_u_X0_75_12 {M M' : pm} (h : sNI M M') : sNI (u_X0_75_12 M) (u_X0_75_12 M') := (sm_i_X4_131 (sm_nw h))
theorem sm_u_X0_75_13 {M M' : pm} (h : sNI M M') : sNI (u_X0_75_13 M) (u_X0_75_13 M') := (sm_R h _ _ _ _)
theorem sm_u_X0_75_14 {M M' : pm} (h : sNI M M') : sNI (u_X0_75_14 M) (u_X0_75_14 M') := (sm_i_X4_140 (sm_nw h))
theorem sm_u_X0_75_15 {M M' : pm} (h : sNI M M') : sNI (u_X0_75_15 M) (u_X0_75_15 M') := (sm_R h _ _ _ _)
theorem sm_u_X0_75_16 {M M' : pm} (h : sNI M M') : sNI (u_X0_75_16 M) (u_X0_75_16 M') := (sm_i_X4_149 (sm_nw h))
theorem sm_u_X0_75_17 {M M' : pm} (h : sNI M M') : sNI (u_X0_75_17 M) (u_X0_75_17 M') := (sm_R h _ _ _ _)
theorem sm_u_X0_75_18 {M M' : pm} (h : sNI M M') : sNI (u_X0_75_18 M) (u_X0_75_18 M') := (sm_i_X4_158 (sm_nw h))
theorem sm_u_X0_75_19 {M M' : pm} (h : sNI M M') : sNI (u_X0_75_19 M) (u_X0_75_19 M') := (sm_R h _ _ _ _)
theorem sm_u_X0_75_20 {M M' : pm} (h : sNI M M') : sNI (u_X0_75_20 M) (u_X0_75_20 M') := (sm_i_X4_167 (sm_nw h))
theorem sm_u_X0_75_21 {M M' : pm} (h : sNI M M') : sNI (u_X0_75_21 M) (u_X0_75_21 M') := (sm_R h _ _ _ _)
theorem sm_u_X0_75_22 {M M' : pm} (h : sNI M M') : sNI (u_X0_75_22 M) (u_X0_75_22 M') := (sm_i_X4_176 (sm_nw h))
theorem sm_u_X0_75_23 {M M' : pm} (h : sNI M M') : sNI (u_X0_75_23 M) (u_X0_75_23 M') := (sm_R h _ _ _ _)
theorem sm_u_X0_75_24 {M M' : pm} (h : sNI M M') : sNI (u_X0_75_24 M) (u_X0_75_24 M') := (sm_i_X4_185 (sm_nw h))
theorem sm_u_X0_75_25 {M M' : pm} (h : sNI M M') : sNI (u_X0_75_25 M) (u_X0_75_25 M') := (sm_R h _ _ _ _)
theorem sm_u_X0_75_26 {M M' : pm} (h : sNI M M') : sNI (u_X0_75_26 M) (u_X0_75_26 M') := (sm_i_X4_194 (sm_nw h))
theorem sm_u_X0_75_27 {M M' : pm} (h : sNI M M') : sNI (u_X0_75_27 M) (u_X0_75_27 M') := (sm_R h _ _ _ _)
theorem sm_u_X0_75_28 {M M' : pm} (h : sNI M M') : sNI (u_X0_75_28 M) (u_X0_75_28 M') := (sm_i_X4_203 (sm_nw h))
theorem sm_u_X0_75_29 {M M' : pm} (h : sNI M M') : sNI (u_X0_75_29 M) (u_X0_75_29 M') := (sm_R h _ _ _ _)
theorem sm_u_X0_75_30 {M M' : pm} (h : sNI M M') : sNI (u_X0_75_30 M) (u_X0_75_30 M') := (sm_i_X4_212 (sm_nw h))
theorem sm_u_X0_75_31 {M M' : pm} (h : sNI M M') : sNI (u_X0_75_31 M) (u_X0_75_31 M') := (sm_R h _ _ _ _)
theorem sm_u_X0_75_32 {M M' : pm} (h : sNI M M') : sNI (u_X0_75_32 M) (u_X0_75_32 M') := (sm_i_X4_221 (sm_nw h))
theorem sm_u_X0_75_33 {M M' : pm} (h : sNI M M') : sNI (u_X0_75_33 M) (u_X0_75_33 M') := (sm_R h _ _ _ _)
theorem sm_u_X0_75_34 {M M' : pm} (h : sNI M M') : sNI (u_X0_75_34 M) (u_X0_75_34 M') := (sm_i_X4_230 (sm_nw h))
theorem sm_u_X0_75_35 {M M' : pm} (h : sNI M M') : sNI (u_X0_75_35 M) (u_X0_75_35 M') := (sm_R h _ _ _ _)
theorem sm_u_X0_75_36 {M M' : pm} (h : sNI M M') : sNI (u_X0_75_36 M) (u_X0_75_36 M') := (sm_i_X4_239 (sm_nw h))
theorem sm_u_X0_75_37 {M M' : pm} (h : sNI M M') : sNI (u_X0_75_37 M) (u_X0_75_37 M') := (sm_R h _ _ _ _)
theorem sm_u_X0_75_38 {M M' : pm} (h : sNI M M') : sNI (u_X0_75_38 M) (u_X0_75_38 M') := (sm_i_X4_248 (sm_nw h))
theorem sm_u_X0_75_39 {M M' : pm} (h : sNI M M') : sNI (u_X0_75_39 M) (u_X0_75_39 M') := (sm_R h _ _ _ _)
theorem sm_u_X0_75_40 {M M' : pm} (h : sNI M M') : sNI (u_X0_75_40 M) (u_X0_75_40 M') := h
theorem sm_i_X0_75 {M M' : pm} (h : sNI M M') : sNI (i_X0_75 M) (i_X0_75 M') := (sm_u_X0_75_40 (sm_u_X0_75_39 (sm_u_X0_75_38 (sm_u_X0_75_37 (sm_u_X0_75_36 (sm_u_X0_75_35 (sm_u_X0_75_34 (sm_u_X0_75_33 (sm_u_X0_75_32 (sm_u_X0_75_31 (sm_u_X0_75_30 (sm_u_X0_75_29 (sm_u_X0_75_28 (sm_u_X0_75_27 (sm_u_X0_75_26 (sm_u_X0_75_25 (sm_u_X0_75_24 (sm_u_X0_75_23 (sm_u_X0_75_22 (sm_u_X0_75_21 (sm_u_X0_75_20 (sm_u_X0_75_19 (sm_u_X0_75_18 (sm_u_X0_75_17 (sm_u_X0_75_16 (sm_u_X0_75_15 (sm_u_X0_75_14 (sm_u_X0_75_13 (sm_u_X0_75_12 (sm_u_X0_75_11 (sm_u_X0_75_10 (sm_u_X0_75_9 (sm_u_X0_75_8 (sm_u_X0_75_7 (sm_u_X0_75_6 (sm_u_X0_75_5 (sm_u_X0_75_4 (sm_u_X0_75_3 (sm_u_X0_75_2 (sm_u_X0_75_1 (sm_u_X0_75_0 h)))))))))))))))))))))))))))))))))))))))))
theorem sm_u_X7_3_0 {M M' : pm} (h : sNI M M') : sNI (u_X7_3_0 M) (u_X7_3_0 M') := (sm_i_X3_5 (sm_nw (sm_I (sm_R (sm_nw h) _ _ _ _) _ _ _)))
theorem sm_u_X7_3_1 {M M' : pm} (h : sNI M M') : sNI (u_X7_3_1 M) (u_X7_3_1 M') := (sm_i_X5_14 (sm_nw (sm_R h _ _ _ _)))
theorem sm_u_X7_3_2 {M M' : pm} (h : sNI M M') : sNI (u_X7_3_2 M) (u_X7_3_2 M') := (sm_i_X5_29 (sm_nw (sm_R h _ _ _ _)))
theorem sm_u_X7_3_3 {M M' : pm} (h : sNI M M') : sNI (u_X7_3_3 M) (u_X7_3_3 M') := (sm_i_X1_44 (sm_nw (sm_I (sm_I (sm_I (sm_R h _ _ _ _) _ _ _) _ _ _) _ _ _)))
theorem sm_u_X7_3_4 {M M' : pm} (h : sNI M M') : sNI (u_X7_3_4 M) (u_X7_3_4 M') := (sm_i_X4_57 (sm_nw (sm_R h _ _ _ _)))
theorem sm_u_X7_3_5 {M M' : pm} (h : sNI M M') : sNI (u_X7_3_5 M) (u_X7_3_5 M') := (sm_i_X4_66 (sm_nw (sm_R h _ _ _ _)))
theorem sm_u_X7_3_6 {M M' : pm} (h : sNI M M') : sNI (u_X7_3_6 M) (u_X7_3_6 M') := (sm_i_X0_75 (sm_nw (sm_R h _ _ _ _)))
theorem sm_u_X7_3_7 {M M' : pm} (h : sNI M M') : sNI (u_X7_3_7 M) (u_X7_3_7 M') := (sm_I (sm_R (sm_nw (sm_I (sm_R (sm_nw (sm_R (sm_nw (sm_I (sm_R (sm_nm (sm_R h _ _ _ _) _) _ _ _ _) _ _ _)) _ _ _ _)) _ _ _ _) _ _ _)) _ _ _ _) _ _ _)
theorem sm_i_X7_3 {M M' : pm} (h : sNI M M') : sNI (i_X7_3 M) (i_X7_3 M') := (sm_u_X7_3_7 (sm_u_X7_3_6 (sm_u_X7_3_5 (sm_u_X7_3_4 (sm_u_X7_3_3 (sm_u_X7_3_2 (sm_u_X7_3_1 (sm_u_X7_3_0 h))))))))
theorem sm_u_X8_277_0 {M M' : pm} (h : sNI M M') : sNI (u_X8_277_0 M) (u_X8_277_0 M') := (sm_R (sm_I (sm_I (sm_I (sm_I (sm_nw (sm_R (sm_I (sm_I (sm_I (sm_I (sm_nw (sm_R (sm_nw (sm_I (sm_R (sm_nw h) _ _ _ _) _ _ _)) _ _ _ _)) _ _ _) _ _ _) _ _ _) _ _ _) _ _ _ _)) _ _ _) _ _ _) _ _ _) _ _ _) _ _ _ _)
theorem sm_u_X8_277_1 {M M' : pm} (h : sNI M M') : sNI (u_X8_277_1 M) (u_X8_277_1 M') := (sm_R (sm_I (sm_I (sm_I (sm_I (sm_I (sm_nw (sm_R (sm_I (sm_I (sm_I (sm_I (sm_nw h) _ _ _) _ _ _) _ _ _) _ _ _) _ _ _ _)) _ _ _) _ _ _) _ _ _) _ _ _) _ _ _) _ _ _ _)
theorem sm_u_X8_277_2 {M M' : pm} (h : sNI M M') : sNI (u_X8_277_2 M) (u_X8_277_2 M') := (sm_R (sm_I (sm_I (sm_I (sm_I (sm_I (sm_nw (sm_R (sm_I (sm_I (sm_I (sm_I (sm_I (sm_nw h) _ _ _) _ _ _) _ _ _) _ _ _) _ _ _) _ _ _ _)) _ _ _) _ _ _) _ _ _) _ _ _) _ _ _) _ _ _ _)
theorem sm_u_X8_277_3 {M M' : pm} (h : sNI M M') : sNI (u_X8_277_3 M) (u_X8_277_3 M') := (sm_R (sm_I (sm_I (sm_I (sm_I (sm_I (sm_nw (sm_R (sm_I (sm_I (sm_I (sm_I (sm_nw h) _ _ _) _ _ _) _ _ _) _ _ _) _ _ _ _)) _ _ _) _ _ _) _ _ _) _ _ _) _ _ _) _ _ _ _)
theorem sm_u_X8_277_4 {M M' : pm} (h : sNI M M') : sNI (u_X8_277_4 M) (u_X8_277_4 M') := (sm_R (sm_I (sm_I (sm_I (sm_I (sm_I (sm_nw (sm_R (sm_I (sm_I (sm_I (sm_I (sm_I (sm_nw (sm_R (sm_I (sm_I (sm_I (sm_nw h) _ _ _) _ _ _) _ _ _) _ _ _ _)) _ _ _) _ _ _) _ _ _) _ _ _) _ _ _) _ _ _ _)) _ _ _) _ _ _) _ _ _) _ _ _) _ _ _) _ _ _ _)
theorem sm_u_X8_277_5 {M M' : pm} (h : sNI M M') : sNI (u_X8_277_5 M) (u_X8_277_5 M') := (sm_R (sm_I (sm_I (sm_I (sm_I (sm_I (sm_nw (sm_R (sm_I (sm_I (sm_I (sm_I (sm_I (sm_nw h) _ _ _) _ _ _) _ _ _) _ _ _) _ _ _) _ _ _ _)) _ _ _) _ _ _) _ _ _) _ _ _) _ _ _) _ _ _ _)
theorem sm_u_X8_277_6 {M M' : pm} (h : sNI M M') : sNI (u_X8_277_6 M) (u_X8_277_6 M') := (sm_R (sm_I (sm_I (sm_I (sm_nw (sm_R (sm_I (sm_I (sm_I (sm_I (sm_nw (sm_R (sm_I (sm_I (sm_I (sm_I (sm_nw h) _ _ _) _ _ _) _ _ _) _ _ _) _ _ _ _)) _ _ _) _ _ _) _ _ _) _ _ _) _ _ _ _)) _ _ _) _ _ _) _ _ _) _ _ _ _)
theorem sm_u_X8_277_7 {M M' : pm} (h : sNI M M') : sNI (u_X8_277_7 M) (u_X8_277_7 M') := (sm_R (sm_I (sm_I (sm_I (sm_I (sm_I (sm_I (sm_nw (sm_R (sm_I (sm_I (sm_I (sm_I (sm_I (sm_nw h) _ _ _) _ _ _) _ _ _) _ _ _) _ _ _) _ _ _ _)) _ _ _) _ _ _) _ _ _) _ _ _) _ _ _) _ _ _) _ _ _ _)
theorem sm_u_X8_277_8 {M M' : pm} (h : sNI M M') : sNI (u_X8_277_8 M) (u_X8_277_8 M') := (sm_R (sm_I (sm_I (sm_I (sm_I (sm_I (sm_I (sm_nw (sm_R (sm_I (sm_I (sm_I (sm_nw h) _ _ _) _ _ _) _ _ _) _ _ _ _)) _ _ _) _ _ _) _ _ _) _ _ _) _ _ _) _ _ _) _ _ _ _)
theorem sm_u_X8_277_9 {M M' : pm} (h : sNI M M') : sNI (u_X8_277_9 M) (u_X8_277_9 M') := (sm_R (sm_I (sm_I (sm_nw (sm_R (sm_I (sm_I (sm_nw (sm_R (sm_I (sm_I (sm_I (sm_I (sm_I (sm_nw h) _ _ _) _ _ _) _ _ _) _ _ _) _ _ _) _ _ _ _)) _ _ _) _ _ _) _ _ _ _)) _ _ _) _ _ _) _ _ _ _)
theorem sm_u_X8_277_10 {M M' : pm} (h : sNI M M') : sNI (u_X8_277_10 M) (u_X8_277_10 M') := (sm_R (sm_I (sm_I (sm_I (sm_nw (sm_R (sm_I (sm_I (sm_I (sm_nw (sm_R (sm_I (sm_I (sm_I (sm_nw h) _ _ _) _ _ _) _ _ _) _ _ _ _)) _ _ _) _ _ _) _ _ _) _ _ _ _)) _ _ _) _ _ _) _ _ _) _ _ _ _)
theorem sm_u_X8_277_11 {M M' : pm} (h : sNI M M') : sNI (u_X8_277_11 M) (u_X8_277_11 M') := (sm_R (sm_nw (sm_R (sm_nw (sm_R (sm_nw (sm_R (sm_I (sm_I (sm_I (sm_nw (sm_R (sm_I (sm_I (sm_I (sm_nw h) _ _ _) _ _ _) _ _ _) _ _ _ _)) _ _ _) _ _ _) _ _ _) _ _ _ _)) _ _ _ _)) _ _ _ _)) _ _ _ _)
theorem sm_u_X8_277_12 {M M' : pm} (h : sNI M M') : sNI (u_X8_277_12 M) (u_X8_277_12 M') := (sm_R (sm_nw (sm_R (sm_I (sm_I (sm_I (sm_I (sm_I (sm_I (sm_nw (sm_R (sm_nw (sm_R (sm_nw (sm_R (sm_nw h) _ _ _ _)) _ _ _ _)) _ _ _ _)) _ _ _) _ _ _) _ _ _) _ _ _) _ _ _) _ _ _) _ _ _ _)) _ _ _ _)
theorem sm_u_X8_277_13 {M M' : pm} (h : sNI M M') : sNI (u_X8_277_13 M) (u_X8_277_13 M') := (sm_J (sm_R (sm_nw (sm_R (sm_nw (sm_R (sm_nw (sm_R (sm_nw (sm_R (sm_nw (sm_R (sm_nw (sm_R (sm_nw (sm_R (sm_nw (sm_R (sm_nw (sm_R (sm_nw h) _ _ _ _)) _ _ _ _)) _ _ _ _)) _ _ _ _)) _ _ _ _)) _ _ _ _)) _ _ _ _)) _ _ _ _)) _ _ _ _)) _ _ _ _) _ _ _)
theorem sm_u_X8_277_14 {M M' : pm} (h : sNI M M') : sNI (u_X8_277_14 M) (u_X8_277_14 M') := (sm_R (sm_I (sm_I (sm_I (sm_I (sm_nw (sm_R (sm_I (sm_I (sm_I (sm_I (sm_I (sm_nw h) _ _ _) _ _ _) _ _ _) _ _ _) _ _ _) _ _ _ _)) _ _ _) _ _ _) _ _ _) _ _ _) _ _ _ _)
theorem sm_u_X8_277_15 {M M' : pm} (h : sNI M M') : sNI (u_X8_277_15 M) (u_X8_277_15 M') := (sm_R (sm_I (sm_I (sm_I (sm_I (sm_I (sm_nw (sm_R (sm_I (sm_I (sm_I (sm_I (sm_I (sm_nw h) _ _ _) _ _ _) _ _ _) _ _ _) _ _ _) _ _ _ _)) _ _ _) _ _ _) _ _ _) _ _ _) _ _ _) _ _ _ _)
theorem sm_u_X8_277_16 {M M' : pm} (h : sNI M M') : sNI (u_X8_277_16 M) (u_X8_277_16 M') := (sm_R (sm_I (sm_I (sm_I (sm_I (sm_I (sm_nw (sm_R (sm_I (sm_I (sm_I (sm_I (sm_nw h) _ _ _) _ _ _) _ _ _) _ _ _) _ _ _ _)) _ _ _) _ _ _) _ _ _) _ _ _) _ _ _) _ _ _ _)
theorem sm_u_X8_277_17 {M M' : pm} (h : sNI M M') : sNI (u_X8_277_17 M) (u_X8_277_17 M') := (sm_R (sm_I (sm_I (sm_nw (sm_R (sm_I (sm_I (sm_I (sm_nw (sm_R (sm_I (sm_I (sm_I (sm_nw h) _ _ _) _ _ _) _ _ _) _ _ _ _)) _ _ _) _ _ _) _ _ _) _ _ _ _)) _ _ _) _ _ _) _ _ _ _)
theorem sm_u_X8_277_18 {M M' : pm} (h : sNI M M') : sNI (u_X8_277_18 M) (u_X8_277_18 M') := (sm_R (sm_I (sm_I (sm_I (sm_nw (sm_R (sm_I (sm_I (sm_I (sm_nw (sm_R (sm_I (sm_I (sm_I (sm_nw h) _ _ _) _ _ _) _ _ _) _ _ _ _)) _ _ _) _ _ _) _ _ _) _ _ _ _)) _ _ _) _ _ _) _ _ _) _ _ _ _)
theorem sm_u_X8_277_19 {M M' : pm} (h : sNI M M') : sNI (u_X8_277_19 M) (u_X8_277_19 M') := (sm_R (sm_I (sm_I (sm_I (sm_I (sm_I (sm_nw (sm_R (sm_I (sm_I (sm_I (sm_nw (sm_R (sm_I (sm_I (sm_I (sm_I (sm_I (sm_nw h) _ _ _) _ _ _) _ _ _) _ _ _) _ _ _) _ _ _ _)) _ _ _) _ _ _) _ _ _) _ _ _ _)) _ _ _) _ _ _) _ _ _) _ _ _) _ _ _) _ _ _ _)
theorem sm_u_X8_277_20 {M M' : pm} (h : sNI M M') : sNI (u_X8_277_20 M) (u_X8_277_20 M') := (sm_R (sm_I (sm_I (sm_I (sm_nw (sm_R (sm_I (sm_I (sm_I (sm_I (sm_I (sm_I (sm_nw h) _ _ _) _ _ _) _ _ _) _ _ _) _ _ _) _ _ _) _ _ _ _)) _ _ _) _ _ _) _ _ _) _ _ _ _)
theorem sm_u_X8_277_21 {M M' : pm} (h : sNI M M') : sNI (u_X8_277_21 M) (u_X8_277_21 M') := (sm_R (sm_I (sm_I (sm_I (sm_I (sm_I (sm_nw (sm_R (sm_I (sm_I (sm_I (sm_I (sm_nw h) _ _ _) _ _ _) _ _ _) _ _ _) _ _ _ _)) _ _ _) _ _ _) _ _ _) _ _ _) _ _ _) _ _ _ _)
theorem sm_u_X8_277_22 {M M' : pm} (h : sNI M M') : sNI (u_X8_277_22 M) (u_X8_277_22 M') := (sm_R (sm_I (sm_I (sm_I (sm_I (sm_I (sm_nw (sm_R (sm_I (sm_I (sm_I (sm_I (sm_I (sm_I (sm_nw h) _ _ _) _ _ _) _ _ _) _ _ _) _ _ _) _ _ _) _ _ _ _)) _ _ _) _ _ _) _ _ _) _ _ _) _ _ _) _ _ _ _)
theorem sm_u_X8_277_23 {M M' : pm} (h : sNI M M') : sNI (u_X8_277_23 M) (u_X8_277_23 M') := (sm_R (sm_nw (sm_R (sm_nw (sm_R (sm_I (sm_I (sm_I (sm_I (sm_I (sm_nw (sm_R (sm_I (sm_I (sm_nw h) _ _ _) _ _ _) _ _ _ _)) _ _ _) _ _ _) _ _ _) _ _ _) _ _ _) _ _ _ _)) _ _ _ _)) _ _ _ _)
theorem sm_u_X8_277_24 {M M' : pm} (h : sNI M M') : sNI (u_X8_277_24 M) (u_X8_277_24 M') := (sm_R (sm_nw (sm_R (sm_nw h) _ _ _ _)) _ _ _ _)
theorem sm_i_X8_277 {M M' : pm} (h : sNI M M') : sNI (i_X8_277 M) (i_X8_277 M') := (sm_u_X8_277_24 (sm_u_X8_277_23 (sm_u_X8_277_22 (sm_u_X8_277_21 (sm_u_X8_277_20 (sm_u_X8_277_19 (sm_u_X8_277_18 (sm_u_X8_277_17 (sm_u_X8_277_16 (sm_u_X8_277_15 (sm_u_X8_277_14 (sm_u_X8_277_13 (sm_u_X8_277_12 (sm_u_X8_277_11 (sm_u_X8_277_10 (sm_u_X8_277_9 (sm_u_X8_277_8 (sm_u_X8_277_7 (sm_u_X8_277_6 (sm_u_X8_277_5 (sm_u_X8_277_4 (sm_u_X8_277_3 (sm_u_X8_277_2 (sm_u_X8_277_1 (sm_u_X8_277_0 h)))))))))))))))))))))))))
theorem sm_u_L_law_0 {M M' : pm} (h : sNI M M') : sNI (u_L_law_0 M) (u_L_law_0 M') := (sm_i_X7_3 (sm_nw h))
theorem sm_u_L_law_1 {M M' : pm} (h : sNI M M') : sNI (u_L_law_1 M) (u_L_law_1 M') := (sm_i_X8_277 (sm_nw h))
theorem sm_u_L_law_2 {M M' : pm} (h : sNI M M') : sNI (u_L_law_2 M) (u_L_law_2 M') := h
theorem sm_i_L_law {M M' : pm} (h : sNI M M') : sNI (i_L_law M) (i_L_law M') := (sm_u_L_law_2 (sm_u_L_law_1 (sm_u_L_law_0 h)))
theorem mL_u : True := trivial
theorem ml_u_X6_6_0 (M : pm) : mL (u_X6_6_0 M) = mL M := by
  unfold u_X6_6_0
  simp only [mL_sI, mL_sJ, mL_sR, mL_nw, mL_nm]
theorem ml_u_X6_6_1 (M : pm) : mL (u_X6_6_1 M) = mL M := by
  unfold u_X6_6_1
  simp only [mL_sI, mL_sJ, mL_sR, mL_nw, mL_nm]
theorem ml_u_X6_6_2 (M : pm) : mL (u_X6_6_2 M) = mL M := by
  unfold u_X6_6_2
  simp only [mL_sI, mL_sJ, mL_sR, mL_nw, mL_nm]
theorem ml_u_X6_6_3 (M : pm) : mL (u_X6_6_3 M) = mL M := by
  unfold u_X6_6_3
  simp only [mL_sI, mL_sJ, mL_sR, mL_nw, mL_nm]
theorem ml_u_X6_6_4 (M : pm) : mL (u_X6_6_4 M) = mL M := by
  unfold u_X6_6_4
  simp only [mL_sI, mL_sJ, mL_sR, mL_nw, mL_nm]
theorem ml_u_X6_6_5 (M : pm) : mL (u_X6_6_5 M) = mL M := by
  unfold u_X6_6_5
  simp only [mL_sI, mL_sJ, mL_sR, mL_nw, mL_nm]
theorem ml_u_X6_6_6 (M : pm) : mL (u_X6_6_6 M) = mL M := by
  unfold u_X6_6_6
  simp only [mL_sI, mL_sJ, mL_sR, mL_nw, mL_nm]
theorem ml_u_X6_6_7 (M : pm) : mL (u_X6_6_7 M) = mL M := by
  unfold u_X6_6_7
  simp only [mL_sI, mL_sJ, mL_sR, mL_nw, mL_nm]
theorem ml_u_X6_6_8 (M : pm) : mL (u_X6_6_8 M) = mL M := by
  unfold u_X6_6_8
  simp only [mL_sI, mL_sJ, mL_sR, mL_nw, mL_nm]
theorem ml_u_X6_6_9 (M : pm) : mL (u_X6_6_9 M) = mL M := by
  unfold u_X6_6_9
  simp only [mL_sI, mL_sJ, mL_sR, mL_nw, mL_nm]
theorem ml_u_X6_6_10 (M : pm) : mL (u_X6_6_10 M) = mL M := by
  unfold u_X6_6_10
  simp only [mL_sI, mL_sJ, mL_sR, mL_nw, mL_nm]
theorem ml_u_X6_6_11 (M : pm) : mL (u_X6_6_11 M) = mL M := by
  unfold u_X6_6_11
  simp only [mL_sI, mL_sJ, mL_sR, mL_nw, mL_nm]
theorem ml_u_X6_6_12 (M : pm) : mL (u_X6_6_12 M) = mL M := by
  unfold u_X6_6_12
  simp only [mL_sI, mL_sJ, mL_sR, mL_nw, mL_nm]
theorem ml_u_X6_6_13 (M : pm) : mL (u_X6_6_13 M) = mL M := by
  unfold u_X6_6_13
  simp only [mL_sI, mL_sJ, mL_sR, mL_nw, mL_nm]
theorem ml_u_X6_6_14 (M : pm) : mL (u_X6_6_14 M) = mL M := by
  unfold u_X6_6_14
  simp only [mL_sI, mL_sJ, mL_sR, mL_nw, mL_nm]
theorem ml_u_X6_6_15 (M : pm) : mL (u_X6_6_15 M) = mL M := by
  unfold u_X6_6_15
  simp only [mL_sI, mL_sJ, mL_sR, mL_nw, mL_nm]
theorem ml_u_X6_6_16 (M : pm) : mL (u_X6_6_16 M) = mL M := by
  unfold u_X6_6_16
  simp only [mL_sI, mL_sJ, mL_sR, mL_nw, mL_nm]
theorem ml_u_X6_6_17 (M : pm) : mL (u_X6_6_17 M) = mL M := by
  unfold u_X6_6_17
  simp only [mL_sI, mL_sJ, mL_sR, mL_nw, mL_nm]
theorem ml_u_X6_6_18 (M : pm) : mL (u_X6_6_18 M) = mL M := by
  unfold u_X6_6_18
  simp only [mL_sI, mL_sJ, mL_sR, mL_nw, mL_nm]
theorem ml_u_X6_6_19 (M : pm) : mL (u_X6_6_19 M) = mL M := by
  unfold u_X6_6_19
  simp only [mL_sI, mL_sJ, mL_sR, mL_nw, mL_nm]
theorem ml_u_X6_6_20 (M : pm) : mL (u_X6_6_20 M) = mL M := by
  unfold u_X6_6_20
  simp only [mL_sI, mL_sJ, mL_sR, mL_nw, mL_nm]
theorem ml_u_X6_6_21 (M : pm) : mL (u_X6_6_21 M) = mL M := by
  unfold u_X6_6_21
  simp only [mL_sI, mL_sJ, mL_sR, mL_nw, mL_nm]
theorem ml_u_X6_6_22 (M : pm) : mL (u_X6_6_22 M) = mL M := by
  unfold u_X6_6_22
  simp only [mL_sI, mL_sJ, mL_sR, mL_nw, mL_nm]
theorem ml_u_X6_6_23 (M : pm) : mL (u_X6_6_23 M) = mL M := by
  unfold u_X6_6_23
  simp only [mL_sI, mL_sJ, mL_sR, mL_nw, mL_nm]
theorem ml_u_X6_6_24 (M : pm) : mL (u_X6_6_24 M) = mL M := by
  unfold u_X6_6_24
  simp only [mL_sI, mL_sJ, mL_sR, mL_nw, mL_nm]
theorem ml_u_X6_6_25 (M : pm) : mL (u_X6_6_25 M) = mL M := by
  unfold u_X6_6_25
  simp only [mL_sI, mL_sJ, mL_sR, mL_nw, mL_nm]
theorem ml_u_X6_6_26 (M : pm) : mL (u_X6_6_26 M) = mL M := by
  unfold u_X6_6_26
  simp only [mL_sI, mL_sJ, mL_sR, mL_nw, mL_nm]
theorem ml_u_X6_6_27 (M : pm) : mL (u_X6_6_27 M) = mL M := by
  unfold u_X6_6_27
  simp only [mL_sI, mL_sJ, mL_sR, mL_nw, mL_nm]
theorem ml_u_X6_6_28 (M : pm) : mL (u_X6_6_28 M) = mL M := by
  unfold u_X6_6_28
  simp only [mL_sI, mL_sJ, mL_sR, mL_nw, mL_nm]
theorem ml_u_X6_6_29 (M : pm) : mL (u_X6_6_29 M) = mL M := by
  unfold u_X6_6_29
  simp only [mL_sI, mL_sJ, mL_sR, mL_nw, mL_nm]
theorem ml_u_X6_6_30 (M : pm) : mL (u_X6_6_30 M) = mL M := by
  unfold u_X6_6_30
  simp only [mL_sI, mL_sJ, mL_sR, mL_nw, mL_nm]
theorem ml_u_X6_6_31 (M : pm) : mL (u_X6_6_31 M) = mL M := by
  unfold u_X6_6_31
  simp only [mL_sI, mL_sJ, mL_sR, mL_nw, mL_nm]
theorem ml_u_X6_6_32 (M : pm) : mL (u_X6_6_32 M) = mL M := by
  unfold u_X6_6_32
  simp only [mL_sI, mL_sJ, mL_sR, mL_nw, mL_nm]
theorem ml_u_X6_6_33 (M : pm) : mL (u_X6_6_33 M) = mL M := by
  unfold u_X6_6_33
  simp only [mL_sI, mL_sJ, mL_sR, mL_nw, mL_nm]
theorem ml_u_X6_6_34 (M : pm) : mL (u_X6_6_34 M) = mL M := by
  unfold u_X6_6_34
  simp only [mL_sI, mL_sJ, mL_sR, mL_nw, mL_nm]
theorem ml_i_X6_6 (M : pm) : mL (i_X6_6 M) = mL M := by
  unfold i_X6_6
  simp only [ml_u_X6_6_34, ml_u_X6_6_33, ml_u_X6_6_32, ml_u_X6_6_31, ml_u_X6_6_30, ml_u_X6_6_29, ml_u_X6_6_28, ml_u_X6_6_27, ml_u_X6_6_26, ml_u_X6_6_25, ml_u_X6_6_24, ml_u_X6_6_23, ml_u_X6_6_22, ml_u_X6_6_21, ml_u_X6_6_20, ml_u_X6_6_19, ml_u_X6_6_18, ml_u_X6_6_17, ml_u_X6_6_16, ml_u_X6_6_15, ml_u_X6_6_14, ml_u_X6_6_13, ml_u_X6_6_12, ml_u_X6_6_11, ml_u_X6_6_10, ml_u_X6_6_9, ml_u_X6_6_8, ml_u_X6_6_7, ml_u_X6_6_6, ml_u_X6_6_5, ml_u_X6_6_4, ml_u_X6_6_3, ml_u_X6_6_2, ml_u_X6_6_1, ml_u_X6_6_0, mL_sI, mL_sJ, mL_sR, mL_nw, mL_nm]
theorem ml_u_X2_9_0 (M : pm) : mL (u_X2_9_0 M) = mL M := by
  unfold u_X2_9_0
  simp only [mL_sI, mL_sJ, mL_sR, mL_nw, mL_nm]
theorem ml_i_X2_9 (M : pm) : mL (i_X2_9 M) = mL M := by
  unfold i_X2_9
  simp only [ml_u_X2_9_0, mL_sI, mL_sJ, mL_sR, mL_nw, mL_nm]
theorem ml_u_X3_5_0 (M : pm) : mL (u_X3_5_0 M) = mL M := by
  unfold u_X3_5_0
  simp only [ml_i_X6_6, mL_sI, mL_sJ, mL_sR, mL_nw, mL_nm]
theorem ml_u_X3_5_1 (M : pm) : mL (u_X3_5_1 M) = mL M := by
  unfold u_X3_5_1
  simp only [ml_i_X2_9, mL_sI, mL_sJ, mL_sR, mL_nw, mL_nm]
theorem ml_u_X3_5_2 (M : pm) : mL (u_X3_5_2 M) = mL M := by
  unfold u_X3_5_2
  simp only [mL_sI, mL_sJ, mL_sR, mL_nw, mL_nm]
theorem ml_i_X3_5 (M : pm) : mL (i_X3_5 M) = mL M := by
  unfold i_X3_5
  simp only [ml_u_X3_5_2, ml_u_X3_5_1, ml_u_X3_5_0, mL_sI, mL_sJ, mL_sR, mL_nw, mL_nm]
theorem ml_u_X2_24_0 (M : pm) : mL (u_X2_24_0 M) = mL M := by
  unfold u_X2_24_0
  simp only [mL_sI, mL_sJ, mL_sR, mL_nw, mL_nm]
theorem ml_i_X2_24 (M : pm) : mL (i_X2_24 M) = mL M := by
  unfold i_X2_24
  simp only [ml_u_X2_24_0, mL_sI, mL_sJ, mL_sR, mL_nw, mL_nm]
theorem ml_u_X5_14_0 (M : pm) : mL (u_X5_14_0 M) = mL M := by
  unfold u_X5_14_0
  simp only [mL_sI, mL_sJ, mL_sR, mL_nw, mL_nm]
theorem ml_u_X5_14_1 (M : pm) : mL (u_X5_14_1 M) = mL M := by
  unfold u_X5_14_1
  simp only [ml_i_X2_24, mL_sI, mL_sJ, mL_sR, mL_nw, mL_nm]
theorem ml_u_X5_14_2 (M : pm) : mL (u_X5_14_2 M) = mL M := by
  unfold u_X5_14_2
  simp only [mL_sI, mL_sJ, mL_sR, mL_nw, mL_nm]
theorem ml_i_X5_14 (M : pm) : mL (i_X5_14 M) = mL M := by
  unfold i_X5_14
  simp only [ml_u_X5_14_2, ml_u_X5_14_1, ml_u_X5_14_0, mL_sI, mL_sJ, mL_sR, mL_nw, mL_nm]
theorem ml_u_X2_39_0 (M : pm) : mL (u_X2_39_0 M) = mL M := by
  unfold u_X2_39_0
  simp only [mL_sI, mL_sJ, mL_sR, mL_nw, mL_nm]
theorem ml_i_X2_39 (M : pm) : mL (i_X2_39 M) = mL M := by
  unfold i_X2_39
  simp only [ml_u_X2_39_0, mL_sI, mL_sJ, mL_sR, mL_nw, mL_nm]
theorem ml_u_X5_29_0 (M : pm) : mL (u_X5_29_0 M) = mL M := by
  unfold u_X5_29_0
  simp only [mL_sI, mL_sJ, mL_sR, mL_nw, mL_nm]
theorem ml_u_X5_29_1 (M : pm) : mL (u_X5_29_1 M) = mL M := by
  unfold u_X5_29_1
  simp only [ml_i_X2_39, mL_sI, mL_sJ, mL_sR, mL_nw, mL_nm]
theorem ml_u_X5_29_2 (M : pm) : mL (u_X5_29_2 M) = mL M := by
  unfold u_X5_29_2
  simp only [mL_sI, mL_sJ, mL_sR, mL_nw, mL_nm]
theorem ml_i_X5_29 (M : pm) : mL (i_X5_29 M) = mL M := by
  unfold i_X5_29
  simp only [ml_u_X5_29_2, ml_u_X5_29_1, ml_u_X5_29_0, mL_sI, mL_sJ, mL_sR, mL_nw, mL_nm]
theorem ml_u_X1_44_0 (M : pm) : mL (u_X1_44_0 M) = mL M := by
  unfold u_X1_44_0
  simp only [mL_sI, mL_sJ, mL_sR, mL_nw, mL_nm]
theorem ml_i_X1_44 (M : pm) : mL (i_X1_44 M) = mL M := by
  unfold i_X1_44
  simp only [ml_u_X1_44_0, mL_sI, mL_sJ, mL_sR, mL_nw, mL_nm]
theorem ml_u_X4_57_0 (M : pm) : mL (u_X4_57_0 M) = mL M := by
  unfold u_X4_57_0
  simp only [mL_sI, mL_sJ, mL_sR, mL_nw, mL_nm]
theorem ml_i_X4_57 (M : pm) : mL (i_X4_57 M) = mL M := by
  unfold i_X4_57
  simp only [ml_u_X4_57_0, mL_sI, mL_sJ, mL_sR, mL_nw, mL_nm]
theorem ml_u_X4_66_0 (M : pm) : mL (u_X4_66_0 M) = mL M := by
  unfold u_X4_66_0
  simp only [mL_sI, mL_sJ, mL_sR, mL_nw, mL_nm]
theorem ml_i_X4_66 (M : pm) : mL (i_X4_66 M) = mL M := by
  unfold i_X4_66
  simp only [ml_u_X4_66_0, mL_sI, mL_sJ, mL_sR, mL_nw, mL_nm]
theorem ml_u_X4_77_0 (M : pm) : mL (u_X4_77_0 M) = mL M := by
  unfold u_X4_77_0
  simp only [mL_sI, mL_sJ, mL_sR, mL_nw, mL_nm]
theorem ml_i_X4_77 (M : pm) : mL (i_X4_77 M) = mL M := by
  unfold i_X4_77
  simp only [ml_u_X4_77_0, mL_sI, mL_sJ, mL_sR, mL_nw, mL_nm]
theorem ml_u_X4_86_0 (M : pm) : mL (u_X4_86_0 M) = mL M := by
  unfold u_X4_86_0
  simp only [mL_sI, mL_sJ, mL_sR, mL_nw, mL_nm]
theorem ml_i_X4_86 (M : pm) : mL (i_X4_86 M) = mL M := by
  unfold i_X4_86
  simp only [ml_u_X4_86_0, mL_sI, mL_sJ, mL_sR, mL_nw, mL_nm]
theorem ml_u_X4_95_0 (M : pm) : mL (u_X4_95_0 M) = mL M := by
  unfold u_X4_95_0
  simp only [mL_sI, mL_sJ, mL_sR, mL_nw, mL_nm]
theorem ml_i_X4_95 (M : pm) : mL (i_X4_95 M) = mL M := by
  unfold i_X4_95
  simp only [ml_u_X4_95_0, mL_sI, mL_sJ, mL_sR, mL_nw, mL_nm]
theorem ml_u_X4_104_0 (M : pm) : mL (u_X4_104_0 M) = mL M := by
  unfold u_X4_104_0
  simp only [mL_sI, mL_sJ, mL_sR, mL_nw, mL_nm]
theorem ml_i_X4_104 (M : pm) : mL (i_X4_104 M) = mL M := by
  unfold i_X4_104
  simp only [ml_u_X4_104_0, mL_sI, mL_sJ, mL_sR, mL_nw, mL_nm]
theorem ml_u_X4_113_0 (M : pm) : mL (u_X4_113_0 M) = mL M := by
  unfold u_X4_113_0
  simp only [mL_sI, mL_sJ, mL_sR, mL_nw, mL_nm]
theorem ml_i_X4_113 (M : pm) : mL (i_X4_113 M) = mL M := by
  unfold i_X4_113
  simp only [ml_u_X4_113_0, mL_sI, mL_sJ, mL_sR, mL_nw, mL_nm]
theorem ml_u_X4_122_0 (M : pm) : mL (u_X4_122_0 M) = mL M := by
  unfold u_X4_122_0
  simp only [mL_sI, mL_sJ, mL_sR, mL_nw, mL_nm]
theorem ml_i_X4_122 (M : pm) : mL (i_X4_122 M) = mL M := by
  unfold i_X4_122
  simp only [ml_u_X4_122_0, mL_sI, mL_sJ, mL_sR, mL_nw, mL_nm]
theorem ml_u_X4_131_0 (M : pm) : mL (u_X4_131_0 M) = mL M := by
  unfold u_X4_131_0
  simp only [mL_sI, mL_sJ, mL_sR, mL_nw, mL_nm]
theorem ml_i_X4_131 (M : pm) : mL (i_X4_131 M) = mL M := by
  unfold i_X4_131
  simp only [ml_u_X4_131_0, mL_sI, mL_sJ, mL_sR, mL_nw, mL_nm]
theorem ml_u_X4_140_0 (M : pm) : mL (u_X4_140_0 M) = mL M := by
  unfold u_X4_140_0
  simp only [mL_sI, mL_sJ, mL_sR, mL_nw, mL_nm]
theorem ml_i_X4_140 (M : pm) : mL (i_X4_140 M) = mL M := by
  unfold i_X4_140
  simp only [ml_u_X4_140_0, mL_sI, mL_sJ, mL_sR, mL_nw, mL_nm]
theorem ml_u_X4_149_0 (M : pm) : mL (u_X4_149_0 M) = mL M := by
  unfold u_X4_149_0
  simp only [mL_sI, mL_sJ, mL_sR, mL_nw, mL_nm]
theorem ml_i_X4_149 (M : pm) : mL (i_X4_149 M) = mL M := by
  unfold i_X4_149
  simp only [ml_u_X4_149_0, mL_sI, mL_sJ, mL_sR, mL_nw, mL_nm]
theorem ml_u_X4_158_0 (M : pm) : mL (u_X4_158_0 M) = mL M := by
  unfold u_X4_158_0
  simp only [mL_sI, mL_sJ, mL_sR, mL_nw, mL_nm]
theorem ml_i_X4_158 (M : pm) : mL (i_X4_158 M) = mL M := by
  unfold i_X4_158
  simp only [ml_u_X4_158_0, mL_sI, mL_sJ, mL_sR, mL_nw, mL_nm]
theorem ml_u_X4_167_0 (M : pm) : mL (u_X4_167_0 M) = mL M := by
  unfold u_X4_167_0
  simp only [mL_sI, mL_sJ, mL_sR, mL_nw, mL_nm]
theorem ml_i_X4_167 (M : pm) : mL (i_X4_167 M) = mL M := by
  unfold i_X4_167
  simp only [ml_u_X4_167_0, mL_sI, mL_sJ, mL_sR, mL_nw, mL_nm]
theorem ml_u_X4_176_0 (M : pm) : mL (u_X4_176_0 M) = mL M := by
  unfold u_X4_176_0
  simp only [mL_sI, mL_sJ, mL_sR, mL_nw, mL_nm]
theorem ml_i_X4_176 (M : pm) : mL (i_X4_176 M) = mL M := by
  unfold i_X4_176
  simp only [ml_u_X4_176_0, mL_sI, mL_sJ, mL_sR, mL_nw, mL_nm]
theorem ml_u_X4_185_0 (M : pm) : mL (u_X4_185_0 M) = mL M := by
  unfold u_X4_185_0
  simp only [mL_sI, mL_sJ, mL_sR, mL_nw, mL_nm]
theorem ml_i_X4_185 (M : pm) : mL (i_X4_185 M) = mL M := by
  unfold i_X4_185
  simp only [ml_u_X4_185_0, mL_sI, mL_sJ, mL_sR, mL_nw, mL_nm]
theorem ml_u_X4_194_0 (M : pm) : mL (u_X4_194_0 M) = mL M := by
  unfold u_X4_194_0
  simp only [mL_sI, mL_sJ, mL_sR, mL_nw, mL_nm]
theorem ml_i_X4_194 (M : pm) : mL (i_X4_194 M) = mL M := by
  unfold i_X4_194
  simp only [ml_u_X4_194_0, mL_sI, mL_sJ, mL_sR, mL_nw, mL_nm]
theorem ml_u_X4_203_0 (M : pm) : mL (u_X4_203_0 M) = mL M := by
  unfold u_X4_203_0
  simp only [mL_sI, mL_sJ, mL_sR, mL_nw, mL_nm]
theorem ml_i_X4_203 (M : pm) : mL (i_X4_203 M) = mL M := by
  unfold i_X4_203
  simp only [ml_u_X4_203_0, mL_sI, mL_sJ, mL_sR, mL_nw, mL_nm]
theorem ml_u_X4_212_0 (M : pm) : mL (u_X4_212_0 M) = mL M := by
  unfold u_X4_212_0
  simp only [mL_sI, mL_sJ, mL_sR, mL_nw, mL_nm]
theorem ml_i_X4_212 (M : pm) : mL (i_X4_212 M) = mL M := by
  unfold i_X4_212
  simp only [ml_u_X4_212_0, mL_sI, mL_sJ, mL_sR, mL_nw, mL_nm]
theorem ml_u_X4_221_0 (M : pm) : mL (u_X4_221_0 M) = mL M := by
  unfold u_X4_221_0
  simp only [mL_sI, mL_sJ, mL_sR, mL_nw, mL_nm]
theorem ml_i_X4_221 (M : pm) : mL (i_X4_221 M) = mL M := by
  unfold i_X4_221
  simp only [ml_u_X4_221_0, mL_sI, mL_sJ, mL_sR, mL_nw, mL_nm]
theorem ml_u_X4_230_0 (M : pm) : mL (u_X4_230_0 M) = mL M := by
  unfold u_X4_230_0
  simp only [mL_sI, mL_sJ, mL_sR, mL_nw, mL_nm]
theorem ml_i_X4_230 (M : pm) : mL (i_X4_230 M) = mL M := by
  unfold i_X4_230
  simp only [ml_u_X4_230_0, mL_sI, mL_sJ, mL_sR, mL_nw, mL_nm]
theorem ml_u_X4_239_0 (M : pm) : mL (u_X4_239_0 M) = mL M := by
  unfold u_X4_239_0
  simp only [mL_sI, mL_sJ, mL_sR, mL_nw, mL_nm]
theorem ml_i_X4_239 (M : pm) : mL (i_X4_239 M) = mL M := by
  unfold i_X4_239
  simp only [ml_u_X4_239_0, mL_sI, mL_sJ, mL_sR, mL_nw, mL_nm]
theorem ml_u_X4_248_0 (M : pm) : mL (u_X4_248_0 M) = mL M := by
  unfold u_X4_248_0
  simp only [mL_sI, mL_sJ, mL_sR, mL_nw, mL_nm]
theorem ml_i_X4_248 (M : pm) : mL (i_X4_248 M) = mL M := by
  unfold i_X4_248
  simp only [ml_u_X4_248_0, mL_sI, mL_sJ, mL_sR, mL_nw, mL_nm]
theorem ml_u_X0_75_0 (M : pm) : mL (u_X0_75_0 M) = mL M := by
  unfold u_X0_75_0
  simp only [ml_i_X4_77, mL_sI, mL_sJ, mL_sR, mL_nw, mL_nm]
theorem ml_u_X0_75_1 (M : pm) : mL (u_X0_75_1 M) = mL M := by
  unfold u_X0_75_1
  simp only [mL_sI, mL_sJ, mL_sR, mL_nw, mL_nm]
theorem ml_u_X0_75_2 (M : pm) : mL (u_X0_75_2 M) = mL M := by
  unfold u_X0_75_2
  simp only [ml_i_X4_86, mL_sI, mL_sJ, mL_sR, mL_nw, mL_nm]
theorem ml_u_X0_75_3 (M : pm) : mL (u_X0_75_3 M) = mL M := by
  unfold u_X0_75_3
  simp only [mL_sI, mL_sJ, mL_sR, mL_nw, mL_nm]
theorem ml_u_X0_75_4 (M : pm) : mL (u_X0_75_4 M) = mL M := by
  unfold u_X0_75_4
  simp only [ml_i_X4_95, mL_sI, mL_sJ, mL_sR, mL_nw, mL_nm]
theorem ml_u_X0_75_5 (M : pm) : mL (u_X0_75_5 M) = mL M := by
  unfold u_X0_75_5
  simp only [mL_sI, mL_sJ, mL_sR, mL_nw, mL_nm]
theorem ml_u_X0_75_6 (M : pm) : mL (u_X0_75_6 M) = mL M := by
  unfold u_X0_75_6
  simp only [ml_i_X4_104, mL_sI, mL_sJ, mL_sR, mL_nw, mL_nm]
theorem ml_u_X0_75_7 (M : pm) : mL (u_X0_75_7 M) = mL M := by
  unfold u_X0_75_7
  simp only [mL_sI, mL_sJ, mL_sR, mL_nw, mL_nm]
theorem ml_u_X0_75_8 (M : pm) : mL (u_X0_75_8 M) = mL M := by
  unfold u_X0_75_8
  simp only [ml_i_X4_113, mL_sI, mL_sJ, mL_sR, mL_nw, mL_nm]
theorem ml_u_X0_75_9 (M : pm) : mL (u_X0_75_9 M) = mL M := by
  unfold u_X0_75_9
  simp only [mL_sI, mL_sJ, mL_sR, mL_nw, mL_nm]
theorem ml_u_X0_75_10 (M : pm) : mL (u_X0_75_10 M) = mL M := by
  unfold u_X0_75_10
  simp only [ml_i_X4_122, mL_sI, mL_sJ, mL_sR, mL_nw, mL_nm]
theorem ml_u_X0_75_11 (M : pm) : mL (u_X0_75_11 M) = mL M := by
  unfold u_X0_75_11
  simp only [mL_sI, mL_sJ, mL_sR, mL_nw, mL_nm]
theorem ml_u_X0_75_12 (M : pm) : mL (u_X0_75_12 M) = mL M := by
  unfold u_X0_75_12
  simp only [ml_i_X4_131, mL_sI, mL_sJ, mL_sR, mL_nw, mL_nm]
theorem ml_u_X0_75_13 (M : pm) : mL (u_X0_75_13 M) = mL M := by
  unfold u_X0_75_13
  simp only [mL_sI, mL_sJ, mL_sR, mL_nw, mL_nm]
theorem ml_u_X0_75_14 (M : pm) : mL (u_X0_75_14 M) = mL M := by
  unfold u_X0_75_14
  simp only [ml_i_X4_140, mL_sI, mL_sJ, mL_sR, mL_nw, mL_nm]
theorem ml_u_X0_75_15 (M : pm) : mL (u_X0_75_15 M) = mL M := by
  unfold u_X0_75_15
  simp only [mL_sI, mL_sJ, mL_sR, mL_nw, mL_nm]
theorem ml_u_X0_75_16 (M : pm) : mL (u_X0_75_16 M) = mL M := by
  unfold u_X0_75_16
  simp only [ml_i_X4_149, mL_sI, mL_sJ, mL_sR, mL_nw, mL_nm]
theorem ml_u_X0_75_17 (M : pm) : mL (u_X0_75_17 M) = mL M := by
  unfold u_X0_75_17
  simp only [mL_sI, mL_sJ, mL_sR, mL_nw, mL_nm]
theorem ml_u_X0_75_18 (M : pm) : mL (u_X0_75_18 M) = mL M := by
  unfold u_X0_75_18
  simp only [ml_i_X4_158, mL_sI, mL_sJ, mL_sR, mL_nw, mL_nm]
theorem ml_u_X0_75_19 (M : pm) : mL (u_X0_75_19 M) = mL M := by
  unfold u_X0_75_19
  simp only [mL_sI, mL_sJ, mL_sR, mL_nw, mL_nm]
theorem ml_u_X0_75_20 (M : pm) : mL (u_X0_75_20 M) = mL M := by
  unfold u_X0_75_20
  simp only [ml_i_X4_167, mL_sI, mL_sJ, mL_sR, mL_nw, mL_nm]
theorem ml_u_X0_75_21 (M : pm) : mL (u_X0_75_21 M) = mL M := by
  unfold u_X0_75_21
  simp only [mL_sI, mL_sJ, mL_sR, mL_nw, mL_nm]
theorem ml_u_X0_75_22 (M : pm) : mL (u_X0_75_22 M) = mL M := by
  unfold u_X0_75_22
  simp only [ml_i_X4_176, mL_sI, mL_sJ, mL_sR, mL_nw, mL_nm]
theorem ml_u_X0_75_23 (M : pm) : mL (u_X0_75_23 M) = mL M := by
  unfold u_X0_75_23
  simp only [mL_sI, mL_sJ, mL_sR, mL_nw, mL_nm]
theorem ml_u_X0_75_24 (M : pm) : mL (u_X0_75_24 M) = mL M := by
  unfold u_X0_75_24
  simp only [ml_i_X4_185, mL_sI, mL_sJ, mL_sR, mL_nw, mL_nm]
theorem ml_u_X0_75_25 (M : pm) : mL (u_X0_75_25 M) = mL M := by
  unfold u_X0_75_25
  simp only [mL_sI, mL_sJ, mL_sR, mL_nw, mL_nm]
theorem ml_u_X0_75_26 (M : pm) : mL (u_X0_75_26 M) = mL M := by
  unfold u_X0_75_26
  simp only [ml_i_X4_194, mL_sI, mL_sJ, mL_sR, mL_nw, mL_nm]
theorem ml_u_X0_75_27 (M : pm) : mL (u_X0_75_27 M) = mL M := by
  unfold u_X0_75_27
  simp only [mL_sI, mL_sJ, mL_sR, mL_nw, mL_nm]
theorem ml_u_X0_75_28 (M : pm) : mL (u_X0_75_28 M) = mL M := by
  unfold u_X0_75_28
  simp only [ml_i_X4_203, mL_sI, mL_sJ, mL_sR, mL_nw, mL_nm]
theorem ml_u_X0_75_29 (M : pm) : mL (u_X0_75_29 M) = mL M := by
  unfold u_X0_75_29
  simp only [mL_sI, mL_sJ, mL_sR, mL_nw, mL_nm]
theorem ml_u_X0_75_30 (M : pm) : mL (u_X0_75_30 M) = mL M := by
  unfold u_X0_75_30
  simp only [ml_i_X4_212, mL_sI, mL_sJ, mL_sR, mL_nw, mL_nm]
theorem ml_u_X0_75_31 (M : pm) : mL (u_X0_75_31 M) = mL M := by
  unfold u_X0_75_31
  simp only [mL_sI, mL_sJ, mL_sR, mL_nw, mL_nm]
theorem ml_u_X0_75_32 (M : pm) : mL (u_X0_75_32 M) = mL M := by
  unfold u_X0_75_32
  simp only [ml_i_X4_221, mL_sI, mL_sJ, mL_sR, mL_nw, mL_nm]
theorem ml_u_X0_75_33 (M : pm) : mL (u_X0_75_33 M) = mL M := by
  unfold u_X0_75_33
  simp only [mL_sI, mL_sJ, mL_sR, mL_nw, mL_nm]
theorem ml_u_X0_75_34 (M : pm) : mL (u_X0_75_34 M) = mL M := by
  unfold u_X0_75_34
  simp only [ml_i_X4_230, mL_sI, mL_sJ, mL_sR, mL_nw, mL_nm]
theorem ml_u_X0_75_35 (M : pm) : mL (u_X0_75_35 M) = mL M := by
  unfold u_X0_75_35
  simp only [mL_sI, mL_sJ, mL_sR, mL_nw, mL_nm]
theorem ml_u_X0_75_36 (M : pm) : mL (u_X0_75_36 M) = mL M := by
  unfold u_X0_75_36
  simp only [ml_i_X4_239, mL_sI, mL_sJ, mL_sR, mL_nw, mL_nm]
theorem ml_u_X0_75_37 (M : pm) : mL (u_X0_75_37 M) = mL M := by
  unfold u_X0_75_37
  simp only [mL_sI, mL_sJ, mL_sR, mL_nw, mL_nm]
theorem ml_u_X0_75_38 (M : pm) : mL (u_X0_75_38 M) = mL M := by
  unfold u_X0_75_38
  simp only [ml_i_X4_248, mL_sI, mL_sJ, mL_sR, mL_nw, mL_nm]
theorem ml_u_X0_75_39 (M : pm) : mL (u_X0_75_39 M) = mL M := by
  unfold u_X0_75_39
  simp only [mL_sI, mL_sJ, mL_sR, mL_nw, mL_nm]
theorem ml_u_X0_75_40 (M : pm) : mL (u_X0_75_40 M) = mL M := by
  unfold u_X0_75_40
  simp only [mL_sI, mL_sJ, mL_sR, mL_nw, mL_nm]
theorem ml_i_X0_75 (M : pm) : mL (i_X0_75 M) = mL M := by
  unfold i_X0_75
  simp only [ml_u_X0_75_40, ml_u_X0_75_39, ml_u_X0_75_38, ml_u_X0_75_37, ml_u_X0_75_36, ml_u_X0_75_35, ml_u_X0_75_34, ml_u_X0_75_33, ml_u_X0_75_32, ml_u_X0_75_31, ml_u_X0_75_30, ml_u_X0_75_29, ml_u_X0_75_28, ml_u_X0_75_27, ml_u_X0_75_26, ml_u_X0_75_25, ml_u_X0_75_24, ml_u_X0_75_23, ml_u_X0_75_22, ml_u_X0_75_21, ml_u_X0_75_20, ml_u_X0_75_19, ml_u_X0_75_18, ml_u_X0_75_17, ml_u_X0_75_16, ml_u_X0_75_15, ml_u_X0_75_14, ml_u_X0_75_13, ml_u_X0_75_12, ml_u_X0_75_11, ml_u_X0_75_10, ml_u_X0_75_9, ml_u_X0_75_8, ml_u_X0_75_7, ml_u_X0_75_6, ml_u_X0_75_5, ml_u_X0_75_4, ml_u_X0_75_3, ml_u_X0_75_2, ml_u_X0_75_1, ml_u_X0_75_0, mL_sI, mL_sJ, mL_sR, mL_nw, mL_nm]
theorem ml_u_X7_3_0 (M : pm) : mL (u_X7_3_0 M) = mL M := by
  unfold u_X7_3_0
  simp only [ml_i_X3_5, mL_sI, mL_sJ, mL_sR, mL_nw, mL_nm]
theorem ml_u_X7_3_1 (M : pm) : mL (u_X7_3_1 M) = mL M := by
  unfold u_X7_3_1
  simp only [ml_i_X5_14, mL_sI, mL_sJ, mL_sR, mL_nw, mL_nm]
theorem ml_u_X7_3_2 (M : pm) : mL (u_X7_3_2 M) = mL M := by
  unfold u_X7_3_2
  simp only [ml_i_X5_29, mL_sI, mL_sJ, mL_sR, mL_nw, mL_nm]
theorem ml_u_X7_3_3 (M : pm) : mL (u_X7_3_3 M) = mL M := by
  unfold u_X7_3_3
  simp only [ml_i_X1_44, mL_sI, mL_sJ, mL_sR, mL_nw, mL_nm]
theorem ml_u_X7_3_4 (M : pm) : mL (u_X7_3_4 M) = mL M := by
  unfold u_X7_3_4
  simp only [ml_i_X4_57, mL_sI, mL_sJ, mL_sR, mL_nw, mL_nm]
theorem ml_u_X7_3_5 (M : pm) : mL (u_X7_3_5 M) = mL M := by
  unfold u_X7_3_5
  simp only [ml_i_X4_66, mL_sI, mL_sJ, mL_sR, mL_nw, mL_nm]
theorem ml_u_X7_3_6 (M : pm) : mL (u_X7_3_6 M) = mL M := by
  unfold u_X7_3_6
  simp only [ml_i_X0_75, mL_sI, mL_sJ, mL_sR, mL_nw, mL_nm]
theorem ml_u_X7_3_7 (M : pm) : mL (u_X7_3_7 M) = mL M := by
  unfold u_X7_3_7
  simp only [mL_sI, mL_sJ, mL_sR, mL_nw, mL_nm]
theorem ml_i_X7_3 (M : pm) : mL (i_X7_3 M) = mL M := by
  unfold i_X7_3
  simp only [ml_u_X7_3_7, ml_u_X7_3_6, ml_u_X7_3_5, ml_u_X7_3_4, ml_u_X7_3_3, ml_u_X7_3_2, ml_u_X7_3_1, ml_u_X7_3_0, mL_sI, mL_sJ, mL_sR, mL_nw, mL_nm]
theorem ml_u_X8_277_0 (M : pm) : mL (u_X8_277_0 M) = mL M := by
  unfold u_X8_277_0
  simp only [mL_sI, mL_sJ, mL_sR, mL_nw, mL_nm]
theorem ml_u_X8_277_1 (M : pm) : mL (u_X8_277_1 M) = mL M := by
  unfold u_X8_277_1
  simp only [mL_sI, mL_sJ, mL_sR, mL_nw, mL_nm]
theorem ml_u_X8_277_2 (M : pm) : mL (u_X8_277_2 M) = mL M := by
  unfold u_X8_277_2
  simp only [mL_sI, mL_sJ, mL_sR, mL_nw, mL_nm]
theorem ml_u_X8_277_3 (M : pm) : mL (u_X8_277_3 M) = mL M := by
  unfold u_X8_277_3
  simp only [mL_sI, mL_sJ, mL_sR, mL_nw, mL_nm]
theorem ml_u_X8_277_4 (M : pm) : mL (u_X8_277_4 M) = mL M := by
  unfold u_X8_277_4
  simp only [mL_sI, mL_sJ, mL_sR, mL_nw, mL_nm]
theorem ml_u_X8_277_5 (M : pm) : mL (u_X8_277_5 M) = mL M := by
  unfold u_X8_277_5
  simp only [mL_sI, mL_sJ, mL_sR, mL_nw, mL_nm]
theorem ml_u_X8_277_6 (M : pm) : mL (u_X8_277_6 M) = mL M := by
  unfold u_X8_277_6
  simp only [mL_sI, mL_sJ, mL_sR, mL_nw, mL_nm]
theorem ml_u_X8_277_7 (M : pm) : mL (u_X8_277_7 M) = mL M := by
  unfold u_X8_277_7
  simp only [mL_sI, mL_sJ, mL_sR, mL_nw, mL_nm]
theorem ml_u_X8_277_8 (M : pm) : mL (u_X8_277_8 M) = mL M := by
  unfold u_X8_277_8
  simp only [mL_sI, mL_sJ, mL_sR, mL_nw, mL_nm]
theorem ml_u_X8_277_9 (M : pm) : mL (u_X8_277_9 M) = mL M := by
  unfold u_X8_277_9
  simp only [mL_sI, mL_sJ, mL_sR, mL_nw, mL_nm]
theorem ml_u_X8_277_10 (M : pm) : mL (u_X8_277_10 M) = mL M := by
  unfold u_X8_277_10
  simp only [mL_sI, mL_sJ, mL_sR, mL_nw, mL_nm]
theorem ml_u_X8_277_11 (M : pm) : mL (u_X8_277_11 M) = mL M := by
  unfold u_X8_277_11
  simp only [mL_sI, mL_sJ, mL_sR, mL_nw, mL_nm]
theorem ml_u_X8_277_12 (M : pm) : mL (u_X8_277_12 M) = mL M := by
  unfold u_X8_277_12
  simp only [mL_sI, mL_sJ, mL_sR, mL_nw, mL_nm]
theorem ml_u_X8_277_13 (M : pm) : mL (u_X8_277_13 M) = mL M := by
  unfold u_X8_277_13
  simp only [mL_sI, mL_sJ, mL_sR, mL_nw, mL_nm]
theorem ml_u_X8_277_14 (M : pm) : mL (u_X8_277_14 M) = mL M := by
  unfold u_X8_277_14
  simp only [mL_sI, mL_sJ, mL_sR, mL_nw, mL_nm]
theorem ml_u_X8_277_15 (M : pm) : mL (u_X8_277_15 M) = mL M := by
  unfold u_X8_277_15
  simp only [mL_sI, mL_sJ, mL_sR, mL_nw, mL_nm]
theorem ml_u_X8_277_16 (M : pm) : mL (u_X8_277_16 M) = mL M := by
  unfold u_X8_277_16
  simp only [mL_sI, mL_sJ, mL_sR, mL_nw, mL_nm]
theorem ml_u_X8_277_17 (M : pm) : mL (u_X8_277_17 M) = mL M := by
  unfold u_X8_277_17
  simp only [mL_sI, mL_sJ, mL_sR, mL_nw, mL_nm]
theorem ml_u_X8_277_18 (M : pm) : mL (u_X8_277_18 M) = mL M := by
  unfold u_X8_277_18
  simp only [mL_sI, mL_sJ, mL_sR, mL_nw, mL_nm]
theorem ml_u_X8_277_19 (M : pm) : mL (u_X8_277_19 M) = mL M := by
  unfold u_X8_277_19
  simp only [mL_sI, mL_sJ, mL_sR, mL_nw, mL_nm]
theorem ml_u_X8_277_20 (M : pm) : mL (u_X8_277_20 M) = mL M := by
  unfold u_X8_277_20
  simp only [mL_sI, mL_sJ, mL_sR, mL_nw, mL_nm]
theorem ml_u_X8_277_21 (M : pm) : mL (u_X8_277_21 M) = mL M := by
  unfold u_X8_277_21
  simp only [mL_sI, mL_sJ, mL_sR, mL_nw, mL_nm]
theorem ml_u_X8_277_22 (M : pm) : mL (u_X8_277_22 M) = mL M := by
  unfold u_X8_277_22
  simp only [mL_sI, mL_sJ, mL_sR, mL_nw, mL_nm]
theorem ml_u_X8_277_23 (M : pm) : mL (u_X8_277_23 M) = mL M := by
  unfold u_X8_277_23
  simp only [mL_sI, mL_sJ, mL_sR, mL_nw, mL_nm]
theorem ml_u_X8_277_24 (M : pm) : mL (u_X8_277_24 M) = mL M := by
  unfold u_X8_277_24
  simp only [mL_sI, mL_sJ, mL_sR, mL_nw, mL_nm]
theorem ml_i_X8_277 (M : pm) : mL (i_X8_277 M) = mL M := by
  unfold i_X8_277
  simp only [ml_u_X8_277_24, ml_u_X8_277_23, ml_u_X8_277_22, ml_u_X8_277_21, ml_u_X8_277_20, ml_u_X8_277_19, ml_u_X8_277_18, ml_u_X8_277_17, ml_u_X8_277_16, ml_u_X8_277_15, ml_u_X8_277_14, ml_u_X8_277_13, ml_u_X8_277_12, ml_u_X8_277_11, ml_u_X8_277_10, ml_u_X8_277_9, ml_u_X8_277_8, ml_u_X8_277_7, ml_u_X8_277_6, ml_u_X8_277_5, ml_u_X8_277_4, ml_u_X8_277_3, ml_u_X8_277_2, ml_u_X8_277_1, ml_u_X8_277_0, mL_sI, mL_sJ, mL_sR, mL_nw, mL_nm]
theorem ml_u_L_law_0 (M : pm) : mL (u_L_law_0 M) = mL M := by
  unfold u_L_law_0
  simp only [ml_i_X7_3, mL_sI, mL_sJ, mL_sR, mL_nw, mL_nm]
theorem ml_u_L_law_1 (M : pm) : mL (u_L_law_1 M) = mL M := by
  unfold u_L_law_1
  simp only [ml_i_X8_277, mL_sI, mL_sJ, mL_sR, mL_nw, mL_nm]
theorem ml_u_L_law_2 (M : pm) : mL (u_L_law_2 M) = mL M := by
  unfold u_L_law_2
  simp only [mL_sI, mL_sJ, mL_sR, mL_nw, mL_nm]
theorem ml_i_L_law (M : pm) : mL (i_L_law M) = mL M := by
  unfold i_L_law
  simp only [ml_u_L_law_2, ml_u_L_law_1, ml_u_L_law_0, mL_sI, mL_sJ, mL_sR, mL_nw, mL_nm]
theorem pM1_I (L : Nat) (xs : Nat → Int32) {a : Nat} (h : a ≠ 1) : mI (pM1 L xs) a = mI pM2 a ∧ mJ (pM1 L xs) a = mJ pM2 a := (sm_i_L_law (M := pM0 L xs) (M' := pM0 0 (fun _ => 0)) ⟨rfl, fun b hb => ⟨by funext k; show (if b = 1 then _ else _) = (if b = 1 then _ else _); rw [if_neg hb, if_neg hb], rfl⟩⟩).2 a h
theorem pM1_L (L : Nat) (xs : Nat → Int32) : mL (pM1 L xs) = L := ml_i_L_law _
/-- a row that nobody has written yet -/
def zr (r : Nat) (M : pm) : Prop := ∀ k, mI M r k = 0
theorem zr_I {r : Nat} {M : pm} (h : zr r M) {a : Nat} (ha : r ≠ a) (k : Nat) (v : Int32) : zr r (sI M a k v) := fun j => by rw [mI_sI, if_neg (fun q => ha q.1)]; exact h j
theorem zr_J {r : Nat} {M : pm} (h : zr r M) (a k : Nat) (v : Int64) : zr r (sJ M a k v) := h
theorem zr_R {r : Nat} {M : pm} (h : zr r M) (a k v : Nat) : zr r (sR M a k v) := h
theorem zr_nw {r : Nat} {M : pm} (h : zr r M) : zr r (nw M) := fun j => by rw [mI_nw]; split; rfl; exact h j
theorem zr_nm {r : Nat} {M : pm} (h : zr r M) (N : Nat) : zr r (nm M N) := fun j => by rw [mI_nm]; split; rfl; exact h j
theorem zr_u_X6_6_0 {r : Nat} {M : pm} (hz : r = 4 ∨ r = 278) (h : zr r M) : zr r (u_X6_6_0 M) := (zr_I (zr_I (zr_I (zr_I (zr_I (zr_I (zr_I (zr_I (zr_R (zr_nw (zr_R (zr_nw h) _ _ _)) _ _ _) (by omega) _ _) (by omega) _ _) (by omega) _ _) (by omega) _ _) (by omega) _ _) (by omega) _ _) (by omega) _ _) (by omega) _ _)
theorem zr_u_X6_6_1 {r : Nat} {M : pm} (hz : r = 4 ∨ r = 278) (h : zr r M) : zr r (u_X6_6_1 M) := (zr_I h (by omega) _ _)
theorem zr_u_X6_6_2 {r : Nat} {M : pm} (hz : r = 4 ∨ r = 278) (h : zr r M) : zr r (u_X6_6_2 M) := (zr_I h (by omega) _ _)
theorem zr_u_X6_6_3 {r : Nat} {M : pm} (hz : r = 4 ∨ r = 278) (h : zr r M) : zr r (u_X6_6_3 M) := (zr_I h (by omega) _ _)
theorem zr_u_X6_6_4 {r : Nat} {M : pm} (hz : r = 4 ∨ r = 278) (h : zr r M) : zr r (u_X6_6_4 M) := (zr_I h (by omega) _ _)
theorem zr_u_X6_6_5 {r : Nat} {M : pm} (hz : r = 4 ∨ r = 278) (h : zr r M) : zr r (u_X6_6_5 M) := (zr_I h (by omega) _ _)
theorem zr_u_X6_6_6 {r : Nat} {M : pm} (hz : r = 4 ∨ r = 278) (h : zr r M) : zr r (u_X6_6_6 M) := (zr_I h (by omega) _ _)
theorem zr_u_X6_6_7 {r : Nat} {M : pm} (hz : r = 4 ∨ r = 278) (h : zr r M) : zr r (u_X6_6_7 M) := (zr_I h (by omega) _ _)
theorem zr_u_X6_6_8 {r : Nat} {M : pm} (hz : r = 4 ∨ r = 278) (h : zr r M) : zr r (u_X6_6_8 M) := (zr_I h (by omega) _ _)
theorem zr_u_X6_6_9 {r : Nat} {M : pm} (hz : r = 4 ∨ r = 278) (h : zr r M) : zr r (u_X6_6_9 M) := (zr_I h (by omega) _ _)
theorem zr_u_X6_6_10 {r : Nat} {M : pm} (hz : r = 4 ∨ r = 278) (h : zr r M) : zr r (u_X6_6_10 M) := (zr_I h (by omega) _ _)
theorem zr_u_X6_6_11 {r : Nat} {M : pm} (hz : r = 4 ∨ r = 278) (h : zr r M) : zr r (u_X6_6_11 M) := (zr_I h (by omega) _ _)
theorem zr_u_X6_6_12 {r : Nat} {M : pm} (hz : r = 4 ∨ r = 278) (h : zr r M) : zr r (u_X6_6_12 M) := (zr_I h (by omega) _ _)
theorem zr_u_X6_6_13 {r : Nat} {M : pm} (hz : r = 4 ∨ r = 278) (h : zr r M) : zr r (u_X6_6_13 M) := (zr_I h (by omega) _ _)
theorem zr_u_X6_6_14 {r : Nat} {M : pm} (hz : r = 4 ∨ r = 278) (h : zr r M) : zr r (u_X6_6_14 M) := (zr_I h (by omega) _ _)
theorem zr_u_X6_6_15 {r : Nat} {M : pm} (hz : r = 4 ∨ r = 278) (h : zr r M) : zr r (u_X6_6_15 M) := (zr_I h (by omega) _ _)
theorem zr_u_X6_6_16 {r : Nat} {M : pm} (hz : r = 4 ∨ r = 278) (h : zr r M) : zr r (u_X6_6_16 M) := (zr_I h (by omega) _ _)
theorem zr_u_X6_6_17 {r : Nat} {M : pm} (hz : r = 4 ∨ r = 278) (h : zr r M) : zr r (u_X6_6_17 M) := (zr_I h (by omega) _ _)
theorem zr_u_X6_6_18 {r : Nat} {M : pm} (hz : r = 4 ∨ r = 278) (h : zr r M) : zr r (u_X6_6_18 M) := (zr_I h (by omega) _ _)
theorem zr_u_X6_6_19 {r : Nat} {M : pm} (hz : r = 4 ∨ r = 278) (h : zr r M) : zr r (u_X6_6_19 M) := (zr_I h (by omega) _ _)
theorem zr_u_X6_6_20 {r : Nat} {M : pm} (hz : r = 4 ∨ r = 278) (h : zr r M) : zr r (u_X6_6_20 M) := (zr_I h (by omega) _ _)
theorem zr_u_X6_6_21 {r : Nat} {M : pm} (hz : r = 4 ∨ r = 278) (h : zr r M) : zr r (u_X6_6_21 M) := (zr_I h (by omega) _ _)
theorem zr_u_X6_6_22 {r : Nat} {M : pm} (hz : r = 4 ∨ r = 278) (h : zr r M) : zr r (u_X6_6_22 M) := (zr_I h (by omega) _ _)
theorem zr_u_X6_6_23 {r : Nat} {M : pm} (hz : r = 4 ∨ r = 278) (h : zr r M) : zr r (u_X6_6_23 M) := (zr_I h (by omega) _ _)
theorem zr_u_X6_6_24 {r : Nat} {M : pm} (hz : r = 4 ∨ r = 278) (h : zr r M) : zr r (u_X6_6_24 M) := (zr_I h (by omega) _ _)
theorem zr_u_X6_6_25 {r : Nat} {M : pm} (hz : r = 4 ∨ r = 278) (h : zr r M) : zr r (u_X6_6_25 M) := (zr_I h (by omega) _ _)
theorem zr_u_X6_6_26 {r : Nat} {M : pm} (hz : r = 4 ∨ r = 278) (h : zr r M) : zr r (u_X6_6_26 M) := (zr_I h (by omega) _ _)
theorem zr_u_X6_6_27 {r : Nat} {M : pm} (hz : r = 4 ∨ r = 278) (h : zr r M) : zr r (u_X6_6_27 M) := (zr_I h (by omega) _ _)
theorem zr_u_X6_6_28 {r : Nat} {M : pm} (hz : r = 4 ∨ r = 278) (h : zr r M) : zr r (u_X6_6_28 M) := (zr_I h (by omega) _ _)
theorem zr_u_X6_6_29 {r : Nat} {M : pm} (hz : r = 4 ∨ r = 278) (h : zr r M) : zr r (u_X6_6_29 M) := (zr_I h (by omega) _ _)
theorem zr_u_X6_6_30 {r : Nat} {M : pm} (hz : r = 4 ∨ r = 278) (h : zr r M) : zr r (u_X6_6_30 M) := (zr_I h (by omega) _ _)
theorem zr_u_X6_6_31 {r : Nat} {M : pm} (hz : r = 4 ∨ r = 278) (h : zr r M) : zr r (u_X6_6_31 M) := (zr_I h (by omega) _ _)
theorem zr_u_X6_6_32 {r : Nat} {M : pm} (hz : r = 4 ∨ r = 278) (h : zr r M) : zr r (u_X6_6_32 M) := (zr_I h (by omega) _ _)
theorem zr_u_X6_6_33 {r : Nat} {M : pm} (hz : r = 4 ∨ r = 278) (h : zr r M) : zr r (u_X6_6_33 M) := (zr_I h (by omega) _ _)
theorem zr_u_X6_6_34 {r : Nat} {M : pm} (hz : r = 4 ∨ r = 278) (h : zr r M) : zr r (u_X6_6_34 M) := h
theorem zr_i_X6_6 {r : Nat} {M : pm} (hz : r = 4 ∨ r = 278) (h : zr r M) : zr r (i_X6_6 M) := (zr_u_X6_6_34 hz (zr_u_X6_6_33 hz (zr_u_X6_6_32 hz (zr_u_X6_6_31 hz (zr_u_X6_6_30 hz (zr_u_X6_6_29 hz (zr_u_X6_6_28 hz (zr_u_X6_6_27 hz (zr_u_X6_6_26 hz (zr_u_X6_6_25 hz (zr_u_X6_6_24 hz (zr_u_X6_6_23 hz (zr_u_X6_6_22 hz (zr_u_X6_6_21 hz (zr_u_X6_6_20 hz (zr_u_X6_6_19 hz (zr_u_X6_6_18 hz (zr_u_X6_6_17 hz (zr_u_X6_6_16 hz (zr_u_X6_6_15 hz (zr_u_X6_6_14 hz (zr_u_X6_6_13 hz (zr_u_X6_6_12 hz (zr_u_X6_6_11 hz (zr_u_X6_6_10 hz (zr_u_X6_6_9 hz (zr_u_X6_6_8 hz (zr_u_X6_6_7 hz (zr_u_X6_6_6 hz (zr_u_X6_6_5 hz (zr_u_X6_6_4 hz (zr_u_X6_6_3 hz (zr_u_X6_6_2 hz (zr_u_X6_6_1 hz (zr_u_X6_6_0 hz h)))))))))))))))))))))))))))))))))))
theorem zr_u_X2_9_0 {r : Nat} {M : pm} (hz : r = 4 ∨ r = 278) (h : zr r M) : zr r (u_X2_9_0 M) := (zr_R (zr_nw (zr_R (zr_nw (zr_R (zr_nw (zr_I (zr_R (zr_nw h) _ _ _) (by omega) _ _)) _ _ _)) _ _ _)) _ _ _)
theorem zr_i_X2_9 {r : Nat} {M : pm} (hz : r = 4 ∨ r = 278) (h : zr r M) : zr r (i_X2_9 M) := (zr_u_X2_9_0 hz h)
theorem zr_u_X3_5_0 {r : Nat} {M : pm} (hz : r = 4 ∨ r = 278) (h : zr r M) : zr r (u_X3_5_0 M) := (zr_i_X6_6 hz (zr_nw h))
theorem zr_u_X3_5_1 {r : Nat} {M : pm} (hz : r = 4 ∨ r = 278) (h : zr r M) : zr r (u_X3_5_1 M) := (zr_i_X2_9 hz (zr_nw (zr_R h _ _ _)))
theorem zr_u_X3_5_2 {r : Nat} {M : pm} (hz : r = 4 ∨ r = 278) (h : zr r M) : zr r (u_X3_5_2 M) := (zr_I (zr_I (zr_I (zr_R (zr_R h _ _ _) _ _ _) (by omega) _ _) (by omega) _ _) (by omega) _ _)
theorem zr_i_X3_5 {r : Nat} {M : pm} (hz : r = 4 ∨ r = 278) (h : zr r M) : zr r (i_X3_5 M) := (zr_u_X3_5_2 hz (zr_u_X3_5_1 hz (zr_u_X3_5_0 hz h)))
theorem zr_u_X2_24_0 {r : Nat} {M : pm} (hz : r = 4 ∨ r = 278) (h : zr r M) : zr r (u_X2_24_0 M) := (zr_R (zr_nw (zr_R (zr_nw (zr_R (zr_nw (zr_I (zr_R (zr_nw h) _ _ _) (by omega) _ _)) _ _ _)) _ _ _)) _ _ _)
theorem zr_i_X2_24 {r : Nat} {M : pm} (hz : r = 4 ∨ r = 278) (h : zr r M) : zr r (i_X2_24 M) := (zr_u_X2_24_0 hz h)
theorem zr_u_X5_14_0 {r : Nat} {M : pm} (hz : r = 4 ∨ r = 278) (h : zr r M) : zr r (u_X5_14_0 M) := (zr_R (zr_nw (zr_R (zr_nw (zr_R (zr_nw (zr_I (zr_R (zr_nw (zr_R (zr_nw (zr_R (zr_nw (zr_I (zr_I (zr_I (zr_I (zr_I h (by omega) _ _) (by omega) _ _) (by omega) _ _) (by omega) _ _) (by omega) _ _)) _ _ _)) _ _ _)) _ _ _) (by omega) _ _)) _ _ _)) _ _ _)) _ _ _)
theorem zr_u_X5_14_1 {r : Nat} {M : pm} (hz : r = 4 ∨ r = 278) (h : zr r M) : zr r (u_X5_14_1 M) := (zr_i_X2_24 hz (zr_nw (zr_R (zr_nw (zr_R (zr_nw (zr_I (zr_R (zr_nw h) _ _ _) (by omega) _ _)) _ _ _)) _ _ _)))
theorem zr_u_X5_14_2 {r : Nat} {M : pm} (hz : r = 4 ∨ r = 278) (h : zr r M) : zr r (u_X5_14_2 M) := (zr_R h _ _ _)
theorem zr_i_X5_14 {r : Nat} {M : pm} (hz : r = 4 ∨ r = 278) (h : zr r M) : zr r (i_X5_14 M) := (zr_u_X5_14_2 hz (zr_u_X5_14_1 hz (zr_u_X5_14_0 hz h)))
theorem zr_u_X2_39_0 {r : Nat} {M : pm} (hz : r = 4 ∨ r = 278) (h : zr r M) : zr r (u_X2_39_0 M) := (zr_R (zr_nw (zr_R (zr_nw (zr_R (zr_nw (zr_I (zr_R (zr_nw h) _ _ _) (by omega) _ _)) _ _ _)) _ _ _)) _ _ _)
theorem zr_i_X2_39 {r : Nat} {M : pm} (hz : r = 4 ∨ r = 278) (h : zr r M) : zr r (i_X2_39 M) := (zr_u_X2_39_0 hz h)
theorem zr_u_X5_29_0 {r : Nat} {M : pm} (hz : r = 4 ∨ r = 278) (h : zr r M) : zr r (u_X5_29_0 M) := (zr_R (zr_nw (zr_R (zr_nw (zr_R (zr_nw (zr_I (zr_R (zr_nw (zr_R (zr_nw (zr_R (zr_nw (zr_I (zr_I (zr_I (zr_I (zr_I h (by omega) _ _) (by omega) _ _) (by omega) _ _) (by omega) _ _) (by omega) _ _)) _ _ _)) _ _ _)) _ _ _) (by omega) _ _)) _ _ _)) _ _ _)) _ _ _)
theorem zr_u_X5_29_1 {r : Nat} {M : pm} (hz : r = 4 ∨ r = 278) (h : zr r M) : zr r (u_X5_29_1 M) := (zr_i_X2_39 hz (zr_nw (zr_R (zr_nw (zr_R (zr_nw (zr_I (zr_R (zr_nw h) _ _ _) (by omega) _ _)) _ _ _)) _ _ _)))
theorem zr_u_X5_29_2 {r : Nat} {M : pm} (hz : r = 4 ∨ r = 278) (h : zr r M) : zr r (u_X5_29_2 M) := (zr_R h _ _ _)
theorem zr_i_X5_29 {r : Nat} {M : pm} (hz : r = 4 ∨ r = 278) (h : zr r M) : zr r (i_X5_29 M) := (zr_u_X5_29_2 hz (zr_u_X5_29_1 hz (zr_u_X5_29_0 hz h)))
theorem zr_u_X1_44_0 {r : Nat} {M : pm} (hz : r = 4 ∨ r = 278) (h : zr r M) : zr r (u_X1_44_0 M) := (zr_R (zr_nm (zr_R (zr_nw (zr_R (zr_nw (zr_R (zr_nw (zr_R (zr_nw (zr_R (zr_nw h) _ _ _)) _ _ _)) _ _ _)) _ _ _)) _ _ _) _) _ _ _)
theorem zr_i_X1_44 {r : Nat} {M : pm} (hz : r = 4 ∨ r = 278) (h : zr r M) : zr r (i_X1_44 M) := (zr_u_X1_44_0 hz h)
theorem zr_u_X4_57_0 {r : Nat} {M : pm} (hz : r = 4 ∨ r = 278) (h : zr r M) : zr r (u_X4_57_0 M) := (zr_R (zr_nw (zr_R (zr_nw (zr_R (zr_nw (zr_I (zr_R (zr_nw (zr_R (zr_nw (zr_R (zr_nw (zr_R (zr_nw (zr_R (zr_nw (zr_I (zr_I h (by omega) _ _) (by omega) _ _)) _ _ _)) _ _ _)) _ _ _)) _ _ _)) _ _ _) (by omega) _ _)) _ _ _)) _ _ _)) _ _ _)
theorem zr_i_X4_57 {r : Nat} {M : pm} (hz : r = 4 ∨ r = 278) (h : zr r M) : zr r (i_X4_57 M) := (zr_u_X4_57_0 hz h)
theorem zr_u_X4_66_0 {r : Nat} {M : pm} (hz : r = 4 ∨ r = 278) (h : zr r M) : zr r (u_X4_66_0 M) := (zr_R (zr_nw (zr_R (zr_nw (zr_R (zr_nw (zr_I (zr_R (zr_nw (zr_R (zr_nw (zr_R (zr_nw (zr_R (zr_nw (zr_R (zr_nw (zr_I (zr_I h (by omega) _ _) (by omega) _ _)) _ _ _)) _ _ _)) _ _ _)) _ _ _)) _ _ _) (by omega) _ _)) _ _ _)) _ _ _)) _ _ _)
theorem zr_i_X4_66 {r : Nat} {M : pm} (hz : r = 4 ∨ r = 278) (h : zr r M) : zr r (i_X4_66 M) := (zr_u_X4_66_0 hz h)
theorem zr_u_X4_77_0 {r : Nat} {M : pm} (hz : r = 4 ∨ r = 278) (h : zr r M) : zr r (u_X4_77_0 M) := (zr_R (zr_nw (zr_R (zr_nw (zr_R (zr_nw (zr_I (zr_R (zr_nw (zr_R (zr_nw (zr_R (zr_nw (zr_R (zr_nw (zr_R (zr_nw (zr_I (zr_I h (by omega) _ _) (by omega) _ _)) _ _ _)) _ _ _)) _ _ _)) _ _ _)) _ _ _) (by omega) _ _)) _ _ _)) _ _ _)) _ _ _)
theorem zr_i_X4_77 {r : Nat} {M : pm} (hz : r = 4 ∨ r = 278) (h : zr r M) : zr r (i_X4_77 M) := (zr_u_X4_77_0 hz h)
theorem zr_u_X4_86_0 {r : Nat} {M : pm} (hz : r = 4 ∨ r = 278) (h : zr r M) : zr r (u_X4_86_0 M) := (zr_R (zr_nw (zr_R (zr_nw (zr_R (zr_nw (zr_I (zr_R (zr_nw (zr_R (zr_nw (zr_R (zr_nw (zr_R (zr_nw (zr_R (zr_nw (zr_I (zr_I h (by omega) _ _) (by omega) _ _)) _ _ _)) _ _ _)) _ _ _)) _ _ _)) _ _ _) (by omega) _ _)) _ _ _)) _ _ _)) _ _ _)
theorem zr_i_X4_86 {r : Nat} {M : pm} (hz : r = 4 ∨ r = 278) (h : zr r M) : zr r (i_X4_86 M) := (zr_u_X4_86_0 hz h)
theorem zr_u_X4_95_0 {r : Nat} {M : pm} (hz : r = 4 ∨ r = 278) (h : zr r M) : zr r (u_X4_95_0 M) := (zr_R (zr_nw (zr_R (zr_nw (zr_R (zr_nw (zr_I (zr_R (zr_nw (zr_R (zr_nw (zr_R (zr_nw (zr_R (zr_nw (zr_R (zr_nw (zr_I (zr_I h (by omega) _ _) (by omega) _ _)) _ _ _)) _ _ _)) _ _ _)) _ _ _)) _ _ _) (by omega) _ _)) _ _ _)) _ _ _)) _ _ _)
theorem zr_i_X4_95 {r : Nat} {M : pm} (hz : r = 4 ∨ r = 278) (h : zr r M) : zr r (i_X4_95 M) := (zr_u_X4_95_0 hz h)
theorem zr_u_X4_104_0 {r : Nat} {M : pm} (hz : r = 4 ∨ r = 278) (h : zr r M) : zr r (u_X4_104_0 M) := (zr_R (zr_nw (zr_R (zr_nw (zr_R (zr_nw (zr_I (zr_R (zr_nw (zr_R (zr_nw (zr_R (zr_nw (zr_R (zr_nw (zr_R (zr_nw (zr_I (zr_I h (by omega) _ _) (by omega) _ _)) _ _ _)) _ _ _)) _ _ _)) _ _ _)) _ _ _) (by omega) _ _)) _ _ _)) _ _ _)) _ _ _)
theorem zr_i_X4_104 {r : Nat} {M : pm} (hz : r = 4 ∨ r = 278) (h : zr r M) : zr r (i_X4_104 M) := (zr_u_X4_104_0 hz h)
theorem zr_u_X4_113_0 {r : Nat} {M : pm} (hz : r = 4 ∨ r = 278) (h : zr r M) : zr r (u_X4_113_0 M) := (zr_R (zr_nw (zr_R (zr_nw (zr_R (zr_nw (zr_I (zr_R (zr_nw (zr_R (zr_nw (zr_R (zr_nw (zr_R (zr_nw (zr_R (zr_nw (zr_I (zr_I h (by omega) _ _) (by omega) _ _)) _ _ _)) _ _ _)) _ _ _)) _ _ _)) _ _ _) (by omega) _ _)) _ _ _)) _ _ _)) _ _ _)
theorem zr_i_X4_113 {r : Nat} {M : pm} (hz : r = 4 ∨ r = 278) (h : zr r M) : zr r (i_X4_113 M) := (zr_u_X4_113_0 hz h)
theorem zr_u_X4_122_0 {r : Nat} {M : pm} (hz : r = 4 ∨ r = 278) (h : zr r M) : zr r (u_X4_122_0 M) := (zr_R (zr_nw (zr_R (zr_nw (zr_R (zr_nw (zr_I (zr_R (zr_nw (zr_R (zr_nw (zr_R (zr_nw (zr_R (zr_nw (zr_R (zr_nw (zr_I (zr_I h (by omega) _ _) (by omega) _ _)) _ _ _)) _ _ _)) _ _ _)) _ _ _)) _ _ _) (by omega) _ _)) _ _ _)) _ _ _)) _ _ _)
theorem zr_i_X4_122 {r : Nat} {M : pm} (hz : r = 4 ∨ r = 278) (h : zr r M) : zr r (i_X4_122 M) := (zr_u_X4_122_0 hz h)
theorem zr_u_X4_131_0 {r : Nat} {M : pm} (hz : r = 4 ∨ r = 278) (h : zr r M) : zr r (u_X4_131_0 M) := (zr_R (zr_nw (zr_R (zr_nw (zr_R (zr_nw (zr_I (zr_R (zr_nw (zr_R (zr_nw (zr_R (zr_nw (zr_R (zr_nw (zr_R (zr_nw (zr_I (zr_I h (by omega) _ _) (by omega) _ _)) _ _ _)) _ _ _)) _ _ _)) _ _ _)) _ _ _) (by omega) _ _)) _ _ _)) _ _ _)) _ _ _)
theorem zr_i_X4_131 {r : Nat} {M : pm} (hz : r = 4 ∨ r = 278) (h : zr r M) : zr r (i_X4_131 M) := (zr_u_X4_131_0 hz h)
theorem zr_u_X4_140_0 {r : Nat} {M : pm} (hz : r = 4 ∨ r = 278) (h : zr r M) : zr r (u_X4_140_0 M) := (zr_R (zr_nw (zr_R (zr_nw (zr_R (zr_nw (zr_I (zr_R (zr_nw (zr_R (zr_nw (zr_R (zr_nw (zr_R (zr_nw (zr_R (zr_nw (zr_I (zr_I h (by omega) _ _) (by omega) _ _)) _ _ _)) _ _ _)) _ _ _)) _ _ _)) _ _ _) (by omega) _ _)) _ _ _)) _ _ _)) _ _ _)
theorem zr_i_X4_140 {r : Nat} {M : pm} (hz : r = 4 ∨ r = 278) (h : zr r M) : zr r (i_X4_140 M) := (zr_u_X4_140_0 hz h)
theorem zr_u_X4_149_0 {r : Nat} {M : pm} (hz : r = 4 ∨ r = 278) (h : zr r M) : zr r (u_X4_149_0 M) := (zr_R (zr_nw (zr_R (zr_nw (zr_R (zr_nw (zr_I (zr_R (zr_nw (zr_R (zr_nw (zr_R (zr_nw (zr_R (zr_nw (zr_R (zr_nw (zr_I (zr_I h (by omega) _ _) (by omega) _ _)) _ _ _)) _ _ _)) _ _ _)) _ _ _)) _ _ _) (by omega) _ _)) _ _ _)) _ _ _)) _ _ _)
theorem zr_i_X4_149 {r : Nat} {M : pm} (hz : r = 4 ∨ r = 278) (h : zr r M) : zr r (i_X4_149 M) := (zr_u_X4_149_0 hz h)
theorem zr_u_X4_158_0 {r : Nat} {M : pm} (hz : r = 4 ∨ r = 278) (h : zr r M) : zr r (u_X4_158_0 M) := (zr_R (zr_nw (zr_R (zr_nw (zr_R (zr_nw (zr_I (zr_R (zr_nw (zr_R (zr_nw (zr_R (zr_nw (zr_R (zr_nw (zr_R (zr_nw (zr_I (zr_I h (by omega) _ _) (by omega) _ _)) _ _ _)) _ _ _)) _ _ _)) _ _ _)) _ _ _) (by omega) _ _)) _ _ _)) _ _ _)) _ _ _)
theorem zr_i_X4_158 {r : Nat} {M : pm} (hz : r = 4 ∨ r = 278) (h : zr r M) : zr r (i_X4_158 M) := (zr_u_X4_158_0 hz h)
theorem zr_u_X4_167_0 {r : Nat} {M : pm} (hz : r = 4 ∨ r = 278) (h : zr r M) : zr r (u_X4_167_0 M) := (zr_R (zr_nw (zr_R (zr_nw (zr_R (zr_nw (zr_I (zr_R (zr_nw (zr_R (zr_nw (zr_R (zr_nw (zr_R (zr_nw (zr_R (zr_nw (zr_I (zr_I h (by omega) _ _) (by omega) _ _)) _ _ _)) _ _ _)) _ _ _)) _ _ _)) _ _ _) (by omega) _ _)) _ _ _)) _ _ _)) _ _ _)
theorem zr_i_X4_167 {r : Nat} {M : pm} (hz : r = 4 ∨ r = 278) (h : zr r M) : zr r (i_X4_167 M) := (zr_u_X4_167_0 hz h)
theorem zr_u_X4_176_0 {r : Nat} {M : pm} (hz : r = 4 ∨ r = 278) (h : zr r M) : zr r (u_X4_176_0 M) := (zr_R (zr_nw (zr_R (zr_nw (zr_R (zr_nw (zr_I (zr_R (zr_nw (zr_R (zr_nw (zr_R (zr_nw (zr_R (zr_nw (zr_R (zr_nw (zr_I (zr_I h (by omega) _ _) (by omega) _ _)) _ _ _)) _ _ _)) _ _ _)) _ _ _)) _ _ _) (by omega) _ _)) _ _ _)) _ _ _)) _ _ _)
theorem zr_i_X4_176 {r : Nat} {M : pm} (hz : r = 4 ∨ r = 278) (h : zr r M) : zr r (i_X4_176 M) := (zr_u_X4_176_0 hz h)
theorem zr_u_X4_185_0 {r : Nat} {M : pm} (hz : r = 4 ∨ r = 278) (h : zr r M) : zr r (u_X4_185_0 M) := (zr_R (zr_nw (zr_R (zr_nw (zr_R (zr_nw (zr_I (zr_R (zr_nw (zr_R (zr_nw (zr_R (zr_nw (zr_R (zr_nw (zr_R (zr_nw (zr_I (zr_I h (by omega) _ _) (by omega) _ _)) _ _ _)) _ _ _)) _ _ _)) _ _ _)) _ _ _) (by omega) _ _)) _ _ _)) _ _ _)) _ _ _)
theorem zr_i_X4_185 {r : Nat} {M : pm} (hz : r = 4 ∨ r = 278) (h : zr r M) : zr r (i_X4_185 M) := (zr_u_X4_185_0 hz h)
theorem zr_u_X4_194_0 {r : Nat} {M : pm} (hz : r = 4 ∨ r = 278) (h : zr r M) : zr r (u_X4_194_0 M) := (zr_R (zr_nw (zr_R (zr_nw (zr_R (zr_nw (zr_I (zr_R (zr_nw (zr_R (zr_nw (zr_R (zr_nw (zr_R (zr_nw (zr_R (zr_nw (zr_I (zr_I h (by omega) _ _) (by omega) _ _)) _ _ _)) _ _ _)) _ _ _)) _ _ _)) _ _ _) (by omega) _ _)) _ _ _)) _ _ _)) _ _ _)
theorem zr_i_X4_194 {r : Nat} {M : pm} (hz : r = 4 ∨ r = 278) (h : zr r M) : zr r (i_X4_194 M) := (zr_u_X4_194_0 hz h)
theorem zr_u_X4_203_0 {r : Nat} {M : pm} (hz : r = 4 ∨ r = 278) (h : zr r M) : zr r (u_X4_203_0 M) := (zr_R (zr_nw (zr_R (zr_nw (zr_R (zr_nw (zr_I (zr_R (zr_nw (zr_R (zr_nw (zr_R (zr_nw (zr_R (zr_nw (zr_R (zr_nw (zr_I (zr_I h (by omega) _ _) (by omega) _ _)) _ _ _)) _ _ _)) _ _ _)) _ _ _)) _ _ _) (by omega) _ _)) _ _ _)) _ _ _)) _ _ _)
theorem zr_i_X4_203 {r : Nat} {M : pm} (hz : r = 4 ∨ r = 278) (h : zr r M) : zr r (i_X4_203 M) := (zr_u_X4_203_0 hz h)
theorem zr_u_X4_212_0 {r : Nat} {M : pm} (hz : r = 4 ∨ r = 278) (h : zr r M) : zr r (u_X4_212_0 M) := (zr_R (zr_nw (zr_R (zr_nw (zr_R (zr_nw (zr_I (zr_R (zr_nw (zr_R (zr_nw (zr_R (zr_nw (zr_R (zr_nw (zr_R (zr_nw (zr_I (zr_I h (by omega) _ _) (by omega) _ _)) _ _ _)) _ _ _)) _ _ _)) _ _ _)) _ _ _) (by omega) _ _)) _ _ _)) _ _ _)) _ _ _)
theorem zr_i_X4_212 {r : Nat} {M : pm} (hz : r = 4 ∨ r = 278) (h : zr r M) : zr r (i_X4_212 M) := (zr_u_X4_212_0 hz h)
theorem zr_u_X4_221_0 {r : Nat} {M : pm} (hz : r = 4 ∨ r = 278) (h : zr r M) : zr r (u_X4_221_0 M) := (zr_R (zr_nw (zr_R (zr_nw (zr_R (zr_nw (zr_I (zr_R (zr_nw (zr_R (zr_nw (zr_R (zr_nw (zr_R (zr_nw (zr_R (zr_nw (zr_I (zr_I h (by omega) _ _) (by omega) _ _)) _ _ _)) _ _ _)) _ _ _)) _ _ _)) _ _ _) (by omega) _ _)) _ _ _)) _ _ _)) _ _ _)
theorem zr_i_X4_221 {r : Nat} {M : pm} (hz : r = 4 ∨ r = 278) (h : zr r M) : zr r (i_X4_221 M) := (zr_u_X4_221_0 hz h)
theorem zr_u_X4_230_0 {r : Nat} {M : pm} (hz : r = 4 ∨ r = 278) (h : zr r M) : zr r (u_X4_230_0 M) := (zr_R (zr_nw (zr_R (zr_nw (zr_R (zr_nw (zr_I (zr_R (zr_nw (zr_R (zr_nw (zr_R (zr_nw (zr_R (zr_nw (zr_R (zr_nw (zr_I (zr_I h (by omega) _ _) (by omega) _ _)) _ _ _)) _ _ _)) _ _ _)) _ _ _)) _ _ _) (by omega) _ _)) _ _ _)) _ _ _)) _ _ _)
theorem zr_i_X4_230 {r : Nat} {M : pm} (hz : r = 4 ∨ r = 278) (h : zr r M) : zr r (i_X4_230 M) := (zr_u_X4_230_0 hz h)
theorem zr_u_X4_239_0 {r : Nat} {M : pm} (hz : r = 4 ∨ r = 278) (h : zr r M) : zr r (u_X4_239_0 M) := (zr_R (zr_nw (zr_R (zr_nw (zr_R (zr_nw (zr_I (zr_R (zr_nw (zr_R (zr_nw (zr_R (zr_nw (zr_R (zr_nw (zr_R (zr_nw (zr_I (zr_I h (by omega) _ _) (by omega) _ _)) _ _ _)) _ _ _)) _ _ _)) _ _ _)) _ _ _) (by omega) _ _)) _ _ _)) _ _ _)) _ _ _)
theorem zr_i_X4_239 {r : Nat} {M : pm} (hz : r = 4 ∨ r = 278) (h : zr r M) : zr r (i_X4_239 M) := (zr_u_X4_239_0 hz h)
theorem zr_u_X4_248_0 {r : Nat} {M : pm} (hz : r = 4 ∨ r = 278) (h : zr r M) : zr r (u_X4_248_0 M) := (zr_R (zr_nw (zr_R (zr_nw (zr_R (zr_nw (zr_I (zr_R (zr_nw (zr_R (zr_nw (zr_R (zr_nw (zr_R (zr_nw (zr_R (zr_nw (zr_I (zr_I h (by omega) _ _) (by omega) _ _)) _ _ _)) _ _ _)) _ _ _)) _ _ _)) _ _ _) (by omega) _ _)) _ _ _)) _ _ _)) _ _ _)
theorem zr_i_X4_248 {r : Nat} {M : pm} (hz : r = 4 ∨ r = 278) (h : zr r M) : zr r (i_X4_248 M) := (zr_u_X4_248_0 hz h)
theorem zr_u_X0_75_0 {r : Nat} {M : pm} (hz : r = 4 ∨ r = 278) (h : zr r M) : zr r (u_X0_75_0 M) := (zr_i_X4_77 hz (zr_nw (zr_I (zr_R (zr_nw h) _ _ _) (by omega) _ _)))
theorem zr_u_X0_75_1 {r : Nat} {M : pm} (hz : r = 4 ∨ r = 278) (h : zr r M) : zr r (u_X0_75_1 M) := (zr_R h _ _ _)
theorem zr_u_X0_75_2 {r : Nat} {M : pm} (hz : r = 4 ∨ r = 278) (h : zr r M) : zr r (u_X0_75_2 M) := (zr_i_X4_86 hz (zr_nw h))
theorem zr_u_X0_75_3 {r : Nat} {M : pm} (hz : r = 4 ∨ r = 278) (h : zr r M) : zr r (u_X0_75_3 M) := (zr_R h _ _ _)
theorem zr_u_X0_75_4 {r : Nat} {M : pm} (hz : r = 4 ∨ r = 278) (h : zr r M) : zr r (u_X0_75_4 M) := (zr_i_X4_95 hz (zr_nw h))
theorem zr_u_X0_75_5 {r : Nat} {M : pm} (hz : r = 4 ∨ r = 278) (h : zr r M) : zr r (u_X0_75_5 M) := (zr_R h _ _ _)
theorem zr_u_X0_75_6 {r : Nat} {M : pm} (hz : r = 4 ∨ r = 278) (h : zr r M) : zr r (u_X0_75_6 M) := (zr_i_X4_104 hz (zr_nw h))
theorem zr_u_X0_75_7 {r : Nat} {M : pm} (hz : r = 4 ∨ r = 278) (h : zr r M) : zr r (u_X0_75_7 M) := (zr_R h _ _ _)
theorem zr_u_X0_75_8 {r : Nat} {M : pm} (hz : r = 4 ∨ r = 278) (h : zr r M) : zr r (u_X0_75_8 M) := (zr_i_X4_113 hz (zr_nw h))
theorem zr_u_X0_75_9 {r : Nat} {M : pm} (hz : r = 4 ∨ r = 278) (h : zr r M) : zr r (u_X0_75_9 M) := (zr_R h _ _ _)
theorem zr_u_X0_75_10 {r : Nat} {M : pm} (hz : r = 4 ∨ r = 278) (h : zr r M) : zr r (u_X0_75_10 M) := (zr_i_X4_122 hz (zr_nw h))
theorem zr_u_X0_75_11 {r : Nat} {M : pm} (hz : r = 4 ∨ r = 278) (h : zr r M) : zr r (u_X0_75_11 M) := (zr_R h _ _ _)
theorem zr_u_X0_75_12 {r : Nat} {M : pm} (hz : r = 4 ∨ r = 278) (h : zr r M) : zr r (u_X0_75_12 M) := (zr_i_X4_131 hz (zr_nw h))
theorem zr_u_X0_75_13 {r : Nat} {M : pm} (hz : r = 4 ∨ r = 278) (h : zr r M) : zr r (u_X0_75_13 M) := (zr_R h _ _ _)
theorem zr_u_X0_75_14 {r : Nat} {M : pm} (hz : r = 4 ∨ r = 278) (h : zr r M) : zr r (u_X0_75_14 M) := (zr_i_X4_140 hz (zr_nw h))
theorem zr_u_X0_75_15 {r : Nat} {M : pm} (hz : r = 4 ∨ r = 278) (h : zr r M) : zr r (u_X0_75_15 M) := (zr_R h _ _ _)
theorem zr_u_X0_75_16 {r : Nat} {M : pm} (hz : r = 4 ∨ r = 278) (h : zr r M) : zr r (u_X0_75_16 M) := (zr_i_X4_149 hz (zr_nw h))
theorem zr_u_X0_75_17 {r : Nat} {M : pm} (hz : r = 4 ∨ r = 278) (h : zr r M) : zr r (u_X0_75_17 M) := (zr_R h _ _ _)
theorem zr_u_X0_75_18 {r : Nat} {M : pm} (hz : r = 4 ∨ r = 278) (h : zr r M) : zr r (u_X0_75_18 M) := (zr_i_X4_158 hz (zr_nw h))
theorem zr_u_X0_75_19 {r : Nat} {M : pm} (hz : r = 4 ∨ r = 278) (h : zr r M) : zr r (u_X0_75_19 M) := (zr_R h _ _ _)
theorem zr_u_X0_75_20 {r : Nat} {M : pm} (hz : r = 4 ∨ r = 278) (h : zr r M) : zr r (u_X0_75_20 M) := (zr_i_X4_167 hz (zr_nw h))
theorem zr_u_X0_75_21 {r : Nat} {M : pm} (hz : r = 4 ∨ r = 278) (h : zr r M) : zr r (u_X0_75_21 M) := (zr_R h _ _ _)
theorem zr_u_X0_75_22 {r : Nat} {M : pm} (hz : r = 4 ∨ r = 278) (h : zr r M) : zr r (u_X0_75_22 M) := (zr_i_X4_176 hz (zr_nw h))
theorem zr_u_X0_75_23 {r : Nat} {M : pm} (hz : r = 4 ∨ r = 278) (h : zr r M) : zr r (u_X0_75_23 M) := (zr_R h _ _ _)
theorem zr_u_X0_75_24 {r : Nat} {M : pm} (hz : r = 4 ∨ r = 278) (h : zr r M) : zr r (u_X0_75_24 M) := (zr_i_X4_185 hz (zr_nw h))
theorem zr_u_X0_75_25 {r : Nat} {M : pm} (hz : r = 4 ∨ r = 278) (h : zr r M) : zr r (u_X0_75_25 M) := (zr_R h _ _ _)
theorem zr_u_X0_75_26 {r : Nat} {M : pm} (hz : r = 4 ∨ r = 278) (h : zr r M) : zr r (u_X0_75_26 M) := (zr_i_X4_194 hz (zr_nw h))
theorem zr_u_X0_75_27 {r : Nat} {M : pm} (hz : r = 4 ∨ r = 278) (h : zr r M) : zr r (u_X0_75_27 M) := (zr_R h _ _ _)
theorem zr_u_X0_75_28 {r : Nat} {M : pm} (hz : r = 4 ∨ r = 278) (h : zr r M) : zr r (u_X0_75_28 M) := (zr_i_X4_203 hz (zr_nw h))
theorem zr_u_X0_75_29 {r : Nat} {M : pm} (hz : r = 4 ∨ r = 278) (h : zr r M) : zr r (u_X0_75_29 M) := (zr_R h _ _ _)
theorem zr_u_X0_75_30 {r : Nat} {M : pm} (hz : r = 4 ∨ r = 278) (h : zr r M) : zr r (u_X0_75_30 M) := (zr_i_X4_212 hz (zr_nw h))
theorem zr_u_X0_75_31 {r : Nat} {M : pm} (hz : r = 4 ∨ r = 278) (h : zr r M) : zr r (u_X0_75_31 M) := (zr_R h _ _ _)
theorem zr_u_X0_75_32 {r : Nat} {M : pm} (hz : r = 4 ∨ r = 278) (h : zr r M) : zr r (u_X0_75_32 M) := (zr_i_X4_221 hz (zr_nw h))
theorem zr_u_X0_75_33 {r : Nat} {M : pm} (hz : r = 4 ∨ r = 278) (h : zr r M) : zr r (u_X0_75_33 M) := (zr_R h _ _ _)
theorem zr_u_X0_75_34 {r : Nat} {M : pm} (hz : r = 4 ∨ r = 278) (h : zr r M) : zr r (u_X0_75_34 M) := (zr_i_X4_230 hz (zr_nw h))
theorem zr_u_X0_75_35 {r : Nat} {M : pm} (hz : r = 4 ∨ r = 278) (h : zr r M) : zr r (u_X0_75_35 M) := (zr_R h _ _ _)
theorem zr_u_X0_75_36 {r : Nat} {M : pm} (hz : r = 4 ∨ r = 278) (h : zr r M) : zr r (u_X0_75_36 M) := (zr_i_X4_239 hz (zr_nw h))
theorem zr_u_X0_75_37 {r : Nat} {M : pm} (hz : r = 4 ∨ r = 278) (h : zr r M) : zr r (u_X0_75_37 M) := (zr_R h _ _ _)
theorem zr_u_X0_75_38 {r : Nat} {M : pm} (hz : r = 4 ∨ r = 278) (h : zr r M) : zr r (u_X0_75_38 M) := (zr_i_X4_248 hz (zr_nw h))
theorem zr_u_X0_75_39 {r : Nat} {M : pm} (hz : r = 4 ∨ r = 278) (h : zr r M) : zr r (u_X0_75_39 M) := (zr_R h _ _ _)
theorem zr_u_X0_75_40 {r : Nat} {M : pm} (hz : r = 4 ∨ r = 278) (h : zr r M) : zr r (u_X0_75_40 M) := h
theorem zr_i_X0_75 {r : Nat} {M : pm} (hz : r = 4 ∨ r = 278) (h : zr r M) : zr r (i_X0_75 M) := (zr_u_X0_75_40 hz (zr_u_X0_75_39 hz (zr_u_X0_75_38 hz (zr_u_X0_75_37 hz (zr_u_X0_75_36 hz (zr_u_X0_75_35 hz (zr_u_X0_75_34 hz (zr_u_X0_75_33 hz (zr_u_X0_75_32 hz (zr_u_X0_75_31 hz (zr_u_X0_75_30 hz (zr_u_X0_75_29 hz (zr_u_X0_75_28 hz (zr_u_X0_75_27 hz (zr_u_X0_75_26 hz (zr_u_X0_75_25 hz (zr_u_X0_75_24 hz (zr_u_X0_75_23 hz (zr_u_X0_75_22 hz (zr_u_X0_75_21 hz (zr_u_X0_75_20 hz (zr_u_X0_75_19 hz (zr_u_X0_75_18 hz (zr_u_X0_75_17 hz (zr_u_X0_75_16 hz (zr_u_X0_75_15 hz (zr_u_X0_75_14 hz (zr_u_X0_75_13 hz (zr_u_X0_75_12 hz (zr_u_X0_75_11 hz (zr_u_X0_75_10 hz (zr_u_X0_75_9 hz (zr_u_X0_75_8 hz (zr_u_X0_75_7 hz (zr_u_X0_75_6 hz (zr_u_X0_75_5 hz (zr_u_X0_75_4 hz (zr_u_X0_75_3 hz (zr_u_X0_75_2 hz (zr_u_X0_75_1 hz (zr_u_X0_75_0 hz h)))))))))))))))))))))))))))))))))))))))))
theorem zr_u_X7_3_0 {r : Nat} {M : pm} (hz : r = 4 ∨ r = 278) (h : zr r M) : zr r (u_X7_3_0 M) := (zr_i_X3_5 hz (zr_nw (zr_I (zr_R (zr_nw h) _ _ _) (by omega) _ _)))
theorem zr_u_X7_3_1 {r : Nat} {M : pm} (hz : r = 4 ∨ r = 278) (h : zr r M) : zr r (u_X7_3_1 M) := (zr_i_X5_14 hz (zr_nw (zr_R h _ _ _)))
theorem zr_u_X7_3_2 {r : Nat} {M : pm} (hz : r = 4 ∨ r = 278) (h : zr r M) : zr r (u_X7_3_2 M) := (zr_i_X5_29 hz (zr_nw (zr_R h _ _ _)))
theorem zr_u_X7_3_3 {r : Nat} {M : pm} (hz : r = 4 ∨ r = 278) (h : zr r M) : zr r (u_X7_3_3 M) := (zr_i_X1_44 hz (zr_nw (zr_I (zr_I (zr_I (zr_R h _ _ _) (by omega) _ _) (by omega) _ _) (by omega) _ _)))
theorem zr_u_X7_3_4 {r : Nat} {M : pm} (hz : r = 4 ∨ r = 278) (h : zr r M) : zr r (u_X7_3_4 M) := (zr_i_X4_57 hz (zr_nw (zr_R h _ _ _)))
theorem zr_u_X7_3_5 {r : Nat} {M : pm} (hz : r = 4 ∨ r = 278) (h : zr r M) : zr r (u_X7_3_5 M) := (zr_i_X4_66 hz (zr_nw (zr_R h _ _ _)))
theorem zr_u_X7_3_6 {r : Nat} {M : pm} (hz : r = 4 ∨ r = 278) (h : zr r M) : zr r (u_X7_3_6 M) := (zr_i_X0_75 hz (zr_nw (zr_R h _ _ _)))
theorem zr_u_X7_3_7 {r : Nat} {M : pm} (hz : r = 4 ∨ r = 278) (h : zr r M) : zr r (u_X7_3_7 M) := (zr_I (zr_R (zr_nw (zr_I (zr_R (zr_nw (zr_R (zr_nw (zr_I (zr_R (zr_nm (zr_R h _ _ _) _) _ _ _) (by omega) _ _)) _ _ _)) _ _ _) (by omega) _ _)) _ _ _) (by omega) _ _)
theorem zr_i_X7_3 {r : Nat} {M : pm} (hz : r = 4 ∨ r = 278) (h : zr r M) : zr r (i_X7_3 M) := (zr_u_X7_3_7 hz (zr_u_X7_3_6 hz (zr_u_X7_3_5 hz (zr_u_X7_3_4 hz (zr_u_X7_3_3 hz (zr_u_X7_3_2 hz (zr_u_X7_3_1 hz (zr_u_X7_3_0 hz h))))))))
theorem zr_u_X8_277_0 {r : Nat} {M : pm} (hz : r = 4 ∨ r = 278) (h : zr r M) : zr r (u_X8_277_0 M) := (zr_R (zr_I (zr_I (zr_I (zr_I (zr_nw (zr_R (zr_I (zr_I (zr_I (zr_I (zr_nw (zr_R (zr_nw (zr_I (zr_R (zr_nw h) _ _ _) (by omega) _ _)) _ _ _)) (by omega) _ _) (by omega) _ _) (by omega) _ _) (by omega) _ _) _ _ _)) (by omega) _ _) (by omega) _ _) (by omega) _ _) (by omega) _ _) _ _ _)
theorem zr_u_X8_277_1 {r : Nat} {M : pm} (hz : r = 4 ∨ r = 278) (h : zr r M) : zr r (u_X8_277_1 M) := (zr_R (zr_I (zr_I (zr_I (zr_I (zr_I (zr_nw (zr_R (zr_I (zr_I (zr_I (zr_I (zr_nw h) (by omega) _ _) (by omega) _ _) (by omega) _ _) (by omega) _ _) _ _ _)) (by omega) _ _) (by omega) _ _) (by omega) _ _) (by omega) _ _) (by omega) _ _) _ _ _)
theorem zr_u_X8_277_2 {r : Nat} {M : pm} (hz : r = 4 ∨ r = 278) (h : zr r M) : zr r (u_X8_277_2 M) := (zr_R (zr_I (zr_I (zr_I (zr_I (zr_I (zr_nw (zr_R (zr_I (zr_I (zr_I (zr_I (zr_I (zr_nw h) (by omega) _ _) (by omega) _ _) (by omega) _ _) (by omega) _ _) (by omega) _ _) _ _ _)) (by omega) _ _) (by omega) _ _) (by omega) _ _) (by omega) _ _) (by omega) _ _) _ _ _)
theorem zr_u_X8_277_3 {r : Nat} {M : pm} (hz : r = 4 ∨ r = 278) (h : zr r M) : zr r (u_X8_277_3 M) := (zr_R (zr_I (zr_I (zr_I (zr_I (zr_I (zr_nw (zr_R (zr_I (zr_I (zr_I (zr_I (zr_nw h) (by omega) _ _) (by omega) _ _) (by omega) _ _) (by omega) _ _) _ _ _)) (by omega) _ _) (by omega) _ _) (by omega) _ _) (by omega) _ _) (by omega) _ _) _ _ _)
theorem zr_u_X8_277_4 {r : Nat} {M : pm} (hz : r = 4 ∨ r = 278) (h : zr r M) : zr r (u_X8_277_4 M) := (zr_R (zr_I (zr_I (zr_I (zr_I (zr_I (zr_nw (zr_R (zr_I (zr_I (zr_I (zr_I (zr_I (zr_nw (zr_R (zr_I (zr_I (zr_I (zr_nw h) (by omega) _ _) (by omega) _ _) (by omega) _ _) _ _ _)) (by omega) _ _) (by omega) _ _) (by omega) _ _) (by omega) _ _) (by omega) _ _) _ _ _)) (by omega) _ _) (by omega) _ _) (by omega) _ _) (by omega) _ _) (by omega) _ _) _ _ _)
theorem zr_u_X8_277_5 {r : Nat} {M : pm} (hz : r = 4 ∨ r = 278) (h : zr r M) : zr r (u_X8_277_5 M) := (zr_R (zr_I (zr_I (zr_I (zr_I (zr_I (zr_nw (zr_R (zr_I (zr_I (zr_I (zr_I (zr_I (zr_nw h) (by omega) _ _) (by omega) _ _) (by omega) _ _) (by omega) _ _) (by omega) _ _) _ _ _)) (by omega) _ _) (by omega) _ _) (by omega) _ _) (by omega) _ _) (by omega) _ _) _ _ _)
theorem zr_u_X8_277_6 {r : Nat} {M : pm} (hz : r = 4 ∨ r = 278) (h : zr r M) : zr r (u_X8_277_6 M) := (zr_R (zr_I (zr_I (zr_I (zr_nw (zr_R (zr_I (zr_I (zr_I (zr_I (zr_nw (zr_R (zr_I (zr_I (zr_I (zr_I (zr_nw h) (by omega) _ _) (by omega) _ _) (by omega) _ _) (by omega) _ _) _ _ _)) (by omega) _ _) (by omega) _ _) (by omega) _ _) (by omega) _ _) _ _ _)) (by omega) _ _) (by omega) _ _) (by omega) _ _) _ _ _)
theorem zr_u_X8_277_7 {r : Nat} {M : pm} (hz : r = 4 ∨ r = 278) (h : zr r M) : zr r (u_X8_277_7 M) := (zr_R (zr_I (zr_I (zr_I (zr_I (zr_I (zr_I (zr_nw (zr_R (zr_I (zr_I (zr_I (zr_I (zr_I (zr_nw h) (by omega) _ _) (by omega) _ _) (by omega) _ _) (by omega) _ _) (by omega) _ _) _ _ _)) (by omega) _ _) (by omega) _ _) (by omega) _ _) (by omega) _ _) (by omega) _ _) (by omega) _ _) _ _ _)
theorem zr_u_X8_277_8 {r : Nat} {M : pm} (hz : r = 4 ∨ r = 278) (h : zr r M) : zr r (u_X8_277_8 M) := (zr_R (zr_I (zr_I (zr_I (zr_I (zr_I (zr_I (zr_nw (zr_R (zr_I (zr_I (zr_I (zr_nw h) (by omega) _ _) (by omega) _ _) (by omega) _ _) _ _ _)) (by omega) _ _) (by omega) _ _) (by omega) _ _) (by omega) _ _) (by omega) _ _) (by omega) _ _) _ _ _)
theorem zr_u_X8_277_9 {r : Nat} {M : pm} (hz : r = 4 ∨ r = 278) (h : zr r M) : zr r (u_X8_277_9 M) := (zr_R (zr_I (zr_I (zr_nw (zr_R (zr_I (zr_I (zr_nw (zr_R (zr_I (zr_I (zr_I (zr_I (zr_I (zr_nw h) (by omega) _ _) (by omega) _ _) (by omega) _ _) (by omega) _ _) (by omega) _ _) _ _ _)) (by omega) _ _) (by omega) _ _) _ _ _)) (by omega) _ _) (by omega) _ _) _ _ _)
theorem zr_u_X8_277_10 {r : Nat} {M : pm} (hz : r = 4 ∨ r = 278) (h : zr r M) : zr r (u_X8_277_10 M) := (zr_R (zr_I (zr_I (zr_I (zr_nw (zr_R (zr_I (zr_I (zr_I (zr_nw (zr_R (zr_I (zr_I (zr_I (zr_nw h) (by omega) _ _) (by omega) _ _) (by omega) _ _) _ _ _)) (by omega) _ _) (by omega) _ _) (by omega) _ _) _ _ _)) (by omega) _ _) (by omega) _ _) (by omega) _ _) _ _ _)
theorem zr_u_X8_277_11 {r : Nat} {M : pm} (hz : r = 4 ∨ r = 278) (h : zr r M) : zr r (u_X8_277_11 M) := (zr_R (zr_nw (zr_R (zr_nw (zr_R (zr_nw (zr_R (zr_I (zr_I (zr_I (zr_nw (zr_R (zr_I (zr_I (zr_I (zr_nw h) (by omega) _ _) (by omega) _ _) (by omega) _ _) _ _ _)) (by omega) _ _) (by omega) _ _) (by omega) _ _) _ _ _)) _ _ _)) _ _ _)) _ _ _)
theorem zr_u_X8_277_12 {r : Nat} {M : pm} (hz : r = 4 ∨ r = 278) (h : zr r M) : zr r (u_X8_277_12 M) := (zr_R (zr_nw (zr_R (zr_I (zr_I (zr_I (zr_I (zr_I (zr_I (zr_nw (zr_R (zr_nw (zr_R (zr_nw (zr_R (zr_nw h) _ _ _)) _ _ _)) _ _ _)) (by omega) _ _) (by omega) _ _) (by omega) _ _) (by omega) _ _) (by omega) _ _) (by omega) _ _) _ _ _)) _ _ _)
theorem zr_u_X8_277_13 {r : Nat} {M : pm} (hz : r = 4 ∨ r = 278) (h : zr r M) : zr r (u_X8_277_13 M) := (zr_J (zr_R (zr_nw (zr_R (zr_nw (zr_R (zr_nw (zr_R (zr_nw (zr_R (zr_nw (zr_R (zr_nw (zr_R (zr_nw (zr_R (zr_nw (zr_R (zr_nw (zr_R (zr_nw h) _ _ _)) _ _ _)) _ _ _)) _ _ _)) _ _ _)) _ _ _)) _ _ _)) _ _ _)) _ _ _)) _ _ _) _ _ _)
theorem zr_u_X8_277_14 {r : Nat} {M : pm} (hz : r = 4 ∨ r = 278) (h : zr r M) : zr r (u_X8_277_14 M) := (zr_R (zr_I (zr_I (zr_I (zr_I (zr_nw (zr_R (zr_I (zr_I (zr_I (zr_I (zr_I (zr_nw h) (by omega) _ _) (by omega) _ _) (by omega) _ _) (by omega) _ _) (by omega) _ _) _ _ _)) (by omega) _ _) (by omega) _ _) (by omega) _ _) (by omega) _ _) _ _ _)
theorem zr_u_X8_277_15 {r : Nat} {M : pm} (hz : r = 4 ∨ r = 278) (h : zr r M) : zr r (u_X8_277_15 M) := (zr_R (zr_I (zr_I (zr_I (zr_I (zr_I (zr_nw (zr_R (zr_I (zr_I (zr_I (zr_I (zr_I (zr_nw h) (by omega) _ _) (by omega) _ _) (by omega) _ _) (by omega) _ _) (by omega) _ _) _ _ _)) (by omega) _ _) (by omega) _ _) (by omega) _ _) (by omega) _ _) (by omega) _ _) _ _ _)
theorem zr_u_X8_277_16 {r : Nat} {M : pm} (hz : r = 4 ∨ r = 278) (h : zr r M) : zr r (u_X8_277_16 M) := (zr_R (zr_I (zr_I (zr_I (zr_I (zr_I (zr_nw (zr_R (zr_I (zr_I (zr_I (zr_I (zr_nw h) (by omega) _ _) (by omega) _ _) (by omega) _ _) (by omega) _ _) _ _ _)) (by omega) _ _) (by omega) _ _) (by omega) _ _) (by omega) _ _) (by omega) _ _) _ _ _)
theorem zr_u_X8_277_17 {r : Nat} {M : pm} (hz : r = 4 ∨ r = 278) (h : zr r M) : zr r (u_X8_277_17 M) := (zr_R (zr_I (zr_I (zr_nw (zr_R (zr_I (zr_I (zr_I (zr_nw (zr_R (zr_I (zr_I (zr_I (zr_nw h) (by omega) _ _) (by omega) _ _) (by omega) _ _) _ _ _)) (by omega) _ _) (by omega) _ _) (by omega) _ _) _ _ _)) (by omega) _ _) (by omega) _ _) _ _ _)
theorem zr_u_X8_277_18 {r : Nat} {M : pm} (hz : r = 4 ∨ r = 278) (h : zr r M) : zr r (u_X8_277_18 M) := (zr_R (zr_I (zr_I (zr_I (zr_nw (zr_R (zr_I (zr_I (zr_I (zr_nw (zr_R (zr_I (zr_I (zr_I (zr_nw h) (by omega) _ _) (by omega) _ _) (by omega) _ _) _ _ _)) (by omega) _ _) (by omega) _ _) (by omega) _ _) _ _ _)) (by omega) _ _) (by omega) _ _) (by omega) _ _) _ _ _)
theorem zr_u_X8_277_19 {r : Nat} {M : pm} (hz : r = 4 ∨ r = 278) (h : zr r M) : zr r (u_X8_277_19 M) := (zr_R (zr_I (zr_I (zr_I (zr_I (zr_I (zr_nw (zr_R (zr_I (zr_I (zr_I (zr_nw (zr_R (zr_I (zr_I (zr_I (zr_I (zr_I (zr_nw h) (by omega) _ _) (by omega) _ _) (by omega) _ _) (by omega) _ _) (by omega) _ _) _ _ _)) (by omega) _ _) (by omega) _ _) (by omega) _ _) _ _ _)) (by omega) _ _) (by omega) _ _) (by omega) _ _) (by omega) _ _) (by omega) _ _) _ _ _)
theorem zr_u_X8_277_20 {r : Nat} {M : pm} (hz : r = 4 ∨ r = 278) (h : zr r M) : zr r (u_X8_277_20 M) := (zr_R (zr_I (zr_I (zr_I (zr_nw (zr_R (zr_I (zr_I (zr_I (zr_I (zr_I (zr_I (zr_nw h) (by omega) _ _) (by omega) _ _) (by omega) _ _) (by omega) _ _) (by omega) _ _) (by omega) _ _) _ _ _)) (by omega) _ _) (by omega) _ _) (by omega) _ _) _ _ _)
theorem zr_u_X8_277_21 {r : Nat} {M : pm} (hz : r = 4 ∨ r = 278) (h : zr r M) : zr r (u_X8_277_21 M) := (zr_R (zr_I (zr_I (zr_I (zr_I (zr_I (zr_nw (zr_R (zr_I (zr_I (zr_I (zr_I (zr_nw h) (by omega) _ _) (by omega) _ _) (by omega) _ _) (by omega) _ _) _ _ _)) (by omega) _ _) (by omega) _ _) (by omega) _ _) (by omega) _ _) (by omega) _ _) _ _ _)
theorem zr_u_X8_277_22 {r : Nat} {M : pm} (hz : r = 4 ∨ r = 278) (h : zr r M) : zr r (u_X8_277_22 M) := (zr_R (zr_I (zr_I (zr_I (zr_I (zr_I (zr_nw (zr_R (zr_I (zr_I (zr_I (zr_I (zr_I (zr_I (zr_nw h) (by omega) _ _) (by omega) _ _) (by omega) _ _) (by omega) _ _) (by omega) _ _) (by omega) _ _) _ _ _)) (by omega) _ _) (by omega) _ _) (by omega) _ _) (by omega) _ _) (by omega) _ _) _ _ _)
theorem zr_u_X8_277_23 {r : Nat} {M : pm} (hz : r = 4 ∨ r = 278) (h : zr r M) : zr r (u_X8_277_23 M) := (zr_R (zr_nw (zr_R (zr_nw (zr_R (zr_I (zr_I (zr_I (zr_I (zr_I (zr_nw (zr_R (zr_I (zr_I (zr_nw h) (by omega) _ _) (by omega) _ _) _ _ _)) (by omega) _ _) (by omega) _ _) (by omega) _ _) (by omega) _ _) (by omega) _ _) _ _ _)) _ _ _)) _ _ _)
theorem zr_u_X8_277_24 {r : Nat} {M : pm} (hz : r = 4 ∨ r = 278) (h : zr r M) : zr r (u_X8_277_24 M) := (zr_R (zr_nw (zr_R (zr_nw h) _ _ _)) _ _ _)
theorem zr_i_X8_277 {r : Nat} {M : pm} (hz : r = 4 ∨ r = 278) (h : zr r M) : zr r (i_X8_277 M) := (zr_u_X8_277_24 hz (zr_u_X8_277_23 hz (zr_u_X8_277_22 hz (zr_u_X8_277_21 hz (zr_u_X8_277_20 hz (zr_u_X8_277_19 hz (zr_u_X8_277_18 hz (zr_u_X8_277_17 hz (zr_u_X8_277_16 hz (zr_u_X8_277_15 hz (zr_u_X8_277_14 hz (zr_u_X8_277_13 hz (zr_u_X8_277_12 hz (zr_u_X8_277_11 hz (zr_u_X8_277_10 hz (zr_u_X8_277_9 hz (zr_u_X8_277_8 hz (zr_u_X8_277_7 hz (zr_u_X8_277_6 hz (zr_u_X8_277_5 hz (zr_u_X8_277_4 hz (zr_u_X8_277_3 hz (zr_u_X8_277_2 hz (zr_u_X8_277_1 hz (zr_u_X8_277_0 hz h)))))))))))))))))))))))))
theorem zr_u_L_law_0 {r : Nat} {M : pm} (hz : r = 4 ∨ r = 278) (h : zr r M) : zr r (u_L_law_0 M) := (zr_i_X7_3 hz (zr_nw h))
theorem zr_u_L_law_1 {r : Nat} {M : pm} (hz : r = 4 ∨ r = 278) (h : zr r M) : zr r (u_L_law_1 M) := (zr_i_X8_277 hz (zr_nw h))
theorem zr_u_L_law_2 {r : Nat} {M : pm} (hz : r = 4 ∨ r = 278) (h : zr r M) : zr r (u_L_law_2 M) := h
theorem zr_i_L_law {r : Nat} {M : pm} (hz : r = 4 ∨ r = 278) (h : zr r M) : zr r (i_L_law M) := (zr_u_L_law_2 hz (zr_u_L_law_1 hz (zr_u_L_law_0 hz h)))
