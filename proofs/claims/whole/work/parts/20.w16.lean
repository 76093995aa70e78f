/-! methods, walked by program: w_ what must hold before, c_ its proof -/
def w_X8_letter_69 : Nat → Int32 → Int64 → Int32 → Int64 → pm → (Int32 → Int64 → Int32 → pm → Prop) → (Int32 → pm → Prop) → Prop
  | 0, _, _, _, _, _, _, _ => False
  | n + 1, x3, x4, x6, x7, M, k90, Q => ((x7 ≤ (0 : Int64) → (k90 x3 x4 x6 M)) ∧ (¬ x7 ≤ (0 : Int64) → (w_X8_letter_69 n x3 x4 (x6 + 1) (x7 / (27 : Int64)) M k90 Q)))
set_option maxRecDepth 4000 in
theorem c_X8_letter_69 {k90 : Int32 → Int64 → Int32 → pm → Prop} {Q : Int32 → pm → Prop} (hk90 : ∀ (x3 : Int32) (x4 : Int64) (x6 : Int32) (M : pm), pG M → k90 x3 x4 x6 M → PW mX8_letter 2 350 90 [.ref 277, .null, .null, .int x3, .long x4, .null, .int x6, .null, .null] [] M (qI Q)) : ∀ (n : Nat) (x3 : Int32) (x4 : Int64) (x6 : Int32) (x7 : Int64) (M : pm), pG M → w_X8_letter_69 n x3 x4 x6 x7 M k90 Q → PW mX8_letter 2 350 69 [.ref 277, .null, .null, .int x3, .long x4, .null, .int x6, .long x7, .null] [] M (qI Q) := by
  intro n
  induction n with
  | zero => intro x3 x4 x6 x7 M hM h; exact h.elim
  | succ n ih =>
    intro x3 x4 x6 x7 M hM h
    unfold w_X8_letter_69 at h
    refine PW.lload (pc := 69) dX8_letter_69 rfl ?_
    refine PW.lconst (pc := 71) dX8_letter_71 (v := 0) (by decide) ?_
    refine PW.lcmp (pc := 72) dX8_letter_72 ?_
    refine PW.if_le (pc := 73) dX8_letter_73 (t := 90) (by decide) (fun hc => ?_) (fun hc => ?_)
    · have h := h.1 ((lg_cmp_le _ _).mp hc)
      exact PW.drop (hk90 _ _ _ _ hM h) ⟨rfl, rfl, rfl, rfl, trivial⟩
    · have h := h.2 (fun q => hc ((lg_cmp_le _ _).mpr q))
      refine PW.iinc (pc := 76) dX8_letter_76 (v := (x6 + 1)) (ls' := [.ref 277, .null, .null, .int x3, .long x4, .null, .int (x6 + 1), .long x7, .null]) rfl rfl (by decide) rfl rfl ?_
      refine PW.lload (pc := 79) dX8_letter_79 rfl ?_
      refine PW.ldc2 (pc := 81) dX8_letter_81 lk_X8_300 ?_
      refine PW.ldiv (pc := 84) dX8_letter_84 (by decide) ?_
      refine PW.lstore (pc := 85) dX8_letter_85 (ls' := [.ref 277, .null, .null, .int x3, .long x4, .null, .int (x6 + 1), .long (x7 / (27 : Int64)), .null]) (by decide) rfl rfl ?_
      refine PW.goto (pc := 87) dX8_letter_87 (t := 69) (by decide) ?_
      exact PW.drop (ih _ _ _ _ _ hM h) ⟨rfl, rfl, rfl, rfl, rfl, trivial⟩
def w_X8_letter_104 : Nat → Int32 → Int64 → Int32 → pm → (Int32 → pm → Prop) → Prop
  | 0, _, _, _, _, _ => False
  | n + 1, x3, x4, x7, M, Q => ((x7 ≤ x3 → (Q (Int64.toInt32 (lrm x4 (27 : Int64))) M)) ∧ (¬ x7 ≤ x3 → (w_X8_letter_104 n x3 (x4 / (27 : Int64)) (x7 + (-1)) M Q)))
set_option maxRecDepth 4000 in
theorem c_X8_letter_104  {Q : Int32 → pm → Prop}  : ∀ (n : Nat) (x3 : Int32) (x4 : Int64) (x7 : Int32) (M : pm), pG M → w_X8_letter_104 n x3 x4 x7 M  Q → PW mX8_letter 2 350 104 [.ref 277, .null, .null, .int x3, .long x4, .null, .null, .int x7, .null] [] M (qI Q) := by
  intro n
  induction n with
  | zero => intro x3 x4 x7 M hM h; exact h.elim
  | succ n ih =>
    intro x3 x4 x7 M hM h
    unfold w_X8_letter_104 at h
    refine PW.iload (pc := 104) dX8_letter_104 rfl ?_
    refine PW.iload_n (pc := 106) dX8_letter_106 rfl ?_
    refine PW.icmp_le (pc := 107) dX8_letter_107 (t := 124) (by decide) (fun hc => ?_) (fun hc => ?_)
    · have h := h.1 hc
      refine PW.lload (pc := 124) dX8_letter_124 rfl ?_
      refine PW.ldc2 (pc := 126) dX8_letter_126 lk_X8_300 ?_
      refine PW.lrem (pc := 129) dX8_letter_129 (by decide) ?_
      refine PW.l2i (pc := 130) dX8_letter_130 ?_
      exact PW.retI (pc := 131) dX8_letter_131 hM.1 rfl rfl ⟨hM, _, rfl, h⟩
    · have h := h.2 hc
      refine PW.lload (pc := 110) dX8_letter_110 rfl ?_
      refine PW.ldc2 (pc := 112) dX8_letter_112 lk_X8_300 ?_
      refine PW.ldiv (pc := 115) dX8_letter_115 (by decide) ?_
      refine PW.lstore (pc := 116) dX8_letter_116 (ls' := [.ref 277, .null, .null, .int x3, .long (x4 / (27 : Int64)), .null, .null, .int x7, .null]) (by decide) rfl rfl ?_
      refine PW.iinc (pc := 118) dX8_letter_118 (v := (x7 + (-1))) (ls' := [.ref 277, .null, .null, .int x3, .long (x4 / (27 : Int64)), .null, .null, .int (x7 + (-1)), .null]) rfl rfl (by decide) rfl rfl ?_
      refine PW.goto (pc := 121) dX8_letter_121 (t := 104) (by decide) ?_
      exact PW.drop (ih _ _ _ _ hM h) ⟨rfl, rfl, rfl, rfl, trivial⟩
def w_X8_letter (x1 : Int32) (x2 : Int32) (x3 : Int32) (M : pm) (Q : Int32 → pm → Prop) : Prop := w_X8_isIn (Int32.toInt64 x1) (0 : Int64) (2 : Int64) M (fun y2 M1 => ((y2 = 0 → (Q (-1) M1)) ∧ (¬ y2 = 0 → (vp_in (3 + x1) 6 ∧ (w_X8_isIn (Int32.toInt64 x2) (0 : Int64) (Int32.toInt64 ((mI M1 309 ((3 + x1).toNatClampNeg)) - 1)) M1 (fun y7 M6 => ((y7 = 0 → (Q (-1) M6)) ∧ (¬ y7 = 0 → (w_X8_isIn (Int32.toInt64 x3) (0 : Int64) (5 : Int64) M6 (fun y11 M10 => ((¬ y11 = 0 → (vp_in ((24 + (8 * x1)) + x2) 48 ∧ (∃ n15, w_X8_letter_69 n15 x3 (mJ M10 310 (((24 + (8 * x1)) + x2).toNatClampNeg)) 0 (mJ M10 310 (((24 + (8 * x1)) + x2).toNatClampNeg)) M10 (fun x3 x4 x6 M16 => ((x3 < x6 → (∃ n17, w_X8_letter_104 n17 x3 x4 (x6 - 1) M16  Q)) ∧ (¬ x3 < x6 → (Q 0 M16)))) Q))) ∧ (y11 = 0 → (Q (-1) M10)))))))))))))
set_option maxRecDepth 4000 in
theorem c_X8_letter {x1 : Int32} {x2 : Int32} {x3 : Int32} {M : pm} {Q : Int32 → pm → Prop}  (hM : pG M) (h : w_X8_letter x1 x2 x3 M Q) : PW mX8_letter 2 350 0 (pfr mX8_letter.2.2.1 [.ref 277, .int x1, .int x2, .int x3]) [] M (qI Q) := by
  unfold w_X8_letter at h
  show PW mX8_letter 2 350 0 [.ref 277, .int x1, .int x2, .int x3, .null, .null, .null, .null, .null] [] M (qI Q)
  refine PW.iload_n (pc := 0) dX8_letter_0 rfl ?_
  refine PW.i2l (pc := 1) dX8_letter_1 ?_
  refine PW.lconst (pc := 2) dX8_letter_2 (v := 0) (by decide) ?_
  refine PW.ldc2 (pc := 3) dX8_letter_3 lk_X8_500 ?_
  refine PW.ins (m' := mX8_isIn) (pc := 6) dX8_letter_6 lm_X8_289 me_X8_isIn ms_X8_isIn (As := [.long (Int32.toInt64 x1), .long (0 : Int64), .long (2 : Int64)]) (st := []) rfl (Nat.le_of_ble_eq_true rfl) (Nat.le_of_ble_eq_true rfl) (Nat.le_of_eq hM.1) (Nat.le_refl _) (PW.deep (by decide) (c_X8_isIn  hM h)) ?_
  rintro _ M1 ⟨hM3, y2, rfl, z4, h⟩
  refine PW.if_eq (pc := 9) dX8_letter_9 (t := 44) (by decide) (fun hc => ?_) (fun hc => ?_)
  · have h := h.1 hc
    refine PW.iconst (pc := 44) dX8_letter_44 (v := (-1)) (by decide) ?_
    exact PW.retI (pc := 45) dX8_letter_45 hM3.1 rfl rfl ⟨hM3, _, rfl, h⟩
  · have h := h.2 hc
    refine PW.iload_n (pc := 12) dX8_letter_12 rfl ?_
    refine PW.i2l (pc := 13) dX8_letter_13 ?_
    refine PW.lconst (pc := 14) dX8_letter_14 (v := 0) (by decide) ?_
    refine PW.aload_n (pc := 15) dX8_letter_15 rfl ?_
    refine PW.getR (pc := 16) dX8_letter_16 (r := 309) lf_X8_108 (ob hM3.1 s_277 (by decide)) fx_8_40 (oR_8_40 hM3 s_277) (pS_ne s_309) ?_
    refine PW.iconst (pc := 19) dX8_letter_19 (v := 3) (by decide) ?_
    refine PW.iload_n (pc := 20) dX8_letter_20 rfl ?_
    refine PW.iadd (pc := 21) dX8_letter_21 ?_
    obtain ⟨v5, h⟩ := h
    refine PW.iald (pc := 22) dX8_letter_22 (ar hM3.1 s_309) (vpl n_309 v5) ?_
    refine PW.iconst (pc := 23) dX8_letter_23 (v := 1) (by decide) ?_
    refine PW.isub (pc := 24) dX8_letter_24 ?_
    refine PW.i2l (pc := 25) dX8_letter_25 ?_
    refine PW.ins (m' := mX8_isIn) (pc := 26) dX8_letter_26 lm_X8_289 me_X8_isIn ms_X8_isIn (As := [.long (Int32.toInt64 x2), .long (0 : Int64), .long (Int32.toInt64 ((mI M1 309 ((3 + x1).toNatClampNeg)) - 1))]) (st := []) rfl (Nat.le_of_ble_eq_true rfl) (Nat.le_of_ble_eq_true rfl) (Nat.le_of_eq hM3.1) (Nat.le_refl _) (PW.deep (by decide) (c_X8_isIn  hM3 h)) ?_
    rintro _ M6 ⟨hM8, y7, rfl, z9, h⟩
    refine PW.if_eq (pc := 29) dX8_letter_29 (t := 44) (by decide) (fun hc => ?_) (fun hc => ?_)
    · have h := h.1 hc
      refine PW.iconst (pc := 44) dX8_letter_44 (v := (-1)) (by decide) ?_
      exact PW.retI (pc := 45) dX8_letter_45 hM8.1 rfl rfl ⟨hM8, _, rfl, h⟩
    · have h := h.2 hc
      refine PW.iload_n (pc := 32) dX8_letter_32 rfl ?_
      refine PW.i2l (pc := 33) dX8_letter_33 ?_
      refine PW.lconst (pc := 34) dX8_letter_34 (v := 0) (by decide) ?_
      refine PW.ldc2 (pc := 35) dX8_letter_35 lk_X8_502 ?_
      refine PW.ins (m' := mX8_isIn) (pc := 38) dX8_letter_38 lm_X8_289 me_X8_isIn ms_X8_isIn (As := [.long (Int32.toInt64 x3), .long (0 : Int64), .long (5 : Int64)]) (st := []) rfl (Nat.le_of_ble_eq_true rfl) (Nat.le_of_ble_eq_true rfl) (Nat.le_of_eq hM8.1) (Nat.le_refl _) (PW.deep (by decide) (c_X8_isIn  hM8 h)) ?_
      rintro _ M10 ⟨hM12, y11, rfl, z13, h⟩
      refine PW.if_ne (pc := 41) dX8_letter_41 (t := 46) (by decide) (fun hc => ?_) (fun hc => ?_)
      · have h := h.1 hc
        refine PW.aload_n (pc := 46) dX8_letter_46 rfl ?_
        refine PW.getR (pc := 47) dX8_letter_47 (r := 310) lf_X8_111 (ob hM12.1 s_277 (by decide)) fx_8_41 (oR_8_41 hM12 s_277) (pS_ne s_310) ?_
        refine PW.bipush (pc := 50) dX8_letter_50 (v := 24) (by decide) ?_
        refine PW.bipush (pc := 52) dX8_letter_52 (v := 8) (by decide) ?_
        refine PW.iload_n (pc := 54) dX8_letter_54 rfl ?_
        refine PW.imul (pc := 55) dX8_letter_55 ?_
        refine PW.iadd (pc := 56) dX8_letter_56 ?_
        refine PW.iload_n (pc := 57) dX8_letter_57 rfl ?_
        refine PW.iadd (pc := 58) dX8_letter_58 ?_
        obtain ⟨v14, h⟩ := h
        refine PW.lald (pc := 59) dX8_letter_59 (ar hM12.1 s_310) (vpl n_310 v14) ?_
        refine PW.lstore (pc := 60) dX8_letter_60 (ls' := [.ref 277, .int x1, .int x2, .int x3, .long (mJ M10 310 (((24 + (8 * x1)) + x2).toNatClampNeg)), .null, .null, .null, .null]) (by decide) rfl rfl ?_
        refine PW.iconst (pc := 62) dX8_letter_62 (v := 0) (by decide) ?_
        refine PW.istore (pc := 63) dX8_letter_63 (ls' := [.ref 277, .int x1, .int x2, .int x3, .long (mJ M10 310 (((24 + (8 * x1)) + x2).toNatClampNeg)), .null, .int 0, .null, .null]) (by decide) rfl rfl ?_
        refine PW.lload (pc := 65) dX8_letter_65 rfl ?_
        refine PW.lstore (pc := 67) dX8_letter_67 (ls' := [.ref 277, .int x1, .int x2, .int x3, .long (mJ M10 310 (((24 + (8 * x1)) + x2).toNatClampNeg)), .null, .int 0, .long (mJ M10 310 (((24 + (8 * x1)) + x2).toNatClampNeg)), .null]) (by decide) rfl rfl ?_
        obtain ⟨n15, h⟩ := h
        refine PW.drop (c_X8_letter_69 ?_ n15 _ _ _ _ _ hM12 h) ⟨rfl, rfl, rfl, rfl, rfl, trivial⟩
        · intro x3 x4 x6 M16 hM h
          refine PW.iload_n (pc := 90) dX8_letter_90 rfl ?_
          refine PW.iload (pc := 91) dX8_letter_91 rfl ?_
          refine PW.icmp_lt (pc := 93) dX8_letter_93 (t := 98) (by decide) (fun hc => ?_) (fun hc => ?_)
          · have h := h.1 hc
            refine PW.iload (pc := 98) dX8_letter_98 rfl ?_
            refine PW.iconst (pc := 100) dX8_letter_100 (v := 1) (by decide) ?_
            refine PW.isub (pc := 101) dX8_letter_101 ?_
            refine PW.istore (pc := 102) dX8_letter_102 (ls' := [.ref 277, .null, .null, .int x3, .long x4, .null, .int x6, .int (x6 - 1), .null]) (by decide) rfl rfl ?_
            obtain ⟨n17, h⟩ := h
            refine PW.drop (c_X8_letter_104  n17 _ _ _ _ hM h) ⟨rfl, rfl, rfl, rfl, trivial⟩
          · have h := h.2 hc
            refine PW.iconst (pc := 96) dX8_letter_96 (v := 0) (by decide) ?_
            exact PW.retI (pc := 97) dX8_letter_97 hM.1 rfl rfl ⟨hM, _, rfl, h⟩
      · have h := h.2 hc
        refine PW.iconst (pc := 44) dX8_letter_44 (v := (-1)) (by decide) ?_
        exact PW.retI (pc := 45) dX8_letter_45 hM12.1 rfl rfl ⟨hM12, _, rfl, h⟩
def w_X8_song (x1 : Int32) (x2 : Int32) (M : pm) (Q : Int32 → pm → Prop) : Prop := w_X8_songMany  M (fun y2 M1 => w_X8_isIn (Int32.toInt64 x1) (0 : Int64) (Int32.toInt64 (y2 - 1)) M1 (fun y5 M4 => ((y5 = 0 → (Q (-1) M4)) ∧ (¬ y5 = 0 → (w_X8_isIn (Int32.toInt64 x2) (0 : Int64) (1 : Int64) M4 (fun y9 M8 => ((y9 = 0 → (Q (-1) M8)) ∧ (¬ y9 = 0 → (vp_in ((12 + (2 * x1)) + x2) 24 ∧ (Q (mI M8 311 (((12 + (2 * x1)) + x2).toNatClampNeg)) M8))))))))))
set_option maxRecDepth 4000 in
theorem c_X8_song {x1 : Int32} {x2 : Int32} {M : pm} {Q : Int32 → pm → Prop}  (hM : pG M) (h : w_X8_song x1 x2 M Q) : PW mX8_song 2 350 0 (pfr mX8_song.2.2.1 [.ref 277, .int x1, .int x2]) [] M (qI Q) := by
  unfold w_X8_song at h
  show PW mX8_song 2 350 0 [.ref 277, .int x1, .int x2] [] M (qI Q)
  refine PW.iload_n (pc := 0) dX8_song_0 rfl ?_
  refine PW.i2l (pc := 1) dX8_song_1 ?_
  refine PW.lconst (pc := 2) dX8_song_2 (v := 0) (by decide) ?_
  refine PW.aload_n (pc := 3) dX8_song_3 rfl ?_
  refine PW.inv (m' := mX8_songMany) (pc := 4) dX8_song_4 lm_X8_504 me_X8_songMany mi_X8_songMany (ob hM.1 s_277 (by decide)) rfl (As := []) (st := [.long (0 : Int64), .long (Int32.toInt64 x1)]) rfl (Nat.le_of_ble_eq_true rfl) (Nat.le_of_ble_eq_true rfl) (Nat.le_of_eq hM.1) (Nat.le_refl _) (PW.deep (by decide) (c_X8_songMany  hM h)) ?_
  rintro _ M1 ⟨hM3, y2, rfl, h⟩
  refine PW.iconst (pc := 7) dX8_song_7 (v := 1) (by decide) ?_
  refine PW.isub (pc := 8) dX8_song_8 ?_
  refine PW.i2l (pc := 9) dX8_song_9 ?_
  refine PW.ins (m' := mX8_isIn) (pc := 10) dX8_song_10 lm_X8_289 me_X8_isIn ms_X8_isIn (As := [.long (Int32.toInt64 x1), .long (0 : Int64), .long (Int32.toInt64 (y2 - 1))]) (st := []) rfl (Nat.le_of_ble_eq_true rfl) (Nat.le_of_ble_eq_true rfl) (Nat.le_of_eq hM3.1) (Nat.le_refl _) (PW.deep (by decide) (c_X8_isIn  hM3 h)) ?_
  rintro _ M4 ⟨hM6, y5, rfl, z7, h⟩
  refine PW.if_eq (pc := 13) dX8_song_13 (t := 42) (by decide) (fun hc => ?_) (fun hc => ?_)
  · have h := h.1 hc
    refine PW.iconst (pc := 42) dX8_song_42 (v := (-1)) (by decide) ?_
    exact PW.retI (pc := 43) dX8_song_43 hM6.1 rfl rfl ⟨hM6, _, rfl, h⟩
  · have h := h.2 hc
    refine PW.iload_n (pc := 16) dX8_song_16 rfl ?_
    refine PW.i2l (pc := 17) dX8_song_17 ?_
    refine PW.lconst (pc := 18) dX8_song_18 (v := 0) (by decide) ?_
    refine PW.lconst (pc := 19) dX8_song_19 (v := 1) (by decide) ?_
    refine PW.ins (m' := mX8_isIn) (pc := 20) dX8_song_20 lm_X8_289 me_X8_isIn ms_X8_isIn (As := [.long (Int32.toInt64 x2), .long (0 : Int64), .long (1 : Int64)]) (st := []) rfl (Nat.le_of_ble_eq_true rfl) (Nat.le_of_ble_eq_true rfl) (Nat.le_of_eq hM6.1) (Nat.le_refl _) (PW.deep (by decide) (c_X8_isIn  hM6 h)) ?_
    rintro _ M8 ⟨hM10, y9, rfl, z11, h⟩
    refine PW.if_eq (pc := 23) dX8_song_23 (t := 42) (by decide) (fun hc => ?_) (fun hc => ?_)
    · have h := h.1 hc
      refine PW.iconst (pc := 42) dX8_song_42 (v := (-1)) (by decide) ?_
      exact PW.retI (pc := 43) dX8_song_43 hM10.1 rfl rfl ⟨hM10, _, rfl, h⟩
    · have h := h.2 hc
      refine PW.aload_n (pc := 26) dX8_song_26 rfl ?_
      refine PW.getR (pc := 27) dX8_song_27 (r := 311) lf_X8_115 (ob hM10.1 s_277 (by decide)) fx_8_42 (oR_8_42 hM10 s_277) (pS_ne s_311) ?_
      refine PW.bipush (pc := 30) dX8_song_30 (v := 12) (by decide) ?_
      refine PW.iconst (pc := 32) dX8_song_32 (v := 2) (by decide) ?_
      refine PW.iload_n (pc := 33) dX8_song_33 rfl ?_
      refine PW.imul (pc := 34) dX8_song_34 ?_
      refine PW.iadd (pc := 35) dX8_song_35 ?_
      refine PW.iload_n (pc := 36) dX8_song_36 rfl ?_
      refine PW.iadd (pc := 37) dX8_song_37 ?_
      obtain ⟨v12, h⟩ := h
      refine PW.iald (pc := 38) dX8_song_38 (ar hM10.1 s_311) (vpl n_311 v12) ?_
      refine PW.goto (pc := 39) dX8_song_39 (t := 43) (by decide) ?_
      exact PW.retI (pc := 43) dX8_song_43 hM10.1 rfl rfl ⟨hM10, _, rfl, h⟩
def w_X8_asker (x1 : Int32) (x2 : Int32) (M : pm) (Q : Int32 → pm → Prop) : Prop := w_X8_isAsker x1 M (fun y2 M1 => ((¬ y2 = 0 → ((x2 = 0 → (w_X8_songOf x1 M1 (fun y6 M5 => Q y6 M5))) ∧ (x2 = 1 → (w_X8_diesOf x1 M1 (fun y9 M8 => Q y9 M8))) ∧ (x2 = 2 → (w_X8_mindsOf x1 M1 (fun y12 M11 => Q y12 M11))) ∧ (x2 = 3 → (w_X8_playedOf x1 M1 (fun y15 M14 => Q y15 M14))) ∧ (x2 = 4 → (w_X8_sinceOf x1 M1 (fun y18 M17 => Q y18 M17))) ∧ (x2 = 5 → (w_X8_canPlay x1 M1 (fun y21 M20 => ((y21 = 0 → (Q 0 M20)) ∧ (¬ y21 = 0 → (Q 1 M20)))))) ∧ (¬ x2 = 0 → ¬ x2 = 1 → ¬ x2 = 2 → ¬ x2 = 3 → ¬ x2 = 4 → ¬ x2 = 5 → (Q (-1) M1)))) ∧ (y2 = 0 → (Q (-1) M1))))
set_option maxRecDepth 4000 in
theorem c_X8_asker {x1 : Int32} {x2 : Int32} {M : pm} {Q : Int32 → pm → Prop}  (hM : pG M) (h : w_X8_asker x1 x2 M Q) : PW mX8_asker 7 350 0 (pfr mX8_asker.2.2.1 [.ref 277, .int x1, .int x2]) [] M (qI Q) := by
  unfold w_X8_asker at h
  show PW mX8_asker 7 350 0 [.ref 277, .int x1, .int x2] [] M (qI Q)
  refine PW.aload_n (pc := 0) dX8_asker_0 rfl ?_
  refine PW.iload_n (pc := 1) dX8_asker_1 rfl ?_
  refine PW.inv (m' := mX8_isAsker) (pc := 2) dX8_asker_2 lm_X8_507 me_X8_isAsker mi_X8_isAsker (ob hM.1 s_277 (by decide)) rfl (As := [.int x1]) (st := []) rfl (Nat.le_of_ble_eq_true rfl) (Nat.le_of_ble_eq_true rfl) (Nat.le_of_eq hM.1) (Nat.le_refl _) (PW.deep (by decide) (c_X8_isAsker  hM h)) ?_
  rintro _ M1 ⟨hM3, y2, rfl, z4, h⟩
  refine PW.if_ne (pc := 5) dX8_asker_5 (t := 10) (by decide) (fun hc => ?_) (fun hc => ?_)
  · have h := h.1 hc
    refine PW.iload_n (pc := 10) dX8_asker_10 rfl ?_
    by_cases q0 : x2 = 0
    · have h := h.1 q0
      refine PW.tabIn (pc := 11) dX8_asker_11 (by rw [q0]; decide) (by rw [q0]; decide) (off := 37) (by rw [q0]; decide) (t := 48) (by decide) ?_
      refine PW.aload_n (pc := 48) dX8_asker_48 rfl ?_
      refine PW.iload_n (pc := 49) dX8_asker_49 rfl ?_
      refine PW.inv (m' := mX8_songOf) (pc := 50) dX8_asker_50 lm_X8_398 me_X8_songOf mi_X8_songOf (ob hM3.1 s_277 (by decide)) rfl (As := [.int x1]) (st := []) rfl (Nat.le_of_ble_eq_true rfl) (Nat.le_of_ble_eq_true rfl) (Nat.le_of_eq hM3.1) (Nat.le_refl _) (PW.deep (by decide) (c_X8_songOf  hM3 h)) ?_
      rintro _ M5 ⟨hM7, y6, rfl, h⟩
      exact PW.retI (pc := 53) dX8_asker_53 hM7.1 rfl rfl ⟨hM7, _, rfl, h⟩
    by_cases q1 : x2 = 1
    · have h := h.2.1 q1
      refine PW.tabIn (pc := 11) dX8_asker_11 (by rw [q1]; decide) (by rw [q1]; decide) (off := 43) (by rw [q1]; decide) (t := 54) (by decide) ?_
      refine PW.aload_n (pc := 54) dX8_asker_54 rfl ?_
      refine PW.iload_n (pc := 55) dX8_asker_55 rfl ?_
      refine PW.inv (m' := mX8_diesOf) (pc := 56) dX8_asker_56 lm_X8_402 me_X8_diesOf mi_X8_diesOf (ob hM3.1 s_277 (by decide)) rfl (As := [.int x1]) (st := []) rfl (Nat.le_of_ble_eq_true rfl) (Nat.le_of_ble_eq_true rfl) (Nat.le_of_eq hM3.1) (Nat.le_refl _) (PW.deep (by decide) (c_X8_diesOf  hM3 h)) ?_
      rintro _ M8 ⟨hM10, y9, rfl, h⟩
      exact PW.retI (pc := 59) dX8_asker_59 hM10.1 rfl rfl ⟨hM10, _, rfl, h⟩
    by_cases q2 : x2 = 2
    · have h := h.2.2.1 q2
      refine PW.tabIn (pc := 11) dX8_asker_11 (by rw [q2]; decide) (by rw [q2]; decide) (off := 49) (by rw [q2]; decide) (t := 60) (by decide) ?_
      refine PW.aload_n (pc := 60) dX8_asker_60 rfl ?_
      refine PW.iload_n (pc := 61) dX8_asker_61 rfl ?_
      refine PW.inv (m' := mX8_mindsOf) (pc := 62) dX8_asker_62 lm_X8_425 me_X8_mindsOf mi_X8_mindsOf (ob hM3.1 s_277 (by decide)) rfl (As := [.int x1]) (st := []) rfl (Nat.le_of_ble_eq_true rfl) (Nat.le_of_ble_eq_true rfl) (Nat.le_of_eq hM3.1) (Nat.le_refl _) (PW.deep (by decide) (c_X8_mindsOf  hM3 h)) ?_
      rintro _ M11 ⟨hM13, y12, rfl, h⟩
      exact PW.retI (pc := 65) dX8_asker_65 hM13.1 rfl rfl ⟨hM13, _, rfl, h⟩
    by_cases q3 : x2 = 3
    · have h := h.2.2.2.1 q3
      refine PW.tabIn (pc := 11) dX8_asker_11 (by rw [q3]; decide) (by rw [q3]; decide) (off := 55) (by rw [q3]; decide) (t := 66) (by decide) ?_
      refine PW.aload_n (pc := 66) dX8_asker_66 rfl ?_
      refine PW.iload_n (pc := 67) dX8_asker_67 rfl ?_
      refine PW.inv (m' := mX8_playedOf) (pc := 68) dX8_asker_68 lm_X8_464 me_X8_playedOf mi_X8_playedOf (ob hM3.1 s_277 (by decide)) rfl (As := [.int x1]) (st := []) rfl (Nat.le_of_ble_eq_true rfl) (Nat.le_of_ble_eq_true rfl) (Nat.le_of_eq hM3.1) (Nat.le_refl _) (PW.deep (by decide) (c_X8_playedOf  hM3 h)) ?_
      rintro _ M14 ⟨hM16, y15, rfl, h⟩
      exact PW.retI (pc := 71) dX8_asker_71 hM16.1 rfl rfl ⟨hM16, _, rfl, h⟩
    by_cases q4 : x2 = 4
    · have h := h.2.2.2.2.1 q4
      refine PW.tabIn (pc := 11) dX8_asker_11 (by rw [q4]; decide) (by rw [q4]; decide) (off := 61) (by rw [q4]; decide) (t := 72) (by decide) ?_
      refine PW.aload_n (pc := 72) dX8_asker_72 rfl ?_
      refine PW.iload_n (pc := 73) dX8_asker_73 rfl ?_
      refine PW.inv (m' := mX8_sinceOf) (pc := 74) dX8_asker_74 lm_X8_510 me_X8_sinceOf mi_X8_sinceOf (ob hM3.1 s_277 (by decide)) rfl (As := [.int x1]) (st := []) rfl (Nat.le_of_ble_eq_true rfl) (Nat.le_of_ble_eq_true rfl) (Nat.le_of_eq hM3.1) (Nat.le_refl _) (PW.deep (by decide) (c_X8_sinceOf  hM3 h)) ?_
      rintro _ M17 ⟨hM19, y18, rfl, h⟩
      exact PW.retI (pc := 77) dX8_asker_77 hM19.1 rfl rfl ⟨hM19, _, rfl, h⟩
    by_cases q5 : x2 = 5
    · have h := h.2.2.2.2.2.1 q5
      refine PW.tabIn (pc := 11) dX8_asker_11 (by rw [q5]; decide) (by rw [q5]; decide) (off := 67) (by rw [q5]; decide) (t := 78) (by decide) ?_
      refine PW.aload_n (pc := 78) dX8_asker_78 rfl ?_
      refine PW.iload_n (pc := 79) dX8_asker_79 rfl ?_
      refine PW.inv (m' := mX8_canPlay) (pc := 80) dX8_asker_80 lm_X8_436 me_X8_canPlay mi_X8_canPlay (ob hM3.1 s_277 (by decide)) rfl (As := [.int x1]) (st := []) rfl (Nat.le_of_ble_eq_true rfl) (Nat.le_of_ble_eq_true rfl) (Nat.le_of_eq hM3.1) (Nat.le_refl _) (PW.deep (by decide) (c_X8_canPlay  hM3 h)) ?_
      rintro _ M20 ⟨hM22, y21, rfl, z23, h⟩
      refine PW.if_eq (pc := 83) dX8_asker_83 (t := 90) (by decide) (fun hc => ?_) (fun hc => ?_)
      · have h := h.1 hc
        refine PW.iconst (pc := 90) dX8_asker_90 (v := 0) (by decide) ?_
        exact PW.retI (pc := 91) dX8_asker_91 hM22.1 rfl rfl ⟨hM22, _, rfl, h⟩
      · have h := h.2 hc
        refine PW.iconst (pc := 86) dX8_asker_86 (v := 1) (by decide) ?_
        refine PW.goto (pc := 87) dX8_asker_87 (t := 91) (by decide) ?_
        exact PW.retI (pc := 91) dX8_asker_91 hM22.1 rfl rfl ⟨hM22, _, rfl, h⟩
    have h := h.2.2.2.2.2.2 q0 q1 q2 q3 q4 q5
    refine PW.tabOut (pc := 11) dX8_asker_11 (tab_out (fun c h1 h2 => ?_)) (t := 92) (by decide) ?_
    · rcases (by omega : c = 0 ∨ c = 1 ∨ c = 2 ∨ c = 3 ∨ c = 4 ∨ c = 5) with rfl | rfl | rfl | rfl | rfl | rfl <;> assumption
    · skip
      refine PW.iconst (pc := 92) dX8_asker_92 (v := (-1)) (by decide) ?_
      exact PW.retI (pc := 93) dX8_asker_93 hM3.1 rfl rfl ⟨hM3, _, rfl, h⟩
  · have h := h.2 hc
    refine PW.iconst (pc := 8) dX8_asker_8 (v := (-1)) (by decide) ?_
    exact PW.retI (pc := 9) dX8_asker_9 hM3.1 rfl rfl ⟨hM3, _, rfl, h⟩
def w_X8_worth (x1 : Int32) (M : pm) (Q : Int64 → pm → Prop) : Prop := w_X8_isAsker x1 M (fun y2 M1 => ((y2 = 0 → (Q (-1000000000000000 : Int64) M1)) ∧ (¬ y2 = 0 → (w_X8_worthOf x1 M1 (fun y6 M5 => Q y6 M5)))))
set_option maxRecDepth 4000 in
theorem c_X8_worth {x1 : Int32} {M : pm} {Q : Int64 → pm → Prop}  (hM : pG M) (h : w_X8_worth x1 M Q) : PW mX8_worth 7 350 0 (pfr mX8_worth.2.2.1 [.ref 277, .int x1]) [] M (qJ Q) := by
  unfold w_X8_worth at h
  show PW mX8_worth 7 350 0 [.ref 277, .int x1] [] M (qJ Q)
  refine PW.aload_n (pc := 0) dX8_worth_0 rfl ?_
  refine PW.iload_n (pc := 1) dX8_worth_1 rfl ?_
  refine PW.inv (m' := mX8_isAsker) (pc := 2) dX8_worth_2 lm_X8_507 me_X8_isAsker mi_X8_isAsker (ob hM.1 s_277 (by decide)) rfl (As := [.int x1]) (st := []) rfl (Nat.le_of_ble_eq_true rfl) (Nat.le_of_ble_eq_true rfl) (Nat.le_of_eq hM.1) (Nat.le_refl _) (PW.deep (by decide) (c_X8_isAsker  hM h)) ?_
  rintro _ M1 ⟨hM3, y2, rfl, z4, h⟩
  refine PW.if_eq (pc := 5) dX8_worth_5 (t := 16) (by decide) (fun hc => ?_) (fun hc => ?_)
  · have h := h.1 hc
    refine PW.ldc2 (pc := 16) dX8_worth_16 lk_X8_513 ?_
    exact PW.retJ (pc := 19) dX8_worth_19 hM3.1 rfl ⟨hM3, _, rfl, h⟩
  · have h := h.2 hc
    refine PW.aload_n (pc := 8) dX8_worth_8 rfl ?_
    refine PW.iload_n (pc := 9) dX8_worth_9 rfl ?_
    refine PW.inv (m' := mX8_worthOf) (pc := 10) dX8_worth_10 lm_X8_439 me_X8_worthOf mi_X8_worthOf (ob hM3.1 s_277 (by decide)) rfl (As := [.int x1]) (st := []) rfl (Nat.le_of_ble_eq_true rfl) (Nat.le_of_ble_eq_true rfl) (Nat.le_of_eq hM3.1) (Nat.le_refl _) (PW.deep (by decide) (c_X8_worthOf  hM3 h)) ?_
    rintro _ M5 ⟨hM7, y6, rfl, h⟩
    refine PW.goto (pc := 13) dX8_worth_13 (t := 19) (by decide) ?_
    exact PW.retJ (pc := 19) dX8_worth_19 hM7.1 rfl ⟨hM7, _, rfl, h⟩
def w_X8_best (x1 : Int32) (M : pm) (Q : Int32 → pm → Prop) : Prop := (((mI M 277 50) = 0 → (Q (-1) M)) ∧ (¬ (mI M 277 50) = 0 → (w_X8_isIn (Int32.toInt64 x1) (0 : Int64) (1 : Int64) M (fun y2 M1 => ((¬ y2 = 0 → (w_X8_laysBest  M1 (fun M5 => ((¬ x1 = 0 → (Q (mI M5 277 57) M5)) ∧ (x1 = 0 → (Q (mI M5 277 56) M5)))))) ∧ (y2 = 0 → (Q (-1) M1)))))))
set_option maxRecDepth 4000 in
theorem c_X8_best {x1 : Int32} {M : pm} {Q : Int32 → pm → Prop}  (hM : pG M) (h : w_X8_best x1 M Q) : PW mX8_best 9 350 0 (pfr mX8_best.2.2.1 [.ref 277, .int x1]) [] M (qI Q) := by
  unfold w_X8_best at h
  show PW mX8_best 9 350 0 [.ref 277, .int x1] [] M (qI Q)
  refine PW.aload_n (pc := 0) dX8_best_0 rfl ?_
  refine PW.getI (pc := 1) dX8_best_1 lf_X8_385 (ob hM.1 s_277 (by decide)) fx_8_50 ?_
  refine PW.if_eq (pc := 4) dX8_best_4 (t := 17) (by decide) (fun hc => ?_) (fun hc => ?_)
  · have h := h.1 hc
    refine PW.iconst (pc := 17) dX8_best_17 (v := (-1)) (by decide) ?_
    exact PW.retI (pc := 18) dX8_best_18 hM.1 rfl rfl ⟨hM, _, rfl, h⟩
  · have h := h.2 hc
    refine PW.iload_n (pc := 7) dX8_best_7 rfl ?_
    refine PW.i2l (pc := 8) dX8_best_8 ?_
    refine PW.lconst (pc := 9) dX8_best_9 (v := 0) (by decide) ?_
    refine PW.lconst (pc := 10) dX8_best_10 (v := 1) (by decide) ?_
    refine PW.ins (m' := mX8_isIn) (pc := 11) dX8_best_11 lm_X8_289 me_X8_isIn ms_X8_isIn (As := [.long (Int32.toInt64 x1), .long (0 : Int64), .long (1 : Int64)]) (st := []) rfl (Nat.le_of_ble_eq_true rfl) (Nat.le_of_ble_eq_true rfl) (Nat.le_of_eq hM.1) (Nat.le_refl _) (PW.deep (by decide) (c_X8_isIn  hM h)) ?_
    rintro _ M1 ⟨hM3, y2, rfl, z4, h⟩
    refine PW.if_ne (pc := 14) dX8_best_14 (t := 19) (by decide) (fun hc => ?_) (fun hc => ?_)
    · have h := h.1 hc
      refine PW.aload_n (pc := 19) dX8_best_19 rfl ?_
      refine PW.inv (m' := mX8_laysBest) (pc := 20) dX8_best_20 lm_X8_479 me_X8_laysBest mi_X8_laysBest (ob hM3.1 s_277 (by decide)) rfl (As := []) (st := []) rfl (Nat.le_of_ble_eq_true rfl) (Nat.le_of_ble_eq_true rfl) (Nat.le_of_eq hM3.1) (Nat.le_refl _) (PW.deep (by decide) (c_X8_laysBest  hM3 h)) ?_
      rintro _ M5 ⟨hM7, rfl, h⟩
      refine PW.iload_n (pc := 23) dX8_best_23 rfl ?_
      refine PW.if_ne (pc := 24) dX8_best_24 (t := 34) (by decide) (fun hc => ?_) (fun hc => ?_)
      · have h := h.1 hc
        refine PW.aload_n (pc := 34) dX8_best_34 rfl ?_
        refine PW.getI (pc := 35) dX8_best_35 lf_X8_452 (ob hM7.1 s_277 (by decide)) fx_8_57 ?_
        exact PW.retI (pc := 38) dX8_best_38 hM7.1 rfl rfl ⟨hM7, _, rfl, h⟩
      · have h := h.2 hc
        refine PW.aload_n (pc := 27) dX8_best_27 rfl ?_
        refine PW.getI (pc := 28) dX8_best_28 lf_X8_449 (ob hM7.1 s_277 (by decide)) fx_8_56 ?_
        refine PW.goto (pc := 31) dX8_best_31 (t := 38) (by decide) ?_
        exact PW.retI (pc := 38) dX8_best_38 hM7.1 rfl rfl ⟨hM7, _, rfl, h⟩
    · have h := h.2 hc
      refine PW.iconst (pc := 17) dX8_best_17 (v := (-1)) (by decide) ?_
      exact PW.retI (pc := 18) dX8_best_18 hM3.1 rfl rfl ⟨hM3, _, rfl, h⟩
def w_X8_kept (x1 : Int32) (x2 : Int32) (M : pm) (Q : Int32 → pm → Prop) : Prop := w_X8_isIn (Int32.toInt64 x1) (0 : Int64) (Int32.toInt64 ((mI M 317 42) - 1)) M (fun y2 M1 => ((y2 = 0 → (Q (-1) M1)) ∧ (¬ y2 = 0 → (w_X8_isIn (Int32.toInt64 x2) (0 : Int64) (2 : Int64) M1 (fun y6 M5 => ((y6 = 0 → (Q (-1) M5)) ∧ (¬ y6 = 0 → (vp_in ((43 + (3 * x1)) + x2) 163 ∧ (Q (mI M5 317 (((43 + (3 * x1)) + x2).toNatClampNeg)) M5)))))))))
set_option maxRecDepth 4000 in
theorem c_X8_kept {x1 : Int32} {x2 : Int32} {M : pm} {Q : Int32 → pm → Prop}  (hM : pG M) (h : w_X8_kept x1 x2 M Q) : PW mX8_kept 2 350 0 (pfr mX8_kept.2.2.1 [.ref 277, .int x1, .int x2]) [] M (qI Q) := by
  unfold w_X8_kept at h
  show PW mX8_kept 2 350 0 [.ref 277, .int x1, .int x2] [] M (qI Q)
  refine PW.iload_n (pc := 0) dX8_kept_0 rfl ?_
  refine PW.i2l (pc := 1) dX8_kept_1 ?_
  refine PW.lconst (pc := 2) dX8_kept_2 (v := 0) (by decide) ?_
  refine PW.aload_n (pc := 3) dX8_kept_3 rfl ?_
  refine PW.getR (pc := 4) dX8_kept_4 (r := 317) lf_X8_133 (ob hM.1 s_277 (by decide)) fx_8_52 (oR_8_52 hM s_277) (pS_ne s_317) ?_
  refine PW.bipush (pc := 7) dX8_kept_7 (v := 42) (by decide) ?_
  refine PW.iald (pc := 9) dX8_kept_9 (ar hM.1 s_317) (vpl n_317 (vp_c (i := 42) (n := 163) (by decide))) ?_
  refine PW.iconst (pc := 10) dX8_kept_10 (v := 1) (by decide) ?_
  refine PW.isub (pc := 11) dX8_kept_11 ?_
  refine PW.i2l (pc := 12) dX8_kept_12 ?_
  refine PW.ins (m' := mX8_isIn) (pc := 13) dX8_kept_13 lm_X8_289 me_X8_isIn ms_X8_isIn (As := [.long (Int32.toInt64 x1), .long (0 : Int64), .long (Int32.toInt64 ((mI M 317 42) - 1))]) (st := []) rfl (Nat.le_of_ble_eq_true rfl) (Nat.le_of_ble_eq_true rfl) (Nat.le_of_eq hM.1) (Nat.le_refl _) (PW.deep (by decide) (c_X8_isIn  hM h)) ?_
  rintro _ M1 ⟨hM3, y2, rfl, z4, h⟩
  refine PW.if_eq (pc := 16) dX8_kept_16 (t := 47) (by decide) (fun hc => ?_) (fun hc => ?_)
  · have h := h.1 hc
    refine PW.iconst (pc := 47) dX8_kept_47 (v := (-1)) (by decide) ?_
    exact PW.retI (pc := 48) dX8_kept_48 hM3.1 rfl rfl ⟨hM3, _, rfl, h⟩
  · have h := h.2 hc
    refine PW.iload_n (pc := 19) dX8_kept_19 rfl ?_
    refine PW.i2l (pc := 20) dX8_kept_20 ?_
    refine PW.lconst (pc := 21) dX8_kept_21 (v := 0) (by decide) ?_
    refine PW.ldc2 (pc := 22) dX8_kept_22 lk_X8_500 ?_
    refine PW.ins (m' := mX8_isIn) (pc := 25) dX8_kept_25 lm_X8_289 me_X8_isIn ms_X8_isIn (As := [.long (Int32.toInt64 x2), .long (0 : Int64), .long (2 : Int64)]) (st := []) rfl (Nat.le_of_ble_eq_true rfl) (Nat.le_of_ble_eq_true rfl) (Nat.le_of_eq hM3.1) (Nat.le_refl _) (PW.deep (by decide) (c_X8_isIn  hM3 h)) ?_
    rintro _ M5 ⟨hM7, y6, rfl, z8, h⟩
    refine PW.if_eq (pc := 28) dX8_kept_28 (t := 47) (by decide) (fun hc => ?_) (fun hc => ?_)
    · have h := h.1 hc
      refine PW.iconst (pc := 47) dX8_kept_47 (v := (-1)) (by decide) ?_
      exact PW.retI (pc := 48) dX8_kept_48 hM7.1 rfl rfl ⟨hM7, _, rfl, h⟩
    · have h := h.2 hc
      refine PW.aload_n (pc := 31) dX8_kept_31 rfl ?_
      refine PW.getR (pc := 32) dX8_kept_32 (r := 317) lf_X8_133 (ob hM7.1 s_277 (by decide)) fx_8_52 (oR_8_52 hM7 s_277) (pS_ne s_317) ?_
      refine PW.bipush (pc := 35) dX8_kept_35 (v := 43) (by decide) ?_
      refine PW.iconst (pc := 37) dX8_kept_37 (v := 3) (by decide) ?_
      refine PW.iload_n (pc := 38) dX8_kept_38 rfl ?_
      refine PW.imul (pc := 39) dX8_kept_39 ?_
      refine PW.iadd (pc := 40) dX8_kept_40 ?_
      refine PW.iload_n (pc := 41) dX8_kept_41 rfl ?_
      refine PW.iadd (pc := 42) dX8_kept_42 ?_
      obtain ⟨v9, h⟩ := h
      refine PW.iald (pc := 43) dX8_kept_43 (ar hM7.1 s_317) (vpl n_317 v9) ?_
      refine PW.goto (pc := 44) dX8_kept_44 (t := 48) (by decide) ?_
      exact PW.retI (pc := 48) dX8_kept_48 hM7.1 rfl rfl ⟨hM7, _, rfl, h⟩
def w_X8_later (x1 : Int32) (M : pm) (Q : Int32 → pm → Prop) : Prop := w_X8_isAhead x1 0 60 M (fun y2 M1 => ((¬ y2 = 0 → (w_X8_putsAside  M1 (fun M5 => w_X8_daysGo x1 M5 (fun M8 => w_X8_laysBest  M8 (fun M11 => w_X8_takesBack  M11 (fun M14 => Q (mI M14 277 56) M14)))))) ∧ (y2 = 0 → (Q (-1) M1))))
set_option maxRecDepth 4000 in
theorem c_X8_later {x1 : Int32} {M : pm} {Q : Int32 → pm → Prop}  (hM : pG M) (h : w_X8_later x1 M Q) : PW mX8_later 11 350 0 (pfr mX8_later.2.2.1 [.ref 277, .int x1]) [] M (qI Q) := by
  unfold w_X8_later at h
  show PW mX8_later 11 350 0 [.ref 277, .int x1] [] M (qI Q)
  refine PW.aload_n (pc := 0) dX8_later_0 rfl ?_
  refine PW.iload_n (pc := 1) dX8_later_1 rfl ?_
  refine PW.iconst (pc := 2) dX8_later_2 (v := 0) (by decide) ?_
  refine PW.bipush (pc := 3) dX8_later_3 (v := 60) (by decide) ?_
  refine PW.inv (m' := mX8_isAhead) (pc := 5) dX8_later_5 lm_X8_515 me_X8_isAhead mi_X8_isAhead (ob hM.1 s_277 (by decide)) rfl (As := [.int x1, .int 0, .int 60]) (st := []) rfl (Nat.le_of_ble_eq_true rfl) (Nat.le_of_ble_eq_true rfl) (Nat.le_of_eq hM.1) (Nat.le_refl _) (PW.deep (by decide) (c_X8_isAhead  hM h)) ?_
  rintro _ M1 ⟨hM3, y2, rfl, z4, h⟩
  refine PW.if_ne (pc := 8) dX8_later_8 (t := 13) (by decide) (fun hc => ?_) (fun hc => ?_)
  · have h := h.1 hc
    refine PW.aload_n (pc := 13) dX8_later_13 rfl ?_
    refine PW.inv (m' := mX8_putsAside) (pc := 14) dX8_later_14 lm_X8_518 me_X8_putsAside mi_X8_putsAside (ob hM3.1 s_277 (by decide)) rfl (As := []) (st := []) rfl (Nat.le_of_ble_eq_true rfl) (Nat.le_of_ble_eq_true rfl) (Nat.le_of_eq hM3.1) (Nat.le_refl _) (PW.deep (by decide) (c_X8_putsAside  hM3 h)) ?_
    rintro _ M5 ⟨hM7, rfl, h⟩
    refine PW.aload_n (pc := 17) dX8_later_17 rfl ?_
    refine PW.iload_n (pc := 18) dX8_later_18 rfl ?_
    refine PW.inv (m' := mX8_daysGo) (pc := 19) dX8_later_19 lm_X8_521 me_X8_daysGo mi_X8_daysGo (ob hM7.1 s_277 (by decide)) rfl (As := [.int x1]) (st := []) rfl (Nat.le_of_ble_eq_true rfl) (Nat.le_of_ble_eq_true rfl) (Nat.le_of_eq hM7.1) (Nat.le_refl _) (PW.deep (by decide) (c_X8_daysGo  hM7 h)) ?_
    rintro _ M8 ⟨hM10, rfl, h⟩
    refine PW.aload_n (pc := 22) dX8_later_22 rfl ?_
    refine PW.inv (m' := mX8_laysBest) (pc := 23) dX8_later_23 lm_X8_479 me_X8_laysBest mi_X8_laysBest (ob hM10.1 s_277 (by decide)) rfl (As := []) (st := []) rfl (Nat.le_of_ble_eq_true rfl) (Nat.le_of_ble_eq_true rfl) (Nat.le_of_eq hM10.1) (Nat.le_refl _) (PW.deep (by decide) (c_X8_laysBest  hM10 h)) ?_
    rintro _ M11 ⟨hM13, rfl, h⟩
    refine PW.aload_n (pc := 26) dX8_later_26 rfl ?_
    refine PW.inv (m' := mX8_takesBack) (pc := 27) dX8_later_27 lm_X8_524 me_X8_takesBack mi_X8_takesBack (ob hM13.1 s_277 (by decide)) rfl (As := []) (st := []) rfl (Nat.le_of_ble_eq_true rfl) (Nat.le_of_ble_eq_true rfl) (Nat.le_of_eq hM13.1) (Nat.le_refl _) (PW.deep (by decide) (c_X8_takesBack  hM13 h)) ?_
    rintro _ M14 ⟨hM16, rfl, h⟩
    refine PW.aload_n (pc := 30) dX8_later_30 rfl ?_
    refine PW.getI (pc := 31) dX8_later_31 lf_X8_449 (ob hM16.1 s_277 (by decide)) fx_8_56 ?_
    exact PW.retI (pc := 34) dX8_later_34 hM16.1 rfl rfl ⟨hM16, _, rfl, h⟩
  · have h := h.2 hc
    refine PW.iconst (pc := 11) dX8_later_11 (v := (-1)) (by decide) ?_
    exact PW.retI (pc := 12) dX8_later_12 hM3.1 rfl rfl ⟨hM3, _, rfl, h⟩
def w_X8_minded (x1 : Int32) (x2 : Int32) (M : pm) (Q : Int32 → pm → Prop) : Prop := w_X8_isAsker x1 M (fun y2 M1 => ((y2 = 0 → (Q (-1) M1)) ∧ (¬ y2 = 0 → (w_X8_isAhead x2 0 60 M1 (fun y6 M5 => ((¬ y6 = 0 → (w_X8_putsAside  M5 (fun M9 => w_X8_daysGo x2 M9 (fun M12 => w_X8_mindsOf x1 M12 (fun y16 M15 => w_X8_takesBack  M15 (fun M18 => Q y16 M18)))))) ∧ (y6 = 0 → (Q (-1) M5))))))))
set_option maxRecDepth 4000 in
theorem c_X8_minded {x1 : Int32} {x2 : Int32} {M : pm} {Q : Int32 → pm → Prop}  (hM : pG M) (h : w_X8_minded x1 x2 M Q) : PW mX8_minded 11 350 0 (pfr mX8_minded.2.2.1 [.ref 277, .int x1, .int x2]) [] M (qI Q) := by
  unfold w_X8_minded at h
  show PW mX8_minded 11 350 0 [.ref 277, .int x1, .int x2, .null] [] M (qI Q)
  refine PW.aload_n (pc := 0) dX8_minded_0 rfl ?_
  refine PW.iload_n (pc := 1) dX8_minded_1 rfl ?_
  refine PW.inv (m' := mX8_isAsker) (pc := 2) dX8_minded_2 lm_X8_507 me_X8_isAsker mi_X8_isAsker (ob hM.1 s_277 (by decide)) rfl (As := [.int x1]) (st := []) rfl (Nat.le_of_ble_eq_true rfl) (Nat.le_of_ble_eq_true rfl) (Nat.le_of_eq hM.1) (Nat.le_refl _) (PW.deep (by decide) (c_X8_isAsker  hM h)) ?_
  rintro _ M1 ⟨hM3, y2, rfl, z4, h⟩
  refine PW.if_eq (pc := 5) dX8_minded_5 (t := 19) (by decide) (fun hc => ?_) (fun hc => ?_)
  · have h := h.1 hc
    refine PW.iconst (pc := 19) dX8_minded_19 (v := (-1)) (by decide) ?_
    exact PW.retI (pc := 20) dX8_minded_20 hM3.1 rfl rfl ⟨hM3, _, rfl, h⟩
  · have h := h.2 hc
    refine PW.aload_n (pc := 8) dX8_minded_8 rfl ?_
    refine PW.iload_n (pc := 9) dX8_minded_9 rfl ?_
    refine PW.iconst (pc := 10) dX8_minded_10 (v := 0) (by decide) ?_
    refine PW.bipush (pc := 11) dX8_minded_11 (v := 60) (by decide) ?_
    refine PW.inv (m' := mX8_isAhead) (pc := 13) dX8_minded_13 lm_X8_515 me_X8_isAhead mi_X8_isAhead (ob hM3.1 s_277 (by decide)) rfl (As := [.int x2, .int 0, .int 60]) (st := []) rfl (Nat.le_of_ble_eq_true rfl) (Nat.le_of_ble_eq_true rfl) (Nat.le_of_eq hM3.1) (Nat.le_refl _) (PW.deep (by decide) (c_X8_isAhead  hM3 h)) ?_
    rintro _ M5 ⟨hM7, y6, rfl, z8, h⟩
    refine PW.if_ne (pc := 16) dX8_minded_16 (t := 21) (by decide) (fun hc => ?_) (fun hc => ?_)
    · have h := h.1 hc
      refine PW.aload_n (pc := 21) dX8_minded_21 rfl ?_
      refine PW.inv (m' := mX8_putsAside) (pc := 22) dX8_minded_22 lm_X8_518 me_X8_putsAside mi_X8_putsAside (ob hM7.1 s_277 (by decide)) rfl (As := []) (st := []) rfl (Nat.le_of_ble_eq_true rfl) (Nat.le_of_ble_eq_true rfl) (Nat.le_of_eq hM7.1) (Nat.le_refl _) (PW.deep (by decide) (c_X8_putsAside  hM7 h)) ?_
      rintro _ M9 ⟨hM11, rfl, h⟩
      refine PW.aload_n (pc := 25) dX8_minded_25 rfl ?_
      refine PW.iload_n (pc := 26) dX8_minded_26 rfl ?_
      refine PW.inv (m' := mX8_daysGo) (pc := 27) dX8_minded_27 lm_X8_521 me_X8_daysGo mi_X8_daysGo (ob hM11.1 s_277 (by decide)) rfl (As := [.int x2]) (st := []) rfl (Nat.le_of_ble_eq_true rfl) (Nat.le_of_ble_eq_true rfl) (Nat.le_of_eq hM11.1) (Nat.le_refl _) (PW.deep (by decide) (c_X8_daysGo  hM11 h)) ?_
      rintro _ M12 ⟨hM14, rfl, h⟩
      refine PW.aload_n (pc := 30) dX8_minded_30 rfl ?_
      refine PW.iload_n (pc := 31) dX8_minded_31 rfl ?_
      refine PW.inv (m' := mX8_mindsOf) (pc := 32) dX8_minded_32 lm_X8_425 me_X8_mindsOf mi_X8_mindsOf (ob hM14.1 s_277 (by decide)) rfl (As := [.int x1]) (st := []) rfl (Nat.le_of_ble_eq_true rfl) (Nat.le_of_ble_eq_true rfl) (Nat.le_of_eq hM14.1) (Nat.le_refl _) (PW.deep (by decide) (c_X8_mindsOf  hM14 h)) ?_
      rintro _ M15 ⟨hM17, y16, rfl, h⟩
      refine PW.istore_n (pc := 35) dX8_minded_35 (ls' := [.ref 277, .int x1, .int x2, .int y16]) (by decide) rfl rfl ?_
      refine PW.aload_n (pc := 36) dX8_minded_36 rfl ?_
      refine PW.inv (m' := mX8_takesBack) (pc := 37) dX8_minded_37 lm_X8_524 me_X8_takesBack mi_X8_takesBack (ob hM17.1 s_277 (by decide)) rfl (As := []) (st := []) rfl (Nat.le_of_ble_eq_true rfl) (Nat.le_of_ble_eq_true rfl) (Nat.le_of_eq hM17.1) (Nat.le_refl _) (PW.deep (by decide) (c_X8_takesBack  hM17 h)) ?_
      rintro _ M18 ⟨hM20, rfl, h⟩
      refine PW.iload_n (pc := 40) dX8_minded_40 rfl ?_
      exact PW.retI (pc := 41) dX8_minded_41 hM20.1 rfl rfl ⟨hM20, _, rfl, h⟩
    · have h := h.2 hc
      refine PW.iconst (pc := 19) dX8_minded_19 (v := (-1)) (by decide) ?_
      exact PW.retI (pc := 20) dX8_minded_20 hM7.1 rfl rfl ⟨hM7, _, rfl, h⟩
def w_X8_nothing_17 : Nat → Int32 → Int32 → pm → (Int32 → pm → Prop) → Prop
  | 0, _, _, _, _ => False
  | n + 1, x1, x2, M, Q => ((60 < x2 → (w_X8_takesBack  M (fun M4 => Q x1 M4))) ∧ (¬ 60 < x2 → ((¬ x1 = (-1) → (w_X8_takesBack  M (fun M7 => Q x1 M7))) ∧ (x1 = (-1) → ((999 < (mI M 317 0) → (w_X8_takesBack  M (fun M10 => Q x1 M10))) ∧ (¬ 999 < (mI M 317 0) → (w_X8_dayGoes  M (fun M13 => ((¬ (mI M13 277 56) = 0 → (w_X8_nothing_17 n x1 (x2 + 1) M13 Q)) ∧ ((mI M13 277 56) = 0 → (w_X8_nothing_17 n x2 (x2 + 1) M13 Q)))))))))))
set_option maxRecDepth 4000 in
theorem c_X8_nothing_17  {Q : Int32 → pm → Prop}  : ∀ (n : Nat) (x1 : Int32) (x2 : Int32) (M : pm), pG M → w_X8_nothing_17 n x1 x2 M  Q → PW mX8_nothing 10 350 17 [.ref 277, .int x1, .int x2] [] M (qI Q) := by
  intro n
  induction n with
  | zero => intro x1 x2 M hM h; exact h.elim
  | succ n ih =>
    intro x1 x2 M hM h
    unfold w_X8_nothing_17 at h
    refine PW.iload_n (pc := 17) dX8_nothing_17 rfl ?_
    refine PW.bipush (pc := 18) dX8_nothing_18 (v := 60) (by decide) ?_
    refine PW.icmp_gt (pc := 20) dX8_nothing_20 (t := 59) (by decide) (fun hc => ?_) (fun hc => ?_)
    · have h := h.1 hc
      refine PW.aload_n (pc := 59) dX8_nothing_59 rfl ?_
      refine PW.inv (m' := mX8_takesBack) (pc := 60) dX8_nothing_60 lm_X8_524 me_X8_takesBack mi_X8_takesBack (ob hM.1 s_277 (by decide)) rfl (As := []) (st := []) rfl (Nat.le_of_ble_eq_true rfl) (Nat.le_of_ble_eq_true rfl) (Nat.le_of_eq hM.1) (Nat.le_refl _) (PW.deep (by decide) (c_X8_takesBack  hM h)) ?_
      rintro _ M4 ⟨hM6, rfl, h⟩
      refine PW.iload_n (pc := 63) dX8_nothing_63 rfl ?_
      exact PW.retI (pc := 64) dX8_nothing_64 hM6.1 rfl rfl ⟨hM6, _, rfl, h⟩
    · have h := h.2 hc
      refine PW.iload_n (pc := 23) dX8_nothing_23 rfl ?_
      refine PW.iconst (pc := 24) dX8_nothing_24 (v := (-1)) (by decide) ?_
      refine PW.icmp_ne (pc := 25) dX8_nothing_25 (t := 59) (by decide) (fun hc => ?_) (fun hc => ?_)
      · have h := h.1 hc
        refine PW.aload_n (pc := 59) dX8_nothing_59 rfl ?_
        refine PW.inv (m' := mX8_takesBack) (pc := 60) dX8_nothing_60 lm_X8_524 me_X8_takesBack mi_X8_takesBack (ob hM.1 s_277 (by decide)) rfl (As := []) (st := []) rfl (Nat.le_of_ble_eq_true rfl) (Nat.le_of_ble_eq_true rfl) (Nat.le_of_eq hM.1) (Nat.le_refl _) (PW.deep (by decide) (c_X8_takesBack  hM h)) ?_
        rintro _ M7 ⟨hM9, rfl, h⟩
        refine PW.iload_n (pc := 63) dX8_nothing_63 rfl ?_
        exact PW.retI (pc := 64) dX8_nothing_64 hM9.1 rfl rfl ⟨hM9, _, rfl, h⟩
      · have h := h.2 hc
        refine PW.aload_n (pc := 28) dX8_nothing_28 rfl ?_
        refine PW.getR (pc := 29) dX8_nothing_29 (r := 317) lf_X8_133 (ob hM.1 s_277 (by decide)) fx_8_52 (oR_8_52 hM s_277) (pS_ne s_317) ?_
        refine PW.iconst (pc := 32) dX8_nothing_32 (v := 0) (by decide) ?_
        refine PW.iald (pc := 33) dX8_nothing_33 (ar hM.1 s_317) (vpl n_317 (vp_c (i := 0) (n := 163) (by decide))) ?_
        refine PW.sipush (pc := 34) dX8_nothing_34 (v := 999) (by decide) ?_
        refine PW.icmp_gt (pc := 37) dX8_nothing_37 (t := 59) (by decide) (fun hc => ?_) (fun hc => ?_)
        · have h := h.1 hc
          refine PW.aload_n (pc := 59) dX8_nothing_59 rfl ?_
          refine PW.inv (m' := mX8_takesBack) (pc := 60) dX8_nothing_60 lm_X8_524 me_X8_takesBack mi_X8_takesBack (ob hM.1 s_277 (by decide)) rfl (As := []) (st := []) rfl (Nat.le_of_ble_eq_true rfl) (Nat.le_of_ble_eq_true rfl) (Nat.le_of_eq hM.1) (Nat.le_refl _) (PW.deep (by decide) (c_X8_takesBack  hM h)) ?_
          rintro _ M10 ⟨hM12, rfl, h⟩
          refine PW.iload_n (pc := 63) dX8_nothing_63 rfl ?_
          exact PW.retI (pc := 64) dX8_nothing_64 hM12.1 rfl rfl ⟨hM12, _, rfl, h⟩
        · have h := h.2 hc
          refine PW.aload_n (pc := 40) dX8_nothing_40 rfl ?_
          refine PW.inv (m' := mX8_dayGoes) (pc := 41) dX8_nothing_41 lm_X8_485 me_X8_dayGoes mi_X8_dayGoes (ob hM.1 s_277 (by decide)) rfl (As := []) (st := []) rfl (Nat.le_of_ble_eq_true rfl) (Nat.le_of_ble_eq_true rfl) (Nat.le_of_eq hM.1) (Nat.le_refl _) (PW.deep (by decide) (c_X8_dayGoes  hM h)) ?_
          rintro _ M13 ⟨hM15, rfl, h⟩
          refine PW.aload_n (pc := 44) dX8_nothing_44 rfl ?_
          refine PW.getI (pc := 45) dX8_nothing_45 lf_X8_449 (ob hM15.1 s_277 (by decide)) fx_8_56 ?_
          refine PW.if_ne (pc := 48) dX8_nothing_48 (t := 53) (by decide) (fun hc => ?_) (fun hc => ?_)
          · have h := h.1 hc
            refine PW.iinc (pc := 53) dX8_nothing_53 (v := (x2 + 1)) (ls' := [.ref 277, .int x1, .int (x2 + 1)]) rfl rfl (by decide) rfl rfl ?_
            refine PW.goto (pc := 56) dX8_nothing_56 (t := 17) (by decide) ?_
            exact PW.drop (ih _ _ _ hM15 h) ⟨rfl, rfl, rfl, trivial⟩
          · have h := h.2 hc
            refine PW.iload_n (pc := 51) dX8_nothing_51 rfl ?_
            refine PW.istore_n (pc := 52) dX8_nothing_52 (ls' := [.ref 277, .int x2, .int x2]) (by decide) rfl rfl ?_
            refine PW.iinc (pc := 53) dX8_nothing_53 (v := (x2 + 1)) (ls' := [.ref 277, .int x2, .int (x2 + 1)]) rfl rfl (by decide) rfl rfl ?_
            refine PW.goto (pc := 56) dX8_nothing_56 (t := 17) (by decide) ?_
            exact PW.drop (ih _ _ _ hM15 h) ⟨rfl, rfl, rfl, trivial⟩
def w_X8_nothing  (M : pm) (Q : Int32 → pm → Prop) : Prop := ((¬ (mI M 277 50) = 0 → (w_X8_putsAside  M (fun M1 => ∃ n16, w_X8_nothing_17 n16 (-1) 0 M1  Q))) ∧ ((mI M 277 50) = 0 → (Q (-1) M)))
set_option maxRecDepth 4000 in
theorem c_X8_nothing  {M : pm} {Q : Int32 → pm → Prop}  (hM : pG M) (h : w_X8_nothing  M Q) : PW mX8_nothing 10 350 0 (pfr mX8_nothing.2.2.1 [.ref 277]) [] M (qI Q) := by
  unfold w_X8_nothing at h
  show PW mX8_nothing 10 350 0 [.ref 277, .null, .null] [] M (qI Q)
  refine PW.aload_n (pc := 0) dX8_nothing_0 rfl ?_
  refine PW.getI (pc := 1) dX8_nothing_1 lf_X8_385 (ob hM.1 s_277 (by decide)) fx_8_50 ?_
  refine PW.if_ne (pc := 4) dX8_nothing_4 (t := 9) (by decide) (fun hc => ?_) (fun hc => ?_)
  · have h := h.1 hc
    refine PW.iconst (pc := 9) dX8_nothing_9 (v := (-1)) (by decide) ?_
    refine PW.istore_n (pc := 10) dX8_nothing_10 (ls' := [.ref 277, .int (-1), .null]) (by decide) rfl rfl ?_
    refine PW.aload_n (pc := 11) dX8_nothing_11 rfl ?_
    refine PW.inv (m' := mX8_putsAside) (pc := 12) dX8_nothing_12 lm_X8_518 me_X8_putsAside mi_X8_putsAside (ob hM.1 s_277 (by decide)) rfl (As := []) (st := []) rfl (Nat.le_of_ble_eq_true rfl) (Nat.le_of_ble_eq_true rfl) (Nat.le_of_eq hM.1) (Nat.le_refl _) (PW.deep (by decide) (c_X8_putsAside  hM h)) ?_
    rintro _ M1 ⟨hM3, rfl, h⟩
    refine PW.iconst (pc := 15) dX8_nothing_15 (v := 0) (by decide) ?_
    refine PW.istore_n (pc := 16) dX8_nothing_16 (ls' := [.ref 277, .int (-1), .int 0]) (by decide) rfl rfl ?_
    obtain ⟨n16, h⟩ := h
    refine PW.drop (c_X8_nothing_17  n16 _ _ _ hM3 h) ⟨rfl, rfl, rfl, trivial⟩
  · have h := h.2 hc
    refine PW.iconst (pc := 7) dX8_nothing_7 (v := (-1)) (by decide) ?_
    exact PW.retI (pc := 8) dX8_nothing_8 hM.1 rfl rfl ⟨hM, _, rfl, h⟩
def w_X8_hushed_15 : Nat → Int32 → pm → (Int32 → pm → Prop) → (Int32 → pm → Prop) → Prop
  | 0, _, _, _, _ => False
  | n + 1, x1, M, k52, Q => (((mI M 317 1) ≤ 0 → (k52 x1 M)) ∧ (¬ (mI M 317 1) ≤ 0 → ((60 ≤ x1 → (k52 x1 M)) ∧ (¬ 60 ≤ x1 → ((999 ≤ (mI M 317 0) → (k52 x1 M)) ∧ (¬ 999 ≤ (mI M 317 0) → (w_X8_dayGoes  M (fun M4 => w_X8_hushed_15 n (x1 + 1) M4 k52 Q))))))))
set_option maxRecDepth 4000 in
theorem c_X8_hushed_15 {k52 : Int32 → pm → Prop} {Q : Int32 → pm → Prop} (hk52 : ∀ (x1 : Int32) (M : pm), pG M → k52 x1 M → PW mX8_hushed 10 350 52 [.ref 277, .int x1, .null] [] M (qI Q)) : ∀ (n : Nat) (x1 : Int32) (M : pm), pG M → w_X8_hushed_15 n x1 M k52 Q → PW mX8_hushed 10 350 15 [.ref 277, .int x1, .null] [] M (qI Q) := by
  intro n
  induction n with
  | zero => intro x1 M hM h; exact h.elim
  | succ n ih =>
    intro x1 M hM h
    unfold w_X8_hushed_15 at h
    refine PW.aload_n (pc := 15) dX8_hushed_15 rfl ?_
    refine PW.getR (pc := 16) dX8_hushed_16 (r := 317) lf_X8_133 (ob hM.1 s_277 (by decide)) fx_8_52 (oR_8_52 hM s_277) (pS_ne s_317) ?_
    refine PW.iconst (pc := 19) dX8_hushed_19 (v := 1) (by decide) ?_
    refine PW.iald (pc := 20) dX8_hushed_20 (ar hM.1 s_317) (vpl n_317 (vp_c (i := 1) (n := 163) (by decide))) ?_
    refine PW.if_le (pc := 21) dX8_hushed_21 (t := 52) (by decide) (fun hc => ?_) (fun hc => ?_)
    · have h := h.1 hc
      exact PW.drop (hk52 _ _ hM h) ⟨rfl, rfl, trivial⟩
    · have h := h.2 hc
      refine PW.iload_n (pc := 24) dX8_hushed_24 rfl ?_
      refine PW.bipush (pc := 25) dX8_hushed_25 (v := 60) (by decide) ?_
      refine PW.icmp_ge (pc := 27) dX8_hushed_27 (t := 52) (by decide) (fun hc => ?_) (fun hc => ?_)
      · have h := h.1 hc
        exact PW.drop (hk52 _ _ hM h) ⟨rfl, rfl, trivial⟩
      · have h := h.2 hc
        refine PW.aload_n (pc := 30) dX8_hushed_30 rfl ?_
        refine PW.getR (pc := 31) dX8_hushed_31 (r := 317) lf_X8_133 (ob hM.1 s_277 (by decide)) fx_8_52 (oR_8_52 hM s_277) (pS_ne s_317) ?_
        refine PW.iconst (pc := 34) dX8_hushed_34 (v := 0) (by decide) ?_
        refine PW.iald (pc := 35) dX8_hushed_35 (ar hM.1 s_317) (vpl n_317 (vp_c (i := 0) (n := 163) (by decide))) ?_
        refine PW.sipush (pc := 36) dX8_hushed_36 (v := 999) (by decide) ?_
        refine PW.icmp_ge (pc := 39) dX8_hushed_39 (t := 52) (by decide) (fun hc => ?_) (fun hc => ?_)
        · have h := h.1 hc
          exact PW.drop (hk52 _ _ hM h) ⟨rfl, rfl, trivial⟩
        · have h := h.2 hc
          refine PW.aload_n (pc := 42) dX8_hushed_42 rfl ?_
          refine PW.inv (m' := mX8_dayGoes) (pc := 43) dX8_hushed_43 lm_X8_485 me_X8_dayGoes mi_X8_dayGoes (ob hM.1 s_277 (by decide)) rfl (As := []) (st := []) rfl (Nat.le_of_ble_eq_true rfl) (Nat.le_of_ble_eq_true rfl) (Nat.le_of_eq hM.1) (Nat.le_refl _) (PW.deep (by decide) (c_X8_dayGoes  hM h)) ?_
          rintro _ M4 ⟨hM6, rfl, h⟩
          refine PW.iinc (pc := 46) dX8_hushed_46 (v := (x1 + 1)) (ls' := [.ref 277, .int (x1 + 1), .null]) rfl rfl (by decide) rfl rfl ?_
          refine PW.goto (pc := 49) dX8_hushed_49 (t := 15) (by decide) ?_
          exact PW.drop (ih _ _ hM6 h) ⟨rfl, rfl, trivial⟩
def w_X8_hushed_52  (x1 : Int32) (M : pm)  (Q : Int32 → pm → Prop) : Prop := ((¬ (mI M 317 1) = 0 → (w_X8_takesBack  M (fun M9 => Q (-1) M9))) ∧ ((mI M 317 1) = 0 → (w_X8_takesBack  M (fun M12 => Q x1 M12))))
set_option maxRecDepth 4000 in
theorem c_X8_hushed_52  {Q : Int32 → pm → Prop}  : ∀ (x1 : Int32) (M : pm), pG M → w_X8_hushed_52 x1 M  Q → PW mX8_hushed 10 350 52 [.ref 277, .int x1, .null] [] M (qI Q) := by
  intro x1 M hM h
  unfold w_X8_hushed_52 at h
  refine PW.aload_n (pc := 52) dX8_hushed_52 rfl ?_
  refine PW.getR (pc := 53) dX8_hushed_53 (r := 317) lf_X8_133 (ob hM.1 s_277 (by decide)) fx_8_52 (oR_8_52 hM s_277) (pS_ne s_317) ?_
  refine PW.iconst (pc := 56) dX8_hushed_56 (v := 1) (by decide) ?_
  refine PW.iald (pc := 57) dX8_hushed_57 (ar hM.1 s_317) (vpl n_317 (vp_c (i := 1) (n := 163) (by decide))) ?_
  refine PW.if_ne (pc := 58) dX8_hushed_58 (t := 65) (by decide) (fun hc => ?_) (fun hc => ?_)
  · have h := h.1 hc
    refine PW.iconst (pc := 65) dX8_hushed_65 (v := 0) (by decide) ?_
    refine PW.istore_n (pc := 66) dX8_hushed_66 (ls' := [.ref 277, .int x1, .int 0]) (by decide) rfl rfl ?_
    refine PW.aload_n (pc := 67) dX8_hushed_67 rfl ?_
    refine PW.inv (m' := mX8_takesBack) (pc := 68) dX8_hushed_68 lm_X8_524 me_X8_takesBack mi_X8_takesBack (ob hM.1 s_277 (by decide)) rfl (As := []) (st := []) rfl (Nat.le_of_ble_eq_true rfl) (Nat.le_of_ble_eq_true rfl) (Nat.le_of_eq hM.1) (Nat.le_refl _) (PW.deep (by decide) (c_X8_takesBack  hM h)) ?_
    rintro _ M9 ⟨hM11, rfl, h⟩
    refine PW.iload_n (pc := 71) dX8_hushed_71 rfl ?_
    refine PW.if_eq (pc := 72) dX8_hushed_72 (t := 79) (by decide) (fun hc => ?_) (fun hc => ?_)
    rotate_left
    · exact absurd hc (by decide)
    refine PW.iconst (pc := 79) dX8_hushed_79 (v := (-1)) (by decide) ?_
    exact PW.retI (pc := 80) dX8_hushed_80 hM11.1 rfl rfl ⟨hM11, _, rfl, h⟩
  · have h := h.2 hc
    refine PW.iconst (pc := 61) dX8_hushed_61 (v := 1) (by decide) ?_
    refine PW.goto (pc := 62) dX8_hushed_62 (t := 66) (by decide) ?_
    refine PW.istore_n (pc := 66) dX8_hushed_66 (ls' := [.ref 277, .int x1, .int 1]) (by decide) rfl rfl ?_
    refine PW.aload_n (pc := 67) dX8_hushed_67 rfl ?_
    refine PW.inv (m' := mX8_takesBack) (pc := 68) dX8_hushed_68 lm_X8_524 me_X8_takesBack mi_X8_takesBack (ob hM.1 s_277 (by decide)) rfl (As := []) (st := []) rfl (Nat.le_of_ble_eq_true rfl) (Nat.le_of_ble_eq_true rfl) (Nat.le_of_eq hM.1) (Nat.le_refl _) (PW.deep (by decide) (c_X8_takesBack  hM h)) ?_
    rintro _ M12 ⟨hM14, rfl, h⟩
    refine PW.iload_n (pc := 71) dX8_hushed_71 rfl ?_
    refine PW.if_eq (pc := 72) dX8_hushed_72 (t := 79) (by decide) (fun hc => ?_) (fun hc => ?_)
    · exact absurd hc (by decide)
    refine PW.iload_n (pc := 75) dX8_hushed_75 rfl ?_
    refine PW.goto (pc := 76) dX8_hushed_76 (t := 80) (by decide) ?_
    exact PW.retI (pc := 80) dX8_hushed_80 hM14.1 rfl rfl ⟨hM14, _, rfl, h⟩
def w_X8_hushed  (M : pm) (Q : Int32 → pm → Prop) : Prop := ((¬ (mI M 277 50) = 0 → (w_X8_putsAside  M (fun M1 => ∃ n7, w_X8_hushed_15 n7 0 M1 (fun x1 M8 => w_X8_hushed_52 x1 M8  Q) Q))) ∧ ((mI M 277 50) = 0 → (Q (-1) M)))
set_option maxRecDepth 4000 in
theorem c_X8_hushed  {M : pm} {Q : Int32 → pm → Prop}  (hM : pG M) (h : w_X8_hushed  M Q) : PW mX8_hushed 10 350 0 (pfr mX8_hushed.2.2.1 [.ref 277]) [] M (qI Q) := by
  unfold w_X8_hushed at h
  show PW mX8_hushed 10 350 0 [.ref 277, .null, .null] [] M (qI Q)
  refine PW.aload_n (pc := 0) dX8_hushed_0 rfl ?_
  refine PW.getI (pc := 1) dX8_hushed_1 lf_X8_385 (ob hM.1 s_277 (by decide)) fx_8_50 ?_
  refine PW.if_ne (pc := 4) dX8_hushed_4 (t := 9) (by decide) (fun hc => ?_) (fun hc => ?_)
  · have h := h.1 hc
    refine PW.iconst (pc := 9) dX8_hushed_9 (v := 0) (by decide) ?_
    refine PW.istore_n (pc := 10) dX8_hushed_10 (ls' := [.ref 277, .int 0, .null]) (by decide) rfl rfl ?_
    refine PW.aload_n (pc := 11) dX8_hushed_11 rfl ?_
    refine PW.inv (m' := mX8_putsAside) (pc := 12) dX8_hushed_12 lm_X8_518 me_X8_putsAside mi_X8_putsAside (ob hM.1 s_277 (by decide)) rfl (As := []) (st := []) rfl (Nat.le_of_ble_eq_true rfl) (Nat.le_of_ble_eq_true rfl) (Nat.le_of_eq hM.1) (Nat.le_refl _) (PW.deep (by decide) (c_X8_putsAside  hM h)) ?_
    rintro _ M1 ⟨hM3, rfl, h⟩
    obtain ⟨n7, h⟩ := h
    refine PW.drop (c_X8_hushed_15 ?_ n7 _ _ hM3 h) ⟨rfl, rfl, trivial⟩
    · intro x1 M8 hM h
      exact PW.drop (c_X8_hushed_52  _ _ hM h) ⟨rfl, rfl, trivial⟩
  · have h := h.2 hc
    refine PW.iconst (pc := 7) dX8_hushed_7 (v := (-1)) (by decide) ?_
    exact PW.retI (pc := 8) dX8_hushed_8 hM.1 rfl rfl ⟨hM, _, rfl, h⟩
def w_X8_canBeFull_2 : Nat → Int32 → pm → (Int32 → pm → Prop) → Prop
  | 0, _, _, _ => False
  | n + 1, x1, M, Q => w_X8_askerMany  M (fun y2 M1 => (((1 <<< (y2 &&& 31)) ≤ x1 → (Q 0 M1)) ∧ (¬ (1 <<< (y2 &&& 31)) ≤ x1 → ((¬ (x1 &&& ((mI M1 277 54) ^^^ (-1))) = 0 → (w_X8_canBeFull_2 n (x1 + 1) M1 Q)) ∧ ((x1 &&& ((mI M1 277 54) ^^^ (-1))) = 0 → (w_X8_minutesOf x1 M1 (fun y5 M4 => ((¬ y5 = (mI M4 308 3) → (w_X8_canBeFull_2 n (x1 + 1) M4 Q)) ∧ (y5 = (mI M4 308 3) → (Q 1 M4))))))))))
set_option maxRecDepth 4000 in
theorem c_X8_canBeFull_2  {Q : Int32 → pm → Prop}  : ∀ (n : Nat) (x1 : Int32) (M : pm), pG M → w_X8_canBeFull_2 n x1 M  Q → PW mX8_canBeFull 4 350 2 [.ref 277, .int x1] [] M (qZ Q) := by
  intro n
  induction n with
  | zero => intro x1 M hM h; exact h.elim
  | succ n ih =>
    intro x1 M hM h
    unfold w_X8_canBeFull_2 at h
    refine PW.iload_n (pc := 2) dX8_canBeFull_2 rfl ?_
    refine PW.iconst (pc := 3) dX8_canBeFull_3 (v := 1) (by decide) ?_
    refine PW.aload_n (pc := 4) dX8_canBeFull_4 rfl ?_
    refine PW.inv (m' := mX8_askerMany) (pc := 5) dX8_canBeFull_5 lm_X8_395 me_X8_askerMany mi_X8_askerMany (ob hM.1 s_277 (by decide)) rfl (As := []) (st := [.int 1, .int x1]) rfl (Nat.le_of_ble_eq_true rfl) (Nat.le_of_ble_eq_true rfl) (Nat.le_of_eq hM.1) (Nat.le_refl _) (PW.deep (by decide) (c_X8_askerMany  hM h)) ?_
    rintro _ M1 ⟨hM3, y2, rfl, h⟩
    refine PW.ishl (pc := 8) dX8_canBeFull_8 ?_
    refine PW.icmp_ge (pc := 9) dX8_canBeFull_9 (t := 45) (by decide) (fun hc => ?_) (fun hc => ?_)
    · have h := h.1 hc
      refine PW.iconst (pc := 45) dX8_canBeFull_45 (v := 0) (by decide) ?_
      exact PW.retI (pc := 46) dX8_canBeFull_46 hM3.1 rfl (bz_n bz0) ⟨hM3, _, rfl, bz0, h⟩
    · have h := h.2 hc
      refine PW.iload_n (pc := 12) dX8_canBeFull_12 rfl ?_
      refine PW.aload_n (pc := 13) dX8_canBeFull_13 rfl ?_
      refine PW.getI (pc := 14) dX8_canBeFull_14 lf_X8_433 (ob hM3.1 s_277 (by decide)) fx_8_54 ?_
      refine PW.iconst (pc := 17) dX8_canBeFull_17 (v := (-1)) (by decide) ?_
      refine PW.ixor (pc := 18) dX8_canBeFull_18 ?_
      refine PW.iand (pc := 19) dX8_canBeFull_19 ?_
      refine PW.if_ne (pc := 20) dX8_canBeFull_20 (t := 39) (by decide) (fun hc => ?_) (fun hc => ?_)
      · have h := h.1 hc
        refine PW.iinc (pc := 39) dX8_canBeFull_39 (v := (x1 + 1)) (ls' := [.ref 277, .int (x1 + 1)]) rfl rfl (by decide) rfl rfl ?_
        refine PW.goto (pc := 42) dX8_canBeFull_42 (t := 2) (by decide) ?_
        exact PW.drop (ih _ _ hM3 h) ⟨rfl, rfl, trivial⟩
      · have h := h.2 hc
        refine PW.aload_n (pc := 23) dX8_canBeFull_23 rfl ?_
        refine PW.iload_n (pc := 24) dX8_canBeFull_24 rfl ?_
        refine PW.inv (m' := mX8_minutesOf) (pc := 25) dX8_canBeFull_25 lm_X8_455 me_X8_minutesOf mi_X8_minutesOf (ob hM3.1 s_277 (by decide)) rfl (As := [.int x1]) (st := []) rfl (Nat.le_of_ble_eq_true rfl) (Nat.le_of_ble_eq_true rfl) (Nat.le_of_eq hM3.1) (Nat.le_refl _) (PW.deep (by decide) (c_X8_minutesOf  hM3 h)) ?_
        rintro _ M4 ⟨hM6, y5, rfl, h⟩
        refine PW.aload_n (pc := 28) dX8_canBeFull_28 rfl ?_
        refine PW.getR (pc := 29) dX8_canBeFull_29 (r := 308) lf_X8_105 (ob hM6.1 s_277 (by decide)) fx_8_39 (oR_8_39 hM6 s_277) (pS_ne s_308) ?_
        refine PW.iconst (pc := 32) dX8_canBeFull_32 (v := 3) (by decide) ?_
        refine PW.iald (pc := 33) dX8_canBeFull_33 (ar hM6.1 s_308) (vpl n_308 (vp_c (i := 3) (n := 6) (by decide))) ?_
        refine PW.icmp_ne (pc := 34) dX8_canBeFull_34 (t := 39) (by decide) (fun hc => ?_) (fun hc => ?_)
        · have h := h.1 hc
          refine PW.iinc (pc := 39) dX8_canBeFull_39 (v := (x1 + 1)) (ls' := [.ref 277, .int (x1 + 1)]) rfl rfl (by decide) rfl rfl ?_
          refine PW.goto (pc := 42) dX8_canBeFull_42 (t := 2) (by decide) ?_
          exact PW.drop (ih _ _ hM6 h) ⟨rfl, rfl, trivial⟩
        · have h := h.2 hc
          refine PW.iconst (pc := 37) dX8_canBeFull_37 (v := 1) (by decide) ?_
          exact PW.retI (pc := 38) dX8_canBeFull_38 hM6.1 rfl (bz_n bz1) ⟨hM6, _, rfl, bz1, h⟩
def w_X8_canBeFull  (M : pm) (Q : Int32 → pm → Prop) : Prop := ∃ n7, w_X8_canBeFull_2 n7 1 M  Q
set_option maxRecDepth 4000 in
theorem c_X8_canBeFull  {M : pm} {Q : Int32 → pm → Prop}  (hM : pG M) (h : w_X8_canBeFull  M Q) : PW mX8_canBeFull 4 350 0 (pfr mX8_canBeFull.2.2.1 [.ref 277]) [] M (qZ Q) := by
  unfold w_X8_canBeFull at h
  show PW mX8_canBeFull 4 350 0 [.ref 277, .null] [] M (qZ Q)
  refine PW.iconst (pc := 0) dX8_canBeFull_0 (v := 1) (by decide) ?_
  refine PW.istore_n (pc := 1) dX8_canBeFull_1 (ls' := [.ref 277, .int 1]) (by decide) rfl rfl ?_
  obtain ⟨n7, h⟩ := h
  refine PW.drop (c_X8_canBeFull_2  n7 _ _ hM h) ⟨rfl, rfl, trivial⟩
def w_X8_full_108  (x1 : Int32) (x2 : Int32) (x3 : Int32) (t0 : Int32) (t1 : Int32) (M : pm) (r : Int32 → Int32 → Int32 → pm → Prop)  (Q : Int32 → pm → Prop) : Prop := w_X8_triesAnew  M (fun M30 => (((t0 + t1) ≤ x1 → (r x1 x2 (x3 + 1) M30)) ∧ (¬ (t0 + t1) ≤ x1 → (r (t0 + t1) x2 (x3 + 1) M30))))
set_option maxRecDepth 4000 in
theorem c_X8_full_108 {r : Int32 → Int32 → Int32 → pm → Prop}  {Q : Int32 → pm → Prop} (hr : ∀ (x1 : Int32) (x2 : Int32) (x3 : Int32) (M : pm), pG M → r x1 x2 x3 M → PW mX8_full 8 350 29 [.ref 277, .int x1, .int x2, .int x3, .null, .null] [] M (qI Q)) : ∀ (x1 : Int32) (x2 : Int32) (x3 : Int32) (t0 : Int32) (t1 : Int32) (M : pm), pG M → w_X8_full_108 x1 x2 x3 t0 t1 M r Q → PW mX8_full 8 350 108 [.ref 277, .int x1, .int x2, .int x3, .null, .null] [.int t1, .int t0] M (qI Q) := by
  intro x1 x2 x3 t0 t1 M hM h
  unfold w_X8_full_108 at h
  refine PW.iadd (pc := 108) dX8_full_108 ?_
  refine PW.istore (pc := 109) dX8_full_109 (ls' := [.ref 277, .int x1, .int x2, .int x3, .null, .int (t0 + t1)]) (by decide) rfl rfl ?_
  refine PW.aload_n (pc := 111) dX8_full_111 rfl ?_
  refine PW.inv (m' := mX8_triesAnew) (pc := 112) dX8_full_112 lm_X8_488 me_X8_triesAnew mi_X8_triesAnew (ob hM.1 s_277 (by decide)) rfl (As := []) (st := []) rfl (Nat.le_of_ble_eq_true rfl) (Nat.le_of_ble_eq_true rfl) (Nat.le_of_eq hM.1) (Nat.le_refl _) (PW.deep (by decide) (c_X8_triesAnew  hM h)) ?_
  rintro _ M30 ⟨hM32, rfl, h⟩
  refine PW.iload (pc := 115) dX8_full_115 rfl ?_
  refine PW.iload_n (pc := 117) dX8_full_117 rfl ?_
  refine PW.icmp_le (pc := 118) dX8_full_118 (t := 124) (by decide) (fun hc => ?_) (fun hc => ?_)
  · have h := h.1 hc
    refine PW.iinc (pc := 124) dX8_full_124 (v := (x3 + 1)) (ls' := [.ref 277, .int x1, .int x2, .int (x3 + 1), .null, .int (t0 + t1)]) rfl rfl (by decide) rfl rfl ?_
    refine PW.goto (pc := 127) dX8_full_127 (t := 29) (by decide) ?_
    exact PW.drop (hr _ _ _ _ hM32 h) ⟨rfl, rfl, rfl, rfl, trivial⟩
  · have h := h.2 hc
    refine PW.iload (pc := 121) dX8_full_121 rfl ?_
    refine PW.istore_n (pc := 123) dX8_full_123 (ls' := [.ref 277, .int (t0 + t1), .int x2, .int x3, .null, .int (t0 + t1)]) (by decide) rfl rfl ?_
    refine PW.iinc (pc := 124) dX8_full_124 (v := (x3 + 1)) (ls' := [.ref 277, .int (t0 + t1), .int x2, .int (x3 + 1), .null, .int (t0 + t1)]) rfl rfl (by decide) rfl rfl ?_
    refine PW.goto (pc := 127) dX8_full_127 (t := 29) (by decide) ?_
    exact PW.drop (hr _ _ _ _ hM32 h) ⟨rfl, rfl, rfl, rfl, trivial⟩
def w_X8_full_29 : Nat → Int32 → Int32 → Int32 → pm → (Int32 → pm → Prop) → Prop
  | 0, _, _, _, _, _ => False
  | n + 1, x1, x2, x3, M, Q => w_X8_askerMany  M (fun y12 M11 => (((1 <<< (y12 &&& 31)) ≤ x3 → (w_X8_takesBack  M11 (fun M14 => Q x1 M14))) ∧ (¬ (1 <<< (y12 &&& 31)) ≤ x3 → (((x3 &&& (x2 ^^^ (-1))) = 0 → (w_X8_minutesOf x3 M11 (fun y18 M17 => ((y18 ≤ (mI M17 308 3) → (w_X8_dayBy x3 M17 (fun M20 => w_X8_laysCan  M20 (fun M23 => ((¬ y18 = (mI M23 308 3) → (w_X8_canBeFull  M23 (fun y27 M26 => ((y27 = 0 → (w_X8_full_108 x1 x2 x3 0 0 M26 (fun x1 x2 x3 M => w_X8_full_29 n x1 x2 x3 M  Q) Q)) ∧ (¬ y27 = 0 → (w_X8_full_108 x1 x2 x3 0 1 M26 (fun x1 x2 x3 M => w_X8_full_29 n x1 x2 x3 M  Q) Q)))))) ∧ (y18 = (mI M23 308 3) → (w_X8_canBeFull  M23 (fun y34 M33 => ((y34 = 0 → (w_X8_full_108 x1 x2 x3 1 0 M33 (fun x1 x2 x3 M => w_X8_full_29 n x1 x2 x3 M  Q) Q)) ∧ (¬ y34 = 0 → (w_X8_full_108 x1 x2 x3 1 1 M33 (fun x1 x2 x3 M => w_X8_full_29 n x1 x2 x3 M  Q) Q))))))))))) ∧ (¬ y18 ≤ (mI M17 308 3) → (w_X8_full_29 n x1 x2 (x3 + 1) M17 Q)))))) ∧ (¬ (x3 &&& (x2 ^^^ (-1))) = 0 → (w_X8_full_29 n x1 x2 (x3 + 1) M11 Q))))))
set_option maxRecDepth 4000 in
theorem c_X8_full_29  {Q : Int32 → pm → Prop}  : ∀ (n : Nat) (x1 : Int32) (x2 : Int32) (x3 : Int32) (M : pm), pG M → w_X8_full_29 n x1 x2 x3 M  Q → PW mX8_full 8 350 29 [.ref 277, .int x1, .int x2, .int x3, .null, .null] [] M (qI Q) := by
  intro n
  induction n with
  | zero => intro x1 x2 x3 M hM h; exact h.elim
  | succ n ih =>
    intro x1 x2 x3 M hM h
    unfold w_X8_full_29 at h
    refine PW.iload_n (pc := 29) dX8_full_29 rfl ?_
    refine PW.iconst (pc := 30) dX8_full_30 (v := 1) (by decide) ?_
    refine PW.aload_n (pc := 31) dX8_full_31 rfl ?_
    refine PW.inv (m' := mX8_askerMany) (pc := 32) dX8_full_32 lm_X8_395 me_X8_askerMany mi_X8_askerMany (ob hM.1 s_277 (by decide)) rfl (As := []) (st := [.int 1, .int x3]) rfl (Nat.le_of_ble_eq_true rfl) (Nat.le_of_ble_eq_true rfl) (Nat.le_of_eq hM.1) (Nat.le_refl _) (PW.deep (by decide) (c_X8_askerMany  hM h)) ?_
    rintro _ M11 ⟨hM13, y12, rfl, h⟩
    refine PW.ishl (pc := 35) dX8_full_35 ?_
    refine PW.icmp_ge (pc := 36) dX8_full_36 (t := 130) (by decide) (fun hc => ?_) (fun hc => ?_)
    · have h := h.1 hc
      refine PW.aload_n (pc := 130) dX8_full_130 rfl ?_
      refine PW.inv (m' := mX8_takesBack) (pc := 131) dX8_full_131 lm_X8_524 me_X8_takesBack mi_X8_takesBack (ob hM13.1 s_277 (by decide)) rfl (As := []) (st := []) rfl (Nat.le_of_ble_eq_true rfl) (Nat.le_of_ble_eq_true rfl) (Nat.le_of_eq hM13.1) (Nat.le_refl _) (PW.deep (by decide) (c_X8_takesBack  hM13 h)) ?_
      rintro _ M14 ⟨hM16, rfl, h⟩
      refine PW.iload_n (pc := 134) dX8_full_134 rfl ?_
      exact PW.retI (pc := 135) dX8_full_135 hM16.1 rfl rfl ⟨hM16, _, rfl, h⟩
    · have h := h.2 hc
      refine PW.iload_n (pc := 39) dX8_full_39 rfl ?_
      refine PW.iload_n (pc := 40) dX8_full_40 rfl ?_
      refine PW.iconst (pc := 41) dX8_full_41 (v := (-1)) (by decide) ?_
      refine PW.ixor (pc := 42) dX8_full_42 ?_
      refine PW.iand (pc := 43) dX8_full_43 ?_
      refine PW.if_eq (pc := 44) dX8_full_44 (t := 50) (by decide) (fun hc => ?_) (fun hc => ?_)
      · have h := h.1 hc
        refine PW.aload_n (pc := 50) dX8_full_50 rfl ?_
        refine PW.iload_n (pc := 51) dX8_full_51 rfl ?_
        refine PW.inv (m' := mX8_minutesOf) (pc := 52) dX8_full_52 lm_X8_455 me_X8_minutesOf mi_X8_minutesOf (ob hM13.1 s_277 (by decide)) rfl (As := [.int x3]) (st := []) rfl (Nat.le_of_ble_eq_true rfl) (Nat.le_of_ble_eq_true rfl) (Nat.le_of_eq hM13.1) (Nat.le_refl _) (PW.deep (by decide) (c_X8_minutesOf  hM13 h)) ?_
        rintro _ M17 ⟨hM19, y18, rfl, h⟩
        refine PW.istore (pc := 55) dX8_full_55 (ls' := [.ref 277, .int x1, .int x2, .int x3, .int y18, .null]) (by decide) rfl rfl ?_
        refine PW.iload (pc := 57) dX8_full_57 rfl ?_
        refine PW.aload_n (pc := 59) dX8_full_59 rfl ?_
        refine PW.getR (pc := 60) dX8_full_60 (r := 308) lf_X8_105 (ob hM19.1 s_277 (by decide)) fx_8_39 (oR_8_39 hM19 s_277) (pS_ne s_308) ?_
        refine PW.iconst (pc := 63) dX8_full_63 (v := 3) (by decide) ?_
        refine PW.iald (pc := 64) dX8_full_64 (ar hM19.1 s_308) (vpl n_308 (vp_c (i := 3) (n := 6) (by decide))) ?_
        refine PW.icmp_le (pc := 65) dX8_full_65 (t := 71) (by decide) (fun hc => ?_) (fun hc => ?_)
        · have h := h.1 hc
          refine PW.aload_n (pc := 71) dX8_full_71 rfl ?_
          refine PW.iload_n (pc := 72) dX8_full_72 rfl ?_
          refine PW.inv (m' := mX8_dayBy) (pc := 73) dX8_full_73 lm_X8_482 me_X8_dayBy mi_X8_dayBy (ob hM19.1 s_277 (by decide)) rfl (As := [.int x3]) (st := []) rfl (Nat.le_of_ble_eq_true rfl) (Nat.le_of_ble_eq_true rfl) (Nat.le_of_eq hM19.1) (Nat.le_refl _) (PW.deep (by decide) (c_X8_dayBy  hM19 h)) ?_
          rintro _ M20 ⟨hM22, rfl, h⟩
          refine PW.aload_n (pc := 76) dX8_full_76 rfl ?_
          refine PW.inv (m' := mX8_laysCan) (pc := 77) dX8_full_77 lm_X8_446 me_X8_laysCan mi_X8_laysCan (ob hM22.1 s_277 (by decide)) rfl (As := []) (st := []) rfl (Nat.le_of_ble_eq_true rfl) (Nat.le_of_ble_eq_true rfl) (Nat.le_of_eq hM22.1) (Nat.le_refl _) (PW.deep (by decide) (c_X8_laysCan  hM22 h)) ?_
          rintro _ M23 ⟨hM25, rfl, h⟩
          refine PW.iload (pc := 80) dX8_full_80 rfl ?_
          refine PW.aload_n (pc := 82) dX8_full_82 rfl ?_
          refine PW.getR (pc := 83) dX8_full_83 (r := 308) lf_X8_105 (ob hM25.1 s_277 (by decide)) fx_8_39 (oR_8_39 hM25 s_277) (pS_ne s_308) ?_
          refine PW.iconst (pc := 86) dX8_full_86 (v := 3) (by decide) ?_
          refine PW.iald (pc := 87) dX8_full_87 (ar hM25.1 s_308) (vpl n_308 (vp_c (i := 3) (n := 6) (by decide))) ?_
          refine PW.icmp_ne (pc := 88) dX8_full_88 (t := 95) (by decide) (fun hc => ?_) (fun hc => ?_)
          · have h := h.1 hc
            refine PW.iconst (pc := 95) dX8_full_95 (v := 0) (by decide) ?_
            refine PW.aload_n (pc := 96) dX8_full_96 rfl ?_
            refine PW.inv (m' := mX8_canBeFull) (pc := 97) dX8_full_97 lm_X8_527 me_X8_canBeFull mi_X8_canBeFull (ob hM25.1 s_277 (by decide)) rfl (As := []) (st := [.int 0]) rfl (Nat.le_of_ble_eq_true rfl) (Nat.le_of_ble_eq_true rfl) (Nat.le_of_eq hM25.1) (Nat.le_refl _) (PW.deep (by decide) (c_X8_canBeFull  hM25 h)) ?_
            rintro _ M26 ⟨hM28, y27, rfl, z29, h⟩
            refine PW.if_eq (pc := 100) dX8_full_100 (t := 107) (by decide) (fun hc => ?_) (fun hc => ?_)
            · have h := h.1 hc
              refine PW.iconst (pc := 107) dX8_full_107 (v := 0) (by decide) ?_
              exact PW.drop (c_X8_full_108 ih _ _ _ _ _ _ hM28 h) ⟨rfl, rfl, rfl, rfl, trivial⟩
            · have h := h.2 hc
              refine PW.iconst (pc := 103) dX8_full_103 (v := 1) (by decide) ?_
              refine PW.goto (pc := 104) dX8_full_104 (t := 108) (by decide) ?_
              exact PW.drop (c_X8_full_108 ih _ _ _ _ _ _ hM28 h) ⟨rfl, rfl, rfl, rfl, trivial⟩
          · have h := h.2 hc
            refine PW.iconst (pc := 91) dX8_full_91 (v := 1) (by decide) ?_
            refine PW.goto (pc := 92) dX8_full_92 (t := 96) (by decide) ?_
            refine PW.aload_n (pc := 96) dX8_full_96 rfl ?_
            refine PW.inv (m' := mX8_canBeFull) (pc := 97) dX8_full_97 lm_X8_527 me_X8_canBeFull mi_X8_canBeFull (ob hM25.1 s_277 (by decide)) rfl (As := []) (st := [.int 1]) rfl (Nat.le_of_ble_eq_true rfl) (Nat.le_of_ble_eq_true rfl) (Nat.le_of_eq hM25.1) (Nat.le_refl _) (PW.deep (by decide) (c_X8_canBeFull  hM25 h)) ?_
            rintro _ M33 ⟨hM35, y34, rfl, z36, h⟩
            refine PW.if_eq (pc := 100) dX8_full_100 (t := 107) (by decide) (fun hc => ?_) (fun hc => ?_)
            · have h := h.1 hc
              refine PW.iconst (pc := 107) dX8_full_107 (v := 0) (by decide) ?_
              exact PW.drop (c_X8_full_108 ih _ _ _ _ _ _ hM35 h) ⟨rfl, rfl, rfl, rfl, trivial⟩
            · have h := h.2 hc
              refine PW.iconst (pc := 103) dX8_full_103 (v := 1) (by decide) ?_
              refine PW.goto (pc := 104) dX8_full_104 (t := 108) (by decide) ?_
              exact PW.drop (c_X8_full_108 ih _ _ _ _ _ _ hM35 h) ⟨rfl, rfl, rfl, rfl, trivial⟩
        · have h := h.2 hc
          refine PW.goto (pc := 68) dX8_full_68 (t := 124) (by decide) ?_
          refine PW.iinc (pc := 124) dX8_full_124 (v := (x3 + 1)) (ls' := [.ref 277, .int x1, .int x2, .int (x3 + 1), .int y18, .null]) rfl rfl (by decide) rfl rfl ?_
          refine PW.goto (pc := 127) dX8_full_127 (t := 29) (by decide) ?_
          exact PW.drop (ih _ _ _ _ hM19 h) ⟨rfl, rfl, rfl, rfl, trivial⟩
      · have h := h.2 hc
        refine PW.goto (pc := 47) dX8_full_47 (t := 124) (by decide) ?_
        refine PW.iinc (pc := 124) dX8_full_124 (v := (x3 + 1)) (ls' := [.ref 277, .int x1, .int x2, .int (x3 + 1), .null, .null]) rfl rfl (by decide) rfl rfl ?_
        refine PW.goto (pc := 127) dX8_full_127 (t := 29) (by decide) ?_
        exact PW.drop (ih _ _ _ _ hM13 h) ⟨rfl, rfl, rfl, rfl, trivial⟩
def w_X8_full  (M : pm) (Q : Int32 → pm → Prop) : Prop := w_X8_isAhead 1 1 1 M (fun y2 M1 => ((¬ y2 = 0 → (w_X8_putsAside  M1 (fun M5 => w_X8_laysCan  M5 (fun M8 => ∃ n37, w_X8_full_29 n37 0 (mI M8 277 54) 0 M8  Q)))) ∧ (y2 = 0 → (Q (-1) M1))))
set_option maxRecDepth 4000 in
theorem c_X8_full  {M : pm} {Q : Int32 → pm → Prop}  (hM : pG M) (h : w_X8_full  M Q) : PW mX8_full 8 350 0 (pfr mX8_full.2.2.1 [.ref 277]) [] M (qI Q) := by
  unfold w_X8_full at h
  show PW mX8_full 8 350 0 [.ref 277, .null, .null, .null, .null, .null] [] M (qI Q)
  refine PW.aload_n (pc := 0) dX8_full_0 rfl ?_
  refine PW.iconst (pc := 1) dX8_full_1 (v := 1) (by decide) ?_
  refine PW.iconst (pc := 2) dX8_full_2 (v := 1) (by decide) ?_
  refine PW.iconst (pc := 3) dX8_full_3 (v := 1) (by decide) ?_
  refine PW.inv (m' := mX8_isAhead) (pc := 4) dX8_full_4 lm_X8_515 me_X8_isAhead mi_X8_isAhead (ob hM.1 s_277 (by decide)) rfl (As := [.int 1, .int 1, .int 1]) (st := []) rfl (Nat.le_of_ble_eq_true rfl) (Nat.le_of_ble_eq_true rfl) (Nat.le_of_eq hM.1) (Nat.le_refl _) (PW.deep (by decide) (c_X8_isAhead  hM h)) ?_
  rintro _ M1 ⟨hM3, y2, rfl, z4, h⟩
  refine PW.if_ne (pc := 7) dX8_full_7 (t := 12) (by decide) (fun hc => ?_) (fun hc => ?_)
  · have h := h.1 hc
    refine PW.iconst (pc := 12) dX8_full_12 (v := 0) (by decide) ?_
    refine PW.istore_n (pc := 13) dX8_full_13 (ls' := [.ref 277, .int 0, .null, .null, .null, .null]) (by decide) rfl rfl ?_
    refine PW.aload_n (pc := 14) dX8_full_14 rfl ?_
    refine PW.inv (m' := mX8_putsAside) (pc := 15) dX8_full_15 lm_X8_518 me_X8_putsAside mi_X8_putsAside (ob hM3.1 s_277 (by decide)) rfl (As := []) (st := []) rfl (Nat.le_of_ble_eq_true rfl) (Nat.le_of_ble_eq_true rfl) (Nat.le_of_eq hM3.1) (Nat.le_refl _) (PW.deep (by decide) (c_X8_putsAside  hM3 h)) ?_
    rintro _ M5 ⟨hM7, rfl, h⟩
    refine PW.aload_n (pc := 18) dX8_full_18 rfl ?_
    refine PW.inv (m' := mX8_laysCan) (pc := 19) dX8_full_19 lm_X8_446 me_X8_laysCan mi_X8_laysCan (ob hM7.1 s_277 (by decide)) rfl (As := []) (st := []) rfl (Nat.le_of_ble_eq_true rfl) (Nat.le_of_ble_eq_true rfl) (Nat.le_of_eq hM7.1) (Nat.le_refl _) (PW.deep (by decide) (c_X8_laysCan  hM7 h)) ?_
    rintro _ M8 ⟨hM10, rfl, h⟩
    refine PW.aload_n (pc := 22) dX8_full_22 rfl ?_
    refine PW.getI (pc := 23) dX8_full_23 lf_X8_433 (ob hM10.1 s_277 (by decide)) fx_8_54 ?_
    refine PW.istore_n (pc := 26) dX8_full_26 (ls' := [.ref 277, .int 0, .int (mI M8 277 54), .null, .null, .null]) (by decide) rfl rfl ?_
    refine PW.iconst (pc := 27) dX8_full_27 (v := 0) (by decide) ?_
    refine PW.istore_n (pc := 28) dX8_full_28 (ls' := [.ref 277, .int 0, .int (mI M8 277 54), .int 0, .null, .null]) (by decide) rfl rfl ?_
    obtain ⟨n37, h⟩ := h
    refine PW.drop (c_X8_full_29  n37 _ _ _ _ hM10 h) ⟨rfl, rfl, rfl, rfl, trivial⟩
  · have h := h.2 hc
    refine PW.iconst (pc := 10) dX8_full_10 (v := (-1)) (by decide) ?_
    exact PW.retI (pc := 11) dX8_full_11 hM3.1 rfl rfl ⟨hM3, _, rfl, h⟩
def w_X8_often_5 : Nat → Int32 → Int32 → Int32 → Int32 → pm → (Int32 → pm → Prop) → Prop
  | 0, _, _, _, _, _, _ => False
  | n + 1, x1, x2, x3, x4, M, Q => ((x2 ≤ x4 → (Q x3 M)) ∧ (¬ x2 ≤ x4 → (w_X8_dayGoes  M (fun M1 => w_X8_often_5 n x1 x2 (x3 + (((mI M1 277 56) >>> (x1 &&& 31)) &&& 1)) (x4 + 1) M1 Q))))
set_option maxRecDepth 4000 in
theorem c_X8_often_5  {Q : Int32 → pm → Prop}  : ∀ (n : Nat) (x1 : Int32) (x2 : Int32) (x3 : Int32) (x4 : Int32) (M : pm), pG M → w_X8_often_5 n x1 x2 x3 x4 M  Q → PW mX8_often 10 350 5 [.ref 277, .int x1, .int x2, .int x3, .int x4] [] M (qI Q) := by
  intro n
  induction n with
  | zero => intro x1 x2 x3 x4 M hM h; exact h.elim
  | succ n ih =>
    intro x1 x2 x3 x4 M hM h
    unfold w_X8_often_5 at h
    refine PW.iload (pc := 5) dX8_often_5 rfl ?_
    refine PW.iload_n (pc := 7) dX8_often_7 rfl ?_
    refine PW.icmp_ge (pc := 8) dX8_often_8 (t := 32) (by decide) (fun hc => ?_) (fun hc => ?_)
    · have h := h.1 hc
      refine PW.iload_n (pc := 32) dX8_often_32 rfl ?_
      exact PW.retI (pc := 33) dX8_often_33 hM.1 rfl rfl ⟨hM, _, rfl, h⟩
    · have h := h.2 hc
      refine PW.aload_n (pc := 11) dX8_often_11 rfl ?_
      refine PW.inv (m' := mX8_dayGoes) (pc := 12) dX8_often_12 lm_X8_485 me_X8_dayGoes mi_X8_dayGoes (ob hM.1 s_277 (by decide)) rfl (As := []) (st := []) rfl (Nat.le_of_ble_eq_true rfl) (Nat.le_of_ble_eq_true rfl) (Nat.le_of_eq hM.1) (Nat.le_refl _) (PW.deep (by decide) (c_X8_dayGoes  hM h)) ?_
      rintro _ M1 ⟨hM3, rfl, h⟩
      refine PW.iload_n (pc := 15) dX8_often_15 rfl ?_
      refine PW.aload_n (pc := 16) dX8_often_16 rfl ?_
      refine PW.getI (pc := 17) dX8_often_17 lf_X8_449 (ob hM3.1 s_277 (by decide)) fx_8_56 ?_
      refine PW.iload_n (pc := 20) dX8_often_20 rfl ?_
      refine PW.ishr (pc := 21) dX8_often_21 ?_
      refine PW.iconst (pc := 22) dX8_often_22 (v := 1) (by decide) ?_
      refine PW.iand (pc := 23) dX8_often_23 ?_
      refine PW.iadd (pc := 24) dX8_often_24 ?_
      refine PW.istore_n (pc := 25) dX8_often_25 (ls' := [.ref 277, .int x1, .int x2, .int (x3 + (((mI M1 277 56) >>> (x1 &&& 31)) &&& 1)), .int x4]) (by decide) rfl rfl ?_
      refine PW.iinc (pc := 26) dX8_often_26 (v := (x4 + 1)) (ls' := [.ref 277, .int x1, .int x2, .int (x3 + (((mI M1 277 56) >>> (x1 &&& 31)) &&& 1)), .int (x4 + 1)]) rfl rfl (by decide) rfl rfl ?_
      refine PW.goto (pc := 29) dX8_often_29 (t := 5) (by decide) ?_
      exact PW.drop (ih _ _ _ _ _ hM3 h) ⟨rfl, rfl, rfl, rfl, rfl, trivial⟩
def w_X8_often (x1 : Int32) (x2 : Int32) (M : pm) (Q : Int32 → pm → Prop) : Prop := ∃ n4, w_X8_often_5 n4 x1 x2 0 0 M  Q
set_option maxRecDepth 4000 in
theorem c_X8_often {x1 : Int32} {x2 : Int32} {M : pm} {Q : Int32 → pm → Prop}  (hM : pG M) (h : w_X8_often x1 x2 M Q) : PW mX8_often 10 350 0 (pfr mX8_often.2.2.1 [.ref 277, .int x1, .int x2]) [] M (qI Q) := by
  unfold w_X8_often at h
  show PW mX8_often 10 350 0 [.ref 277, .int x1, .int x2, .null, .null] [] M (qI Q)
  refine PW.iconst (pc := 0) dX8_often_0 (v := 0) (by decide) ?_
  refine PW.istore_n (pc := 1) dX8_often_1 (ls' := [.ref 277, .int x1, .int x2, .int 0, .null]) (by decide) rfl rfl ?_
  refine PW.iconst (pc := 2) dX8_often_2 (v := 0) (by decide) ?_
  refine PW.istore (pc := 3) dX8_often_3 (ls' := [.ref 277, .int x1, .int x2, .int 0, .int 0]) (by decide) rfl rfl ?_
  obtain ⟨n4, h⟩ := h
  refine PW.drop (c_X8_often_5  n4 _ _ _ _ _ hM h) ⟨rfl, rfl, rfl, rfl, rfl, trivial⟩
def w_X8_fame_44 : Nat → Int32 → Int32 → Int32 → Int32 → Int32 → Int32 → pm → (Int32 → pm → Prop) → Prop
  | 0, _, _, _, _, _, _, _, _ => False
  | n + 1, x1, x2, x3, x4, x5, x6, M, Q => w_X8_songMany  M (fun y17 M16 => ((y17 ≤ x6 → (w_X8_takesBack  M16 (fun M19 => ((¬ x3 = 0 → (Q x5 M19)) ∧ (x3 = 0 → (Q x4 M19)))))) ∧ (¬ y17 ≤ x6 → (vp_in (2 + (5 * x1)) 163 ∧ (w_X8_often x1 x2 (sI M16 317 ((2 + (5 * x1)).toNatClampNeg) x6) (fun y24 M23 => w_X8_triesAnew  M23 (fun M26 => ((x4 = (-1) → (w_X8_fame_44 n x1 x2 x3 x6 y24 (x6 + 1) M26 Q)) ∧ (¬ x4 = (-1) → ((x5 < y24 → (w_X8_fame_44 n x1 x2 x3 x6 y24 (x6 + 1) M26 Q)) ∧ (¬ x5 < y24 → (w_X8_fame_44 n x1 x2 x3 x4 x5 (x6 + 1) M26 Q))))))))))))
set_option maxRecDepth 4000 in
theorem c_X8_fame_44  {Q : Int32 → pm → Prop}  : ∀ (n : Nat) (x1 : Int32) (x2 : Int32) (x3 : Int32) (x4 : Int32) (x5 : Int32) (x6 : Int32) (M : pm), pG M → w_X8_fame_44 n x1 x2 x3 x4 x5 x6 M  Q → PW mX8_fame 11 350 44 [.ref 277, .int x1, .int x2, .int x3, .int x4, .int x5, .int x6, .null] [] M (qI Q) := by
  intro n
  induction n with
  | zero => intro x1 x2 x3 x4 x5 x6 M hM h; exact h.elim
  | succ n ih =>
    intro x1 x2 x3 x4 x5 x6 M hM h
    unfold w_X8_fame_44 at h
    refine PW.iload (pc := 44) dX8_fame_44 rfl ?_
    refine PW.aload_n (pc := 46) dX8_fame_46 rfl ?_
    refine PW.inv (m' := mX8_songMany) (pc := 47) dX8_fame_47 lm_X8_504 me_X8_songMany mi_X8_songMany (ob hM.1 s_277 (by decide)) rfl (As := []) (st := [.int x6]) rfl (Nat.le_of_ble_eq_true rfl) (Nat.le_of_ble_eq_true rfl) (Nat.le_of_eq hM.1) (Nat.le_refl _) (PW.deep (by decide) (c_X8_songMany  hM h)) ?_
    rintro _ M16 ⟨hM18, y17, rfl, h⟩
    refine PW.icmp_ge (pc := 50) dX8_fame_50 (t := 107) (by decide) (fun hc => ?_) (fun hc => ?_)
    · have h := h.1 hc
      refine PW.aload_n (pc := 107) dX8_fame_107 rfl ?_
      refine PW.inv (m' := mX8_takesBack) (pc := 108) dX8_fame_108 lm_X8_524 me_X8_takesBack mi_X8_takesBack (ob hM18.1 s_277 (by decide)) rfl (As := []) (st := []) rfl (Nat.le_of_ble_eq_true rfl) (Nat.le_of_ble_eq_true rfl) (Nat.le_of_eq hM18.1) (Nat.le_refl _) (PW.deep (by decide) (c_X8_takesBack  hM18 h)) ?_
      rintro _ M19 ⟨hM21, rfl, h⟩
      refine PW.iload_n (pc := 111) dX8_fame_111 rfl ?_
      refine PW.if_ne (pc := 112) dX8_fame_112 (t := 120) (by decide) (fun hc => ?_) (fun hc => ?_)
      · have h := h.1 hc
        refine PW.iload (pc := 120) dX8_fame_120 rfl ?_
        exact PW.retI (pc := 122) dX8_fame_122 hM21.1 rfl rfl ⟨hM21, _, rfl, h⟩
      · have h := h.2 hc
        refine PW.iload (pc := 115) dX8_fame_115 rfl ?_
        refine PW.goto (pc := 117) dX8_fame_117 (t := 122) (by decide) ?_
        exact PW.retI (pc := 122) dX8_fame_122 hM21.1 rfl rfl ⟨hM21, _, rfl, h⟩
    · have h := h.2 hc
      refine PW.aload_n (pc := 53) dX8_fame_53 rfl ?_
      refine PW.getR (pc := 54) dX8_fame_54 (r := 317) lf_X8_133 (ob hM18.1 s_277 (by decide)) fx_8_52 (oR_8_52 hM18 s_277) (pS_ne s_317) ?_
      refine PW.iconst (pc := 57) dX8_fame_57 (v := 2) (by decide) ?_
      refine PW.iconst (pc := 58) dX8_fame_58 (v := 5) (by decide) ?_
      refine PW.iload_n (pc := 59) dX8_fame_59 rfl ?_
      refine PW.imul (pc := 60) dX8_fame_60 ?_
      refine PW.iadd (pc := 61) dX8_fame_61 ?_
      refine PW.iload (pc := 62) dX8_fame_62 rfl ?_
      obtain ⟨v22, h⟩ := h
      refine PW.iast (pc := 64) dX8_fame_64 (ar hM18.1 s_317) (vpl n_317 v22) ?_
      refine PW.aload_n (pc := 65) dX8_fame_65 rfl ?_
      refine PW.iload_n (pc := 66) dX8_fame_66 rfl ?_
      refine PW.iload_n (pc := 67) dX8_fame_67 rfl ?_
      refine PW.inv (m' := mX8_often) (pc := 68) dX8_fame_68 lm_X8_530 me_X8_often mi_X8_often (ob hM18.1 s_277 (by decide)) rfl (As := [.int x1, .int x2]) (st := []) rfl (Nat.le_of_ble_eq_true rfl) (Nat.le_of_ble_eq_true rfl) (Nat.le_of_eq hM18.1) (Nat.le_refl _) (PW.deep (by decide) (c_X8_often  (hM18.same rfl rfl) h)) ?_
      rintro _ M23 ⟨hM25, y24, rfl, h⟩
      refine PW.istore (pc := 71) dX8_fame_71 (ls' := [.ref 277, .int x1, .int x2, .int x3, .int x4, .int x5, .int x6, .int y24]) (by decide) rfl rfl ?_
      refine PW.aload_n (pc := 73) dX8_fame_73 rfl ?_
      refine PW.inv (m' := mX8_triesAnew) (pc := 74) dX8_fame_74 lm_X8_488 me_X8_triesAnew mi_X8_triesAnew (ob hM25.1 s_277 (by decide)) rfl (As := []) (st := []) rfl (Nat.le_of_ble_eq_true rfl) (Nat.le_of_ble_eq_true rfl) (Nat.le_of_eq hM25.1) (Nat.le_refl _) (PW.deep (by decide) (c_X8_triesAnew  hM25 h)) ?_
      rintro _ M26 ⟨hM28, rfl, h⟩
      refine PW.iload (pc := 77) dX8_fame_77 rfl ?_
      refine PW.iconst (pc := 79) dX8_fame_79 (v := (-1)) (by decide) ?_
      refine PW.icmp_eq (pc := 80) dX8_fame_80 (t := 93) (by decide) (fun hc => ?_) (fun hc => ?_)
      · have h := h.1 hc
        refine PW.iload (pc := 93) dX8_fame_93 rfl ?_
        refine PW.istore (pc := 95) dX8_fame_95 (ls' := [.ref 277, .int x1, .int x2, .int x3, .int x6, .int x5, .int x6, .int y24]) (by decide) rfl rfl ?_
        refine PW.iload (pc := 97) dX8_fame_97 rfl ?_
        refine PW.istore (pc := 99) dX8_fame_99 (ls' := [.ref 277, .int x1, .int x2, .int x3, .int x6, .int y24, .int x6, .int y24]) (by decide) rfl rfl ?_
        refine PW.iinc (pc := 101) dX8_fame_101 (v := (x6 + 1)) (ls' := [.ref 277, .int x1, .int x2, .int x3, .int x6, .int y24, .int (x6 + 1), .int y24]) rfl rfl (by decide) rfl rfl ?_
        refine PW.goto (pc := 104) dX8_fame_104 (t := 44) (by decide) ?_
        exact PW.drop (ih _ _ _ _ _ _ _ hM28 h) ⟨rfl, rfl, rfl, rfl, rfl, rfl, rfl, trivial⟩
      · have h := h.2 hc
        refine PW.iload (pc := 83) dX8_fame_83 rfl ?_
        refine PW.iload (pc := 85) dX8_fame_85 rfl ?_
        refine PW.icmp_gt (pc := 87) dX8_fame_87 (t := 93) (by decide) (fun hc => ?_) (fun hc => ?_)
        · have h := h.1 hc
          refine PW.iload (pc := 93) dX8_fame_93 rfl ?_
          refine PW.istore (pc := 95) dX8_fame_95 (ls' := [.ref 277, .int x1, .int x2, .int x3, .int x6, .int x5, .int x6, .int y24]) (by decide) rfl rfl ?_
          refine PW.iload (pc := 97) dX8_fame_97 rfl ?_
          refine PW.istore (pc := 99) dX8_fame_99 (ls' := [.ref 277, .int x1, .int x2, .int x3, .int x6, .int y24, .int x6, .int y24]) (by decide) rfl rfl ?_
          refine PW.iinc (pc := 101) dX8_fame_101 (v := (x6 + 1)) (ls' := [.ref 277, .int x1, .int x2, .int x3, .int x6, .int y24, .int (x6 + 1), .int y24]) rfl rfl (by decide) rfl rfl ?_
          refine PW.goto (pc := 104) dX8_fame_104 (t := 44) (by decide) ?_
          exact PW.drop (ih _ _ _ _ _ _ _ hM28 h) ⟨rfl, rfl, rfl, rfl, rfl, rfl, rfl, trivial⟩
        · have h := h.2 hc
          refine PW.goto (pc := 90) dX8_fame_90 (t := 101) (by decide) ?_
          refine PW.iinc (pc := 101) dX8_fame_101 (v := (x6 + 1)) (ls' := [.ref 277, .int x1, .int x2, .int x3, .int x4, .int x5, .int (x6 + 1), .int y24]) rfl rfl (by decide) rfl rfl ?_
          refine PW.goto (pc := 104) dX8_fame_104 (t := 44) (by decide) ?_
          exact PW.drop (ih _ _ _ _ _ _ _ hM28 h) ⟨rfl, rfl, rfl, rfl, rfl, rfl, rfl, trivial⟩
def w_X8_fame (x1 : Int32) (x2 : Int32) (x3 : Int32) (M : pm) (Q : Int32 → pm → Prop) : Prop := w_X8_isAsker x1 M (fun y2 M1 => ((y2 = 0 → (Q (-1) M1)) ∧ (¬ y2 = 0 → (w_X8_isAhead x2 1 30 M1 (fun y6 M5 => ((y6 = 0 → (Q (-1) M5)) ∧ (¬ y6 = 0 → (w_X8_isIn (Int32.toInt64 x3) (0 : Int64) (1 : Int64) M5 (fun y10 M9 => ((¬ y10 = 0 → (w_X8_putsAside  M9 (fun M13 => ∃ n29, w_X8_fame_44 n29 x1 x2 x3 (-1) 0 0 M13  Q))) ∧ (y10 = 0 → (Q (-1) M9))))))))))))
set_option maxRecDepth 4000 in
theorem c_X8_fame {x1 : Int32} {x2 : Int32} {x3 : Int32} {M : pm} {Q : Int32 → pm → Prop}  (hM : pG M) (h : w_X8_fame x1 x2 x3 M Q) : PW mX8_fame 11 350 0 (pfr mX8_fame.2.2.1 [.ref 277, .int x1, .int x2, .int x3]) [] M (qI Q) := by
  unfold w_X8_fame at h
  show PW mX8_fame 11 350 0 [.ref 277, .int x1, .int x2, .int x3, .null, .null, .null, .null] [] M (qI Q)
  refine PW.aload_n (pc := 0) dX8_fame_0 rfl ?_
  refine PW.iload_n (pc := 1) dX8_fame_1 rfl ?_
  refine PW.inv (m' := mX8_isAsker) (pc := 2) dX8_fame_2 lm_X8_507 me_X8_isAsker mi_X8_isAsker (ob hM.1 s_277 (by decide)) rfl (As := [.int x1]) (st := []) rfl (Nat.le_of_ble_eq_true rfl) (Nat.le_of_ble_eq_true rfl) (Nat.le_of_eq hM.1) (Nat.le_refl _) (PW.deep (by decide) (c_X8_isAsker  hM h)) ?_
  rintro _ M1 ⟨hM3, y2, rfl, z4, h⟩
  refine PW.if_eq (pc := 5) dX8_fame_5 (t := 29) (by decide) (fun hc => ?_) (fun hc => ?_)
  · have h := h.1 hc
    refine PW.iconst (pc := 29) dX8_fame_29 (v := (-1)) (by decide) ?_
    exact PW.retI (pc := 30) dX8_fame_30 hM3.1 rfl rfl ⟨hM3, _, rfl, h⟩
  · have h := h.2 hc
    refine PW.aload_n (pc := 8) dX8_fame_8 rfl ?_
    refine PW.iload_n (pc := 9) dX8_fame_9 rfl ?_
    refine PW.iconst (pc := 10) dX8_fame_10 (v := 1) (by decide) ?_
    refine PW.bipush (pc := 11) dX8_fame_11 (v := 30) (by decide) ?_
    refine PW.inv (m' := mX8_isAhead) (pc := 13) dX8_fame_13 lm_X8_515 me_X8_isAhead mi_X8_isAhead (ob hM3.1 s_277 (by decide)) rfl (As := [.int x2, .int 1, .int 30]) (st := []) rfl (Nat.le_of_ble_eq_true rfl) (Nat.le_of_ble_eq_true rfl) (Nat.le_of_eq hM3.1) (Nat.le_refl _) (PW.deep (by decide) (c_X8_isAhead  hM3 h)) ?_
    rintro _ M5 ⟨hM7, y6, rfl, z8, h⟩
    refine PW.if_eq (pc := 16) dX8_fame_16 (t := 29) (by decide) (fun hc => ?_) (fun hc => ?_)
    · have h := h.1 hc
      refine PW.iconst (pc := 29) dX8_fame_29 (v := (-1)) (by decide) ?_
      exact PW.retI (pc := 30) dX8_fame_30 hM7.1 rfl rfl ⟨hM7, _, rfl, h⟩
    · have h := h.2 hc
      refine PW.iload_n (pc := 19) dX8_fame_19 rfl ?_
      refine PW.i2l (pc := 20) dX8_fame_20 ?_
      refine PW.lconst (pc := 21) dX8_fame_21 (v := 0) (by decide) ?_
      refine PW.lconst (pc := 22) dX8_fame_22 (v := 1) (by decide) ?_
      refine PW.ins (m' := mX8_isIn) (pc := 23) dX8_fame_23 lm_X8_289 me_X8_isIn ms_X8_isIn (As := [.long (Int32.toInt64 x3), .long (0 : Int64), .long (1 : Int64)]) (st := []) rfl (Nat.le_of_ble_eq_true rfl) (Nat.le_of_ble_eq_true rfl) (Nat.le_of_eq hM7.1) (Nat.le_refl _) (PW.deep (by decide) (c_X8_isIn  hM7 h)) ?_
      rintro _ M9 ⟨hM11, y10, rfl, z12, h⟩
      refine PW.if_ne (pc := 26) dX8_fame_26 (t := 31) (by decide) (fun hc => ?_) (fun hc => ?_)
      · have h := h.1 hc
        refine PW.iconst (pc := 31) dX8_fame_31 (v := (-1)) (by decide) ?_
        refine PW.istore (pc := 32) dX8_fame_32 (ls' := [.ref 277, .int x1, .int x2, .int x3, .int (-1), .null, .null, .null]) (by decide) rfl rfl ?_
        refine PW.iconst (pc := 34) dX8_fame_34 (v := 0) (by decide) ?_
        refine PW.istore (pc := 35) dX8_fame_35 (ls' := [.ref 277, .int x1, .int x2, .int x3, .int (-1), .int 0, .null, .null]) (by decide) rfl rfl ?_
        refine PW.aload_n (pc := 37) dX8_fame_37 rfl ?_
        refine PW.inv (m' := mX8_putsAside) (pc := 38) dX8_fame_38 lm_X8_518 me_X8_putsAside mi_X8_putsAside (ob hM11.1 s_277 (by decide)) rfl (As := []) (st := []) rfl (Nat.le_of_ble_eq_true rfl) (Nat.le_of_ble_eq_true rfl) (Nat.le_of_eq hM11.1) (Nat.le_refl _) (PW.deep (by decide) (c_X8_putsAside  hM11 h)) ?_
        rintro _ M13 ⟨hM15, rfl, h⟩
        refine PW.iconst (pc := 41) dX8_fame_41 (v := 0) (by decide) ?_
        refine PW.istore (pc := 42) dX8_fame_42 (ls' := [.ref 277, .int x1, .int x2, .int x3, .int (-1), .int 0, .int 0, .null]) (by decide) rfl rfl ?_
        obtain ⟨n29, h⟩ := h
        refine PW.drop (c_X8_fame_44  n29 _ _ _ _ _ _ _ hM15 h) ⟨rfl, rfl, rfl, rfl, rfl, rfl, rfl, trivial⟩
      · have h := h.2 hc
        refine PW.iconst (pc := 29) dX8_fame_29 (v := (-1)) (by decide) ?_
        exact PW.retI (pc := 30) dX8_fame_30 hM11.1 rfl rfl ⟨hM11, _, rfl, h⟩
