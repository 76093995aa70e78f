/-! the constructors -/
theorem obn {M : pm} {a ci n : Nat} (h : mN M = n) (hs : pS ci a) (hl : a < n + 3) (hc : ci < 9) : pOb M a ci := ⟨hs.1, by rw [h]; exact hl, hs.2.2, hc⟩
theorem arn {M : pm} {a kd n : Nat} (h : mN M = n) (hs : pS kd a) (hl : a < n + 3) : pAr M a kd := ⟨hs.1, by rw [h]; exact hl, hs.2.2⟩
theorem ltn {a n b : Nat} (h : a = n) (h2 : n < b) : a < b := by omega
theorem eqn {a n b : Nat} (h : a = n) (h2 : n + 3 = b) : a + 3 = b := by omega
theorem mR_nw (M : pm) (b j : Nat) : mR (nw M) b j = if b = mN M + 3 then 0 else mR M b j := rfl
theorem mI_nw (M : pm) (b j : Nat) : mI (nw M) b j = if b = mN M + 3 then 0 else mI M b j := rfl
theorem mJ_nw (M : pm) (b j : Nat) : mJ (nw M) b j = if b = mN M + 3 then 0 else mJ M b j := rfl
theorem len_ {a n b : Nat} (h : a = n) (h2 : n ≤ b) : a ≤ b := by omega
theorem cl_L_7 : Cond.classLink RL 7 (pT 7).1 ∈ pBig := pb 1 17 (by decide +kernel) rfl
theorem oi_X7_3 : Cond.methodLink RX7 3 objectInit ∈ pBig := pb 1 22 (by decide +kernel) rfl
theorem cl_X7_17 : Cond.classLink RX7 17 (pT 3).1 ∈ pBig := pb 1 25 (by decide +kernel) rfl
theorem oi_X3_3 : Cond.methodLink RX3 3 objectInit ∈ pBig := pb 1 30 (by decide +kernel) rfl
theorem cl_X3_9 : Cond.classLink RX3 9 (pT 6).1 ∈ pBig := pb 1 31 (by decide +kernel) rfl
theorem oi_X6_3 : Cond.methodLink RX6 3 objectInit ∈ pBig := pb 1 36 (by decide +kernel) rfl
theorem cl_X3_18 : Cond.classLink RX3 18 (pT 2).1 ∈ pBig := pb 1 124 (by decide +kernel) rfl
theorem oi_X2_3 : Cond.methodLink RX2 3 objectInit ∈ pBig := pb 1 129 (by decide +kernel) rfl
theorem cl_X7_24 : Cond.classLink RX7 24 (pT 5).1 ∈ pBig := pb 1 172 (by decide +kernel) rfl
theorem oi_X5_3 : Cond.methodLink RX5 3 objectInit ∈ pBig := pb 1 177 (by decide +kernel) rfl
theorem cl_X5_61 : Cond.classLink RX5 61 (pT 2).1 ∈ pBig := pb 1 178 (by decide +kernel) rfl
theorem cl_X7_44 : Cond.classLink RX7 44 (pT 1).1 ∈ pBig := pb 2 20 (by decide +kernel) rfl
theorem oi_X1_3 : Cond.methodLink RX1 3 objectInit ∈ pBig := pb 2 25 (by decide +kernel) rfl
theorem cl_X1_27 : Cond.classLink RX1 27 ("[" ++ (FieldType.array .int).toString) ∈ pBig := pb 2 26 (by decide +kernel) rfl
theorem cl_X7_51 : Cond.classLink RX7 51 (pT 4).1 ∈ pBig := pb 2 47 (by decide +kernel) rfl
theorem oi_X4_3 : Cond.methodLink RX4 3 objectInit ∈ pBig := pb 2 52 (by decide +kernel) rfl
theorem cl_X7_61 : Cond.classLink RX7 61 (pT 0).1 ∈ pBig := pb 2 104 (by decide +kernel) rfl
theorem oi_X0_3 : Cond.methodLink RX0 3 objectInit ∈ pBig := pb 2 109 (by decide +kernel) rfl
theorem cl_X0_9 : Cond.classLink RX0 9 (pT 4).1 ∈ pBig := pb 2 110 (by decide +kernel) rfl
theorem cl_X7_68 : Cond.classLink RX7 68 ("[" ++ (FieldType.array .int).toString) ∈ pBig := pb 2 121 (by decide +kernel) rfl
theorem cl_L_10 : Cond.classLink RL 10 (pT 8).1 ∈ pBig := pb 5 76 (by decide +kernel) rfl
theorem oi_X8_1 : Cond.methodLink RX8 1 objectInit ∈ pBig := pb 5 81 (by decide +kernel) rfl
theorem oi_i : Cond.instanceMethod objectInit ∈ pBig := pb 1 23 (by decide +kernel) rfl
theorem oi_c : Cond.code objectInit ⟨#[0xb1]⟩ 1 none ∈ pBig := pb 1 24 (by decide +kernel) rfl
theorem in_0 : Cond.instantiable (pT 0).1 (pT 0).2.2 ∈ pBig := pb 2 105 (by decide +kernel) rfl
theorem iz_0 : Cond.initialized (pT 0).1 ∈ pBig := pb 1 12 (by decide +kernel) rfl
theorem in_1 : Cond.instantiable (pT 1).1 (pT 1).2.2 ∈ pBig := pb 2 21 (by decide +kernel) rfl
theorem iz_1 : Cond.initialized (pT 1).1 ∈ pBig := pb 1 10 (by decide +kernel) rfl
theorem in_2 : Cond.instantiable (pT 2).1 (pT 2).2.2 ∈ pBig := pb 1 125 (by decide +kernel) rfl
theorem iz_2 : Cond.initialized (pT 2).1 ∈ pBig := pb 1 8 (by decide +kernel) rfl
theorem in_3 : Cond.instantiable (pT 3).1 (pT 3).2.2 ∈ pBig := pb 1 26 (by decide +kernel) rfl
theorem iz_3 : Cond.initialized (pT 3).1 ∈ pBig := pb 1 2 (by decide +kernel) rfl
theorem in_4 : Cond.instantiable (pT 4).1 (pT 4).2.2 ∈ pBig := pb 2 48 (by decide +kernel) rfl
theorem iz_4 : Cond.initialized (pT 4).1 ∈ pBig := pb 1 11 (by decide +kernel) rfl
theorem in_5 : Cond.instantiable (pT 5).1 (pT 5).2.2 ∈ pBig := pb 1 173 (by decide +kernel) rfl
theorem iz_5 : Cond.initialized (pT 5).1 ∈ pBig := pb 1 9 (by decide +kernel) rfl
theorem in_6 : Cond.instantiable (pT 6).1 (pT 6).2.2 ∈ pBig := pb 1 32 (by decide +kernel) rfl
theorem iz_6 : Cond.initialized (pT 6).1 ∈ pBig := pb 1 3 (by decide +kernel) rfl
theorem in_7 : Cond.instantiable (pT 7).1 (pT 7).2.2 ∈ pBig := pb 1 18 (by decide +kernel) rfl
theorem iz_7 : Cond.initialized (pT 7).1 ∈ pBig := pb 1 1 (by decide +kernel) rfl
theorem in_8 : Cond.instantiable (pT 8).1 (pT 8).2.2 ∈ pBig := pb 5 77 (by decide +kernel) rfl
theorem iz_8 : Cond.initialized (pT 8).1 ∈ pBig := pb 1 13 (by decide +kernel) rfl
theorem aw_byte : Cond.arrayClass .byte ∈ pBig := pb 1 122 (by decide +kernel) rfl
theorem aw_char : Cond.arrayClass .char ∈ pBig := pb 6 164 (by decide +kernel) rfl
theorem aw_int : Cond.arrayClass .int ∈ pBig := pb 1 123 (by decide +kernel) rfl
theorem aw_long : Cond.arrayClass .long ∈ pBig := pb 6 165 (by decide +kernel) rfl
theorem aw_boolean : Cond.arrayClass .boolean ∈ pBig := pb 1 149 (by decide +kernel) rfl
theorem eqL {n k : Nat} {q : Nat × Nat} (h : n = k) (h2 : lay (k + 3) = q) : lay (n + 3) = q := by rw [h]; exact h2
theorem lzL {n k a b : Nat} (h : n = k) (h2 : lz (k + a) = lz k + b) : lz (n + a) = lz n + b := by rw [h]; exact h2
theorem leL {n k a b : Nat} (h : n = k) (h2 : k + a ≤ b) : n + a ≤ b := by rw [h]; exact h2
def u_X6_6_0 (M : pm) : pm := sI (sI (sI (sI (sI (sI (sI (sI (sR (nw (sR (nw M) 6 0 7)) 6 1 8) 6 2 0) 6 3 0) 6 4 0) 6 5 0) 6 6 0) 6 7 0) 6 8 (-1)) 7 0 (pkW 0)
theorem un_X6_6_0 (M : pm) : mN (u_X6_6_0 M) = mN M + 2 := rfl
set_option maxRecDepth 4000 in
theorem k_X6_6_0 {M : pm} {Q : Option Value → pm → Prop} (hn : mN M = 4)  (h : PW mX6_init 12 6 56 [.ref 6, .int 1] [] (u_X6_6_0 M) Q) : PW mX6_init 12 6 0 [.ref 6, .null] [] M Q := by
  refine PW.aload_n (pc := 0) dX6_init_0 rfl ?_
  refine PW.objInit (pc := 1) dX6_init_1 oi_X6_3 oi_i oi_c (Nat.le_of_ble_eq_true rfl) (by decide) ?_
  refine PW.aload_n (pc := 4) dX6_init_4 rfl ?_
  refine PW.bipush (pc := 5) dX6_init_5 (v := 34) (by decide) ?_
  refine PW.newaI (pc := 7) dX6_init_7 (a := 7) aw_int (by decide) (by decide +kernel) (by decide) (ltn (show mN M + 0 = 4 by omega) (by decide)) (eqn (show mN M + 0 = 4 by omega) rfl) ?_
  refine PW.putR (pc := 9) dX6_init_9 lf_X6_9 (obn (show mN M + 1 = 5 by omega) s_6 (by decide) (by decide)) fx_6_0 (Or.inr ⟨rfl, rfl, rfl⟩) (fun _ => rfl) (fun _ => rfl) (by decide) ?_
  refine PW.aload_n (pc := 12) dX6_init_12 rfl ?_
  refine PW.iconst (pc := 13) dX6_init_13 (v := 0) (by decide) ?_
  refine PW.newaB (pc := 14) dX6_init_14 (a := 8) aw_byte (by decide) (by decide +kernel) (by decide) (ltn (show mN M + 1 = 5 by omega) (by decide)) (eqn (show mN M + 1 = 5 by omega) rfl) ?_
  refine PW.putR (pc := 16) dX6_init_16 lf_X6_15 (obn (show mN M + 2 = 6 by omega) s_6 (by decide) (by decide)) fx_6_1 (Or.inl rfl) (fun _ => rfl) (fun _ => rfl) (by decide) ?_
  refine PW.aload_n (pc := 19) dX6_init_19 rfl ?_
  refine PW.iconst (pc := 20) dX6_init_20 (v := 0) (by decide) ?_
  refine PW.putI (pc := 21) dX6_init_21 lf_X6_19 (obn (show mN M + 2 = 6 by omega) s_6 (by decide) (by decide)) fx_6_2 (Or.inl rfl) rfl rfl ?_
  refine PW.aload_n (pc := 24) dX6_init_24 rfl ?_
  refine PW.iconst (pc := 25) dX6_init_25 (v := 0) (by decide) ?_
  refine PW.putI (pc := 26) dX6_init_26 lf_X6_23 (obn (show mN M + 2 = 6 by omega) s_6 (by decide) (by decide)) fx_6_3 (Or.inl rfl) rfl rfl ?_
  refine PW.aload_n (pc := 29) dX6_init_29 rfl ?_
  refine PW.iconst (pc := 30) dX6_init_30 (v := 0) (by decide) ?_
  refine PW.putI (pc := 31) dX6_init_31 lf_X6_26 (obn (show mN M + 2 = 6 by omega) s_6 (by decide) (by decide)) fx_6_4 (Or.inl rfl) rfl rfl ?_
  refine PW.aload_n (pc := 34) dX6_init_34 rfl ?_
  refine PW.iconst (pc := 35) dX6_init_35 (v := 0) (by decide) ?_
  refine PW.putI (pc := 36) dX6_init_36 lf_X6_29 (obn (show mN M + 2 = 6 by omega) s_6 (by decide) (by decide)) fx_6_5 (Or.inl rfl) rfl rfl ?_
  refine PW.aload_n (pc := 39) dX6_init_39 rfl ?_
  refine PW.iconst (pc := 40) dX6_init_40 (v := 0) (by decide) ?_
  refine PW.putI (pc := 41) dX6_init_41 lf_X6_32 (obn (show mN M + 2 = 6 by omega) s_6 (by decide) (by decide)) fx_6_6 (Or.inl rfl) rfl rfl ?_
  refine PW.aload_n (pc := 44) dX6_init_44 rfl ?_
  refine PW.iconst (pc := 45) dX6_init_45 (v := 0) (by decide) ?_
  refine PW.putI (pc := 46) dX6_init_46 lf_X6_35 (obn (show mN M + 2 = 6 by omega) s_6 (by decide) (by decide)) fx_6_7 (Or.inl rfl) rfl rfl ?_
  refine PW.aload_n (pc := 49) dX6_init_49 rfl ?_
  refine PW.iconst (pc := 50) dX6_init_50 (v := (-1)) (by decide) ?_
  refine PW.putI (pc := 51) dX6_init_51 lf_X6_38 (obn (show mN M + 2 = 6 by omega) s_6 (by decide) (by decide)) fx_6_8 (Or.inl rfl) rfl rfl ?_
  refine PW.iconst (pc := 54) dX6_init_54 (v := 0) (by decide) ?_
  refine PW.istore_n (pc := 55) dX6_init_55 (ls' := [.ref 6, .int 0]) (Nat.le_of_ble_eq_true rfl) rfl rfl ?_
  refine PW.iload_n (pc := 56) dX6_init_56 rfl ?_
  refine PW.bipush (pc := 57) dX6_init_57 (v := 34) (by decide) ?_
  refine PW.icmp_ge (pc := 59) dX6_init_59 (t := 78) (by decide) (fun hc => ?_) (fun hc => ?_)
  · exact absurd hc (by decide)
  refine PW.aload_n (pc := 62) dX6_init_62 rfl ?_
  refine PW.getR (pc := 63) dX6_init_63 (r := 7) lf_X6_9 (obn (show mN M + 2 = 6 by omega) s_6 (by decide) (by decide)) fx_6_0 (by simp [mR_sI, mR_sR, mR_sJ, mR_nw, mN_nw, mN_sI, mN_sR, mN_sJ, hn]) (by decide) ?_
  refine PW.iload_n (pc := 66) dX6_init_66 rfl ?_
  refine PW.iload_n (pc := 67) dX6_init_67 rfl ?_
  refine PW.ins (m' := mX6_packWord) (pc := 68) dX6_init_68 lm_X6_41 me_X6_packWord ms_X6_packWord (As := [.int 0]) (st := [.int 0, .ref 7]) rfl (Nat.le_of_ble_eq_true rfl) (Nat.le_of_ble_eq_true rfl) (Nat.le_refl _) (len_ (show mN M + 2 = 6 by omega) (by decide)) (PW.deep (by decide) (c_pkw 0 (by decide))) ?_
  rintro _ M1 ⟨rfl, h9⟩
  rw [h9]
  refine PW.iast (pc := 71) dX6_init_71 (arn (show mN M + 2 = 6 by omega) s_7 (by decide)) (vpl n_7 (vp_c (by decide))) ?_
  refine PW.iinc (pc := 72) dX6_init_72 (v := 1) (ls' := [.ref 6, .int 1]) rfl (by decide) (by decide) rfl rfl ?_
  refine PW.goto (pc := 75) dX6_init_75 (t := 56) (by decide) ?_
  exact h
def u_X6_6_1 (M : pm) : pm := sI M 7 1 (pkW 1)
theorem un_X6_6_1 (M : pm) : mN (u_X6_6_1 M) = mN M + 0 := rfl
set_option maxRecDepth 4000 in
theorem k_X6_6_1 {M : pm} {Q : Option Value → pm → Prop} (hn : mN M = 6) (hr6_0 : mR M 6 0 = 7) (h : PW mX6_init 12 6 56 [.ref 6, .int 2] [] (u_X6_6_1 M) Q) : PW mX6_init 12 6 56 [.ref 6, .int 1] [] M Q := by
  refine PW.iload_n (pc := 56) dX6_init_56 rfl ?_
  refine PW.bipush (pc := 57) dX6_init_57 (v := 34) (by decide) ?_
  refine PW.icmp_ge (pc := 59) dX6_init_59 (t := 78) (by decide) (fun hc => ?_) (fun hc => ?_)
  · exact absurd hc (by decide)
  refine PW.aload_n (pc := 62) dX6_init_62 rfl ?_
  refine PW.getR (pc := 63) dX6_init_63 (r := 7) lf_X6_9 (obn (show mN M + 0 = 6 by omega) s_6 (by decide) (by decide)) fx_6_0 hr6_0 (by decide) ?_
  refine PW.iload_n (pc := 66) dX6_init_66 rfl ?_
  refine PW.iload_n (pc := 67) dX6_init_67 rfl ?_
  refine PW.ins (m' := mX6_packWord) (pc := 68) dX6_init_68 lm_X6_41 me_X6_packWord ms_X6_packWord (As := [.int 1]) (st := [.int 1, .ref 7]) rfl (Nat.le_of_ble_eq_true rfl) (Nat.le_of_ble_eq_true rfl) (Nat.le_refl _) (len_ (show mN M + 0 = 6 by omega) (by decide)) (PW.deep (by decide) (c_pkw 1 (by decide))) ?_
  rintro _ M1 ⟨rfl, h9⟩
  rw [h9]
  refine PW.iast (pc := 71) dX6_init_71 (arn (show mN M + 0 = 6 by omega) s_7 (by decide)) (vpl n_7 (vp_c (by decide))) ?_
  refine PW.iinc (pc := 72) dX6_init_72 (v := 2) (ls' := [.ref 6, .int 2]) rfl (by decide) (by decide) rfl rfl ?_
  refine PW.goto (pc := 75) dX6_init_75 (t := 56) (by decide) ?_
  exact h
def u_X6_6_2 (M : pm) : pm := sI M 7 2 (pkW 2)
theorem un_X6_6_2 (M : pm) : mN (u_X6_6_2 M) = mN M + 0 := rfl
set_option maxRecDepth 4000 in
theorem k_X6_6_2 {M : pm} {Q : Option Value → pm → Prop} (hn : mN M = 6) (hr6_0 : mR M 6 0 = 7) (h : PW mX6_init 12 6 56 [.ref 6, .int 3] [] (u_X6_6_2 M) Q) : PW mX6_init 12 6 56 [.ref 6, .int 2] [] M Q := by
  refine PW.iload_n (pc := 56) dX6_init_56 rfl ?_
  refine PW.bipush (pc := 57) dX6_init_57 (v := 34) (by decide) ?_
  refine PW.icmp_ge (pc := 59) dX6_init_59 (t := 78) (by decide) (fun hc => ?_) (fun hc => ?_)
  · exact absurd hc (by decide)
  refine PW.aload_n (pc := 62) dX6_init_62 rfl ?_
  refine PW.getR (pc := 63) dX6_init_63 (r := 7) lf_X6_9 (obn (show mN M + 0 = 6 by omega) s_6 (by decide) (by decide)) fx_6_0 hr6_0 (by decide) ?_
  refine PW.iload_n (pc := 66) dX6_init_66 rfl ?_
  refine PW.iload_n (pc := 67) dX6_init_67 rfl ?_
  refine PW.ins (m' := mX6_packWord) (pc := 68) dX6_init_68 lm_X6_41 me_X6_packWord ms_X6_packWord (As := [.int 2]) (st := [.int 2, .ref 7]) rfl (Nat.le_of_ble_eq_true rfl) (Nat.le_of_ble_eq_true rfl) (Nat.le_refl _) (len_ (show mN M + 0 = 6 by omega) (by decide)) (PW.deep (by decide) (c_pkw 2 (by decide))) ?_
  rintro _ M1 ⟨rfl, h9⟩
  rw [h9]
  refine PW.iast (pc := 71) dX6_init_71 (arn (show mN M + 0 = 6 by omega) s_7 (by decide)) (vpl n_7 (vp_c (by decide))) ?_
  refine PW.iinc (pc := 72) dX6_init_72 (v := 3) (ls' := [.ref 6, .int 3]) rfl (by decide) (by decide) rfl rfl ?_
  refine PW.goto (pc := 75) dX6_init_75 (t := 56) (by decide) ?_
  exact h
def u_X6_6_3 (M : pm) : pm := sI M 7 3 (pkW 3)
theorem un_X6_6_3 (M : pm) : mN (u_X6_6_3 M) = mN M + 0 := rfl
set_option maxRecDepth 4000 in
theorem k_X6_6_3 {M : pm} {Q : Option Value → pm → Prop} (hn : mN M = 6) (hr6_0 : mR M 6 0 = 7) (h : PW mX6_init 12 6 56 [.ref 6, .int 4] [] (u_X6_6_3 M) Q) : PW mX6_init 12 6 56 [.ref 6, .int 3] [] M Q := by
  refine PW.iload_n (pc := 56) dX6_init_56 rfl ?_
  refine PW.bipush (pc := 57) dX6_init_57 (v := 34) (by decide) ?_
  refine PW.icmp_ge (pc := 59) dX6_init_59 (t := 78) (by decide) (fun hc => ?_) (fun hc => ?_)
  · exact absurd hc (by decide)
  refine PW.aload_n (pc := 62) dX6_init_62 rfl ?_
  refine PW.getR (pc := 63) dX6_init_63 (r := 7) lf_X6_9 (obn (show mN M + 0 = 6 by omega) s_6 (by decide) (by decide)) fx_6_0 hr6_0 (by decide) ?_
  refine PW.iload_n (pc := 66) dX6_init_66 rfl ?_
  refine PW.iload_n (pc := 67) dX6_init_67 rfl ?_
  refine PW.ins (m' := mX6_packWord) (pc := 68) dX6_init_68 lm_X6_41 me_X6_packWord ms_X6_packWord (As := [.int 3]) (st := [.int 3, .ref 7]) rfl (Nat.le_of_ble_eq_true rfl) (Nat.le_of_ble_eq_true rfl) (Nat.le_refl _) (len_ (show mN M + 0 = 6 by omega) (by decide)) (PW.deep (by decide) (c_pkw 3 (by decide))) ?_
  rintro _ M1 ⟨rfl, h9⟩
  rw [h9]
  refine PW.iast (pc := 71) dX6_init_71 (arn (show mN M + 0 = 6 by omega) s_7 (by decide)) (vpl n_7 (vp_c (by decide))) ?_
  refine PW.iinc (pc := 72) dX6_init_72 (v := 4) (ls' := [.ref 6, .int 4]) rfl (by decide) (by decide) rfl rfl ?_
  refine PW.goto (pc := 75) dX6_init_75 (t := 56) (by decide) ?_
  exact h
def u_X6_6_4 (M : pm) : pm := sI M 7 4 (pkW 4)
theorem un_X6_6_4 (M : pm) : mN (u_X6_6_4 M) = mN M + 0 := rfl
set_option maxRecDepth 4000 in
theorem k_X6_6_4 {M : pm} {Q : Option Value → pm → Prop} (hn : mN M = 6) (hr6_0 : mR M 6 0 = 7) (h : PW mX6_init 12 6 56 [.ref 6, .int 5] [] (u_X6_6_4 M) Q) : PW mX6_init 12 6 56 [.ref 6, .int 4] [] M Q := by
  refine PW.iload_n (pc := 56) dX6_init_56 rfl ?_
  refine PW.bipush (pc := 57) dX6_init_57 (v := 34) (by decide) ?_
  refine PW.icmp_ge (pc := 59) dX6_init_59 (t := 78) (by decide) (fun hc => ?_) (fun hc => ?_)
  · exact absurd hc (by decide)
  refine PW.aload_n (pc := 62) dX6_init_62 rfl ?_
  refine PW.getR (pc := 63) dX6_init_63 (r := 7) lf_X6_9 (obn (show mN M + 0 = 6 by omega) s_6 (by decide) (by decide)) fx_6_0 hr6_0 (by decide) ?_
  refine PW.iload_n (pc := 66) dX6_init_66 rfl ?_
  refine PW.iload_n (pc := 67) dX6_init_67 rfl ?_
  refine PW.ins (m' := mX6_packWord) (pc := 68) dX6_init_68 lm_X6_41 me_X6_packWord ms_X6_packWord (As := [.int 4]) (st := [.int 4, .ref 7]) rfl (Nat.le_of_ble_eq_true rfl) (Nat.le_of_ble_eq_true rfl) (Nat.le_refl _) (len_ (show mN M + 0 = 6 by omega) (by decide)) (PW.deep (by decide) (c_pkw 4 (by decide))) ?_
  rintro _ M1 ⟨rfl, h9⟩
  rw [h9]
  refine PW.iast (pc := 71) dX6_init_71 (arn (show mN M + 0 = 6 by omega) s_7 (by decide)) (vpl n_7 (vp_c (by decide))) ?_
  refine PW.iinc (pc := 72) dX6_init_72 (v := 5) (ls' := [.ref 6, .int 5]) rfl (by decide) (by decide) rfl rfl ?_
  refine PW.goto (pc := 75) dX6_init_75 (t := 56) (by decide) ?_
  exact h
def u_X6_6_5 (M : pm) : pm := sI M 7 5 (pkW 5)
theorem un_X6_6_5 (M : pm) : mN (u_X6_6_5 M) = mN M + 0 := rfl
set_option maxRecDepth 4000 in
theorem k_X6_6_5 {M : pm} {Q : Option Value → pm → Prop} (hn : mN M = 6) (hr6_0 : mR M 6 0 = 7) (h : PW mX6_init 12 6 56 [.ref 6, .int 6] [] (u_X6_6_5 M) Q) : PW mX6_init 12 6 56 [.ref 6, .int 5] [] M Q := by
  refine PW.iload_n (pc := 56) dX6_init_56 rfl ?_
  refine PW.bipush (pc := 57) dX6_init_57 (v := 34) (by decide) ?_
  refine PW.icmp_ge (pc := 59) dX6_init_59 (t := 78) (by decide) (fun hc => ?_) (fun hc => ?_)
  · exact absurd hc (by decide)
  refine PW.aload_n (pc := 62) dX6_init_62 rfl ?_
  refine PW.getR (pc := 63) dX6_init_63 (r := 7) lf_X6_9 (obn (show mN M + 0 = 6 by omega) s_6 (by decide) (by decide)) fx_6_0 hr6_0 (by decide) ?_
  refine PW.iload_n (pc := 66) dX6_init_66 rfl ?_
  refine PW.iload_n (pc := 67) dX6_init_67 rfl ?_
  refine PW.ins (m' := mX6_packWord) (pc := 68) dX6_init_68 lm_X6_41 me_X6_packWord ms_X6_packWord (As := [.int 5]) (st := [.int 5, .ref 7]) rfl (Nat.le_of_ble_eq_true rfl) (Nat.le_of_ble_eq_true rfl) (Nat.le_refl _) (len_ (show mN M + 0 = 6 by omega) (by decide)) (PW.deep (by decide) (c_pkw 5 (by decide))) ?_
  rintro _ M1 ⟨rfl, h9⟩
  rw [h9]
  refine PW.iast (pc := 71) dX6_init_71 (arn (show mN M + 0 = 6 by omega) s_7 (by decide)) (vpl n_7 (vp_c (by decide))) ?_
  refine PW.iinc (pc := 72) dX6_init_72 (v := 6) (ls' := [.ref 6, .int 6]) rfl (by decide) (by decide) rfl rfl ?_
  refine PW.goto (pc := 75) dX6_init_75 (t := 56) (by decide) ?_
  exact h
def u_X6_6_6 (M : pm) : pm := sI M 7 6 (pkW 6)
theorem un_X6_6_6 (M : pm) : mN (u_X6_6_6 M) = mN M + 0 := rfl
set_option maxRecDepth 4000 in
theorem k_X6_6_6 {M : pm} {Q : Option Value → pm → Prop} (hn : mN M = 6) (hr6_0 : mR M 6 0 = 7) (h : PW mX6_init 12 6 56 [.ref 6, .int 7] [] (u_X6_6_6 M) Q) : PW mX6_init 12 6 56 [.ref 6, .int 6] [] M Q := by
  refine PW.iload_n (pc := 56) dX6_init_56 rfl ?_
  refine PW.bipush (pc := 57) dX6_init_57 (v := 34) (by decide) ?_
  refine PW.icmp_ge (pc := 59) dX6_init_59 (t := 78) (by decide) (fun hc => ?_) (fun hc => ?_)
  · exact absurd hc (by decide)
  refine PW.aload_n (pc := 62) dX6_init_62 rfl ?_
  refine PW.getR (pc := 63) dX6_init_63 (r := 7) lf_X6_9 (obn (show mN M + 0 = 6 by omega) s_6 (by decide) (by decide)) fx_6_0 hr6_0 (by decide) ?_
  refine PW.iload_n (pc := 66) dX6_init_66 rfl ?_
  refine PW.iload_n (pc := 67) dX6_init_67 rfl ?_
  refine PW.ins (m' := mX6_packWord) (pc := 68) dX6_init_68 lm_X6_41 me_X6_packWord ms_X6_packWord (As := [.int 6]) (st := [.int 6, .ref 7]) rfl (Nat.le_of_ble_eq_true rfl) (Nat.le_of_ble_eq_true rfl) (Nat.le_refl _) (len_ (show mN M + 0 = 6 by omega) (by decide)) (PW.deep (by decide) (c_pkw 6 (by decide))) ?_
  rintro _ M1 ⟨rfl, h9⟩
  rw [h9]
  refine PW.iast (pc := 71) dX6_init_71 (arn (show mN M + 0 = 6 by omega) s_7 (by decide)) (vpl n_7 (vp_c (by decide))) ?_
  refine PW.iinc (pc := 72) dX6_init_72 (v := 7) (ls' := [.ref 6, .int 7]) rfl (by decide) (by decide) rfl rfl ?_
  refine PW.goto (pc := 75) dX6_init_75 (t := 56) (by decide) ?_
  exact h
def u_X6_6_7 (M : pm) : pm := sI M 7 7 (pkW 7)
theorem un_X6_6_7 (M : pm) : mN (u_X6_6_7 M) = mN M + 0 := rfl
set_option maxRecDepth 4000 in
theorem k_X6_6_7 {M : pm} {Q : Option Value → pm → Prop} (hn : mN M = 6) (hr6_0 : mR M 6 0 = 7) (h : PW mX6_init 12 6 56 [.ref 6, .int 8] [] (u_X6_6_7 M) Q) : PW mX6_init 12 6 56 [.ref 6, .int 7] [] M Q := by
  refine PW.iload_n (pc := 56) dX6_init_56 rfl ?_
  refine PW.bipush (pc := 57) dX6_init_57 (v := 34) (by decide) ?_
  refine PW.icmp_ge (pc := 59) dX6_init_59 (t := 78) (by decide) (fun hc => ?_) (fun hc => ?_)
  · exact absurd hc (by decide)
  refine PW.aload_n (pc := 62) dX6_init_62 rfl ?_
  refine PW.getR (pc := 63) dX6_init_63 (r := 7) lf_X6_9 (obn (show mN M + 0 = 6 by omega) s_6 (by decide) (by decide)) fx_6_0 hr6_0 (by decide) ?_
  refine PW.iload_n (pc := 66) dX6_init_66 rfl ?_
  refine PW.iload_n (pc := 67) dX6_init_67 rfl ?_
  refine PW.ins (m' := mX6_packWord) (pc := 68) dX6_init_68 lm_X6_41 me_X6_packWord ms_X6_packWord (As := [.int 7]) (st := [.int 7, .ref 7]) rfl (Nat.le_of_ble_eq_true rfl) (Nat.le_of_ble_eq_true rfl) (Nat.le_refl _) (len_ (show mN M + 0 = 6 by omega) (by decide)) (PW.deep (by decide) (c_pkw 7 (by decide))) ?_
  rintro _ M1 ⟨rfl, h9⟩
  rw [h9]
  refine PW.iast (pc := 71) dX6_init_71 (arn (show mN M + 0 = 6 by omega) s_7 (by decide)) (vpl n_7 (vp_c (by decide))) ?_
  refine PW.iinc (pc := 72) dX6_init_72 (v := 8) (ls' := [.ref 6, .int 8]) rfl (by decide) (by decide) rfl rfl ?_
  refine PW.goto (pc := 75) dX6_init_75 (t := 56) (by decide) ?_
  exact h
def u_X6_6_8 (M : pm) : pm := sI M 7 8 (pkW 8)
theorem un_X6_6_8 (M : pm) : mN (u_X6_6_8 M) = mN M + 0 := rfl
set_option maxRecDepth 4000 in
theorem k_X6_6_8 {M : pm} {Q : Option Value → pm → Prop} (hn : mN M = 6) (hr6_0 : mR M 6 0 = 7) (h : PW mX6_init 12 6 56 [.ref 6, .int 9] [] (u_X6_6_8 M) Q) : PW mX6_init 12 6 56 [.ref 6, .int 8] [] M Q := by
  refine PW.iload_n (pc := 56) dX6_init_56 rfl ?_
  refine PW.bipush (pc := 57) dX6_init_57 (v := 34) (by decide) ?_
  refine PW.icmp_ge (pc := 59) dX6_init_59 (t := 78) (by decide) (fun hc => ?_) (fun hc => ?_)
  · exact absurd hc (by decide)
  refine PW.aload_n (pc := 62) dX6_init_62 rfl ?_
  refine PW.getR (pc := 63) dX6_init_63 (r := 7) lf_X6_9 (obn (show mN M + 0 = 6 by omega) s_6 (by decide) (by decide)) fx_6_0 hr6_0 (by decide) ?_
  refine PW.iload_n (pc := 66) dX6_init_66 rfl ?_
  refine PW.iload_n (pc := 67) dX6_init_67 rfl ?_
  refine PW.ins (m' := mX6_packWord) (pc := 68) dX6_init_68 lm_X6_41 me_X6_packWord ms_X6_packWord (As := [.int 8]) (st := [.int 8, .ref 7]) rfl (Nat.le_of_ble_eq_true rfl) (Nat.le_of_ble_eq_true rfl) (Nat.le_refl _) (len_ (show mN M + 0 = 6 by omega) (by decide)) (PW.deep (by decide) (c_pkw 8 (by decide))) ?_
  rintro _ M1 ⟨rfl, h9⟩
  rw [h9]
  refine PW.iast (pc := 71) dX6_init_71 (arn (show mN M + 0 = 6 by omega) s_7 (by decide)) (vpl n_7 (vp_c (by decide))) ?_
  refine PW.iinc (pc := 72) dX6_init_72 (v := 9) (ls' := [.ref 6, .int 9]) rfl (by decide) (by decide) rfl rfl ?_
  refine PW.goto (pc := 75) dX6_init_75 (t := 56) (by decide) ?_
  exact h
def u_X6_6_9 (M : pm) : pm := sI M 7 9 (pkW 9)
theorem un_X6_6_9 (M : pm) : mN (u_X6_6_9 M) = mN M + 0 := rfl
set_option maxRecDepth 4000 in
theorem k_X6_6_9 {M : pm} {Q : Option Value → pm → Prop} (hn : mN M = 6) (hr6_0 : mR M 6 0 = 7) (h : PW mX6_init 12 6 56 [.ref 6, .int 10] [] (u_X6_6_9 M) Q) : PW mX6_init 12 6 56 [.ref 6, .int 9] [] M Q := by
  refine PW.iload_n (pc := 56) dX6_init_56 rfl ?_
  refine PW.bipush (pc := 57) dX6_init_57 (v := 34) (by decide) ?_
  refine PW.icmp_ge (pc := 59) dX6_init_59 (t := 78) (by decide) (fun hc => ?_) (fun hc => ?_)
  · exact absurd hc (by decide)
  refine PW.aload_n (pc := 62) dX6_init_62 rfl ?_
  refine PW.getR (pc := 63) dX6_init_63 (r := 7) lf_X6_9 (obn (show mN M + 0 = 6 by omega) s_6 (by decide) (by decide)) fx_6_0 hr6_0 (by decide) ?_
  refine PW.iload_n (pc := 66) dX6_init_66 rfl ?_
  refine PW.iload_n (pc := 67) dX6_init_67 rfl ?_
  refine PW.ins (m' := mX6_packWord) (pc := 68) dX6_init_68 lm_X6_41 me_X6_packWord ms_X6_packWord (As := [.int 9]) (st := [.int 9, .ref 7]) rfl (Nat.le_of_ble_eq_true rfl) (Nat.le_of_ble_eq_true rfl) (Nat.le_refl _) (len_ (show mN M + 0 = 6 by omega) (by decide)) (PW.deep (by decide) (c_pkw 9 (by decide))) ?_
  rintro _ M1 ⟨rfl, h9⟩
  rw [h9]
  refine PW.iast (pc := 71) dX6_init_71 (arn (show mN M + 0 = 6 by omega) s_7 (by decide)) (vpl n_7 (vp_c (by decide))) ?_
  refine PW.iinc (pc := 72) dX6_init_72 (v := 10) (ls' := [.ref 6, .int 10]) rfl (by decide) (by decide) rfl rfl ?_
  refine PW.goto (pc := 75) dX6_init_75 (t := 56) (by decide) ?_
  exact h
def u_X6_6_10 (M : pm) : pm := sI M 7 10 (pkW 10)
theorem un_X6_6_10 (M : pm) : mN (u_X6_6_10 M) = mN M + 0 := rfl
set_option maxRecDepth 4000 in
theorem k_X6_6_10 {M : pm} {Q : Option Value → pm → Prop} (hn : mN M = 6) (hr6_0 : mR M 6 0 = 7) (h : PW mX6_init 12 6 56 [.ref 6, .int 11] [] (u_X6_6_10 M) Q) : PW mX6_init 12 6 56 [.ref 6, .int 10] [] M Q := by
  refine PW.iload_n (pc := 56) dX6_init_56 rfl ?_
  refine PW.bipush (pc := 57) dX6_init_57 (v := 34) (by decide) ?_
  refine PW.icmp_ge (pc := 59) dX6_init_59 (t := 78) (by decide) (fun hc => ?_) (fun hc => ?_)
  · exact absurd hc (by decide)
  refine PW.aload_n (pc := 62) dX6_init_62 rfl ?_
  refine PW.getR (pc := 63) dX6_init_63 (r := 7) lf_X6_9 (obn (show mN M + 0 = 6 by omega) s_6 (by decide) (by decide)) fx_6_0 hr6_0 (by decide) ?_
  refine PW.iload_n (pc := 66) dX6_init_66 rfl ?_
  refine PW.iload_n (pc := 67) dX6_init_67 rfl ?_
  refine PW.ins (m' := mX6_packWord) (pc := 68) dX6_init_68 lm_X6_41 me_X6_packWord ms_X6_packWord (As := [.int 10]) (st := [.int 10, .ref 7]) rfl (Nat.le_of_ble_eq_true rfl) (Nat.le_of_ble_eq_true rfl) (Nat.le_refl _) (len_ (show mN M + 0 = 6 by omega) (by decide)) (PW.deep (by decide) (c_pkw 10 (by decide))) ?_
  rintro _ M1 ⟨rfl, h9⟩
  rw [h9]
  refine PW.iast (pc := 71) dX6_init_71 (arn (show mN M + 0 = 6 by omega) s_7 (by decide)) (vpl n_7 (vp_c (by decide))) ?_
  refine PW.iinc (pc := 72) dX6_init_72 (v := 11) (ls' := [.ref 6, .int 11]) rfl (by decide) (by decide) rfl rfl ?_
  refine PW.goto (pc := 75) dX6_init_75 (t := 56) (by decide) ?_
  exact h
def u_X6_6_11 (M : pm) : pm := sI M 7 11 (pkW 11)
theorem un_X6_6_11 (M : pm) : mN (u_X6_6_11 M) = mN M + 0 := rfl
set_option maxRecDepth 4000 in
theorem k_X6_6_11 {M : pm} {Q : Option Value → pm → Prop} (hn : mN M = 6) (hr6_0 : mR M 6 0 = 7) (h : PW mX6_init 12 6 56 [.ref 6, .int 12] [] (u_X6_6_11 M) Q) : PW mX6_init 12 6 56 [.ref 6, .int 11] [] M Q := by
  refine PW.iload_n (pc := 56) dX6_init_56 rfl ?_
  refine PW.bipush (pc := 57) dX6_init_57 (v := 34) (by decide) ?_
  refine PW.icmp_ge (pc := 59) dX6_init_59 (t := 78) (by decide) (fun hc => ?_) (fun hc => ?_)
  · exact absurd hc (by decide)
  refine PW.aload_n (pc := 62) dX6_init_62 rfl ?_
  refine PW.getR (pc := 63) dX6_init_63 (r := 7) lf_X6_9 (obn (show mN M + 0 = 6 by omega) s_6 (by decide) (by decide)) fx_6_0 hr6_0 (by decide) ?_
  refine PW.iload_n (pc := 66) dX6_init_66 rfl ?_
  refine PW.iload_n (pc := 67) dX6_init_67 rfl ?_
  refine PW.ins (m' := mX6_packWord) (pc := 68) dX6_init_68 lm_X6_41 me_X6_packWord ms_X6_packWord (As := [.int 11]) (st := [.int 11, .ref 7]) rfl (Nat.le_of_ble_eq_true rfl) (Nat.le_of_ble_eq_true rfl) (Nat.le_refl _) (len_ (show mN M + 0 = 6 by omega) (by decide)) (PW.deep (by decide) (c_pkw 11 (by decide))) ?_
  rintro _ M1 ⟨rfl, h9⟩
  rw [h9]
  refine PW.iast (pc := 71) dX6_init_71 (arn (show mN M + 0 = 6 by omega) s_7 (by decide)) (vpl n_7 (vp_c (by decide))) ?_
  refine PW.iinc (pc := 72) dX6_init_72 (v := 12) (ls' := [.ref 6, .int 12]) rfl (by decide) (by decide) rfl rfl ?_
  refine PW.goto (pc := 75) dX6_init_75 (t := 56) (by decide) ?_
  exact h
def u_X6_6_12 (M : pm) : pm := sI M 7 12 (pkW 12)
theorem un_X6_6_12 (M : pm) : mN (u_X6_6_12 M) = mN M + 0 := rfl
set_option maxRecDepth 4000 in
theorem k_X6_6_12 {M : pm} {Q : Option Value → pm → Prop} (hn : mN M = 6) (hr6_0 : mR M 6 0 = 7) (h : PW mX6_init 12 6 56 [.ref 6, .int 13] [] (u_X6_6_12 M) Q) : PW mX6_init 12 6 56 [.ref 6, .int 12] [] M Q := by
  refine PW.iload_n (pc := 56) dX6_init_56 rfl ?_
  refine PW.bipush (pc := 57) dX6_init_57 (v := 34) (by decide) ?_
  refine PW.icmp_ge (pc := 59) dX6_init_59 (t := 78) (by decide) (fun hc => ?_) (fun hc => ?_)
  · exact absurd hc (by decide)
  refine PW.aload_n (pc := 62) dX6_init_62 rfl ?_
  refine PW.getR (pc := 63) dX6_init_63 (r := 7) lf_X6_9 (obn (show mN M + 0 = 6 by omega) s_6 (by decide) (by decide)) fx_6_0 hr6_0 (by decide) ?_
  refine PW.iload_n (pc := 66) dX6_init_66 rfl ?_
  refine PW.iload_n (pc := 67) dX6_init_67 rfl ?_
  refine PW.ins (m' := mX6_packWord) (pc := 68) dX6_init_68 lm_X6_41 me_X6_packWord ms_X6_packWord (As := [.int 12]) (st := [.int 12, .ref 7]) rfl (Nat.le_of_ble_eq_true rfl) (Nat.le_of_ble_eq_true rfl) (Nat.le_refl _) (len_ (show mN M + 0 = 6 by omega) (by decide)) (PW.deep (by decide) (c_pkw 12 (by decide))) ?_
  rintro _ M1 ⟨rfl, h9⟩
  rw [h9]
  refine PW.iast (pc := 71) dX6_init_71 (arn (show mN M + 0 = 6 by omega) s_7 (by decide)) (vpl n_7 (vp_c (by decide))) ?_
  refine PW.iinc (pc := 72) dX6_init_72 (v := 13) (ls' := [.ref 6, .int 13]) rfl (by decide) (by decide) rfl rfl ?_
  refine PW.goto (pc := 75) dX6_init_75 (t := 56) (by decide) ?_
  exact h
def u_X6_6_13 (M : pm) : pm := sI M 7 13 (pkW 13)
theorem un_X6_6_13 (M : pm) : mN (u_X6_6_13 M) = mN M + 0 := rfl
set_option maxRecDepth 4000 in
theorem k_X6_6_13 {M : pm} {Q : Option Value → pm → Prop} (hn : mN M = 6) (hr6_0 : mR M 6 0 = 7) (h : PW mX6_init 12 6 56 [.ref 6, .int 14] [] (u_X6_6_13 M) Q) : PW mX6_init 12 6 56 [.ref 6, .int 13] [] M Q := by
  refine PW.iload_n (pc := 56) dX6_init_56 rfl ?_
  refine PW.bipush (pc := 57) dX6_init_57 (v := 34) (by decide) ?_
  refine PW.icmp_ge (pc := 59) dX6_init_59 (t := 78) (by decide) (fun hc => ?_) (fun hc => ?_)
  · exact absurd hc (by decide)
  refine PW.aload_n (pc := 62) dX6_init_62 rfl ?_
  refine PW.getR (pc := 63) dX6_init_63 (r := 7) lf_X6_9 (obn (show mN M + 0 = 6 by omega) s_6 (by decide) (by decide)) fx_6_0 hr6_0 (by decide) ?_
  refine PW.iload_n (pc := 66) dX6_init_66 rfl ?_
  refine PW.iload_n (pc := 67) dX6_init_67 rfl ?_
  refine PW.ins (m' := mX6_packWord) (pc := 68) dX6_init_68 lm_X6_41 me_X6_packWord ms_X6_packWord (As := [.int 13]) (st := [.int 13, .ref 7]) rfl (Nat.le_of_ble_eq_true rfl) (Nat.le_of_ble_eq_true rfl) (Nat.le_refl _) (len_ (show mN M + 0 = 6 by omega) (by decide)) (PW.deep (by decide) (c_pkw 13 (by decide))) ?_
  rintro _ M1 ⟨rfl, h9⟩
  rw [h9]
  refine PW.iast (pc := 71) dX6_init_71 (arn (show mN M + 0 = 6 by omega) s_7 (by decide)) (vpl n_7 (vp_c (by decide))) ?_
  refine PW.iinc (pc := 72) dX6_init_72 (v := 14) (ls' := [.ref 6, .int 14]) rfl (by decide) (by decide) rfl rfl ?_
  refine PW.goto (pc := 75) dX6_init_75 (t := 56) (by decide) ?_
  exact h
def u_X6_6_14 (M : pm) : pm := sI M 7 14 (pkW 14)
theorem un_X6_6_14 (M : pm) : mN (u_X6_6_14 M) = mN M + 0 := rfl
set_option maxRecDepth 4000 in
theorem k_X6_6_14 {M : pm} {Q : Option Value → pm → Prop} (hn : mN M = 6) (hr6_0 : mR M 6 0 = 7) (h : PW mX6_init 12 6 56 [.ref 6, .int 15] [] (u_X6_6_14 M) Q) : PW mX6_init 12 6 56 [.ref 6, .int 14] [] M Q := by
  refine PW.iload_n (pc := 56) dX6_init_56 rfl ?_
  refine PW.bipush (pc := 57) dX6_init_57 (v := 34) (by decide) ?_
  refine PW.icmp_ge (pc := 59) dX6_init_59 (t := 78) (by decide) (fun hc => ?_) (fun hc => ?_)
  · exact absurd hc (by decide)
  refine PW.aload_n (pc := 62) dX6_init_62 rfl ?_
  refine PW.getR (pc := 63) dX6_init_63 (r := 7) lf_X6_9 (obn (show mN M + 0 = 6 by omega) s_6 (by decide) (by decide)) fx_6_0 hr6_0 (by decide) ?_
  refine PW.iload_n (pc := 66) dX6_init_66 rfl ?_
  refine PW.iload_n (pc := 67) dX6_init_67 rfl ?_
  refine PW.ins (m' := mX6_packWord) (pc := 68) dX6_init_68 lm_X6_41 me_X6_packWord ms_X6_packWord (As := [.int 14]) (st := [.int 14, .ref 7]) rfl (Nat.le_of_ble_eq_true rfl) (Nat.le_of_ble_eq_true rfl) (Nat.le_refl _) (len_ (show mN M + 0 = 6 by omega) (by decide)) (PW.deep (by decide) (c_pkw 14 (by decide))) ?_
  rintro _ M1 ⟨rfl, h9⟩
  rw [h9]
  refine PW.iast (pc := 71) dX6_init_71 (arn (show mN M + 0 = 6 by omega) s_7 (by decide)) (vpl n_7 (vp_c (by decide))) ?_
  refine PW.iinc (pc := 72) dX6_init_72 (v := 15) (ls' := [.ref 6, .int 15]) rfl (by decide) (by decide) rfl rfl ?_
  refine PW.goto (pc := 75) dX6_init_75 (t := 56) (by decide) ?_
  exact h
def u_X6_6_15 (M : pm) : pm := sI M 7 15 (pkW 15)
theorem un_X6_6_15 (M : pm) : mN (u_X6_6_15 M) = mN M + 0 := rfl
set_option maxRecDepth 4000 in
theorem k_X6_6_15 {M : pm} {Q : Option Value → pm → Prop} (hn : mN M = 6) (hr6_0 : mR M 6 0 = 7) (h : PW mX6_init 12 6 56 [.ref 6, .int 16] [] (u_X6_6_15 M) Q) : PW mX6_init 12 6 56 [.ref 6, .int 15] [] M Q := by
  refine PW.iload_n (pc := 56) dX6_init_56 rfl ?_
  refine PW.bipush (pc := 57) dX6_init_57 (v := 34) (by decide) ?_
  refine PW.icmp_ge (pc := 59) dX6_init_59 (t := 78) (by decide) (fun hc => ?_) (fun hc => ?_)
  · exact absurd hc (by decide)
  refine PW.aload_n (pc := 62) dX6_init_62 rfl ?_
  refine PW.getR (pc := 63) dX6_init_63 (r := 7) lf_X6_9 (obn (show mN M + 0 = 6 by omega) s_6 (by decide) (by decide)) fx_6_0 hr6_0 (by decide) ?_
  refine PW.iload_n (pc := 66) dX6_init_66 rfl ?_
  refine PW.iload_n (pc := 67) dX6_init_67 rfl ?_
  refine PW.ins (m' := mX6_packWord) (pc := 68) dX6_init_68 lm_X6_41 me_X6_packWord ms_X6_packWord (As := [.int 15]) (st := [.int 15, .ref 7]) rfl (Nat.le_of_ble_eq_true rfl) (Nat.le_of_ble_eq_true rfl) (Nat.le_refl _) (len_ (show mN M + 0 = 6 by omega) (by decide)) (PW.deep (by decide) (c_pkw 15 (by decide))) ?_
  rintro _ M1 ⟨rfl, h9⟩
  rw [h9]
  refine PW.iast (pc := 71) dX6_init_71 (arn (show mN M + 0 = 6 by omega) s_7 (by decide)) (vpl n_7 (vp_c (by decide))) ?_
  refine PW.iinc (pc := 72) dX6_init_72 (v := 16) (ls' := [.ref 6, .int 16]) rfl (by decide) (by decide) rfl rfl ?_
  refine PW.goto (pc := 75) dX6_init_75 (t := 56) (by decide) ?_
  exact h
def u_X6_6_16 (M : pm) : pm := sI M 7 16 (pkW 16)
theorem un_X6_6_16 (M : pm) : mN (u_X6_6_16 M) = mN M + 0 := rfl
set_option maxRecDepth 4000 in
theorem k_X6_6_16 {M : pm} {Q : Option Value → pm → Prop} (hn : mN M = 6) (hr6_0 : mR M 6 0 = 7) (h : PW mX6_init 12 6 56 [.ref 6, .int 17] [] (u_X6_6_16 M) Q) : PW mX6_init 12 6 56 [.ref 6, .int 16] [] M Q := by
  refine PW.iload_n (pc := 56) dX6_init_56 rfl ?_
  refine PW.bipush (pc := 57) dX6_init_57 (v := 34) (by decide) ?_
  refine PW.icmp_ge (pc := 59) dX6_init_59 (t := 78) (by decide) (fun hc => ?_) (fun hc => ?_)
  · exact absurd hc (by decide)
  refine PW.aload_n (pc := 62) dX6_init_62 rfl ?_
  refine PW.getR (pc := 63) dX6_init_63 (r := 7) lf_X6_9 (obn (show mN M + 0 = 6 by omega) s_6 (by decide) (by decide)) fx_6_0 hr6_0 (by decide) ?_
  refine PW.iload_n (pc := 66) dX6_init_66 rfl ?_
  refine PW.iload_n (pc := 67) dX6_init_67 rfl ?_
  refine PW.ins (m' := mX6_packWord) (pc := 68) dX6_init_68 lm_X6_41 me_X6_packWord ms_X6_packWord (As := [.int 16]) (st := [.int 16, .ref 7]) rfl (Nat.le_of_ble_eq_true rfl) (Nat.le_of_ble_eq_true rfl) (Nat.le_refl _) (len_ (show mN M + 0 = 6 by omega) (by decide)) (PW.deep (by decide) (c_pkw 16 (by decide))) ?_
  rintro _ M1 ⟨rfl, h9⟩
  rw [h9]
  refine PW.iast (pc := 71) dX6_init_71 (arn (show mN M + 0 = 6 by omega) s_7 (by decide)) (vpl n_7 (vp_c (by decide))) ?_
  refine PW.iinc (pc := 72) dX6_init_72 (v := 17) (ls' := [.ref 6, .int 17]) rfl (by decide) (by decide) rfl rfl ?_
  refine PW.goto (pc := 75) dX6_init_75 (t := 56) (by decide) ?_
  exact h
def u_X6_6_17 (M : pm) : pm := sI M 7 17 (pkW 17)
theorem un_X6_6_17 (M : pm) : mN (u_X6_6_17 M) = mN M + 0 := rfl
set_option maxRecDepth 4000 in
theorem k_X6_6_17 {M : pm} {Q : Option Value → pm → Prop} (hn : mN M = 6) (hr6_0 : mR M 6 0 = 7) (h : PW mX6_init 12 6 56 [.ref 6, .int 18] [] (u_X6_6_17 M) Q) : PW mX6_init 12 6 56 [.ref 6, .int 17] [] M Q := by
  refine PW.iload_n (pc := 56) dX6_init_56 rfl ?_
  refine PW.bipush (pc := 57) dX6_init_57 (v := 34) (by decide) ?_
  refine PW.icmp_ge (pc := 59) dX6_init_59 (t := 78) (by decide) (fun hc => ?_) (fun hc => ?_)
  · exact absurd hc (by decide)
  refine PW.aload_n (pc := 62) dX6_init_62 rfl ?_
  refine PW.getR (pc := 63) dX6_init_63 (r := 7) lf_X6_9 (obn (show mN M + 0 = 6 by omega) s_6 (by decide) (by decide)) fx_6_0 hr6_0 (by decide) ?_
  refine PW.iload_n (pc := 66) dX6_init_66 rfl ?_
  refine PW.iload_n (pc := 67) dX6_init_67 rfl ?_
  refine PW.ins (m' := mX6_packWord) (pc := 68) dX6_init_68 lm_X6_41 me_X6_packWord ms_X6_packWord (As := [.int 17]) (st := [.int 17, .ref 7]) rfl (Nat.le_of_ble_eq_true rfl) (Nat.le_of_ble_eq_true rfl) (Nat.le_refl _) (len_ (show mN M + 0 = 6 by omega) (by decide)) (PW.deep (by decide) (c_pkw 17 (by decide))) ?_
  rintro _ M1 ⟨rfl, h9⟩
  rw [h9]
  refine PW.iast (pc := 71) dX6_init_71 (arn (show mN M + 0 = 6 by omega) s_7 (by decide)) (vpl n_7 (vp_c (by decide))) ?_
  refine PW.iinc (pc := 72) dX6_init_72 (v := 18) (ls' := [.ref 6, .int 18]) rfl (by decide) (by decide) rfl rfl ?_
  refine PW.goto (pc := 75) dX6_init_75 (t := 56) (by decide) ?_
  exact h
def u_X6_6_18 (M : pm) : pm := sI M 7 18 (pkW 18)
theorem un_X6_6_18 (M : pm) : mN (u_X6_6_18 M) = mN M + 0 := rfl
set_option maxRecDepth 4000 in
theorem k_X6_6_18 {M : pm} {Q : Option Value → pm → Prop} (hn : mN M = 6) (hr6_0 : mR M 6 0 = 7) (h : PW mX6_init 12 6 56 [.ref 6, .int 19] [] (u_X6_6_18 M) Q) : PW mX6_init 12 6 56 [.ref 6, .int 18] [] M Q := by
  refine PW.iload_n (pc := 56) dX6_init_56 rfl ?_
  refine PW.bipush (pc := 57) dX6_init_57 (v := 34) (by decide) ?_
  refine PW.icmp_ge (pc := 59) dX6_init_59 (t := 78) (by decide) (fun hc => ?_) (fun hc => ?_)
  · exact absurd hc (by decide)
  refine PW.aload_n (pc := 62) dX6_init_62 rfl ?_
  refine PW.getR (pc := 63) dX6_init_63 (r := 7) lf_X6_9 (obn (show mN M + 0 = 6 by omega) s_6 (by decide) (by decide)) fx_6_0 hr6_0 (by decide) ?_
  refine PW.iload_n (pc := 66) dX6_init_66 rfl ?_
  refine PW.iload_n (pc := 67) dX6_init_67 rfl ?_
  refine PW.ins (m' := mX6_packWord) (pc := 68) dX6_init_68 lm_X6_41 me_X6_packWord ms_X6_packWord (As := [.int 18]) (st := [.int 18, .ref 7]) rfl (Nat.le_of_ble_eq_true rfl) (Nat.le_of_ble_eq_true rfl) (Nat.le_refl _) (len_ (show mN M + 0 = 6 by omega) (by decide)) (PW.deep (by decide) (c_pkw 18 (by decide))) ?_
  rintro _ M1 ⟨rfl, h9⟩
  rw [h9]
  refine PW.iast (pc := 71) dX6_init_71 (arn (show mN M + 0 = 6 by omega) s_7 (by decide)) (vpl n_7 (vp_c (by decide))) ?_
  refine PW.iinc (pc := 72) dX6_init_72 (v := 19) (ls' := [.ref 6, .int 19]) rfl (by decide) (by decide) rfl rfl ?_
  refine PW.goto (pc := 75) dX6_init_75 (t := 56) (by decide) ?_
  exact h
def u_X6_6_19 (M : pm) : pm := sI M 7 19 (pkW 19)
theorem un_X6_6_19 (M : pm) : mN (u_X6_6_19 M) = mN M + 0 := rfl
set_option maxRecDepth 4000 in
theorem k_X6_6_19 {M : pm} {Q : Option Value → pm → Prop} (hn : mN M = 6) (hr6_0 : mR M 6 0 = 7) (h : PW mX6_init 12 6 56 [.ref 6, .int 20] [] (u_X6_6_19 M) Q) : PW mX6_init 12 6 56 [.ref 6, .int 19] [] M Q := by
  refine PW.iload_n (pc := 56) dX6_init_56 rfl ?_
  refine PW.bipush (pc := 57) dX6_init_57 (v := 34) (by decide) ?_
  refine PW.icmp_ge (pc := 59) dX6_init_59 (t := 78) (by decide) (fun hc => ?_) (fun hc => ?_)
  · exact absurd hc (by decide)
  refine PW.aload_n (pc := 62) dX6_init_62 rfl ?_
  refine PW.getR (pc := 63) dX6_init_63 (r := 7) lf_X6_9 (obn (show mN M + 0 = 6 by omega) s_6 (by decide) (by decide)) fx_6_0 hr6_0 (by decide) ?_
  refine PW.iload_n (pc := 66) dX6_init_66 rfl ?_
  refine PW.iload_n (pc := 67) dX6_init_67 rfl ?_
  refine PW.ins (m' := mX6_packWord) (pc := 68) dX6_init_68 lm_X6_41 me_X6_packWord ms_X6_packWord (As := [.int 19]) (st := [.int 19, .ref 7]) rfl (Nat.le_of_ble_eq_true rfl) (Nat.le_of_ble_eq_true rfl) (Nat.le_refl _) (len_ (show mN M + 0 = 6 by omega) (by decide)) (PW.deep (by decide) (c_pkw 19 (by decide))) ?_
  rintro _ M1 ⟨rfl, h9⟩
  rw [h9]
  refine PW.iast (pc := 71) dX6_init_71 (arn (show mN M + 0 = 6 by omega) s_7 (by decide)) (vpl n_7 (vp_c (by decide))) ?_
  refine PW.iinc (pc := 72) dX6_init_72 (v := 20) (ls' := [.ref 6, .int 20]) rfl (by decide) (by decide) rfl rfl ?_
  refine PW.goto (pc := 75) dX6_init_75 (t := 56) (by decide) ?_
  exact h
def u_X6_6_20 (M : pm) : pm := sI M 7 20 (pkW 20)
theorem un_X6_6_20 (M : pm) : mN (u_X6_6_20 M) = mN M + 0 := rfl
set_option maxRecDepth 4000 in
theorem k_X6_6_20 {M : pm} {Q : Option Value → pm → Prop} (hn : mN M = 6) (hr6_0 : mR M 6 0 = 7) (h : PW mX6_init 12 6 56 [.ref 6, .int 21] [] (u_X6_6_20 M) Q) : PW mX6_init 12 6 56 [.ref 6, .int 20] [] M Q := by
  refine PW.iload_n (pc := 56) dX6_init_56 rfl ?_
  refine PW.bipush (pc := 57) dX6_init_57 (v := 34) (by decide) ?_
  refine PW.icmp_ge (pc := 59) dX6_init_59 (t := 78) (by decide) (fun hc => ?_) (fun hc => ?_)
  · exact absurd hc (by decide)
  refine PW.aload_n (pc := 62) dX6_init_62 rfl ?_
  refine PW.getR (pc := 63) dX6_init_63 (r := 7) lf_X6_9 (obn (show mN M + 0 = 6 by omega) s_6 (by decide) (by decide)) fx_6_0 hr6_0 (by decide) ?_
  refine PW.iload_n (pc := 66) dX6_init_66 rfl ?_
  refine PW.iload_n (pc := 67) dX6_init_67 rfl ?_
  refine PW.ins (m' := mX6_packWord) (pc := 68) dX6_init_68 lm_X6_41 me_X6_packWord ms_X6_packWord (As := [.int 20]) (st := [.int 20, .ref 7]) rfl (Nat.le_of_ble_eq_true rfl) (Nat.le_of_ble_eq_true rfl) (Nat.le_refl _) (len_ (show mN M + 0 = 6 by omega) (by decide)) (PW.deep (by decide) (c_pkw 20 (by decide))) ?_
  rintro _ M1 ⟨rfl, h9⟩
  rw [h9]
  refine PW.iast (pc := 71) dX6_init_71 (arn (show mN M + 0 = 6 by omega) s_7 (by decide)) (vpl n_7 (vp_c (by decide))) ?_
  refine PW.iinc (pc := 72) dX6_init_72 (v := 21) (ls' := [.ref 6, .int 21]) rfl (by decide) (by decide) rfl rfl ?_
  refine PW.goto (pc := 75) dX6_init_75 (t := 56) (by decide) ?_
  exact h
def u_X6_6_21 (M : pm) : pm := sI M 7 21 (pkW 21)
theorem un_X6_6_21 (M : pm) : mN (u_X6_6_21 M) = mN M + 0 := rfl
set_option maxRecDepth 4000 in
theorem k_X6_6_21 {M : pm} {Q : Option Value → pm → Prop} (hn : mN M = 6) (hr6_0 : mR M 6 0 = 7) (h : PW mX6_init 12 6 56 [.ref 6, .int 22] [] (u_X6_6_21 M) Q) : PW mX6_init 12 6 56 [.ref 6, .int 21] [] M Q := by
  refine PW.iload_n (pc := 56) dX6_init_56 rfl ?_
  refine PW.bipush (pc := 57) dX6_init_57 (v := 34) (by decide) ?_
  refine PW.icmp_ge (pc := 59) dX6_init_59 (t := 78) (by decide) (fun hc => ?_) (fun hc => ?_)
  · exact absurd hc (by decide)
  refine PW.aload_n (pc := 62) dX6_init_62 rfl ?_
  refine PW.getR (pc := 63) dX6_init_63 (r := 7) lf_X6_9 (obn (show mN M + 0 = 6 by omega) s_6 (by decide) (by decide)) fx_6_0 hr6_0 (by decide) ?_
  refine PW.iload_n (pc := 66) dX6_init_66 rfl ?_
  refine PW.iload_n (pc := 67) dX6_init_67 rfl ?_
  refine PW.ins (m' := mX6_packWord) (pc := 68) dX6_init_68 lm_X6_41 me_X6_packWord ms_X6_packWord (As := [.int 21]) (st := [.int 21, .ref 7]) rfl (Nat.le_of_ble_eq_true rfl) (Nat.le_of_ble_eq_true rfl) (Nat.le_refl _) (len_ (show mN M + 0 = 6 by omega) (by decide)) (PW.deep (by decide) (c_pkw 21 (by decide))) ?_
  rintro _ M1 ⟨rfl, h9⟩
  rw [h9]
  refine PW.iast (pc := 71) dX6_init_71 (arn (show mN M + 0 = 6 by omega) s_7 (by decide)) (vpl n_7 (vp_c (by decide))) ?_
  refine PW.iinc (pc := 72) dX6_init_72 (v := 22) (ls' := [.ref 6, .int 22]) rfl (by decide) (by decide) rfl rfl ?_
  refine PW.goto (pc := 75) dX6_init_75 (t := 56) (by decide) ?_
  exact h
def u_X6_6_22 (M : pm) : pm := sI M 7 22 (pkW 22)
theorem un_X6_6_22 (M : pm) : mN (u_X6_6_22 M) = mN M + 0 := rfl
set_option maxRecDepth 4000 in
theorem k_X6_6_22 {M : pm} {Q : Option Value → pm → Prop} (hn : mN M = 6) (hr6_0 : mR M 6 0 = 7) (h : PW mX6_init 12 6 56 [.ref 6, .int 23] [] (u_X6_6_22 M) Q) : PW mX6_init 12 6 56 [.ref 6, .int 22] [] M Q := by
  refine PW.iload_n (pc := 56) dX6_init_56 rfl ?_
  refine PW.bipush (pc := 57) dX6_init_57 (v := 34) (by decide) ?_
  refine PW.icmp_ge (pc := 59) dX6_init_59 (t := 78) (by decide) (fun hc => ?_) (fun hc => ?_)
  · exact absurd hc (by decide)
  refine PW.aload_n (pc := 62) dX6_init_62 rfl ?_
  refine PW.getR (pc := 63) dX6_init_63 (r := 7) lf_X6_9 (obn (show mN M + 0 = 6 by omega) s_6 (by decide) (by decide)) fx_6_0 hr6_0 (by decide) ?_
  refine PW.iload_n (pc := 66) dX6_init_66 rfl ?_
  refine PW.iload_n (pc := 67) dX6_init_67 rfl ?_
  refine PW.ins (m' := mX6_packWord) (pc := 68) dX6_init_68 lm_X6_41 me_X6_packWord ms_X6_packWord (As := [.int 22]) (st := [.int 22, .ref 7]) rfl (Nat.le_of_ble_eq_true rfl) (Nat.le_of_ble_eq_true rfl) (Nat.le_refl _) (len_ (show mN M + 0 = 6 by omega) (by decide)) (PW.deep (by decide) (c_pkw 22 (by decide))) ?_
  rintro _ M1 ⟨rfl, h9⟩
  rw [h9]
  refine PW.iast (pc := 71) dX6_init_71 (arn (show mN M + 0 = 6 by omega) s_7 (by decide)) (vpl n_7 (vp_c (by decide))) ?_
  refine PW.iinc (pc := 72) dX6_init_72 (v := 23) (ls' := [.ref 6, .int 23]) rfl (by decide) (by decide) rfl rfl ?_
  refine PW.goto (pc := 75) dX6_init_75 (t := 56) (by decide) ?_
  exact h
def u_X6_6_23 (M : pm) : pm := sI M 7 23 (pkW 23)
theorem un_X6_6_23 (M : pm) : mN (u_X6_6_23 M) = mN M + 0 := rfl
set_option maxRecDepth 4000 in
theorem k_X6_6_23 {M : pm} {Q : Option Value → pm → Prop} (hn : mN M = 6) (hr6_0 : mR M 6 0 = 7) (h : PW mX6_init 12 6 56 [.ref 6, .int 24] [] (u_X6_6_23 M) Q) : PW mX6_init 12 6 56 [.ref 6, .int 23] [] M Q := by
  refine PW.iload_n (pc := 56) dX6_init_56 rfl ?_
  refine PW.bipush (pc := 57) dX6_init_57 (v := 34) (by decide) ?_
  refine PW.icmp_ge (pc := 59) dX6_init_59 (t := 78) (by decide) (fun hc => ?_) (fun hc => ?_)
  · exact absurd hc (by decide)
  refine PW.aload_n (pc := 62) dX6_init_62 rfl ?_
  refine PW.getR (pc := 63) dX6_init_63 (r := 7) lf_X6_9 (obn (show mN M + 0 = 6 by omega) s_6 (by decide) (by decide)) fx_6_0 hr6_0 (by decide) ?_
  refine PW.iload_n (pc := 66) dX6_init_66 rfl ?_
  refine PW.iload_n (pc := 67) dX6_init_67 rfl ?_
  refine PW.ins (m' := mX6_packWord) (pc := 68) dX6_init_68 lm_X6_41 me_X6_packWord ms_X6_packWord (As := [.int 23]) (st := [.int 23, .ref 7]) rfl (Nat.le_of_ble_eq_true rfl) (Nat.le_of_ble_eq_true rfl) (Nat.le_refl _) (len_ (show mN M + 0 = 6 by omega) (by decide)) (PW.deep (by decide) (c_pkw 23 (by decide))) ?_
  rintro _ M1 ⟨rfl, h9⟩
  rw [h9]
  refine PW.iast (pc := 71) dX6_init_71 (arn (show mN M + 0 = 6 by omega) s_7 (by decide)) (vpl n_7 (vp_c (by decide))) ?_
  refine PW.iinc (pc := 72) dX6_init_72 (v := 24) (ls' := [.ref 6, .int 24]) rfl (by decide) (by decide) rfl rfl ?_
  refine PW.goto (pc := 75) dX6_init_75 (t := 56) (by decide) ?_
  exact h
def u_X6_6_24 (M : pm) : pm := sI M 7 24 (pkW 24)
theorem un_X6_6_24 (M : pm) : mN (u_X6_6_24 M) = mN M + 0 := rfl
set_option maxRecDepth 4000 in
theorem k_X6_6_24 {M : pm} {Q : Option Value → pm → Prop} (hn : mN M = 6) (hr6_0 : mR M 6 0 = 7) (h : PW mX6_init 12 6 56 [.ref 6, .int 25] [] (u_X6_6_24 M) Q) : PW mX6_init 12 6 56 [.ref 6, .int 24] [] M Q := by
  refine PW.iload_n (pc := 56) dX6_init_56 rfl ?_
  refine PW.bipush (pc := 57) dX6_init_57 (v := 34) (by decide) ?_
  refine PW.icmp_ge (pc := 59) dX6_init_59 (t := 78) (by decide) (fun hc => ?_) (fun hc => ?_)
  · exact absurd hc (by decide)
  refine PW.aload_n (pc := 62) dX6_init_62 rfl ?_
  refine PW.getR (pc := 63) dX6_init_63 (r := 7) lf_X6_9 (obn (show mN M + 0 = 6 by omega) s_6 (by decide) (by decide)) fx_6_0 hr6_0 (by decide) ?_
  refine PW.iload_n (pc := 66) dX6_init_66 rfl ?_
  refine PW.iload_n (pc := 67) dX6_init_67 rfl ?_
  refine PW.ins (m' := mX6_packWord) (pc := 68) dX6_init_68 lm_X6_41 me_X6_packWord ms_X6_packWord (As := [.int 24]) (st := [.int 24, .ref 7]) rfl (Nat.le_of_ble_eq_true rfl) (Nat.le_of_ble_eq_true rfl) (Nat.le_refl _) (len_ (show mN M + 0 = 6 by omega) (by decide)) (PW.deep (by decide) (c_pkw 24 (by decide))) ?_
  rintro _ M1 ⟨rfl, h9⟩
  rw [h9]
  refine PW.iast (pc := 71) dX6_init_71 (arn (show mN M + 0 = 6 by omega) s_7 (by decide)) (vpl n_7 (vp_c (by decide))) ?_
  refine PW.iinc (pc := 72) dX6_init_72 (v := 25) (ls' := [.ref 6, .int 25]) rfl (by decide) (by decide) rfl rfl ?_
  refine PW.goto (pc := 75) dX6_init_75 (t := 56) (by decide) ?_
  exact h
def u_X6_6_25 (M : pm) : pm := sI M 7 25 (pkW 25)
theorem un_X6_6_25 (M : pm) : mN (u_X6_6_25 M) = mN M + 0 := rfl
set_option maxRecDepth 4000 in
theorem k_X6_6_25 {M : pm} {Q : Option Value → pm → Prop} (hn : mN M = 6) (hr6_0 : mR M 6 0 = 7) (h : PW mX6_init 12 6 56 [.ref 6, .int 26] [] (u_X6_6_25 M) Q) : PW mX6_init 12 6 56 [.ref 6, .int 25] [] M Q := by
  refine PW.iload_n (pc := 56) dX6_init_56 rfl ?_
  refine PW.bipush (pc := 57) dX6_init_57 (v := 34) (by decide) ?_
  refine PW.icmp_ge (pc := 59) dX6_init_59 (t := 78) (by decide) (fun hc => ?_) (fun hc => ?_)
  · exact absurd hc (by decide)
  refine PW.aload_n (pc := 62) dX6_init_62 rfl ?_
  refine PW.getR (pc := 63) dX6_init_63 (r := 7) lf_X6_9 (obn (show mN M + 0 = 6 by omega) s_6 (by decide) (by decide)) fx_6_0 hr6_0 (by decide) ?_
  refine PW.iload_n (pc := 66) dX6_init_66 rfl ?_
  refine PW.iload_n (pc := 67) dX6_init_67 rfl ?_
  refine PW.ins (m' := mX6_packWord) (pc := 68) dX6_init_68 lm_X6_41 me_X6_packWord ms_X6_packWord (As := [.int 25]) (st := [.int 25, .ref 7]) rfl (Nat.le_of_ble_eq_true rfl) (Nat.le_of_ble_eq_true rfl) (Nat.le_refl _) (len_ (show mN M + 0 = 6 by omega) (by decide)) (PW.deep (by decide) (c_pkw 25 (by decide))) ?_
  rintro _ M1 ⟨rfl, h9⟩
  rw [h9]
  refine PW.iast (pc := 71) dX6_init_71 (arn (show mN M + 0 = 6 by omega) s_7 (by decide)) (vpl n_7 (vp_c (by decide))) ?_
  refine PW.iinc (pc := 72) dX6_init_72 (v := 26) (ls' := [.ref 6, .int 26]) rfl (by decide) (by decide) rfl rfl ?_
  refine PW.goto (pc := 75) dX6_init_75 (t := 56) (by decide) ?_
  exact h
def u_X6_6_26 (M : pm) : pm := sI M 7 26 (pkW 26)
theorem un_X6_6_26 (M : pm) : mN (u_X6_6_26 M) = mN M + 0 := rfl
set_option maxRecDepth 4000 in
theorem k_X6_6_26 {M : pm} {Q : Option Value → pm → Prop} (hn : mN M = 6) (hr6_0 : mR M 6 0 = 7) (h : PW mX6_init 12 6 56 [.ref 6, .int 27] [] (u_X6_6_26 M) Q) : PW mX6_init 12 6 56 [.ref 6, .int 26] [] M Q := by
  refine PW.iload_n (pc := 56) dX6_init_56 rfl ?_
  refine PW.bipush (pc := 57) dX6_init_57 (v := 34) (by decide) ?_
  refine PW.icmp_ge (pc := 59) dX6_init_59 (t := 78) (by decide) (fun hc => ?_) (fun hc => ?_)
  · exact absurd hc (by decide)
  refine PW.aload_n (pc := 62) dX6_init_62 rfl ?_
  refine PW.getR (pc := 63) dX6_init_63 (r := 7) lf_X6_9 (obn (show mN M + 0 = 6 by omega) s_6 (by decide) (by decide)) fx_6_0 hr6_0 (by decide) ?_
  refine PW.iload_n (pc := 66) dX6_init_66 rfl ?_
  refine PW.iload_n (pc := 67) dX6_init_67 rfl ?_
  refine PW.ins (m' := mX6_packWord) (pc := 68) dX6_init_68 lm_X6_41 me_X6_packWord ms_X6_packWord (As := [.int 26]) (st := [.int 26, .ref 7]) rfl (Nat.le_of_ble_eq_true rfl) (Nat.le_of_ble_eq_true rfl) (Nat.le_refl _) (len_ (show mN M + 0 = 6 by omega) (by decide)) (PW.deep (by decide) (c_pkw 26 (by decide))) ?_
  rintro _ M1 ⟨rfl, h9⟩
  rw [h9]
  refine PW.iast (pc := 71) dX6_init_71 (arn (show mN M + 0 = 6 by omega) s_7 (by decide)) (vpl n_7 (vp_c (by decide))) ?_
  refine PW.iinc (pc := 72) dX6_init_72 (v := 27) (ls' := [.ref 6, .int 27]) rfl (by decide) (by decide) rfl rfl ?_
  refine PW.goto (pc := 75) dX6_init_75 (t := 56) (by decide) ?_
  exact h
def u_X6_6_27 (M : pm) : pm := sI M 7 27 (pkW 27)
theorem un_X6_6_27 (M : pm) : mN (u_X6_6_27 M) = mN M + 0 := rfl
set_option maxRecDepth 4000 in
theorem k_X6_6_27 {M : pm} {Q : Option Value → pm → Prop} (hn : mN M = 6) (hr6_0 : mR M 6 0 = 7) (h : PW mX6_init 12 6 56 [.ref 6, .int 28] [] (u_X6_6_27 M) Q) : PW mX6_init 12 6 56 [.ref 6, .int 27] [] M Q := by
  refine PW.iload_n (pc := 56) dX6_init_56 rfl ?_
  refine PW.bipush (pc := 57) dX6_init_57 (v := 34) (by decide) ?_
  refine PW.icmp_ge (pc := 59) dX6_init_59 (t := 78) (by decide) (fun hc => ?_) (fun hc => ?_)
  · exact absurd hc (by decide)
  refine PW.aload_n (pc := 62) dX6_init_62 rfl ?_
  refine PW.getR (pc := 63) dX6_init_63 (r := 7) lf_X6_9 (obn (show mN M + 0 = 6 by omega) s_6 (by decide) (by decide)) fx_6_0 hr6_0 (by decide) ?_
  refine PW.iload_n (pc := 66) dX6_init_66 rfl ?_
  refine PW.iload_n (pc := 67) dX6_init_67 rfl ?_
  refine PW.ins (m' := mX6_packWord) (pc := 68) dX6_init_68 lm_X6_41 me_X6_packWord ms_X6_packWord (As := [.int 27]) (st := [.int 27, .ref 7]) rfl (Nat.le_of_ble_eq_true rfl) (Nat.le_of_ble_eq_true rfl) (Nat.le_refl _) (len_ (show mN M + 0 = 6 by omega) (by decide)) (PW.deep (by decide) (c_pkw 27 (by decide))) ?_
  rintro _ M1 ⟨rfl, h9⟩
  rw [h9]
  refine PW.iast (pc := 71) dX6_init_71 (arn (show mN M + 0 = 6 by omega) s_7 (by decide)) (vpl n_7 (vp_c (by decide))) ?_
  refine PW.iinc (pc := 72) dX6_init_72 (v := 28) (ls' := [.ref 6, .int 28]) rfl (by decide) (by decide) rfl rfl ?_
  refine PW.goto (pc := 75) dX6_init_75 (t := 56) (by decide) ?_
  exact h
def u_X6_6_28 (M : pm) : pm := sI M 7 28 (pkW 28)
theorem un_X6_6_28 (M : pm) : mN (u_X6_6_28 M) = mN M + 0 := rfl
set_option maxRecDepth 4000 in
theorem k_X6_6_28 {M : pm} {Q : Option Value → pm → Prop} (hn : mN M = 6) (hr6_0 : mR M 6 0 = 7) (h : PW mX6_init 12 6 56 [.ref 6, .int 29] [] (u_X6_6_28 M) Q) : PW mX6_init 12 6 56 [.ref 6, .int 28] [] M Q := by
  refine PW.iload_n (pc := 56) dX6_init_56 rfl ?_
  refine PW.bipush (pc := 57) dX6_init_57 (v := 34) (by decide) ?_
  refine PW.icmp_ge (pc := 59) dX6_init_59 (t := 78) (by decide) (fun hc => ?_) (fun hc => ?_)
  · exact absurd hc (by decide)
  refine PW.aload_n (pc := 62) dX6_init_62 rfl ?_
  refine PW.getR (pc := 63) dX6_init_63 (r := 7) lf_X6_9 (obn (show mN M + 0 = 6 by omega) s_6 (by decide) (by decide)) fx_6_0 hr6_0 (by decide) ?_
  refine PW.iload_n (pc := 66) dX6_init_66 rfl ?_
  refine PW.iload_n (pc := 67) dX6_init_67 rfl ?_
  refine PW.ins (m' := mX6_packWord) (pc := 68) dX6_init_68 lm_X6_41 me_X6_packWord ms_X6_packWord (As := [.int 28]) (st := [.int 28, .ref 7]) rfl (Nat.le_of_ble_eq_true rfl) (Nat.le_of_ble_eq_true rfl) (Nat.le_refl _) (len_ (show mN M + 0 = 6 by omega) (by decide)) (PW.deep (by decide) (c_pkw 28 (by decide))) ?_
  rintro _ M1 ⟨rfl, h9⟩
  rw [h9]
  refine PW.iast (pc := 71) dX6_init_71 (arn (show mN M + 0 = 6 by omega) s_7 (by decide)) (vpl n_7 (vp_c (by decide))) ?_
  refine PW.iinc (pc := 72) dX6_init_72 (v := 29) (ls' := [.ref 6, .int 29]) rfl (by decide) (by decide) rfl rfl ?_
  refine PW.goto (pc := 75) dX6_init_75 (t := 56) (by decide) ?_
  exact h
def u_X6_6_29 (M : pm) : pm := sI M 7 29 (pkW 29)
theorem un_X6_6_29 (M : pm) : mN (u_X6_6_29 M) = mN M + 0 := rfl
set_option maxRecDepth 4000 in
theorem k_X6_6_29 {M : pm} {Q : Option Value → pm → Prop} (hn : mN M = 6) (hr6_0 : mR M 6 0 = 7) (h : PW mX6_init 12 6 56 [.ref 6, .int 30] [] (u_X6_6_29 M) Q) : PW mX6_init 12 6 56 [.ref 6, .int 29] [] M Q := by
  refine PW.iload_n (pc := 56) dX6_init_56 rfl ?_
  refine PW.bipush (pc := 57) dX6_init_57 (v := 34) (by decide) ?_
  refine PW.icmp_ge (pc := 59) dX6_init_59 (t := 78) (by decide) (fun hc => ?_) (fun hc => ?_)
  · exact absurd hc (by decide)
  refine PW.aload_n (pc := 62) dX6_init_62 rfl ?_
  refine PW.getR (pc := 63) dX6_init_63 (r := 7) lf_X6_9 (obn (show mN M + 0 = 6 by omega) s_6 (by decide) (by decide)) fx_6_0 hr6_0 (by decide) ?_
  refine PW.iload_n (pc := 66) dX6_init_66 rfl ?_
  refine PW.iload_n (pc := 67) dX6_init_67 rfl ?_
  refine PW.ins (m' := mX6_packWord) (pc := 68) dX6_init_68 lm_X6_41 me_X6_packWord ms_X6_packWord (As := [.int 29]) (st := [.int 29, .ref 7]) rfl (Nat.le_of_ble_eq_true rfl) (Nat.le_of_ble_eq_true rfl) (Nat.le_refl _) (len_ (show mN M + 0 = 6 by omega) (by decide)) (PW.deep (by decide) (c_pkw 29 (by decide))) ?_
  rintro _ M1 ⟨rfl, h9⟩
  rw [h9]
  refine PW.iast (pc := 71) dX6_init_71 (arn (show mN M + 0 = 6 by omega) s_7 (by decide)) (vpl n_7 (vp_c (by decide))) ?_
  refine PW.iinc (pc := 72) dX6_init_72 (v := 30) (ls' := [.ref 6, .int 30]) rfl (by decide) (by decide) rfl rfl ?_
  refine PW.goto (pc := 75) dX6_init_75 (t := 56) (by decide) ?_
  exact h
def u_X6_6_30 (M : pm) : pm := sI M 7 30 (pkW 30)
theorem un_X6_6_30 (M : pm) : mN (u_X6_6_30 M) = mN M + 0 := rfl
set_option maxRecDepth 4000 in
theorem k_X6_6_30 {M : pm} {Q : Option Value → pm → Prop} (hn : mN M = 6) (hr6_0 : mR M 6 0 = 7) (h : PW mX6_init 12 6 56 [.ref 6, .int 31] [] (u_X6_6_30 M) Q) : PW mX6_init 12 6 56 [.ref 6, .int 30] [] M Q := by
  refine PW.iload_n (pc := 56) dX6_init_56 rfl ?_
  refine PW.bipush (pc := 57) dX6_init_57 (v := 34) (by decide) ?_
  refine PW.icmp_ge (pc := 59) dX6_init_59 (t := 78) (by decide) (fun hc => ?_) (fun hc => ?_)
  · exact absurd hc (by decide)
  refine PW.aload_n (pc := 62) dX6_init_62 rfl ?_
  refine PW.getR (pc := 63) dX6_init_63 (r := 7) lf_X6_9 (obn (show mN M + 0 = 6 by omega) s_6 (by decide) (by decide)) fx_6_0 hr6_0 (by decide) ?_
  refine PW.iload_n (pc := 66) dX6_init_66 rfl ?_
  refine PW.iload_n (pc := 67) dX6_init_67 rfl ?_
  refine PW.ins (m' := mX6_packWord) (pc := 68) dX6_init_68 lm_X6_41 me_X6_packWord ms_X6_packWord (As := [.int 30]) (st := [.int 30, .ref 7]) rfl (Nat.le_of_ble_eq_true rfl) (Nat.le_of_ble_eq_true rfl) (Nat.le_refl _) (len_ (show mN M + 0 = 6 by omega) (by decide)) (PW.deep (by decide) (c_pkw 30 (by decide))) ?_
  rintro _ M1 ⟨rfl, h9⟩
  rw [h9]
  refine PW.iast (pc := 71) dX6_init_71 (arn (show mN M + 0 = 6 by omega) s_7 (by decide)) (vpl n_7 (vp_c (by decide))) ?_
  refine PW.iinc (pc := 72) dX6_init_72 (v := 31) (ls' := [.ref 6, .int 31]) rfl (by decide) (by decide) rfl rfl ?_
  refine PW.goto (pc := 75) dX6_init_75 (t := 56) (by decide) ?_
  exact h
def u_X6_6_31 (M : pm) : pm := sI M 7 31 (pkW 31)
theorem un_X6_6_31 (M : pm) : mN (u_X6_6_31 M) = mN M + 0 := rfl
set_option maxRecDepth 4000 in
theorem k_X6_6_31 {M : pm} {Q : Option Value → pm → Prop} (hn : mN M = 6) (hr6_0 : mR M 6 0 = 7) (h : PW mX6_init 12 6 56 [.ref 6, .int 32] [] (u_X6_6_31 M) Q) : PW mX6_init 12 6 56 [.ref 6, .int 31] [] M Q := by
  refine PW.iload_n (pc := 56) dX6_init_56 rfl ?_
  refine PW.bipush (pc := 57) dX6_init_57 (v := 34) (by decide) ?_
  refine PW.icmp_ge (pc := 59) dX6_init_59 (t := 78) (by decide) (fun hc => ?_) (fun hc => ?_)
  · exact absurd hc (by decide)
  refine PW.aload_n (pc := 62) dX6_init_62 rfl ?_
  refine PW.getR (pc := 63) dX6_init_63 (r := 7) lf_X6_9 (obn (show mN M + 0 = 6 by omega) s_6 (by decide) (by decide)) fx_6_0 hr6_0 (by decide) ?_
  refine PW.iload_n (pc := 66) dX6_init_66 rfl ?_
  refine PW.iload_n (pc := 67) dX6_init_67 rfl ?_
  refine PW.ins (m' := mX6_packWord) (pc := 68) dX6_init_68 lm_X6_41 me_X6_packWord ms_X6_packWord (As := [.int 31]) (st := [.int 31, .ref 7]) rfl (Nat.le_of_ble_eq_true rfl) (Nat.le_of_ble_eq_true rfl) (Nat.le_refl _) (len_ (show mN M + 0 = 6 by omega) (by decide)) (PW.deep (by decide) (c_pkw 31 (by decide))) ?_
  rintro _ M1 ⟨rfl, h9⟩
  rw [h9]
  refine PW.iast (pc := 71) dX6_init_71 (arn (show mN M + 0 = 6 by omega) s_7 (by decide)) (vpl n_7 (vp_c (by decide))) ?_
  refine PW.iinc (pc := 72) dX6_init_72 (v := 32) (ls' := [.ref 6, .int 32]) rfl (by decide) (by decide) rfl rfl ?_
  refine PW.goto (pc := 75) dX6_init_75 (t := 56) (by decide) ?_
  exact h
def u_X6_6_32 (M : pm) : pm := sI M 7 32 (pkW 32)
theorem un_X6_6_32 (M : pm) : mN (u_X6_6_32 M) = mN M + 0 := rfl
set_option maxRecDepth 4000 in
theorem k_X6_6_32 {M : pm} {Q : Option Value → pm → Prop} (hn : mN M = 6) (hr6_0 : mR M 6 0 = 7) (h : PW mX6_init 12 6 56 [.ref 6, .int 33] [] (u_X6_6_32 M) Q) : PW mX6_init 12 6 56 [.ref 6, .int 32] [] M Q := by
  refine PW.iload_n (pc := 56) dX6_init_56 rfl ?_
  refine PW.bipush (pc := 57) dX6_init_57 (v := 34) (by decide) ?_
  refine PW.icmp_ge (pc := 59) dX6_init_59 (t := 78) (by decide) (fun hc => ?_) (fun hc => ?_)
  · exact absurd hc (by decide)
  refine PW.aload_n (pc := 62) dX6_init_62 rfl ?_
  refine PW.getR (pc := 63) dX6_init_63 (r := 7) lf_X6_9 (obn (show mN M + 0 = 6 by omega) s_6 (by decide) (by decide)) fx_6_0 hr6_0 (by decide) ?_
  refine PW.iload_n (pc := 66) dX6_init_66 rfl ?_
  refine PW.iload_n (pc := 67) dX6_init_67 rfl ?_
  refine PW.ins (m' := mX6_packWord) (pc := 68) dX6_init_68 lm_X6_41 me_X6_packWord ms_X6_packWord (As := [.int 32]) (st := [.int 32, .ref 7]) rfl (Nat.le_of_ble_eq_true rfl) (Nat.le_of_ble_eq_true rfl) (Nat.le_refl _) (len_ (show mN M + 0 = 6 by omega) (by decide)) (PW.deep (by decide) (c_pkw 32 (by decide))) ?_
  rintro _ M1 ⟨rfl, h9⟩
  rw [h9]
  refine PW.iast (pc := 71) dX6_init_71 (arn (show mN M + 0 = 6 by omega) s_7 (by decide)) (vpl n_7 (vp_c (by decide))) ?_
  refine PW.iinc (pc := 72) dX6_init_72 (v := 33) (ls' := [.ref 6, .int 33]) rfl (by decide) (by decide) rfl rfl ?_
  refine PW.goto (pc := 75) dX6_init_75 (t := 56) (by decide) ?_
  exact h
def u_X6_6_33 (M : pm) : pm := sI M 7 33 (pkW 33)
theorem un_X6_6_33 (M : pm) : mN (u_X6_6_33 M) = mN M + 0 := rfl
set_option maxRecDepth 4000 in
theorem k_X6_6_33 {M : pm} {Q : Option Value → pm → Prop} (hn : mN M = 6) (hr6_0 : mR M 6 0 = 7) (h : PW mX6_init 12 6 56 [.ref 6, .int 34] [] (u_X6_6_33 M) Q) : PW mX6_init 12 6 56 [.ref 6, .int 33] [] M Q := by
  refine PW.iload_n (pc := 56) dX6_init_56 rfl ?_
  refine PW.bipush (pc := 57) dX6_init_57 (v := 34) (by decide) ?_
  refine PW.icmp_ge (pc := 59) dX6_init_59 (t := 78) (by decide) (fun hc => ?_) (fun hc => ?_)
  · exact absurd hc (by decide)
  refine PW.aload_n (pc := 62) dX6_init_62 rfl ?_
  refine PW.getR (pc := 63) dX6_init_63 (r := 7) lf_X6_9 (obn (show mN M + 0 = 6 by omega) s_6 (by decide) (by decide)) fx_6_0 hr6_0 (by decide) ?_
  refine PW.iload_n (pc := 66) dX6_init_66 rfl ?_
  refine PW.iload_n (pc := 67) dX6_init_67 rfl ?_
  refine PW.ins (m' := mX6_packWord) (pc := 68) dX6_init_68 lm_X6_41 me_X6_packWord ms_X6_packWord (As := [.int 33]) (st := [.int 33, .ref 7]) rfl (Nat.le_of_ble_eq_true rfl) (Nat.le_of_ble_eq_true rfl) (Nat.le_refl _) (len_ (show mN M + 0 = 6 by omega) (by decide)) (PW.deep (by decide) (c_pkw 33 (by decide))) ?_
  rintro _ M1 ⟨rfl, h9⟩
  rw [h9]
  refine PW.iast (pc := 71) dX6_init_71 (arn (show mN M + 0 = 6 by omega) s_7 (by decide)) (vpl n_7 (vp_c (by decide))) ?_
  refine PW.iinc (pc := 72) dX6_init_72 (v := 34) (ls' := [.ref 6, .int 34]) rfl (by decide) (by decide) rfl rfl ?_
  refine PW.goto (pc := 75) dX6_init_75 (t := 56) (by decide) ?_
  exact h
def u_X6_6_34 (M : pm) : pm := M
theorem un_X6_6_34 (M : pm) : mN (u_X6_6_34 M) = mN M + 0 := rfl
set_option maxRecDepth 4000 in
theorem k_X6_6_34 {M : pm} {Q : Option Value → pm → Prop} (hn : mN M = 6)  (h : PW mX6_init 12 6 78 [.ref 6, .int 34] [] (u_X6_6_34 M) Q) : PW mX6_init 12 6 56 [.ref 6, .int 34] [] M Q := by
  refine PW.iload_n (pc := 56) dX6_init_56 rfl ?_
  refine PW.bipush (pc := 57) dX6_init_57 (v := 34) (by decide) ?_
  refine PW.icmp_ge (pc := 59) dX6_init_59 (t := 78) (by decide) (fun hc => ?_) (fun hc => ?_)
  rotate_left
  · exact absurd (by decide) hc
  exact h
def i_X6_6 (M : pm) : pm := u_X6_6_34 (u_X6_6_33 (u_X6_6_32 (u_X6_6_31 (u_X6_6_30 (u_X6_6_29 (u_X6_6_28 (u_X6_6_27 (u_X6_6_26 (u_X6_6_25 (u_X6_6_24 (u_X6_6_23 (u_X6_6_22 (u_X6_6_21 (u_X6_6_20 (u_X6_6_19 (u_X6_6_18 (u_X6_6_17 (u_X6_6_16 (u_X6_6_15 (u_X6_6_14 (u_X6_6_13 (u_X6_6_12 (u_X6_6_11 (u_X6_6_10 (u_X6_6_9 (u_X6_6_8 (u_X6_6_7 (u_X6_6_6 (u_X6_6_5 (u_X6_6_4 (u_X6_6_3 (u_X6_6_2 (u_X6_6_1 (u_X6_6_0 M))))))))))))))))))))))))))))))))))
theorem in_X6_6 (M : pm) : mN (i_X6_6 M) = mN M + 2 := by
  unfold i_X6_6
  rw [un_X6_6_34, un_X6_6_33, un_X6_6_32, un_X6_6_31, un_X6_6_30, un_X6_6_29, un_X6_6_28, un_X6_6_27, un_X6_6_26, un_X6_6_25, un_X6_6_24, un_X6_6_23, un_X6_6_22, un_X6_6_21, un_X6_6_20, un_X6_6_19, un_X6_6_18, un_X6_6_17, un_X6_6_16, un_X6_6_15, un_X6_6_14, un_X6_6_13, un_X6_6_12, un_X6_6_11, un_X6_6_10, un_X6_6_9, un_X6_6_8, un_X6_6_7, un_X6_6_6, un_X6_6_5, un_X6_6_4, un_X6_6_3, un_X6_6_2, un_X6_6_1, un_X6_6_0] <;> omega
theorem c_X6_6 {M : pm} (hn : mN M = 4) : PW mX6_init 12 6 0 (pfr mX6_init.2.2.1 [.ref 6]) [] M (fun r M' => r = none ∧ M' = i_X6_6 M) := by
  show PW mX6_init 12 6 0 [.ref 6, .null] [] M _
  refine k_X6_6_0 hn  ?_
  have hn1 : mN (u_X6_6_0 M) = 6 := by rw [un_X6_6_0, hn]
  have hr : mR (u_X6_6_0 M) 6 0 = 7 := by
    unfold u_X6_6_0
    simp [mR_sI, mR_sR, mR_sJ, mR_nw, mN_nw, mN_sI, mN_sR, mN_sJ, hn]
  refine k_X6_6_1 hn1 hr ?_
  have hn2 : mN (u_X6_6_1 (u_X6_6_0 M)) = 6 := by rw [un_X6_6_1, hn1]
  refine k_X6_6_2 hn2 hr ?_
  have hn3 : mN (u_X6_6_2 (u_X6_6_1 (u_X6_6_0 M))) = 6 := by rw [un_X6_6_2, hn2]
  refine k_X6_6_3 hn3 hr ?_
  have hn4 : mN (u_X6_6_3 (u_X6_6_2 (u_X6_6_1 (u_X6_6_0 M)))) = 6 := by rw [un_X6_6_3, hn3]
  refine k_X6_6_4 hn4 hr ?_
  have hn5 : mN (u_X6_6_4 (u_X6_6_3 (u_X6_6_2 (u_X6_6_1 (u_X6_6_0 M))))) = 6 := by rw [un_X6_6_4, hn4]
  refine k_X6_6_5 hn5 hr ?_
  have hn6 : mN (u_X6_6_5 (u_X6_6_4 (u_X6_6_3 (u_X6_6_2 (u_X6_6_1 (u_X6_6_0 M)))))) = 6 := by rw [un_X6_6_5, hn5]
  refine k_X6_6_6 hn6 hr ?_
  have hn7 : mN (u_X6_6_6 (u_X6_6_5 (u_X6_6_4 (u_X6_6_3 (u_X6_6_2 (u_X6_6_1 (u_X6_6_0 M))))))) = 6 := by rw [un_X6_6_6, hn6]
  refine k_X6_6_7 hn7 hr ?_
  have hn8 : mN (u_X6_6_7 (u_X6_6_6 (u_X6_6_5 (u_X6_6_4 (u_X6_6_3 (u_X6_6_2 (u_X6_6_1 (u_X6_6_0 M)))))))) = 6 := by rw [un_X6_6_7, hn7]
  refine k_X6_6_8 hn8 hr ?_
  have hn9 : mN (u_X6_6_8 (u_X6_6_7 (u_X6_6_6 (u_X6_6_5 (u_X6_6_4 (u_X6_6_3 (u_X6_6_2 (u_X6_6_1 (u_X6_6_0 M))))))))) = 6 := by rw [un_X6_6_8, hn8]
  refine k_X6_6_9 hn9 hr ?_
  have hn10 : mN (u_X6_6_9 (u_X6_6_8 (u_X6_6_7 (u_X6_6_6 (u_X6_6_5 (u_X6_6_4 (u_X6_6_3 (u_X6_6_2 (u_X6_6_1 (u_X6_6_0 M)))))))))) = 6 := by rw [un_X6_6_9, hn9]
  refine k_X6_6_10 hn10 hr ?_
  have hn11 : mN (u_X6_6_10 (u_X6_6_9 (u_X6_6_8 (u_X6_6_7 (u_X6_6_6 (u_X6_6_5 (u_X6_6_4 (u_X6_6_3 (u_X6_6_2 (u_X6_6_1 (u_X6_6_0 M))))))))))) = 6 := by rw [un_X6_6_10, hn10]
  refine k_X6_6_11 hn11 hr ?_
  have hn12 : mN (u_X6_6_11 (u_X6_6_10 (u_X6_6_9 (u_X6_6_8 (u_X6_6_7 (u_X6_6_6 (u_X6_6_5 (u_X6_6_4 (u_X6_6_3 (u_X6_6_2 (u_X6_6_1 (u_X6_6_0 M)))))))))))) = 6 := by rw [un_X6_6_11, hn11]
  refine k_X6_6_12 hn12 hr ?_
  have hn13 : mN (u_X6_6_12 (u_X6_6_11 (u_X6_6_10 (u_X6_6_9 (u_X6_6_8 (u_X6_6_7 (u_X6_6_6 (u_X6_6_5 (u_X6_6_4 (u_X6_6_3 (u_X6_6_2 (u_X6_6_1 (u_X6_6_0 M))))))))))))) = 6 := by rw [un_X6_6_12, hn12]
  refine k_X6_6_13 hn13 hr ?_
  have hn14 : mN (u_X6_6_13 (u_X6_6_12 (u_X6_6_11 (u_X6_6_10 (u_X6_6_9 (u_X6_6_8 (u_X6_6_7 (u_X6_6_6 (u_X6_6_5 (u_X6_6_4 (u_X6_6_3 (u_X6_6_2 (u_X6_6_1 (u_X6_6_0 M)))))))))))))) = 6 := by rw [un_X6_6_13, hn13]
  refine k_X6_6_14 hn14 hr ?_
  have hn15 : mN (u_X6_6_14 (u_X6_6_13 (u_X6_6_12 (u_X6_6_11 (u_X6_6_10 (u_X6_6_9 (u_X6_6_8 (u_X6_6_7 (u_X6_6_6 (u_X6_6_5 (u_X6_6_4 (u_X6_6_3 (u_X6_6_2 (u_X6_6_1 (u_X6_6_0 M))))))))))))))) = 6 := by rw [un_X6_6_14, hn14]
  refine k_X6_6_15 hn15 hr ?_
  have hn16 : mN (u_X6_6_15 (u_X6_6_14 (u_X6_6_13 (u_X6_6_12 (u_X6_6_11 (u_X6_6_10 (u_X6_6_9 (u_X6_6_8 (u_X6_6_7 (u_X6_6_6 (u_X6_6_5 (u_X6_6_4 (u_X6_6_3 (u_X6_6_2 (u_X6_6_1 (u_X6_6_0 M)))))))))))))))) = 6 := by rw [un_X6_6_15, hn15]
  refine k_X6_6_16 hn16 hr ?_
  have hn17 : mN (u_X6_6_16 (u_X6_6_15 (u_X6_6_14 (u_X6_6_13 (u_X6_6_12 (u_X6_6_11 (u_X6_6_10 (u_X6_6_9 (u_X6_6_8 (u_X6_6_7 (u_X6_6_6 (u_X6_6_5 (u_X6_6_4 (u_X6_6_3 (u_X6_6_2 (u_X6_6_1 (u_X6_6_0 M))))))))))))))))) = 6 := by rw [un_X6_6_16, hn16]
  refine k_X6_6_17 hn17 hr ?_
  have hn18 : mN (u_X6_6_17 (u_X6_6_16 (u_X6_6_15 (u_X6_6_14 (u_X6_6_13 (u_X6_6_12 (u_X6_6_11 (u_X6_6_10 (u_X6_6_9 (u_X6_6_8 (u_X6_6_7 (u_X6_6_6 (u_X6_6_5 (u_X6_6_4 (u_X6_6_3 (u_X6_6_2 (u_X6_6_1 (u_X6_6_0 M)))))))))))))))))) = 6 := by rw [un_X6_6_17, hn17]
  refine k_X6_6_18 hn18 hr ?_
  have hn19 : mN (u_X6_6_18 (u_X6_6_17 (u_X6_6_16 (u_X6_6_15 (u_X6_6_14 (u_X6_6_13 (u_X6_6_12 (u_X6_6_11 (u_X6_6_10 (u_X6_6_9 (u_X6_6_8 (u_X6_6_7 (u_X6_6_6 (u_X6_6_5 (u_X6_6_4 (u_X6_6_3 (u_X6_6_2 (u_X6_6_1 (u_X6_6_0 M))))))))))))))))))) = 6 := by rw [un_X6_6_18, hn18]
  refine k_X6_6_19 hn19 hr ?_
  have hn20 : mN (u_X6_6_19 (u_X6_6_18 (u_X6_6_17 (u_X6_6_16 (u_X6_6_15 (u_X6_6_14 (u_X6_6_13 (u_X6_6_12 (u_X6_6_11 (u_X6_6_10 (u_X6_6_9 (u_X6_6_8 (u_X6_6_7 (u_X6_6_6 (u_X6_6_5 (u_X6_6_4 (u_X6_6_3 (u_X6_6_2 (u_X6_6_1 (u_X6_6_0 M)))))))))))))))))))) = 6 := by rw [un_X6_6_19, hn19]
  refine k_X6_6_20 hn20 hr ?_
  have hn21 : mN (u_X6_6_20 (u_X6_6_19 (u_X6_6_18 (u_X6_6_17 (u_X6_6_16 (u_X6_6_15 (u_X6_6_14 (u_X6_6_13 (u_X6_6_12 (u_X6_6_11 (u_X6_6_10 (u_X6_6_9 (u_X6_6_8 (u_X6_6_7 (u_X6_6_6 (u_X6_6_5 (u_X6_6_4 (u_X6_6_3 (u_X6_6_2 (u_X6_6_1 (u_X6_6_0 M))))))))))))))))))))) = 6 := by rw [un_X6_6_20, hn20]
  refine k_X6_6_21 hn21 hr ?_
  have hn22 : mN (u_X6_6_21 (u_X6_6_20 (u_X6_6_19 (u_X6_6_18 (u_X6_6_17 (u_X6_6_16 (u_X6_6_15 (u_X6_6_14 (u_X6_6_13 (u_X6_6_12 (u_X6_6_11 (u_X6_6_10 (u_X6_6_9 (u_X6_6_8 (u_X6_6_7 (u_X6_6_6 (u_X6_6_5 (u_X6_6_4 (u_X6_6_3 (u_X6_6_2 (u_X6_6_1 (u_X6_6_0 M)))))))))))))))))))))) = 6 := by rw [un_X6_6_21, hn21]
  refine k_X6_6_22 hn22 hr ?_
  have hn23 : mN (u_X6_6_22 (u_X6_6_21 (u_X6_6_20 (u_X6_6_19 (u_X6_6_18 (u_X6_6_17 (u_X6_6_16 (u_X6_6_15 (u_X6_6_14 (u_X6_6_13 (u_X6_6_12 (u_X6_6_11 (u_X6_6_10 (u_X6_6_9 (u_X6_6_8 (u_X6_6_7 (u_X6_6_6 (u_X6_6_5 (u_X6_6_4 (u_X6_6_3 (u_X6_6_2 (u_X6_6_1 (u_X6_6_0 M))))))))))))))))))))))) = 6 := by rw [un_X6_6_22, hn22]
  refine k_X6_6_23 hn23 hr ?_
  have hn24 : mN (u_X6_6_23 (u_X6_6_22 (u_X6_6_21 (u_X6_6_20 (u_X6_6_19 (u_X6_6_18 (u_X6_6_17 (u_X6_6_16 (u_X6_6_15 (u_X6_6_14 (u_X6_6_13 (u_X6_6_12 (u_X6_6_11 (u_X6_6_10 (u_X6_6_9 (u_X6_6_8 (u_X6_6_7 (u_X6_6_6 (u_X6_6_5 (u_X6_6_4 (u_X6_6_3 (u_X6_6_2 (u_X6_6_1 (u_X6_6_0 M)))))))))))))))))))))))) = 6 := by rw [un_X6_6_23, hn23]
  refine k_X6_6_24 hn24 hr ?_
  have hn25 : mN (u_X6_6_24 (u_X6_6_23 (u_X6_6_22 (u_X6_6_21 (u_X6_6_20 (u_X6_6_19 (u_X6_6_18 (u_X6_6_17 (u_X6_6_16 (u_X6_6_15 (u_X6_6_14 (u_X6_6_13 (u_X6_6_12 (u_X6_6_11 (u_X6_6_10 (u_X6_6_9 (u_X6_6_8 (u_X6_6_7 (u_X6_6_6 (u_X6_6_5 (u_X6_6_4 (u_X6_6_3 (u_X6_6_2 (u_X6_6_1 (u_X6_6_0 M))))))))))))))))))))))))) = 6 := by rw [un_X6_6_24, hn24]
  refine k_X6_6_25 hn25 hr ?_
  have hn26 : mN (u_X6_6_25 (u_X6_6_24 (u_X6_6_23 (u_X6_6_22 (u_X6_6_21 (u_X6_6_20 (u_X6_6_19 (u_X6_6_18 (u_X6_6_17 (u_X6_6_16 (u_X6_6_15 (u_X6_6_14 (u_X6_6_13 (u_X6_6_12 (u_X6_6_11 (u_X6_6_10 (u_X6_6_9 (u_X6_6_8 (u_X6_6_7 (u_X6_6_6 (u_X6_6_5 (u_X6_6_4 (u_X6_6_3 (u_X6_6_2 (u_X6_6_1 (u_X6_6_0 M)))))))))))))))))))))))))) = 6 := by rw [un_X6_6_25, hn25]
  refine k_X6_6_26 hn26 hr ?_
  have hn27 : mN (u_X6_6_26 (u_X6_6_25 (u_X6_6_24 (u_X6_6_23 (u_X6_6_22 (u_X6_6_21 (u_X6_6_20 (u_X6_6_19 (u_X6_6_18 (u_X6_6_17 (u_X6_6_16 (u_X6_6_15 (u_X6_6_14 (u_X6_6_13 (u_X6_6_12 (u_X6_6_11 (u_X6_6_10 (u_X6_6_9 (u_X6_6_8 (u_X6_6_7 (u_X6_6_6 (u_X6_6_5 (u_X6_6_4 (u_X6_6_3 (u_X6_6_2 (u_X6_6_1 (u_X6_6_0 M))))))))))))))))))))))))))) = 6 := by rw [un_X6_6_26, hn26]
  refine k_X6_6_27 hn27 hr ?_
  have hn28 : mN (u_X6_6_27 (u_X6_6_26 (u_X6_6_25 (u_X6_6_24 (u_X6_6_23 (u_X6_6_22 (u_X6_6_21 (u_X6_6_20 (u_X6_6_19 (u_X6_6_18 (u_X6_6_17 (u_X6_6_16 (u_X6_6_15 (u_X6_6_14 (u_X6_6_13 (u_X6_6_12 (u_X6_6_11 (u_X6_6_10 (u_X6_6_9 (u_X6_6_8 (u_X6_6_7 (u_X6_6_6 (u_X6_6_5 (u_X6_6_4 (u_X6_6_3 (u_X6_6_2 (u_X6_6_1 (u_X6_6_0 M)))))))))))))))))))))))))))) = 6 := by rw [un_X6_6_27, hn27]
  refine k_X6_6_28 hn28 hr ?_
  have hn29 : mN (u_X6_6_28 (u_X6_6_27 (u_X6_6_26 (u_X6_6_25 (u_X6_6_24 (u_X6_6_23 (u_X6_6_22 (u_X6_6_21 (u_X6_6_20 (u_X6_6_19 (u_X6_6_18 (u_X6_6_17 (u_X6_6_16 (u_X6_6_15 (u_X6_6_14 (u_X6_6_13 (u_X6_6_12 (u_X6_6_11 (u_X6_6_10 (u_X6_6_9 (u_X6_6_8 (u_X6_6_7 (u_X6_6_6 (u_X6_6_5 (u_X6_6_4 (u_X6_6_3 (u_X6_6_2 (u_X6_6_1 (u_X6_6_0 M))))))))))))))))))))))))))))) = 6 := by rw [un_X6_6_28, hn28]
  refine k_X6_6_29 hn29 hr ?_
  have hn30 : mN (u_X6_6_29 (u_X6_6_28 (u_X6_6_27 (u_X6_6_26 (u_X6_6_25 (u_X6_6_24 (u_X6_6_23 (u_X6_6_22 (u_X6_6_21 (u_X6_6_20 (u_X6_6_19 (u_X6_6_18 (u_X6_6_17 (u_X6_6_16 (u_X6_6_15 (u_X6_6_14 (u_X6_6_13 (u_X6_6_12 (u_X6_6_11 (u_X6_6_10 (u_X6_6_9 (u_X6_6_8 (u_X6_6_7 (u_X6_6_6 (u_X6_6_5 (u_X6_6_4 (u_X6_6_3 (u_X6_6_2 (u_X6_6_1 (u_X6_6_0 M)))))))))))))))))))))))))))))) = 6 := by rw [un_X6_6_29, hn29]
  refine k_X6_6_30 hn30 hr ?_
  have hn31 : mN (u_X6_6_30 (u_X6_6_29 (u_X6_6_28 (u_X6_6_27 (u_X6_6_26 (u_X6_6_25 (u_X6_6_24 (u_X6_6_23 (u_X6_6_22 (u_X6_6_21 (u_X6_6_20 (u_X6_6_19 (u_X6_6_18 (u_X6_6_17 (u_X6_6_16 (u_X6_6_15 (u_X6_6_14 (u_X6_6_13 (u_X6_6_12 (u_X6_6_11 (u_X6_6_10 (u_X6_6_9 (u_X6_6_8 (u_X6_6_7 (u_X6_6_6 (u_X6_6_5 (u_X6_6_4 (u_X6_6_3 (u_X6_6_2 (u_X6_6_1 (u_X6_6_0 M))))))))))))))))))))))))))))))) = 6 := by rw [un_X6_6_30, hn30]
  refine k_X6_6_31 hn31 hr ?_
  have hn32 : mN (u_X6_6_31 (u_X6_6_30 (u_X6_6_29 (u_X6_6_28 (u_X6_6_27 (u_X6_6_26 (u_X6_6_25 (u_X6_6_24 (u_X6_6_23 (u_X6_6_22 (u_X6_6_21 (u_X6_6_20 (u_X6_6_19 (u_X6_6_18 (u_X6_6_17 (u_X6_6_16 (u_X6_6_15 (u_X6_6_14 (u_X6_6_13 (u_X6_6_12 (u_X6_6_11 (u_X6_6_10 (u_X6_6_9 (u_X6_6_8 (u_X6_6_7 (u_X6_6_6 (u_X6_6_5 (u_X6_6_4 (u_X6_6_3 (u_X6_6_2 (u_X6_6_1 (u_X6_6_0 M)))))))))))))))))))))))))))))))) = 6 := by rw [un_X6_6_31, hn31]
  refine k_X6_6_32 hn32 hr ?_
  have hn33 : mN (u_X6_6_32 (u_X6_6_31 (u_X6_6_30 (u_X6_6_29 (u_X6_6_28 (u_X6_6_27 (u_X6_6_26 (u_X6_6_25 (u_X6_6_24 (u_X6_6_23 (u_X6_6_22 (u_X6_6_21 (u_X6_6_20 (u_X6_6_19 (u_X6_6_18 (u_X6_6_17 (u_X6_6_16 (u_X6_6_15 (u_X6_6_14 (u_X6_6_13 (u_X6_6_12 (u_X6_6_11 (u_X6_6_10 (u_X6_6_9 (u_X6_6_8 (u_X6_6_7 (u_X6_6_6 (u_X6_6_5 (u_X6_6_4 (u_X6_6_3 (u_X6_6_2 (u_X6_6_1 (u_X6_6_0 M))))))))))))))))))))))))))))))))) = 6 := by rw [un_X6_6_32, hn32]
  refine k_X6_6_33 hn33 hr ?_
  have hn34 : mN (u_X6_6_33 (u_X6_6_32 (u_X6_6_31 (u_X6_6_30 (u_X6_6_29 (u_X6_6_28 (u_X6_6_27 (u_X6_6_26 (u_X6_6_25 (u_X6_6_24 (u_X6_6_23 (u_X6_6_22 (u_X6_6_21 (u_X6_6_20 (u_X6_6_19 (u_X6_6_18 (u_X6_6_17 (u_X6_6_16 (u_X6_6_15 (u_X6_6_14 (u_X6_6_13 (u_X6_6_12 (u_X6_6_11 (u_X6_6_10 (u_X6_6_9 (u_X6_6_8 (u_X6_6_7 (u_X6_6_6 (u_X6_6_5 (u_X6_6_4 (u_X6_6_3 (u_X6_6_2 (u_X6_6_1 (u_X6_6_0 M)))))))))))))))))))))))))))))))))) = 6 := by rw [un_X6_6_33, hn33]
  refine k_X6_6_34 hn34  ?_
  have hn35 : mN (u_X6_6_34 (u_X6_6_33 (u_X6_6_32 (u_X6_6_31 (u_X6_6_30 (u_X6_6_29 (u_X6_6_28 (u_X6_6_27 (u_X6_6_26 (u_X6_6_25 (u_X6_6_24 (u_X6_6_23 (u_X6_6_22 (u_X6_6_21 (u_X6_6_20 (u_X6_6_19 (u_X6_6_18 (u_X6_6_17 (u_X6_6_16 (u_X6_6_15 (u_X6_6_14 (u_X6_6_13 (u_X6_6_12 (u_X6_6_11 (u_X6_6_10 (u_X6_6_9 (u_X6_6_8 (u_X6_6_7 (u_X6_6_6 (u_X6_6_5 (u_X6_6_4 (u_X6_6_3 (u_X6_6_2 (u_X6_6_1 (u_X6_6_0 M))))))))))))))))))))))))))))))))))) = 6 := by rw [un_X6_6_34, hn34]
  exact PW.ret0 (pc := 78) dX6_init_78 hn35 rfl ⟨rfl, rfl⟩
def u_X2_9_0 (M : pm) : pm := sR (nw (sR (nw (sR (nw (sI (sR (nw M) 9 0 10) 9 1 0)) 9 2 11)) 9 3 12)) 9 4 13
theorem un_X2_9_0 (M : pm) : mN (u_X2_9_0 M) = mN M + 4 := rfl
set_option maxRecDepth 4000 in
theorem k_X2_9_0 {M : pm} {Q : Option Value → pm → Prop} (hn : mN M = 7)  (h : PW mX2_init 10 11 39 [.ref 9] [] (u_X2_9_0 M) Q) : PW mX2_init 10 11 0 [.ref 9] [] M Q := by
  refine PW.aload_n (pc := 0) dX2_init_0 rfl ?_
  refine PW.objInit (pc := 1) dX2_init_1 oi_X2_3 oi_i oi_c (Nat.le_of_ble_eq_true rfl) (by decide) ?_
  refine PW.aload_n (pc := 4) dX2_init_4 rfl ?_
  refine PW.sipush (pc := 5) dX2_init_5 (v := 1600) (by decide) ?_
  refine PW.newaI (pc := 8) dX2_init_8 (a := 10) aw_int (by decide) (by decide +kernel) (by decide) (ltn (show mN M + 0 = 7 by omega) (by decide)) (eqn (show mN M + 0 = 7 by omega) rfl) ?_
  refine PW.putR (pc := 10) dX2_init_10 lf_X2_9 (obn (show mN M + 1 = 8 by omega) s_9 (by decide) (by decide)) fx_2_0 (Or.inr ⟨rfl, rfl, rfl⟩) (fun _ => rfl) (fun _ => rfl) (by decide) ?_
  refine PW.aload_n (pc := 13) dX2_init_13 rfl ?_
  refine PW.iconst (pc := 14) dX2_init_14 (v := 0) (by decide) ?_
  refine PW.putI (pc := 15) dX2_init_15 lf_X2_15 (obn (show mN M + 1 = 8 by omega) s_9 (by decide) (by decide)) fx_2_1 (Or.inl rfl) rfl rfl ?_
  refine PW.aload_n (pc := 18) dX2_init_18 rfl ?_
  refine PW.iconst (pc := 19) dX2_init_19 (v := 3) (by decide) ?_
  refine PW.newaI (pc := 20) dX2_init_20 (a := 11) aw_int (by decide) (by decide +kernel) (by decide) (ltn (show mN M + 1 = 8 by omega) (by decide)) (eqn (show mN M + 1 = 8 by omega) rfl) ?_
  refine PW.putR (pc := 22) dX2_init_22 lf_X2_19 (obn (show mN M + 2 = 9 by omega) s_9 (by decide) (by decide)) fx_2_2 (Or.inr ⟨rfl, rfl, rfl⟩) (fun _ => rfl) (fun _ => rfl) (by decide) ?_
  refine PW.aload_n (pc := 25) dX2_init_25 rfl ?_
  refine PW.iconst (pc := 26) dX2_init_26 (v := 3) (by decide) ?_
  refine PW.newaI (pc := 27) dX2_init_27 (a := 12) aw_int (by decide) (by decide +kernel) (by decide) (ltn (show mN M + 2 = 9 by omega) (by decide)) (eqn (show mN M + 2 = 9 by omega) rfl) ?_
  refine PW.putR (pc := 29) dX2_init_29 lf_X2_22 (obn (show mN M + 3 = 10 by omega) s_9 (by decide) (by decide)) fx_2_3 (Or.inr ⟨rfl, rfl, rfl⟩) (fun _ => rfl) (fun _ => rfl) (by decide) ?_
  refine PW.aload_n (pc := 32) dX2_init_32 rfl ?_
  refine PW.iconst (pc := 33) dX2_init_33 (v := 3) (by decide) ?_
  refine PW.newaZ (pc := 34) dX2_init_34 (a := 13) aw_boolean (by decide) (by decide +kernel) (by decide) (ltn (show mN M + 3 = 10 by omega) (by decide)) (eqn (show mN M + 3 = 10 by omega) rfl) ?_
  refine PW.putR (pc := 36) dX2_init_36 lf_X2_25 (obn (show mN M + 4 = 11 by omega) s_9 (by decide) (by decide)) fx_2_4 (Or.inr ⟨rfl, rfl, rfl⟩) (fun _ => rfl) (fun _ => rfl) (by decide) ?_
  exact h
def i_X2_9 (M : pm) : pm := u_X2_9_0 M
theorem in_X2_9 (M : pm) : mN (i_X2_9 M) = mN M + 4 := by
  unfold i_X2_9
  rw [un_X2_9_0] <;> omega
theorem c_X2_9 {M : pm} (hn : mN M = 7) : PW mX2_init 10 11 0 (pfr mX2_init.2.2.1 [.ref 9]) [] M (fun r M' => r = none ∧ M' = i_X2_9 M) := by
  show PW mX2_init 10 11 0 [.ref 9] [] M _
  refine k_X2_9_0 hn  ?_
  have hn1 : mN (u_X2_9_0 M) = 11 := by rw [un_X2_9_0, hn]
  exact PW.ret0 (pc := 39) dX2_init_39 hn1 rfl ⟨rfl, rfl⟩
def u_X3_5_0 (M : pm) : pm := i_X6_6 (nw M)
theorem un_X3_5_0 (M : pm) : mN (u_X3_5_0 M) = mN M + 3 := by
  unfold u_X3_5_0
  rw [in_X6_6]
  show mN M + 1 + 2 = mN M + 3
  omega
set_option maxRecDepth 4000 in
theorem k_X3_5_0 {M : pm} {Q : Option Value → pm → Prop} (hn : mN M = 3)  (h : PW mX3_init 13 11 12 [.ref 5] [.ref 6, .ref 5] (u_X3_5_0 M) Q) : PW mX3_init 13 11 0 [.ref 5] [] M Q := by
  refine PW.aload_n (pc := 0) dX3_init_0 rfl ?_
  refine PW.objInit (pc := 1) dX3_init_1 oi_X3_3 oi_i oi_c (Nat.le_of_ble_eq_true rfl) (by decide) ?_
  refine PW.aload_n (pc := 4) dX3_init_4 rfl ?_
  refine PW.new (pc := 5) dX3_init_5 (ci := 6) (a := 6) cl_X3_9 in_6 iz_6 (by decide) (eqL (show mN M + 0 = 3 by omega) (by decide +kernel)) (ltn (show mN M + 0 = 3 by omega) (by decide)) (eqn (show mN M + 0 = 3 by omega) rfl) ?_
  refine PW.dupR (pc := 8) dX3_init_8 ?_
  refine PW.ini (m' := mX6_init) (pc := 9) dX3_init_9 lm_X3_11 me_X6_init mj_X6_init rfl rfl (As := []) (a := 6) (st := [.ref 6, .ref 5]) rfl (Nat.le_of_ble_eq_true rfl) (Nat.le_of_ble_eq_true rfl) (len_ (show mN M + 1 = 4 by omega) (by decide)) (by decide) (PW.deep (by decide) (c_X6_6 (show mN M + 1 = 4 by omega))) ?_
  rintro _ _ ⟨rfl, rfl⟩
  exact h
def u_X3_5_1 (M : pm) : pm := i_X2_9 (nw (sR M 5 0 6))
theorem un_X3_5_1 (M : pm) : mN (u_X3_5_1 M) = mN M + 5 := by
  unfold u_X3_5_1
  rw [in_X2_9]
  show mN M + 1 + 4 = mN M + 5
  omega
set_option maxRecDepth 4000 in
theorem k_X3_5_1 {M : pm} {Q : Option Value → pm → Prop} (hn : mN M = 6)  (h : PW mX3_init 13 11 23 [.ref 5] [.ref 9, .ref 5] (u_X3_5_1 M) Q) : PW mX3_init 13 11 12 [.ref 5] [.ref 6, .ref 5] M Q := by
  refine PW.putR (pc := 12) dX3_init_12 lf_X3_12 (obn (show mN M + 0 = 6 by omega) s_5 (by decide) (by decide)) fx_3_0 (Or.inr ⟨rfl, rfl, rfl⟩) (fun _ => rfl) (fun _ => rfl) (by decide) ?_
  refine PW.aload_n (pc := 15) dX3_init_15 rfl ?_
  refine PW.new (pc := 16) dX3_init_16 (ci := 2) (a := 9) cl_X3_18 in_2 iz_2 (by decide) (eqL (show mN M + 0 = 6 by omega) (by decide +kernel)) (ltn (show mN M + 0 = 6 by omega) (by decide)) (eqn (show mN M + 0 = 6 by omega) rfl) ?_
  refine PW.dupR (pc := 19) dX3_init_19 ?_
  refine PW.ini (m' := mX2_init) (pc := 20) dX3_init_20 lm_X3_20 me_X2_init mj_X2_init rfl rfl (As := []) (a := 9) (st := [.ref 9, .ref 5]) rfl (Nat.le_of_ble_eq_true rfl) (Nat.le_of_ble_eq_true rfl) (len_ (show mN M + 1 = 7 by omega) (by decide)) (by decide) (PW.deep (by decide) (c_X2_9 (show mN M + 1 = 7 by omega))) ?_
  rintro _ _ ⟨rfl, rfl⟩
  exact h
def u_X3_5_2 (M : pm) : pm := sI (sI (sI (sR (sR M 5 1 9) 5 2 9) 5 3 0) 5 4 0) 5 5 (-1)
theorem un_X3_5_2 (M : pm) : mN (u_X3_5_2 M) = mN M + 0 := rfl
set_option maxRecDepth 4000 in
theorem k_X3_5_2 {M : pm} {Q : Option Value → pm → Prop} (hn : mN M = 11)  (h : PW mX3_init 13 11 49 [.ref 5] [] (u_X3_5_2 M) Q) : PW mX3_init 13 11 23 [.ref 5] [.ref 9, .ref 5] M Q := by
  refine PW.putR (pc := 23) dX3_init_23 lf_X3_21 (obn (show mN M + 0 = 11 by omega) s_5 (by decide) (by decide)) fx_3_1 (Or.inr ⟨rfl, rfl, rfl⟩) (fun _ => rfl) (fun _ => rfl) (by decide) ?_
  refine PW.aload_n (pc := 26) dX3_init_26 rfl ?_
  refine PW.aload_n (pc := 27) dX3_init_27 rfl ?_
  refine PW.getR (pc := 28) dX3_init_28 (r := 9) lf_X3_21 (obn (show mN M + 0 = 11 by omega) s_5 (by decide) (by decide)) fx_3_1 (by simp [mR_sI, mR_sR, mR_sJ, mR_nw, mN_nw, mN_sI, mN_sR, mN_sJ, hn]) (by decide) ?_
  refine PW.putR (pc := 31) dX3_init_31 lf_X3_25 (obn (show mN M + 0 = 11 by omega) s_5 (by decide) (by decide)) fx_3_2 (Or.inl rfl) (fun _ => rfl) (fun _ => rfl) (by decide) ?_
  refine PW.aload_n (pc := 34) dX3_init_34 rfl ?_
  refine PW.iconst (pc := 35) dX3_init_35 (v := 0) (by decide) ?_
  refine PW.putI (pc := 36) dX3_init_36 lf_X3_28 (obn (show mN M + 0 = 11 by omega) s_5 (by decide) (by decide)) fx_3_3 (Or.inl rfl) (bz_n bz0) (bz_f bz0) ?_
  refine PW.aload_n (pc := 39) dX3_init_39 rfl ?_
  refine PW.iconst (pc := 40) dX3_init_40 (v := 0) (by decide) ?_
  refine PW.putI (pc := 41) dX3_init_41 lf_X3_32 (obn (show mN M + 0 = 11 by omega) s_5 (by decide) (by decide)) fx_3_4 (Or.inl rfl) (bz_n bz0) (bz_f bz0) ?_
  refine PW.aload_n (pc := 44) dX3_init_44 rfl ?_
  refine PW.iconst (pc := 45) dX3_init_45 (v := (-1)) (by decide) ?_
  refine PW.putI (pc := 46) dX3_init_46 lf_X3_35 (obn (show mN M + 0 = 11 by omega) s_5 (by decide) (by decide)) fx_3_5 (Or.inl rfl) rfl rfl ?_
  exact h
def i_X3_5 (M : pm) : pm := u_X3_5_2 (u_X3_5_1 (u_X3_5_0 M))
theorem in_X3_5 (M : pm) : mN (i_X3_5 M) = mN M + 8 := by
  unfold i_X3_5
  rw [un_X3_5_2, un_X3_5_1, un_X3_5_0] <;> omega
theorem c_X3_5 {M : pm} (hn : mN M = 3) : PW mX3_init 13 11 0 (pfr mX3_init.2.2.1 [.ref 5]) [] M (fun r M' => r = none ∧ M' = i_X3_5 M) := by
  show PW mX3_init 13 11 0 [.ref 5] [] M _
  refine k_X3_5_0 hn  ?_
  have hn1 : mN (u_X3_5_0 M) = 6 := by rw [un_X3_5_0, hn]
  refine k_X3_5_1 hn1  ?_
  have hn2 : mN (u_X3_5_1 (u_X3_5_0 M)) = 11 := by rw [un_X3_5_1, hn1]
  refine k_X3_5_2 hn2  ?_
  have hn3 : mN (u_X3_5_2 (u_X3_5_1 (u_X3_5_0 M))) = 11 := by rw [un_X3_5_2, hn2]
  exact PW.ret0 (pc := 49) dX3_init_49 hn3 rfl ⟨rfl, rfl⟩
def u_X2_24_0 (M : pm) : pm := sR (nw (sR (nw (sR (nw (sI (sR (nw M) 24 0 25) 24 1 0)) 24 2 26)) 24 3 27)) 24 4 28
theorem un_X2_24_0 (M : pm) : mN (u_X2_24_0 M) = mN M + 4 := rfl
set_option maxRecDepth 4000 in
theorem k_X2_24_0 {M : pm} {Q : Option Value → pm → Prop} (hn : mN M = 22)  (h : PW mX2_init 10 26 39 [.ref 24] [] (u_X2_24_0 M) Q) : PW mX2_init 10 26 0 [.ref 24] [] M Q := by
  refine PW.aload_n (pc := 0) dX2_init_0 rfl ?_
  refine PW.objInit (pc := 1) dX2_init_1 oi_X2_3 oi_i oi_c (Nat.le_of_ble_eq_true rfl) (by decide) ?_
  refine PW.aload_n (pc := 4) dX2_init_4 rfl ?_
  refine PW.sipush (pc := 5) dX2_init_5 (v := 1600) (by decide) ?_
  refine PW.newaI (pc := 8) dX2_init_8 (a := 25) aw_int (by decide) (by decide +kernel) (by decide) (ltn (show mN M + 0 = 22 by omega) (by decide)) (eqn (show mN M + 0 = 22 by omega) rfl) ?_
  refine PW.putR (pc := 10) dX2_init_10 lf_X2_9 (obn (show mN M + 1 = 23 by omega) s_24 (by decide) (by decide)) fx_2_0 (Or.inr ⟨rfl, rfl, rfl⟩) (fun _ => rfl) (fun _ => rfl) (by decide) ?_
  refine PW.aload_n (pc := 13) dX2_init_13 rfl ?_
  refine PW.iconst (pc := 14) dX2_init_14 (v := 0) (by decide) ?_
  refine PW.putI (pc := 15) dX2_init_15 lf_X2_15 (obn (show mN M + 1 = 23 by omega) s_24 (by decide) (by decide)) fx_2_1 (Or.inl rfl) rfl rfl ?_
  refine PW.aload_n (pc := 18) dX2_init_18 rfl ?_
  refine PW.iconst (pc := 19) dX2_init_19 (v := 3) (by decide) ?_
  refine PW.newaI (pc := 20) dX2_init_20 (a := 26) aw_int (by decide) (by decide +kernel) (by decide) (ltn (show mN M + 1 = 23 by omega) (by decide)) (eqn (show mN M + 1 = 23 by omega) rfl) ?_
  refine PW.putR (pc := 22) dX2_init_22 lf_X2_19 (obn (show mN M + 2 = 24 by omega) s_24 (by decide) (by decide)) fx_2_2 (Or.inr ⟨rfl, rfl, rfl⟩) (fun _ => rfl) (fun _ => rfl) (by decide) ?_
  refine PW.aload_n (pc := 25) dX2_init_25 rfl ?_
  refine PW.iconst (pc := 26) dX2_init_26 (v := 3) (by decide) ?_
  refine PW.newaI (pc := 27) dX2_init_27 (a := 27) aw_int (by decide) (by decide +kernel) (by decide) (ltn (show mN M + 2 = 24 by omega) (by decide)) (eqn (show mN M + 2 = 24 by omega) rfl) ?_
  refine PW.putR (pc := 29) dX2_init_29 lf_X2_22 (obn (show mN M + 3 = 25 by omega) s_24 (by decide) (by decide)) fx_2_3 (Or.inr ⟨rfl, rfl, rfl⟩) (fun _ => rfl) (fun _ => rfl) (by decide) ?_
  refine PW.aload_n (pc := 32) dX2_init_32 rfl ?_
  refine PW.iconst (pc := 33) dX2_init_33 (v := 3) (by decide) ?_
  refine PW.newaZ (pc := 34) dX2_init_34 (a := 28) aw_boolean (by decide) (by decide +kernel) (by decide) (ltn (show mN M + 3 = 25 by omega) (by decide)) (eqn (show mN M + 3 = 25 by omega) rfl) ?_
  refine PW.putR (pc := 36) dX2_init_36 lf_X2_25 (obn (show mN M + 4 = 26 by omega) s_24 (by decide) (by decide)) fx_2_4 (Or.inr ⟨rfl, rfl, rfl⟩) (fun _ => rfl) (fun _ => rfl) (by decide) ?_
  exact h
def i_X2_24 (M : pm) : pm := u_X2_24_0 M
theorem in_X2_24 (M : pm) : mN (i_X2_24 M) = mN M + 4 := by
  unfold i_X2_24
  rw [un_X2_24_0] <;> omega
theorem c_X2_24 {M : pm} (hn : mN M = 22) : PW mX2_init 10 26 0 (pfr mX2_init.2.2.1 [.ref 24]) [] M (fun r M' => r = none ∧ M' = i_X2_24 M) := by
  show PW mX2_init 10 26 0 [.ref 24] [] M _
  refine k_X2_24_0 hn  ?_
  have hn1 : mN (u_X2_24_0 M) = 26 := by rw [un_X2_24_0, hn]
  exact PW.ret0 (pc := 39) dX2_init_39 hn1 rfl ⟨rfl, rfl⟩
def u_X5_14_0 (M : pm) : pm := sR (nw (sR (nw (sR (nw (sI (sR (nw (sR (nw (sR (nw (sI (sI (sI (sI (sI M 14 0 0) 14 1 0) 14 2 0) 14 3 0) 14 4 0)) 14 5 15)) 14 6 16)) 14 7 17) 14 8 0)) 14 9 18)) 14 10 19)) 14 11 20
theorem un_X5_14_0 (M : pm) : mN (u_X5_14_0 M) = mN M + 6 := rfl
set_option maxRecDepth 4000 in
theorem k_X5_14_0 {M : pm} {Q : Option Value → pm → Prop} (hn : mN M = 12)  (h : PW mX5_init 11 26 82 [.ref 14] [] (u_X5_14_0 M) Q) : PW mX5_init 11 26 0 [.ref 14] [] M Q := by
  refine PW.aload_n (pc := 0) dX5_init_0 rfl ?_
  refine PW.objInit (pc := 1) dX5_init_1 oi_X5_3 oi_i oi_c (Nat.le_of_ble_eq_true rfl) (by decide) ?_
  refine PW.aload_n (pc := 4) dX5_init_4 rfl ?_
  refine PW.iconst (pc := 5) dX5_init_5 (v := 0) (by decide) ?_
  refine PW.putI (pc := 6) dX5_init_6 lf_X5_9 (obn (show mN M + 0 = 12 by omega) s_14 (by decide) (by decide)) fx_5_0 (Or.inl rfl) rfl rfl ?_
  refine PW.aload_n (pc := 9) dX5_init_9 rfl ?_
  refine PW.iconst (pc := 10) dX5_init_10 (v := 0) (by decide) ?_
  refine PW.putI (pc := 11) dX5_init_11 lf_X5_15 (obn (show mN M + 0 = 12 by omega) s_14 (by decide) (by decide)) fx_5_1 (Or.inl rfl) rfl rfl ?_
  refine PW.aload_n (pc := 14) dX5_init_14 rfl ?_
  refine PW.iconst (pc := 15) dX5_init_15 (v := 0) (by decide) ?_
  refine PW.putI (pc := 16) dX5_init_16 lf_X5_18 (obn (show mN M + 0 = 12 by omega) s_14 (by decide) (by decide)) fx_5_2 (Or.inl rfl) rfl rfl ?_
  refine PW.aload_n (pc := 19) dX5_init_19 rfl ?_
  refine PW.iconst (pc := 20) dX5_init_20 (v := 0) (by decide) ?_
  refine PW.putI (pc := 21) dX5_init_21 lf_X5_21 (obn (show mN M + 0 = 12 by omega) s_14 (by decide) (by decide)) fx_5_3 (Or.inl rfl) rfl rfl ?_
  refine PW.aload_n (pc := 24) dX5_init_24 rfl ?_
  refine PW.iconst (pc := 25) dX5_init_25 (v := 0) (by decide) ?_
  refine PW.putI (pc := 26) dX5_init_26 lf_X5_24 (obn (show mN M + 0 = 12 by omega) s_14 (by decide) (by decide)) fx_5_4 (Or.inl rfl) rfl rfl ?_
  refine PW.aload_n (pc := 29) dX5_init_29 rfl ?_
  refine PW.bipush (pc := 30) dX5_init_30 (v := 6) (by decide) ?_
  refine PW.newaI (pc := 32) dX5_init_32 (a := 15) aw_int (by decide) (by decide +kernel) (by decide) (ltn (show mN M + 0 = 12 by omega) (by decide)) (eqn (show mN M + 0 = 12 by omega) rfl) ?_
  refine PW.putR (pc := 34) dX5_init_34 lf_X5_27 (obn (show mN M + 1 = 13 by omega) s_14 (by decide) (by decide)) fx_5_5 (Or.inr ⟨rfl, rfl, rfl⟩) (fun _ => rfl) (fun _ => rfl) (by decide) ?_
  refine PW.aload_n (pc := 37) dX5_init_37 rfl ?_
  refine PW.bipush (pc := 38) dX5_init_38 (v := 6) (by decide) ?_
  refine PW.newaI (pc := 40) dX5_init_40 (a := 16) aw_int (by decide) (by decide +kernel) (by decide) (ltn (show mN M + 1 = 13 by omega) (by decide)) (eqn (show mN M + 1 = 13 by omega) rfl) ?_
  refine PW.putR (pc := 42) dX5_init_42 lf_X5_31 (obn (show mN M + 2 = 14 by omega) s_14 (by decide) (by decide)) fx_5_6 (Or.inr ⟨rfl, rfl, rfl⟩) (fun _ => rfl) (fun _ => rfl) (by decide) ?_
  refine PW.aload_n (pc := 45) dX5_init_45 rfl ?_
  refine PW.bipush (pc := 46) dX5_init_46 (v := 6) (by decide) ?_
  refine PW.newaI (pc := 48) dX5_init_48 (a := 17) aw_int (by decide) (by decide +kernel) (by decide) (ltn (show mN M + 2 = 14 by omega) (by decide)) (eqn (show mN M + 2 = 14 by omega) rfl) ?_
  refine PW.putR (pc := 50) dX5_init_50 lf_X5_34 (obn (show mN M + 3 = 15 by omega) s_14 (by decide) (by decide)) fx_5_7 (Or.inr ⟨rfl, rfl, rfl⟩) (fun _ => rfl) (fun _ => rfl) (by decide) ?_
  refine PW.aload_n (pc := 53) dX5_init_53 rfl ?_
  refine PW.iconst (pc := 54) dX5_init_54 (v := 0) (by decide) ?_
  refine PW.putI (pc := 55) dX5_init_55 lf_X5_37 (obn (show mN M + 3 = 15 by omega) s_14 (by decide) (by decide)) fx_5_8 (Or.inl rfl) rfl rfl ?_
  refine PW.aload_n (pc := 58) dX5_init_58 rfl ?_
  refine PW.bipush (pc := 59) dX5_init_59 (v := 8) (by decide) ?_
  refine PW.newaI (pc := 61) dX5_init_61 (a := 18) aw_int (by decide) (by decide +kernel) (by decide) (ltn (show mN M + 3 = 15 by omega) (by decide)) (eqn (show mN M + 3 = 15 by omega) rfl) ?_
  refine PW.putR (pc := 63) dX5_init_63 lf_X5_40 (obn (show mN M + 4 = 16 by omega) s_14 (by decide) (by decide)) fx_5_9 (Or.inr ⟨rfl, rfl, rfl⟩) (fun _ => rfl) (fun _ => rfl) (by decide) ?_
  refine PW.aload_n (pc := 66) dX5_init_66 rfl ?_
  refine PW.bipush (pc := 67) dX5_init_67 (v := 8) (by decide) ?_
  refine PW.newaI (pc := 69) dX5_init_69 (a := 19) aw_int (by decide) (by decide +kernel) (by decide) (ltn (show mN M + 4 = 16 by omega) (by decide)) (eqn (show mN M + 4 = 16 by omega) rfl) ?_
  refine PW.putR (pc := 71) dX5_init_71 lf_X5_43 (obn (show mN M + 5 = 17 by omega) s_14 (by decide) (by decide)) fx_5_10 (Or.inr ⟨rfl, rfl, rfl⟩) (fun _ => rfl) (fun _ => rfl) (by decide) ?_
  refine PW.aload_n (pc := 74) dX5_init_74 rfl ?_
  refine PW.bipush (pc := 75) dX5_init_75 (v := 8) (by decide) ?_
  refine PW.newaI (pc := 77) dX5_init_77 (a := 20) aw_int (by decide) (by decide +kernel) (by decide) (ltn (show mN M + 5 = 17 by omega) (by decide)) (eqn (show mN M + 5 = 17 by omega) rfl) ?_
  refine PW.putR (pc := 79) dX5_init_79 lf_X5_46 (obn (show mN M + 6 = 18 by omega) s_14 (by decide) (by decide)) fx_5_11 (Or.inr ⟨rfl, rfl, rfl⟩) (fun _ => rfl) (fun _ => rfl) (by decide) ?_
  exact h
def u_X5_14_1 (M : pm) : pm := i_X2_24 (nw (sR (nw (sR (nw (sI (sR (nw M) 14 12 21) 14 13 0)) 14 14 22)) 14 15 23))
theorem un_X5_14_1 (M : pm) : mN (u_X5_14_1 M) = mN M + 8 := by
  unfold u_X5_14_1
  rw [in_X2_24]
  show mN M + 4 + 4 = mN M + 8
  omega
set_option maxRecDepth 4000 in
theorem k_X5_14_1 {M : pm} {Q : Option Value → pm → Prop} (hn : mN M = 18)  (h : PW mX5_init 11 26 117 [.ref 14] [.ref 24, .ref 14] (u_X5_14_1 M) Q) : PW mX5_init 11 26 82 [.ref 14] [] M Q := by
  refine PW.aload_n (pc := 82) dX5_init_82 rfl ?_
  refine PW.bipush (pc := 83) dX5_init_83 (v := 8) (by decide) ?_
  refine PW.newaI (pc := 85) dX5_init_85 (a := 21) aw_int (by decide) (by decide +kernel) (by decide) (ltn (show mN M + 0 = 18 by omega) (by decide)) (eqn (show mN M + 0 = 18 by omega) rfl) ?_
  refine PW.putR (pc := 87) dX5_init_87 lf_X5_49 (obn (show mN M + 1 = 19 by omega) s_14 (by decide) (by decide)) fx_5_12 (Or.inr ⟨rfl, rfl, rfl⟩) (fun _ => rfl) (fun _ => rfl) (by decide) ?_
  refine PW.aload_n (pc := 90) dX5_init_90 rfl ?_
  refine PW.iconst (pc := 91) dX5_init_91 (v := 0) (by decide) ?_
  refine PW.putI (pc := 92) dX5_init_92 lf_X5_52 (obn (show mN M + 1 = 19 by omega) s_14 (by decide) (by decide)) fx_5_13 (Or.inl rfl) rfl rfl ?_
  refine PW.aload_n (pc := 95) dX5_init_95 rfl ?_
  refine PW.iconst (pc := 96) dX5_init_96 (v := 5) (by decide) ?_
  refine PW.newaI (pc := 97) dX5_init_97 (a := 22) aw_int (by decide) (by decide +kernel) (by decide) (ltn (show mN M + 1 = 19 by omega) (by decide)) (eqn (show mN M + 1 = 19 by omega) rfl) ?_
  refine PW.putR (pc := 99) dX5_init_99 lf_X5_55 (obn (show mN M + 2 = 20 by omega) s_14 (by decide) (by decide)) fx_5_14 (Or.inr ⟨rfl, rfl, rfl⟩) (fun _ => rfl) (fun _ => rfl) (by decide) ?_
  refine PW.aload_n (pc := 102) dX5_init_102 rfl ?_
  refine PW.iconst (pc := 103) dX5_init_103 (v := 5) (by decide) ?_
  refine PW.newaI (pc := 104) dX5_init_104 (a := 23) aw_int (by decide) (by decide +kernel) (by decide) (ltn (show mN M + 2 = 20 by omega) (by decide)) (eqn (show mN M + 2 = 20 by omega) rfl) ?_
  refine PW.putR (pc := 106) dX5_init_106 lf_X5_58 (obn (show mN M + 3 = 21 by omega) s_14 (by decide) (by decide)) fx_5_15 (Or.inr ⟨rfl, rfl, rfl⟩) (fun _ => rfl) (fun _ => rfl) (by decide) ?_
  refine PW.aload_n (pc := 109) dX5_init_109 rfl ?_
  refine PW.new (pc := 110) dX5_init_110 (ci := 2) (a := 24) cl_X5_61 in_2 iz_2 (by decide) (eqL (show mN M + 3 = 21 by omega) (by decide +kernel)) (ltn (show mN M + 3 = 21 by omega) (by decide)) (eqn (show mN M + 3 = 21 by omega) rfl) ?_
  refine PW.dupR (pc := 113) dX5_init_113 ?_
  refine PW.ini (m' := mX2_init) (pc := 114) dX5_init_114 lm_X5_63 me_X2_init mj_X2_init rfl rfl (As := []) (a := 24) (st := [.ref 24, .ref 14]) rfl (Nat.le_of_ble_eq_true rfl) (Nat.le_of_ble_eq_true rfl) (len_ (show mN M + 4 = 22 by omega) (by decide)) (by decide) (PW.deep (by decide) (c_X2_24 (show mN M + 4 = 22 by omega))) ?_
  rintro _ _ ⟨rfl, rfl⟩
  exact h
def u_X5_14_2 (M : pm) : pm := sR M 14 16 24
theorem un_X5_14_2 (M : pm) : mN (u_X5_14_2 M) = mN M + 0 := rfl
set_option maxRecDepth 4000 in
theorem k_X5_14_2 {M : pm} {Q : Option Value → pm → Prop} (hn : mN M = 26)  (h : PW mX5_init 11 26 120 [.ref 14] [] (u_X5_14_2 M) Q) : PW mX5_init 11 26 117 [.ref 14] [.ref 24, .ref 14] M Q := by
  refine PW.putR (pc := 117) dX5_init_117 lf_X5_64 (obn (show mN M + 0 = 26 by omega) s_14 (by decide) (by decide)) fx_5_16 (Or.inr ⟨rfl, rfl, rfl⟩) (fun _ => rfl) (fun _ => rfl) (by decide) ?_
  exact h
def i_X5_14 (M : pm) : pm := u_X5_14_2 (u_X5_14_1 (u_X5_14_0 M))
theorem in_X5_14 (M : pm) : mN (i_X5_14 M) = mN M + 14 := by
  unfold i_X5_14
  rw [un_X5_14_2, un_X5_14_1, un_X5_14_0] <;> omega
theorem c_X5_14 {M : pm} (hn : mN M = 12) : PW mX5_init 11 26 0 (pfr mX5_init.2.2.1 [.ref 14]) [] M (fun r M' => r = none ∧ M' = i_X5_14 M) := by
  show PW mX5_init 11 26 0 [.ref 14] [] M _
  refine k_X5_14_0 hn  ?_
  have hn1 : mN (u_X5_14_0 M) = 18 := by rw [un_X5_14_0, hn]
  refine k_X5_14_1 hn1  ?_
  have hn2 : mN (u_X5_14_1 (u_X5_14_0 M)) = 26 := by rw [un_X5_14_1, hn1]
  refine k_X5_14_2 hn2  ?_
  have hn3 : mN (u_X5_14_2 (u_X5_14_1 (u_X5_14_0 M))) = 26 := by rw [un_X5_14_2, hn2]
  exact PW.ret0 (pc := 120) dX5_init_120 hn3 rfl ⟨rfl, rfl⟩
def u_X2_39_0 (M : pm) : pm := sR (nw (sR (nw (sR (nw (sI (sR (nw M) 39 0 40) 39 1 0)) 39 2 41)) 39 3 42)) 39 4 43
theorem un_X2_39_0 (M : pm) : mN (u_X2_39_0 M) = mN M + 4 := rfl
set_option maxRecDepth 4000 in
theorem k_X2_39_0 {M : pm} {Q : Option Value → pm → Prop} (hn : mN M = 37)  (h : PW mX2_init 10 41 39 [.ref 39] [] (u_X2_39_0 M) Q) : PW mX2_init 10 41 0 [.ref 39] [] M Q := by
  refine PW.aload_n (pc := 0) dX2_init_0 rfl ?_
  refine PW.objInit (pc := 1) dX2_init_1 oi_X2_3 oi_i oi_c (Nat.le_of_ble_eq_true rfl) (by decide) ?_
  refine PW.aload_n (pc := 4) dX2_init_4 rfl ?_
  refine PW.sipush (pc := 5) dX2_init_5 (v := 1600) (by decide) ?_
  refine PW.newaI (pc := 8) dX2_init_8 (a := 40) aw_int (by decide) (by decide +kernel) (by decide) (ltn (show mN M + 0 = 37 by omega) (by decide)) (eqn (show mN M + 0 = 37 by omega) rfl) ?_
  refine PW.putR (pc := 10) dX2_init_10 lf_X2_9 (obn (show mN M + 1 = 38 by omega) s_39 (by decide) (by decide)) fx_2_0 (Or.inr ⟨rfl, rfl, rfl⟩) (fun _ => rfl) (fun _ => rfl) (by decide) ?_
  refine PW.aload_n (pc := 13) dX2_init_13 rfl ?_
  refine PW.iconst (pc := 14) dX2_init_14 (v := 0) (by decide) ?_
  refine PW.putI (pc := 15) dX2_init_15 lf_X2_15 (obn (show mN M + 1 = 38 by omega) s_39 (by decide) (by decide)) fx_2_1 (Or.inl rfl) rfl rfl ?_
  refine PW.aload_n (pc := 18) dX2_init_18 rfl ?_
  refine PW.iconst (pc := 19) dX2_init_19 (v := 3) (by decide) ?_
  refine PW.newaI (pc := 20) dX2_init_20 (a := 41) aw_int (by decide) (by decide +kernel) (by decide) (ltn (show mN M + 1 = 38 by omega) (by decide)) (eqn (show mN M + 1 = 38 by omega) rfl) ?_
  refine PW.putR (pc := 22) dX2_init_22 lf_X2_19 (obn (show mN M + 2 = 39 by omega) s_39 (by decide) (by decide)) fx_2_2 (Or.inr ⟨rfl, rfl, rfl⟩) (fun _ => rfl) (fun _ => rfl) (by decide) ?_
  refine PW.aload_n (pc := 25) dX2_init_25 rfl ?_
  refine PW.iconst (pc := 26) dX2_init_26 (v := 3) (by decide) ?_
  refine PW.newaI (pc := 27) dX2_init_27 (a := 42) aw_int (by decide) (by decide +kernel) (by decide) (ltn (show mN M + 2 = 39 by omega) (by decide)) (eqn (show mN M + 2 = 39 by omega) rfl) ?_
  refine PW.putR (pc := 29) dX2_init_29 lf_X2_22 (obn (show mN M + 3 = 40 by omega) s_39 (by decide) (by decide)) fx_2_3 (Or.inr ⟨rfl, rfl, rfl⟩) (fun _ => rfl) (fun _ => rfl) (by decide) ?_
  refine PW.aload_n (pc := 32) dX2_init_32 rfl ?_
  refine PW.iconst (pc := 33) dX2_init_33 (v := 3) (by decide) ?_
  refine PW.newaZ (pc := 34) dX2_init_34 (a := 43) aw_boolean (by decide) (by decide +kernel) (by decide) (ltn (show mN M + 3 = 40 by omega) (by decide)) (eqn (show mN M + 3 = 40 by omega) rfl) ?_
  refine PW.putR (pc := 36) dX2_init_36 lf_X2_25 (obn (show mN M + 4 = 41 by omega) s_39 (by decide) (by decide)) fx_2_4 (Or.inr ⟨rfl, rfl, rfl⟩) (fun _ => rfl) (fun _ => rfl) (by decide) ?_
  exact h
def i_X2_39 (M : pm) : pm := u_X2_39_0 M
theorem in_X2_39 (M : pm) : mN (i_X2_39 M) = mN M + 4 := by
  unfold i_X2_39
  rw [un_X2_39_0] <;> omega
theorem c_X2_39 {M : pm} (hn : mN M = 37) : PW mX2_init 10 41 0 (pfr mX2_init.2.2.1 [.ref 39]) [] M (fun r M' => r = none ∧ M' = i_X2_39 M) := by
  show PW mX2_init 10 41 0 [.ref 39] [] M _
  refine k_X2_39_0 hn  ?_
  have hn1 : mN (u_X2_39_0 M) = 41 := by rw [un_X2_39_0, hn]
  exact PW.ret0 (pc := 39) dX2_init_39 hn1 rfl ⟨rfl, rfl⟩
def u_X5_29_0 (M : pm) : pm := sR (nw (sR (nw (sR (nw (sI (sR (nw (sR (nw (sR (nw (sI (sI (sI (sI (sI M 29 0 0) 29 1 0) 29 2 0) 29 3 0) 29 4 0)) 29 5 30)) 29 6 31)) 29 7 32) 29 8 0)) 29 9 33)) 29 10 34)) 29 11 35
theorem un_X5_29_0 (M : pm) : mN (u_X5_29_0 M) = mN M + 6 := rfl
set_option maxRecDepth 4000 in
theorem k_X5_29_0 {M : pm} {Q : Option Value → pm → Prop} (hn : mN M = 27)  (h : PW mX5_init 11 41 82 [.ref 29] [] (u_X5_29_0 M) Q) : PW mX5_init 11 41 0 [.ref 29] [] M Q := by
  refine PW.aload_n (pc := 0) dX5_init_0 rfl ?_
  refine PW.objInit (pc := 1) dX5_init_1 oi_X5_3 oi_i oi_c (Nat.le_of_ble_eq_true rfl) (by decide) ?_
  refine PW.aload_n (pc := 4) dX5_init_4 rfl ?_
  refine PW.iconst (pc := 5) dX5_init_5 (v := 0) (by decide) ?_
  refine PW.putI (pc := 6) dX5_init_6 lf_X5_9 (obn (show mN M + 0 = 27 by omega) s_29 (by decide) (by decide)) fx_5_0 (Or.inl rfl) rfl rfl ?_
  refine PW.aload_n (pc := 9) dX5_init_9 rfl ?_
  refine PW.iconst (pc := 10) dX5_init_10 (v := 0) (by decide) ?_
  refine PW.putI (pc := 11) dX5_init_11 lf_X5_15 (obn (show mN M + 0 = 27 by omega) s_29 (by decide) (by decide)) fx_5_1 (Or.inl rfl) rfl rfl ?_
  refine PW.aload_n (pc := 14) dX5_init_14 rfl ?_
  refine PW.iconst (pc := 15) dX5_init_15 (v := 0) (by decide) ?_
  refine PW.putI (pc := 16) dX5_init_16 lf_X5_18 (obn (show mN M + 0 = 27 by omega) s_29 (by decide) (by decide)) fx_5_2 (Or.inl rfl) rfl rfl ?_
  refine PW.aload_n (pc := 19) dX5_init_19 rfl ?_
  refine PW.iconst (pc := 20) dX5_init_20 (v := 0) (by decide) ?_
  refine PW.putI (pc := 21) dX5_init_21 lf_X5_21 (obn (show mN M + 0 = 27 by omega) s_29 (by decide) (by decide)) fx_5_3 (Or.inl rfl) rfl rfl ?_
  refine PW.aload_n (pc := 24) dX5_init_24 rfl ?_
  refine PW.iconst (pc := 25) dX5_init_25 (v := 0) (by decide) ?_
  refine PW.putI (pc := 26) dX5_init_26 lf_X5_24 (obn (show mN M + 0 = 27 by omega) s_29 (by decide) (by decide)) fx_5_4 (Or.inl rfl) rfl rfl ?_
  refine PW.aload_n (pc := 29) dX5_init_29 rfl ?_
  refine PW.bipush (pc := 30) dX5_init_30 (v := 6) (by decide) ?_
  refine PW.newaI (pc := 32) dX5_init_32 (a := 30) aw_int (by decide) (by decide +kernel) (by decide) (ltn (show mN M + 0 = 27 by omega) (by decide)) (eqn (show mN M + 0 = 27 by omega) rfl) ?_
  refine PW.putR (pc := 34) dX5_init_34 lf_X5_27 (obn (show mN M + 1 = 28 by omega) s_29 (by decide) (by decide)) fx_5_5 (Or.inr ⟨rfl, rfl, rfl⟩) (fun _ => rfl) (fun _ => rfl) (by decide) ?_
  refine PW.aload_n (pc := 37) dX5_init_37 rfl ?_
  refine PW.bipush (pc := 38) dX5_init_38 (v := 6) (by decide) ?_
  refine PW.newaI (pc := 40) dX5_init_40 (a := 31) aw_int (by decide) (by decide +kernel) (by decide) (ltn (show mN M + 1 = 28 by omega) (by decide)) (eqn (show mN M + 1 = 28 by omega) rfl) ?_
  refine PW.putR (pc := 42) dX5_init_42 lf_X5_31 (obn (show mN M + 2 = 29 by omega) s_29 (by decide) (by decide)) fx_5_6 (Or.inr ⟨rfl, rfl, rfl⟩) (fun _ => rfl) (fun _ => rfl) (by decide) ?_
  refine PW.aload_n (pc := 45) dX5_init_45 rfl ?_
  refine PW.bipush (pc := 46) dX5_init_46 (v := 6) (by decide) ?_
  refine PW.newaI (pc := 48) dX5_init_48 (a := 32) aw_int (by decide) (by decide +kernel) (by decide) (ltn (show mN M + 2 = 29 by omega) (by decide)) (eqn (show mN M + 2 = 29 by omega) rfl) ?_
  refine PW.putR (pc := 50) dX5_init_50 lf_X5_34 (obn (show mN M + 3 = 30 by omega) s_29 (by decide) (by decide)) fx_5_7 (Or.inr ⟨rfl, rfl, rfl⟩) (fun _ => rfl) (fun _ => rfl) (by decide) ?_
  refine PW.aload_n (pc := 53) dX5_init_53 rfl ?_
  refine PW.iconst (pc := 54) dX5_init_54 (v := 0) (by decide) ?_
  refine PW.putI (pc := 55) dX5_init_55 lf_X5_37 (obn (show mN M + 3 = 30 by omega) s_29 (by decide) (by decide)) fx_5_8 (Or.inl rfl) rfl rfl ?_
  refine PW.aload_n (pc := 58) dX5_init_58 rfl ?_
  refine PW.bipush (pc := 59) dX5_init_59 (v := 8) (by decide) ?_
  refine PW.newaI (pc := 61) dX5_init_61 (a := 33) aw_int (by decide) (by decide +kernel) (by decide) (ltn (show mN M + 3 = 30 by omega) (by decide)) (eqn (show mN M + 3 = 30 by omega) rfl) ?_
  refine PW.putR (pc := 63) dX5_init_63 lf_X5_40 (obn (show mN M + 4 = 31 by omega) s_29 (by decide) (by decide)) fx_5_9 (Or.inr ⟨rfl, rfl, rfl⟩) (fun _ => rfl) (fun _ => rfl) (by decide) ?_
  refine PW.aload_n (pc := 66) dX5_init_66 rfl ?_
  refine PW.bipush (pc := 67) dX5_init_67 (v := 8) (by decide) ?_
  refine PW.newaI (pc := 69) dX5_init_69 (a := 34) aw_int (by decide) (by decide +kernel) (by decide) (ltn (show mN M + 4 = 31 by omega) (by decide)) (eqn (show mN M + 4 = 31 by omega) rfl) ?_
  refine PW.putR (pc := 71) dX5_init_71 lf_X5_43 (obn (show mN M + 5 = 32 by omega) s_29 (by decide) (by decide)) fx_5_10 (Or.inr ⟨rfl, rfl, rfl⟩) (fun _ => rfl) (fun _ => rfl) (by decide) ?_
  refine PW.aload_n (pc := 74) dX5_init_74 rfl ?_
  refine PW.bipush (pc := 75) dX5_init_75 (v := 8) (by decide) ?_
  refine PW.newaI (pc := 77) dX5_init_77 (a := 35) aw_int (by decide) (by decide +kernel) (by decide) (ltn (show mN M + 5 = 32 by omega) (by decide)) (eqn (show mN M + 5 = 32 by omega) rfl) ?_
  refine PW.putR (pc := 79) dX5_init_79 lf_X5_46 (obn (show mN M + 6 = 33 by omega) s_29 (by decide) (by decide)) fx_5_11 (Or.inr ⟨rfl, rfl, rfl⟩) (fun _ => rfl) (fun _ => rfl) (by decide) ?_
  exact h
def u_X5_29_1 (M : pm) : pm := i_X2_39 (nw (sR (nw (sR (nw (sI (sR (nw M) 29 12 36) 29 13 0)) 29 14 37)) 29 15 38))
theorem un_X5_29_1 (M : pm) : mN (u_X5_29_1 M) = mN M + 8 := by
  unfold u_X5_29_1
  rw [in_X2_39]
  show mN M + 4 + 4 = mN M + 8
  omega
set_option maxRecDepth 4000 in
theorem k_X5_29_1 {M : pm} {Q : Option Value → pm → Prop} (hn : mN M = 33)  (h : PW mX5_init 11 41 117 [.ref 29] [.ref 39, .ref 29] (u_X5_29_1 M) Q) : PW mX5_init 11 41 82 [.ref 29] [] M Q := by
  refine PW.aload_n (pc := 82) dX5_init_82 rfl ?_
  refine PW.bipush (pc := 83) dX5_init_83 (v := 8) (by decide) ?_
  refine PW.newaI (pc := 85) dX5_init_85 (a := 36) aw_int (by decide) (by decide +kernel) (by decide) (ltn (show mN M + 0 = 33 by omega) (by decide)) (eqn (show mN M + 0 = 33 by omega) rfl) ?_
  refine PW.putR (pc := 87) dX5_init_87 lf_X5_49 (obn (show mN M + 1 = 34 by omega) s_29 (by decide) (by decide)) fx_5_12 (Or.inr ⟨rfl, rfl, rfl⟩) (fun _ => rfl) (fun _ => rfl) (by decide) ?_
  refine PW.aload_n (pc := 90) dX5_init_90 rfl ?_
  refine PW.iconst (pc := 91) dX5_init_91 (v := 0) (by decide) ?_
  refine PW.putI (pc := 92) dX5_init_92 lf_X5_52 (obn (show mN M + 1 = 34 by omega) s_29 (by decide) (by decide)) fx_5_13 (Or.inl rfl) rfl rfl ?_
  refine PW.aload_n (pc := 95) dX5_init_95 rfl ?_
  refine PW.iconst (pc := 96) dX5_init_96 (v := 5) (by decide) ?_
  refine PW.newaI (pc := 97) dX5_init_97 (a := 37) aw_int (by decide) (by decide +kernel) (by decide) (ltn (show mN M + 1 = 34 by omega) (by decide)) (eqn (show mN M + 1 = 34 by omega) rfl) ?_
  refine PW.putR (pc := 99) dX5_init_99 lf_X5_55 (obn (show mN M + 2 = 35 by omega) s_29 (by decide) (by decide)) fx_5_14 (Or.inr ⟨rfl, rfl, rfl⟩) (fun _ => rfl) (fun _ => rfl) (by decide) ?_
  refine PW.aload_n (pc := 102) dX5_init_102 rfl ?_
  refine PW.iconst (pc := 103) dX5_init_103 (v := 5) (by decide) ?_
  refine PW.newaI (pc := 104) dX5_init_104 (a := 38) aw_int (by decide) (by decide +kernel) (by decide) (ltn (show mN M + 2 = 35 by omega) (by decide)) (eqn (show mN M + 2 = 35 by omega) rfl) ?_
  refine PW.putR (pc := 106) dX5_init_106 lf_X5_58 (obn (show mN M + 3 = 36 by omega) s_29 (by decide) (by decide)) fx_5_15 (Or.inr ⟨rfl, rfl, rfl⟩) (fun _ => rfl) (fun _ => rfl) (by decide) ?_
  refine PW.aload_n (pc := 109) dX5_init_109 rfl ?_
  refine PW.new (pc := 110) dX5_init_110 (ci := 2) (a := 39) cl_X5_61 in_2 iz_2 (by decide) (eqL (show mN M + 3 = 36 by omega) (by decide +kernel)) (ltn (show mN M + 3 = 36 by omega) (by decide)) (eqn (show mN M + 3 = 36 by omega) rfl) ?_
  refine PW.dupR (pc := 113) dX5_init_113 ?_
  refine PW.ini (m' := mX2_init) (pc := 114) dX5_init_114 lm_X5_63 me_X2_init mj_X2_init rfl rfl (As := []) (a := 39) (st := [.ref 39, .ref 29]) rfl (Nat.le_of_ble_eq_true rfl) (Nat.le_of_ble_eq_true rfl) (len_ (show mN M + 4 = 37 by omega) (by decide)) (by decide) (PW.deep (by decide) (c_X2_39 (show mN M + 4 = 37 by omega))) ?_
  rintro _ _ ⟨rfl, rfl⟩
  exact h
def u_X5_29_2 (M : pm) : pm := sR M 29 16 39
theorem un_X5_29_2 (M : pm) : mN (u_X5_29_2 M) = mN M + 0 := rfl
set_option maxRecDepth 4000 in
theorem k_X5_29_2 {M : pm} {Q : Option Value → pm → Prop} (hn : mN M = 41)  (h : PW mX5_init 11 41 120 [.ref 29] [] (u_X5_29_2 M) Q) : PW mX5_init 11 41 117 [.ref 29] [.ref 39, .ref 29] M Q := by
  refine PW.putR (pc := 117) dX5_init_117 lf_X5_64 (obn (show mN M + 0 = 41 by omega) s_29 (by decide) (by decide)) fx_5_16 (Or.inr ⟨rfl, rfl, rfl⟩) (fun _ => rfl) (fun _ => rfl) (by decide) ?_
  exact h
def i_X5_29 (M : pm) : pm := u_X5_29_2 (u_X5_29_1 (u_X5_29_0 M))
theorem in_X5_29 (M : pm) : mN (i_X5_29 M) = mN M + 14 := by
  unfold i_X5_29
  rw [un_X5_29_2, un_X5_29_1, un_X5_29_0] <;> omega
theorem c_X5_29 {M : pm} (hn : mN M = 27) : PW mX5_init 11 41 0 (pfr mX5_init.2.2.1 [.ref 29]) [] M (fun r M' => r = none ∧ M' = i_X5_29 M) := by
  show PW mX5_init 11 41 0 [.ref 29] [] M _
  refine k_X5_29_0 hn  ?_
  have hn1 : mN (u_X5_29_0 M) = 33 := by rw [un_X5_29_0, hn]
  refine k_X5_29_1 hn1  ?_
  have hn2 : mN (u_X5_29_1 (u_X5_29_0 M)) = 41 := by rw [un_X5_29_1, hn1]
  refine k_X5_29_2 hn2  ?_
  have hn3 : mN (u_X5_29_2 (u_X5_29_1 (u_X5_29_0 M))) = 41 := by rw [un_X5_29_2, hn2]
  exact PW.ret0 (pc := 120) dX5_init_120 hn3 rfl ⟨rfl, rfl⟩
def u_X1_44_0 (M : pm) : pm := sR (nm (sR (nw (sR (nw (sR (nw (sR (nw (sR (nw M) 44 0 45)) 44 1 46)) 44 2 47)) 44 3 48)) 44 4 49) 6) 44 5 50
theorem un_X1_44_0 (M : pm) : mN (u_X1_44_0 M) = mN M + 12 := rfl
set_option maxRecDepth 4000 in
theorem k_X1_44_0 {M : pm} {Q : Option Value → pm → Prop} (hn : mN M = 42)  (h : PW mX1_init 10 54 60 [.ref 44] [] (u_X1_44_0 M) Q) : PW mX1_init 10 54 0 [.ref 44] [] M Q := by
  refine PW.aload_n (pc := 0) dX1_init_0 rfl ?_
  refine PW.objInit (pc := 1) dX1_init_1 oi_X1_3 oi_i oi_c (Nat.le_of_ble_eq_true rfl) (by decide) ?_
  refine PW.aload_n (pc := 4) dX1_init_4 rfl ?_
  refine PW.sipush (pc := 5) dX1_init_5 (v := 128) (by decide) ?_
  refine PW.newaI (pc := 8) dX1_init_8 (a := 45) aw_int (by decide) (by decide +kernel) (by decide) (ltn (show mN M + 0 = 42 by omega) (by decide)) (eqn (show mN M + 0 = 42 by omega) rfl) ?_
  refine PW.putR (pc := 10) dX1_init_10 lf_X1_11 (obn (show mN M + 1 = 43 by omega) s_44 (by decide) (by decide)) fx_1_0 (Or.inr ⟨rfl, rfl, rfl⟩) (fun _ => rfl) (fun _ => rfl) (by decide) ?_
  refine PW.aload_n (pc := 13) dX1_init_13 rfl ?_
  refine PW.bipush (pc := 14) dX1_init_14 (v := 28) (by decide) ?_
  refine PW.newaI (pc := 16) dX1_init_16 (a := 46) aw_int (by decide) (by decide +kernel) (by decide) (ltn (show mN M + 1 = 43 by omega) (by decide)) (eqn (show mN M + 1 = 43 by omega) rfl) ?_
  refine PW.putR (pc := 18) dX1_init_18 lf_X1_15 (obn (show mN M + 2 = 44 by omega) s_44 (by decide) (by decide)) fx_1_1 (Or.inr ⟨rfl, rfl, rfl⟩) (fun _ => rfl) (fun _ => rfl) (by decide) ?_
  refine PW.aload_n (pc := 21) dX1_init_21 rfl ?_
  refine PW.bipush (pc := 22) dX1_init_22 (v := 8) (by decide) ?_
  refine PW.newaI (pc := 24) dX1_init_24 (a := 47) aw_int (by decide) (by decide +kernel) (by decide) (ltn (show mN M + 2 = 44 by omega) (by decide)) (eqn (show mN M + 2 = 44 by omega) rfl) ?_
  refine PW.putR (pc := 26) dX1_init_26 lf_X1_18 (obn (show mN M + 3 = 45 by omega) s_44 (by decide) (by decide)) fx_1_2 (Or.inr ⟨rfl, rfl, rfl⟩) (fun _ => rfl) (fun _ => rfl) (by decide) ?_
  refine PW.aload_n (pc := 29) dX1_init_29 rfl ?_
  refine PW.sipush (pc := 30) dX1_init_30 (v := 256) (by decide) ?_
  refine PW.newaI (pc := 33) dX1_init_33 (a := 48) aw_int (by decide) (by decide +kernel) (by decide) (ltn (show mN M + 3 = 45 by omega) (by decide)) (eqn (show mN M + 3 = 45 by omega) rfl) ?_
  refine PW.putR (pc := 35) dX1_init_35 lf_X1_21 (obn (show mN M + 4 = 46 by omega) s_44 (by decide) (by decide)) fx_1_3 (Or.inr ⟨rfl, rfl, rfl⟩) (fun _ => rfl) (fun _ => rfl) (by decide) ?_
  refine PW.aload_n (pc := 38) dX1_init_38 rfl ?_
  refine PW.sipush (pc := 39) dX1_init_39 (v := 256) (by decide) ?_
  refine PW.newaI (pc := 42) dX1_init_42 (a := 49) aw_int (by decide) (by decide +kernel) (by decide) (ltn (show mN M + 4 = 46 by omega) (by decide)) (eqn (show mN M + 4 = 46 by omega) rfl) ?_
  refine PW.putR (pc := 44) dX1_init_44 lf_X1_24 (obn (show mN M + 5 = 47 by omega) s_44 (by decide) (by decide)) fx_1_4 (Or.inr ⟨rfl, rfl, rfl⟩) (fun _ => rfl) (fun _ => rfl) (by decide) ?_
  refine PW.aload_n (pc := 47) dX1_init_47 rfl ?_
  refine PW.bipush (pc := 48) dX1_init_48 (v := 6) (by decide) ?_
  refine PW.sipush (pc := 50) dX1_init_50 (v := 256) (by decide) ?_
  refine PW.mna (pc := 53) dX1_init_53 (a := 50) (N := 6) (K := 256) cl_X1_27 aw_int (by decide) (by decide) (by decide) (by decide) (by decide) (by decide) (by decide) (by decide +kernel) (by decide +kernel) (lzL (show mN M + 5 = 47 by omega) (by decide +kernel)) (leL (show mN M + 5 = 47 by omega) (by decide)) (eqn (show mN M + 5 = 47 by omega) rfl) ?_
  refine PW.putR (pc := 57) dX1_init_57 lf_X1_29 (obn (show mN M + 12 = 54 by omega) s_44 (by decide) (by decide)) fx_1_5 (Or.inr ⟨rfl, rfl, rfl⟩) (fun _ => rfl) (fun _ => rfl) (by decide) ?_
  exact h
def i_X1_44 (M : pm) : pm := u_X1_44_0 M
theorem in_X1_44 (M : pm) : mN (i_X1_44 M) = mN M + 12 := by
  unfold i_X1_44
  rw [un_X1_44_0] <;> omega
theorem c_X1_44 {M : pm} (hn : mN M = 42) : PW mX1_init 10 54 0 (pfr mX1_init.2.2.1 [.ref 44]) [] M (fun r M' => r = none ∧ M' = i_X1_44 M) := by
  show PW mX1_init 10 54 0 [.ref 44] [] M _
  refine k_X1_44_0 hn  ?_
  have hn1 : mN (u_X1_44_0 M) = 54 := by rw [un_X1_44_0, hn]
  exact PW.ret0 (pc := 60) dX1_init_60 hn1 rfl ⟨rfl, rfl⟩
def u_X4_57_0 (M : pm) : pm := sR (nw (sR (nw (sR (nw (sI (sR (nw (sR (nw (sR (nw (sR (nw (sR (nw (sI (sI M 57 0 0) 57 1 0)) 57 2 58)) 57 3 59)) 57 4 60)) 57 5 61)) 57 6 62) 57 7 0)) 57 8 63)) 57 9 64)) 57 10 65
theorem un_X4_57_0 (M : pm) : mN (u_X4_57_0 M) = mN M + 8 := rfl
set_option maxRecDepth 4000 in
theorem k_X4_57_0 {M : pm} {Q : Option Value → pm → Prop} (hn : mN M = 55)  (h : PW mX4_init 10 63 83 [.ref 57] [] (u_X4_57_0 M) Q) : PW mX4_init 10 63 0 [.ref 57] [] M Q := by
  refine PW.aload_n (pc := 0) dX4_init_0 rfl ?_
  refine PW.objInit (pc := 1) dX4_init_1 oi_X4_3 oi_i oi_c (Nat.le_of_ble_eq_true rfl) (by decide) ?_
  refine PW.aload_n (pc := 4) dX4_init_4 rfl ?_
  refine PW.iconst (pc := 5) dX4_init_5 (v := 0) (by decide) ?_
  refine PW.putI (pc := 6) dX4_init_6 lf_X4_9 (obn (show mN M + 0 = 55 by omega) s_57 (by decide) (by decide)) fx_4_0 (Or.inl rfl) rfl rfl ?_
  refine PW.aload_n (pc := 9) dX4_init_9 rfl ?_
  refine PW.iconst (pc := 10) dX4_init_10 (v := 0) (by decide) ?_
  refine PW.putI (pc := 11) dX4_init_11 lf_X4_15 (obn (show mN M + 0 = 55 by omega) s_57 (by decide) (by decide)) fx_4_1 (Or.inl rfl) rfl rfl ?_
  refine PW.aload_n (pc := 14) dX4_init_14 rfl ?_
  refine PW.bipush (pc := 15) dX4_init_15 (v := 8) (by decide) ?_
  refine PW.newaI (pc := 17) dX4_init_17 (a := 58) aw_int (by decide) (by decide +kernel) (by decide) (ltn (show mN M + 0 = 55 by omega) (by decide)) (eqn (show mN M + 0 = 55 by omega) rfl) ?_
  refine PW.putR (pc := 19) dX4_init_19 lf_X4_18 (obn (show mN M + 1 = 56 by omega) s_57 (by decide) (by decide)) fx_4_2 (Or.inr ⟨rfl, rfl, rfl⟩) (fun _ => rfl) (fun _ => rfl) (by decide) ?_
  refine PW.aload_n (pc := 22) dX4_init_22 rfl ?_
  refine PW.bipush (pc := 23) dX4_init_23 (v := 8) (by decide) ?_
  refine PW.newaI (pc := 25) dX4_init_25 (a := 59) aw_int (by decide) (by decide +kernel) (by decide) (ltn (show mN M + 1 = 56 by omega) (by decide)) (eqn (show mN M + 1 = 56 by omega) rfl) ?_
  refine PW.putR (pc := 27) dX4_init_27 lf_X4_22 (obn (show mN M + 2 = 57 by omega) s_57 (by decide) (by decide)) fx_4_3 (Or.inr ⟨rfl, rfl, rfl⟩) (fun _ => rfl) (fun _ => rfl) (by decide) ?_
  refine PW.aload_n (pc := 30) dX4_init_30 rfl ?_
  refine PW.bipush (pc := 31) dX4_init_31 (v := 8) (by decide) ?_
  refine PW.newaI (pc := 33) dX4_init_33 (a := 60) aw_int (by decide) (by decide +kernel) (by decide) (ltn (show mN M + 2 = 57 by omega) (by decide)) (eqn (show mN M + 2 = 57 by omega) rfl) ?_
  refine PW.putR (pc := 35) dX4_init_35 lf_X4_25 (obn (show mN M + 3 = 58 by omega) s_57 (by decide) (by decide)) fx_4_4 (Or.inr ⟨rfl, rfl, rfl⟩) (fun _ => rfl) (fun _ => rfl) (by decide) ?_
  refine PW.aload_n (pc := 38) dX4_init_38 rfl ?_
  refine PW.bipush (pc := 39) dX4_init_39 (v := 8) (by decide) ?_
  refine PW.newaI (pc := 41) dX4_init_41 (a := 61) aw_int (by decide) (by decide +kernel) (by decide) (ltn (show mN M + 3 = 58 by omega) (by decide)) (eqn (show mN M + 3 = 58 by omega) rfl) ?_
  refine PW.putR (pc := 43) dX4_init_43 lf_X4_28 (obn (show mN M + 4 = 59 by omega) s_57 (by decide) (by decide)) fx_4_5 (Or.inr ⟨rfl, rfl, rfl⟩) (fun _ => rfl) (fun _ => rfl) (by decide) ?_
  refine PW.aload_n (pc := 46) dX4_init_46 rfl ?_
  refine PW.bipush (pc := 47) dX4_init_47 (v := 8) (by decide) ?_
  refine PW.newaI (pc := 49) dX4_init_49 (a := 62) aw_int (by decide) (by decide +kernel) (by decide) (ltn (show mN M + 4 = 59 by omega) (by decide)) (eqn (show mN M + 4 = 59 by omega) rfl) ?_
  refine PW.putR (pc := 51) dX4_init_51 lf_X4_31 (obn (show mN M + 5 = 60 by omega) s_57 (by decide) (by decide)) fx_4_6 (Or.inr ⟨rfl, rfl, rfl⟩) (fun _ => rfl) (fun _ => rfl) (by decide) ?_
  refine PW.aload_n (pc := 54) dX4_init_54 rfl ?_
  refine PW.iconst (pc := 55) dX4_init_55 (v := 0) (by decide) ?_
  refine PW.putI (pc := 56) dX4_init_56 lf_X4_34 (obn (show mN M + 5 = 60 by omega) s_57 (by decide) (by decide)) fx_4_7 (Or.inl rfl) rfl rfl ?_
  refine PW.aload_n (pc := 59) dX4_init_59 rfl ?_
  refine PW.bipush (pc := 60) dX4_init_60 (v := 40) (by decide) ?_
  refine PW.newaI (pc := 62) dX4_init_62 (a := 63) aw_int (by decide) (by decide +kernel) (by decide) (ltn (show mN M + 5 = 60 by omega) (by decide)) (eqn (show mN M + 5 = 60 by omega) rfl) ?_
  refine PW.putR (pc := 64) dX4_init_64 lf_X4_37 (obn (show mN M + 6 = 61 by omega) s_57 (by decide) (by decide)) fx_4_8 (Or.inr ⟨rfl, rfl, rfl⟩) (fun _ => rfl) (fun _ => rfl) (by decide) ?_
  refine PW.aload_n (pc := 67) dX4_init_67 rfl ?_
  refine PW.bipush (pc := 68) dX4_init_68 (v := 40) (by decide) ?_
  refine PW.newaI (pc := 70) dX4_init_70 (a := 64) aw_int (by decide) (by decide +kernel) (by decide) (ltn (show mN M + 6 = 61 by omega) (by decide)) (eqn (show mN M + 6 = 61 by omega) rfl) ?_
  refine PW.putR (pc := 72) dX4_init_72 lf_X4_40 (obn (show mN M + 7 = 62 by omega) s_57 (by decide) (by decide)) fx_4_9 (Or.inr ⟨rfl, rfl, rfl⟩) (fun _ => rfl) (fun _ => rfl) (by decide) ?_
  refine PW.aload_n (pc := 75) dX4_init_75 rfl ?_
  refine PW.bipush (pc := 76) dX4_init_76 (v := 40) (by decide) ?_
  refine PW.newaI (pc := 78) dX4_init_78 (a := 65) aw_int (by decide) (by decide +kernel) (by decide) (ltn (show mN M + 7 = 62 by omega) (by decide)) (eqn (show mN M + 7 = 62 by omega) rfl) ?_
  refine PW.putR (pc := 80) dX4_init_80 lf_X4_43 (obn (show mN M + 8 = 63 by omega) s_57 (by decide) (by decide)) fx_4_10 (Or.inr ⟨rfl, rfl, rfl⟩) (fun _ => rfl) (fun _ => rfl) (by decide) ?_
  exact h
def i_X4_57 (M : pm) : pm := u_X4_57_0 M
theorem in_X4_57 (M : pm) : mN (i_X4_57 M) = mN M + 8 := by
  unfold i_X4_57
  rw [un_X4_57_0] <;> omega
theorem c_X4_57 {M : pm} (hn : mN M = 55) : PW mX4_init 10 63 0 (pfr mX4_init.2.2.1 [.ref 57]) [] M (fun r M' => r = none ∧ M' = i_X4_57 M) := by
  show PW mX4_init 10 63 0 [.ref 57] [] M _
  refine k_X4_57_0 hn  ?_
  have hn1 : mN (u_X4_57_0 M) = 63 := by rw [un_X4_57_0, hn]
  exact PW.ret0 (pc := 83) dX4_init_83 hn1 rfl ⟨rfl, rfl⟩
def u_X4_66_0 (M : pm) : pm := sR (nw (sR (nw (sR (nw (sI (sR (nw (sR (nw (sR (nw (sR (nw (sR (nw (sI (sI M 66 0 0) 66 1 0)) 66 2 67)) 66 3 68)) 66 4 69)) 66 5 70)) 66 6 71) 66 7 0)) 66 8 72)) 66 9 73)) 66 10 74
theorem un_X4_66_0 (M : pm) : mN (u_X4_66_0 M) = mN M + 8 := rfl
set_option maxRecDepth 4000 in
theorem k_X4_66_0 {M : pm} {Q : Option Value → pm → Prop} (hn : mN M = 64)  (h : PW mX4_init 10 72 83 [.ref 66] [] (u_X4_66_0 M) Q) : PW mX4_init 10 72 0 [.ref 66] [] M Q := by
  refine PW.aload_n (pc := 0) dX4_init_0 rfl ?_
  refine PW.objInit (pc := 1) dX4_init_1 oi_X4_3 oi_i oi_c (Nat.le_of_ble_eq_true rfl) (by decide) ?_
  refine PW.aload_n (pc := 4) dX4_init_4 rfl ?_
  refine PW.iconst (pc := 5) dX4_init_5 (v := 0) (by decide) ?_
  refine PW.putI (pc := 6) dX4_init_6 lf_X4_9 (obn (show mN M + 0 = 64 by omega) s_66 (by decide) (by decide)) fx_4_0 (Or.inl rfl) rfl rfl ?_
  refine PW.aload_n (pc := 9) dX4_init_9 rfl ?_
  refine PW.iconst (pc := 10) dX4_init_10 (v := 0) (by decide) ?_
  refine PW.putI (pc := 11) dX4_init_11 lf_X4_15 (obn (show mN M + 0 = 64 by omega) s_66 (by decide) (by decide)) fx_4_1 (Or.inl rfl) rfl rfl ?_
  refine PW.aload_n (pc := 14) dX4_init_14 rfl ?_
  refine PW.bipush (pc := 15) dX4_init_15 (v := 8) (by decide) ?_
  refine PW.newaI (pc := 17) dX4_init_17 (a := 67) aw_int (by decide) (by decide +kernel) (by decide) (ltn (show mN M + 0 = 64 by omega) (by decide)) (eqn (show mN M + 0 = 64 by omega) rfl) ?_
  refine PW.putR (pc := 19) dX4_init_19 lf_X4_18 (obn (show mN M + 1 = 65 by omega) s_66 (by decide) (by decide)) fx_4_2 (Or.inr ⟨rfl, rfl, rfl⟩) (fun _ => rfl) (fun _ => rfl) (by decide) ?_
  refine PW.aload_n (pc := 22) dX4_init_22 rfl ?_
  refine PW.bipush (pc := 23) dX4_init_23 (v := 8) (by decide) ?_
  refine PW.newaI (pc := 25) dX4_init_25 (a := 68) aw_int (by decide) (by decide +kernel) (by decide) (ltn (show mN M + 1 = 65 by omega) (by decide)) (eqn (show mN M + 1 = 65 by omega) rfl) ?_
  refine PW.putR (pc := 27) dX4_init_27 lf_X4_22 (obn (show mN M + 2 = 66 by omega) s_66 (by decide) (by decide)) fx_4_3 (Or.inr ⟨rfl, rfl, rfl⟩) (fun _ => rfl) (fun _ => rfl) (by decide) ?_
  refine PW.aload_n (pc := 30) dX4_init_30 rfl ?_
  refine PW.bipush (pc := 31) dX4_init_31 (v := 8) (by decide) ?_
  refine PW.newaI (pc := 33) dX4_init_33 (a := 69) aw_int (by decide) (by decide +kernel) (by decide) (ltn (show mN M + 2 = 66 by omega) (by decide)) (eqn (show mN M + 2 = 66 by omega) rfl) ?_
  refine PW.putR (pc := 35) dX4_init_35 lf_X4_25 (obn (show mN M + 3 = 67 by omega) s_66 (by decide) (by decide)) fx_4_4 (Or.inr ⟨rfl, rfl, rfl⟩) (fun _ => rfl) (fun _ => rfl) (by decide) ?_
  refine PW.aload_n (pc := 38) dX4_init_38 rfl ?_
  refine PW.bipush (pc := 39) dX4_init_39 (v := 8) (by decide) ?_
  refine PW.newaI (pc := 41) dX4_init_41 (a := 70) aw_int (by decide) (by decide +kernel) (by decide) (ltn (show mN M + 3 = 67 by omega) (by decide)) (eqn (show mN M + 3 = 67 by omega) rfl) ?_
  refine PW.putR (pc := 43) dX4_init_43 lf_X4_28 (obn (show mN M + 4 = 68 by omega) s_66 (by decide) (by decide)) fx_4_5 (Or.inr ⟨rfl, rfl, rfl⟩) (fun _ => rfl) (fun _ => rfl) (by decide) ?_
  refine PW.aload_n (pc := 46) dX4_init_46 rfl ?_
  refine PW.bipush (pc := 47) dX4_init_47 (v := 8) (by decide) ?_
  refine PW.newaI (pc := 49) dX4_init_49 (a := 71) aw_int (by decide) (by decide +kernel) (by decide) (ltn (show mN M + 4 = 68 by omega) (by decide)) (eqn (show mN M + 4 = 68 by omega) rfl) ?_
  refine PW.putR (pc := 51) dX4_init_51 lf_X4_31 (obn (show mN M + 5 = 69 by omega) s_66 (by decide) (by decide)) fx_4_6 (Or.inr ⟨rfl, rfl, rfl⟩) (fun _ => rfl) (fun _ => rfl) (by decide) ?_
  refine PW.aload_n (pc := 54) dX4_init_54 rfl ?_
  refine PW.iconst (pc := 55) dX4_init_55 (v := 0) (by decide) ?_
  refine PW.putI (pc := 56) dX4_init_56 lf_X4_34 (obn (show mN M + 5 = 69 by omega) s_66 (by decide) (by decide)) fx_4_7 (Or.inl rfl) rfl rfl ?_
  refine PW.aload_n (pc := 59) dX4_init_59 rfl ?_
  refine PW.bipush (pc := 60) dX4_init_60 (v := 40) (by decide) ?_
  refine PW.newaI (pc := 62) dX4_init_62 (a := 72) aw_int (by decide) (by decide +kernel) (by decide) (ltn (show mN M + 5 = 69 by omega) (by decide)) (eqn (show mN M + 5 = 69 by omega) rfl) ?_
  refine PW.putR (pc := 64) dX4_init_64 lf_X4_37 (obn (show mN M + 6 = 70 by omega) s_66 (by decide) (by decide)) fx_4_8 (Or.inr ⟨rfl, rfl, rfl⟩) (fun _ => rfl) (fun _ => rfl) (by decide) ?_
  refine PW.aload_n (pc := 67) dX4_init_67 rfl ?_
  refine PW.bipush (pc := 68) dX4_init_68 (v := 40) (by decide) ?_
  refine PW.newaI (pc := 70) dX4_init_70 (a := 73) aw_int (by decide) (by decide +kernel) (by decide) (ltn (show mN M + 6 = 70 by omega) (by decide)) (eqn (show mN M + 6 = 70 by omega) rfl) ?_
  refine PW.putR (pc := 72) dX4_init_72 lf_X4_40 (obn (show mN M + 7 = 71 by omega) s_66 (by decide) (by decide)) fx_4_9 (Or.inr ⟨rfl, rfl, rfl⟩) (fun _ => rfl) (fun _ => rfl) (by decide) ?_
  refine PW.aload_n (pc := 75) dX4_init_75 rfl ?_
  refine PW.bipush (pc := 76) dX4_init_76 (v := 40) (by decide) ?_
  refine PW.newaI (pc := 78) dX4_init_78 (a := 74) aw_int (by decide) (by decide +kernel) (by decide) (ltn (show mN M + 7 = 71 by omega) (by decide)) (eqn (show mN M + 7 = 71 by omega) rfl) ?_
  refine PW.putR (pc := 80) dX4_init_80 lf_X4_43 (obn (show mN M + 8 = 72 by omega) s_66 (by decide) (by decide)) fx_4_10 (Or.inr ⟨rfl, rfl, rfl⟩) (fun _ => rfl) (fun _ => rfl) (by decide) ?_
  exact h
def i_X4_66 (M : pm) : pm := u_X4_66_0 M
theorem in_X4_66 (M : pm) : mN (i_X4_66 M) = mN M + 8 := by
  unfold i_X4_66
  rw [un_X4_66_0] <;> omega
theorem c_X4_66 {M : pm} (hn : mN M = 64) : PW mX4_init 10 72 0 (pfr mX4_init.2.2.1 [.ref 66]) [] M (fun r M' => r = none ∧ M' = i_X4_66 M) := by
  show PW mX4_init 10 72 0 [.ref 66] [] M _
  refine k_X4_66_0 hn  ?_
  have hn1 : mN (u_X4_66_0 M) = 72 := by rw [un_X4_66_0, hn]
  exact PW.ret0 (pc := 83) dX4_init_83 hn1 rfl ⟨rfl, rfl⟩
def u_X4_77_0 (M : pm) : pm := sR (nw (sR (nw (sR (nw (sI (sR (nw (sR (nw (sR (nw (sR (nw (sR (nw (sI (sI M 77 0 0) 77 1 0)) 77 2 78)) 77 3 79)) 77 4 80)) 77 5 81)) 77 6 82) 77 7 0)) 77 8 83)) 77 9 84)) 77 10 85
theorem un_X4_77_0 (M : pm) : mN (u_X4_77_0 M) = mN M + 8 := rfl
set_option maxRecDepth 4000 in
theorem k_X4_77_0 {M : pm} {Q : Option Value → pm → Prop} (hn : mN M = 75)  (h : PW mX4_init 10 83 83 [.ref 77] [] (u_X4_77_0 M) Q) : PW mX4_init 10 83 0 [.ref 77] [] M Q := by
  refine PW.aload_n (pc := 0) dX4_init_0 rfl ?_
  refine PW.objInit (pc := 1) dX4_init_1 oi_X4_3 oi_i oi_c (Nat.le_of_ble_eq_true rfl) (by decide) ?_
  refine PW.aload_n (pc := 4) dX4_init_4 rfl ?_
  refine PW.iconst (pc := 5) dX4_init_5 (v := 0) (by decide) ?_
  refine PW.putI (pc := 6) dX4_init_6 lf_X4_9 (obn (show mN M + 0 = 75 by omega) s_77 (by decide) (by decide)) fx_4_0 (Or.inl rfl) rfl rfl ?_
  refine PW.aload_n (pc := 9) dX4_init_9 rfl ?_
  refine PW.iconst (pc := 10) dX4_init_10 (v := 0) (by decide) ?_
  refine PW.putI (pc := 11) dX4_init_11 lf_X4_15 (obn (show mN M + 0 = 75 by omega) s_77 (by decide) (by decide)) fx_4_1 (Or.inl rfl) rfl rfl ?_
  refine PW.aload_n (pc := 14) dX4_init_14 rfl ?_
  refine PW.bipush (pc := 15) dX4_init_15 (v := 8) (by decide) ?_
  refine PW.newaI (pc := 17) dX4_init_17 (a := 78) aw_int (by decide) (by decide +kernel) (by decide) (ltn (show mN M + 0 = 75 by omega) (by decide)) (eqn (show mN M + 0 = 75 by omega) rfl) ?_
  refine PW.putR (pc := 19) dX4_init_19 lf_X4_18 (obn (show mN M + 1 = 76 by omega) s_77 (by decide) (by decide)) fx_4_2 (Or.inr ⟨rfl, rfl, rfl⟩) (fun _ => rfl) (fun _ => rfl) (by decide) ?_
  refine PW.aload_n (pc := 22) dX4_init_22 rfl ?_
  refine PW.bipush (pc := 23) dX4_init_23 (v := 8) (by decide) ?_
  refine PW.newaI (pc := 25) dX4_init_25 (a := 79) aw_int (by decide) (by decide +kernel) (by decide) (ltn (show mN M + 1 = 76 by omega) (by decide)) (eqn (show mN M + 1 = 76 by omega) rfl) ?_
  refine PW.putR (pc := 27) dX4_init_27 lf_X4_22 (obn (show mN M + 2 = 77 by omega) s_77 (by decide) (by decide)) fx_4_3 (Or.inr ⟨rfl, rfl, rfl⟩) (fun _ => rfl) (fun _ => rfl) (by decide) ?_
  refine PW.aload_n (pc := 30) dX4_init_30 rfl ?_
  refine PW.bipush (pc := 31) dX4_init_31 (v := 8) (by decide) ?_
  refine PW.newaI (pc := 33) dX4_init_33 (a := 80) aw_int (by decide) (by decide +kernel) (by decide) (ltn (show mN M + 2 = 77 by omega) (by decide)) (eqn (show mN M + 2 = 77 by omega) rfl) ?_
  refine PW.putR (pc := 35) dX4_init_35 lf_X4_25 (obn (show mN M + 3 = 78 by omega) s_77 (by decide) (by decide)) fx_4_4 (Or.inr ⟨rfl, rfl, rfl⟩) (fun _ => rfl) (fun _ => rfl) (by decide) ?_
  refine PW.aload_n (pc := 38) dX4_init_38 rfl ?_
  refine PW.bipush (pc := 39) dX4_init_39 (v := 8) (by decide) ?_
  refine PW.newaI (pc := 41) dX4_init_41 (a := 81) aw_int (by decide) (by decide +kernel) (by decide) (ltn (show mN M + 3 = 78 by omega) (by decide)) (eqn (show mN M + 3 = 78 by omega) rfl) ?_
  refine PW.putR (pc := 43) dX4_init_43 lf_X4_28 (obn (show mN M + 4 = 79 by omega) s_77 (by decide) (by decide)) fx_4_5 (Or.inr ⟨rfl, rfl, rfl⟩) (fun _ => rfl) (fun _ => rfl) (by decide) ?_
  refine PW.aload_n (pc := 46) dX4_init_46 rfl ?_
  refine PW.bipush (pc := 47) dX4_init_47 (v := 8) (by decide) ?_
  refine PW.newaI (pc := 49) dX4_init_49 (a := 82) aw_int (by decide) (by decide +kernel) (by decide) (ltn (show mN M + 4 = 79 by omega) (by decide)) (eqn (show mN M + 4 = 79 by omega) rfl) ?_
  refine PW.putR (pc := 51) dX4_init_51 lf_X4_31 (obn (show mN M + 5 = 80 by omega) s_77 (by decide) (by decide)) fx_4_6 (Or.inr ⟨rfl, rfl, rfl⟩) (fun _ => rfl) (fun _ => rfl) (by decide) ?_
  refine PW.aload_n (pc := 54) dX4_init_54 rfl ?_
  refine PW.iconst (pc := 55) dX4_init_55 (v := 0) (by decide) ?_
  refine PW.putI (pc := 56) dX4_init_56 lf_X4_34 (obn (show mN M + 5 = 80 by omega) s_77 (by decide) (by decide)) fx_4_7 (Or.inl rfl) rfl rfl ?_
  refine PW.aload_n (pc := 59) dX4_init_59 rfl ?_
  refine PW.bipush (pc := 60) dX4_init_60 (v := 40) (by decide) ?_
  refine PW.newaI (pc := 62) dX4_init_62 (a := 83) aw_int (by decide) (by decide +kernel) (by decide) (ltn (show mN M + 5 = 80 by omega) (by decide)) (eqn (show mN M + 5 = 80 by omega) rfl) ?_
  refine PW.putR (pc := 64) dX4_init_64 lf_X4_37 (obn (show mN M + 6 = 81 by omega) s_77 (by decide) (by decide)) fx_4_8 (Or.inr ⟨rfl, rfl, rfl⟩) (fun _ => rfl) (fun _ => rfl) (by decide) ?_
  refine PW.aload_n (pc := 67) dX4_init_67 rfl ?_
  refine PW.bipush (pc := 68) dX4_init_68 (v := 40) (by decide) ?_
  refine PW.newaI (pc := 70) dX4_init_70 (a := 84) aw_int (by decide) (by decide +kernel) (by decide) (ltn (show mN M + 6 = 81 by omega) (by decide)) (eqn (show mN M + 6 = 81 by omega) rfl) ?_
  refine PW.putR (pc := 72) dX4_init_72 lf_X4_40 (obn (show mN M + 7 = 82 by omega) s_77 (by decide) (by decide)) fx_4_9 (Or.inr ⟨rfl, rfl, rfl⟩) (fun _ => rfl) (fun _ => rfl) (by decide) ?_
  refine PW.aload_n (pc := 75) dX4_init_75 rfl ?_
  refine PW.bipush (pc := 76) dX4_init_76 (v := 40) (by decide) ?_
  refine PW.newaI (pc := 78) dX4_init_78 (a := 85) aw_int (by decide) (by decide +kernel) (by decide) (ltn (show mN M + 7 = 82 by omega) (by decide)) (eqn (show mN M + 7 = 82 by omega) rfl) ?_
  refine PW.putR (pc := 80) dX4_init_80 lf_X4_43 (obn (show mN M + 8 = 83 by omega) s_77 (by decide) (by decide)) fx_4_10 (Or.inr ⟨rfl, rfl, rfl⟩) (fun _ => rfl) (fun _ => rfl) (by decide) ?_
  exact h
def i_X4_77 (M : pm) : pm := u_X4_77_0 M
theorem in_X4_77 (M : pm) : mN (i_X4_77 M) = mN M + 8 := by
  unfold i_X4_77
  rw [un_X4_77_0] <;> omega
theorem c_X4_77 {M : pm} (hn : mN M = 75) : PW mX4_init 10 83 0 (pfr mX4_init.2.2.1 [.ref 77]) [] M (fun r M' => r = none ∧ M' = i_X4_77 M) := by
  show PW mX4_init 10 83 0 [.ref 77] [] M _
  refine k_X4_77_0 hn  ?_
  have hn1 : mN (u_X4_77_0 M) = 83 := by rw [un_X4_77_0, hn]
  exact PW.ret0 (pc := 83) dX4_init_83 hn1 rfl ⟨rfl, rfl⟩
def u_X4_86_0 (M : pm) : pm := sR (nw (sR (nw (sR (nw (sI (sR (nw (sR (nw (sR (nw (sR (nw (sR (nw (sI (sI M 86 0 0) 86 1 0)) 86 2 87)) 86 3 88)) 86 4 89)) 86 5 90)) 86 6 91) 86 7 0)) 86 8 92)) 86 9 93)) 86 10 94
theorem un_X4_86_0 (M : pm) : mN (u_X4_86_0 M) = mN M + 8 := rfl
set_option maxRecDepth 4000 in
theorem k_X4_86_0 {M : pm} {Q : Option Value → pm → Prop} (hn : mN M = 84)  (h : PW mX4_init 10 92 83 [.ref 86] [] (u_X4_86_0 M) Q) : PW mX4_init 10 92 0 [.ref 86] [] M Q := by
  refine PW.aload_n (pc := 0) dX4_init_0 rfl ?_
  refine PW.objInit (pc := 1) dX4_init_1 oi_X4_3 oi_i oi_c (Nat.le_of_ble_eq_true rfl) (by decide) ?_
  refine PW.aload_n (pc := 4) dX4_init_4 rfl ?_
  refine PW.iconst (pc := 5) dX4_init_5 (v := 0) (by decide) ?_
  refine PW.putI (pc := 6) dX4_init_6 lf_X4_9 (obn (show mN M + 0 = 84 by omega) s_86 (by decide) (by decide)) fx_4_0 (Or.inl rfl) rfl rfl ?_
  refine PW.aload_n (pc := 9) dX4_init_9 rfl ?_
  refine PW.iconst (pc := 10) dX4_init_10 (v := 0) (by decide) ?_
  refine PW.putI (pc := 11) dX4_init_11 lf_X4_15 (obn (show mN M + 0 = 84 by omega) s_86 (by decide) (by decide)) fx_4_1 (Or.inl rfl) rfl rfl ?_
  refine PW.aload_n (pc := 14) dX4_init_14 rfl ?_
  refine PW.bipush (pc := 15) dX4_init_15 (v := 8) (by decide) ?_
  refine PW.newaI (pc := 17) dX4_init_17 (a := 87) aw_int (by decide) (by decide +kernel) (by decide) (ltn (show mN M + 0 = 84 by omega) (by decide)) (eqn (show mN M + 0 = 84 by omega) rfl) ?_
  refine PW.putR (pc := 19) dX4_init_19 lf_X4_18 (obn (show mN M + 1 = 85 by omega) s_86 (by decide) (by decide)) fx_4_2 (Or.inr ⟨rfl, rfl, rfl⟩) (fun _ => rfl) (fun _ => rfl) (by decide) ?_
  refine PW.aload_n (pc := 22) dX4_init_22 rfl ?_
  refine PW.bipush (pc := 23) dX4_init_23 (v := 8) (by decide) ?_
  refine PW.newaI (pc := 25) dX4_init_25 (a := 88) aw_int (by decide) (by decide +kernel) (by decide) (ltn (show mN M + 1 = 85 by omega) (by decide)) (eqn (show mN M + 1 = 85 by omega) rfl) ?_
  refine PW.putR (pc := 27) dX4_init_27 lf_X4_22 (obn (show mN M + 2 = 86 by omega) s_86 (by decide) (by decide)) fx_4_3 (Or.inr ⟨rfl, rfl, rfl⟩) (fun _ => rfl) (fun _ => rfl) (by decide) ?_
  refine PW.aload_n (pc := 30) dX4_init_30 rfl ?_
  refine PW.bipush (pc := 31) dX4_init_31 (v := 8) (by decide) ?_
  refine PW.newaI (pc := 33) dX4_init_33 (a := 89) aw_int (by decide) (by decide +kernel) (by decide) (ltn (show mN M + 2 = 86 by omega) (by decide)) (eqn (show mN M + 2 = 86 by omega) rfl) ?_
  refine PW.putR (pc := 35) dX4_init_35 lf_X4_25 (obn (show mN M + 3 = 87 by omega) s_86 (by decide) (by decide)) fx_4_4 (Or.inr ⟨rfl, rfl, rfl⟩) (fun _ => rfl) (fun _ => rfl) (by decide) ?_
  refine PW.aload_n (pc := 38) dX4_init_38 rfl ?_
  refine PW.bipush (pc := 39) dX4_init_39 (v := 8) (by decide) ?_
  refine PW.newaI (pc := 41) dX4_init_41 (a := 90) aw_int (by decide) (by decide +kernel) (by decide) (ltn (show mN M + 3 = 87 by omega) (by decide)) (eqn (show mN M + 3 = 87 by omega) rfl) ?_
  refine PW.putR (pc := 43) dX4_init_43 lf_X4_28 (obn (show mN M + 4 = 88 by omega) s_86 (by decide) (by decide)) fx_4_5 (Or.inr ⟨rfl, rfl, rfl⟩) (fun _ => rfl) (fun _ => rfl) (by decide) ?_
  refine PW.aload_n (pc := 46) dX4_init_46 rfl ?_
  refine PW.bipush (pc := 47) dX4_init_47 (v := 8) (by decide) ?_
  refine PW.newaI (pc := 49) dX4_init_49 (a := 91) aw_int (by decide) (by decide +kernel) (by decide) (ltn (show mN M + 4 = 88 by omega) (by decide)) (eqn (show mN M + 4 = 88 by omega) rfl) ?_
  refine PW.putR (pc := 51) dX4_init_51 lf_X4_31 (obn (show mN M + 5 = 89 by omega) s_86 (by decide) (by decide)) fx_4_6 (Or.inr ⟨rfl, rfl, rfl⟩) (fun _ => rfl) (fun _ => rfl) (by decide) ?_
  refine PW.aload_n (pc := 54) dX4_init_54 rfl ?_
  refine PW.iconst (pc := 55) dX4_init_55 (v := 0) (by decide) ?_
  refine PW.putI (pc := 56) dX4_init_56 lf_X4_34 (obn (show mN M + 5 = 89 by omega) s_86 (by decide) (by decide)) fx_4_7 (Or.inl rfl) rfl rfl ?_
  refine PW.aload_n (pc := 59) dX4_init_59 rfl ?_
  refine PW.bipush (pc := 60) dX4_init_60 (v := 40) (by decide) ?_
  refine PW.newaI (pc := 62) dX4_init_62 (a := 92) aw_int (by decide) (by decide +kernel) (by decide) (ltn (show mN M + 5 = 89 by omega) (by decide)) (eqn (show mN M + 5 = 89 by omega) rfl) ?_
  refine PW.putR (pc := 64) dX4_init_64 lf_X4_37 (obn (show mN M + 6 = 90 by omega) s_86 (by decide) (by decide)) fx_4_8 (Or.inr ⟨rfl, rfl, rfl⟩) (fun _ => rfl) (fun _ => rfl) (by decide) ?_
  refine PW.aload_n (pc := 67) dX4_init_67 rfl ?_
  refine PW.bipush (pc := 68) dX4_init_68 (v := 40) (by decide) ?_
  refine PW.newaI (pc := 70) dX4_init_70 (a := 93) aw_int (by decide) (by decide +kernel) (by decide) (ltn (show mN M + 6 = 90 by omega) (by decide)) (eqn (show mN M + 6 = 90 by omega) rfl) ?_
  refine PW.putR (pc := 72) dX4_init_72 lf_X4_40 (obn (show mN M + 7 = 91 by omega) s_86 (by decide) (by decide)) fx_4_9 (Or.inr ⟨rfl, rfl, rfl⟩) (fun _ => rfl) (fun _ => rfl) (by decide) ?_
  refine PW.aload_n (pc := 75) dX4_init_75 rfl ?_
  refine PW.bipush (pc := 76) dX4_init_76 (v := 40) (by decide) ?_
  refine PW.newaI (pc := 78) dX4_init_78 (a := 94) aw_int (by decide) (by decide +kernel) (by decide) (ltn (show mN M + 7 = 91 by omega) (by decide)) (eqn (show mN M + 7 = 91 by omega) rfl) ?_
  refine PW.putR (pc := 80) dX4_init_80 lf_X4_43 (obn (show mN M + 8 = 92 by omega) s_86 (by decide) (by decide)) fx_4_10 (Or.inr ⟨rfl, rfl, rfl⟩) (fun _ => rfl) (fun _ => rfl) (by decide) ?_
  exact h
def i_X4_86 (M : pm) : pm := u_X4_86_0 M
theorem in_X4_86 (M : pm) : mN (i_X4_86 M) = mN M + 8 := by
  unfold i_X4_86
  rw [un_X4_86_0] <;> omega
theorem c_X4_86 {M : pm} (hn : mN M = 84) : PW mX4_init 10 92 0 (pfr mX4_init.2.2.1 [.ref 86]) [] M (fun r M' => r = none ∧ M' = i_X4_86 M) := by
  show PW mX4_init 10 92 0 [.ref 86] [] M _
  refine k_X4_86_0 hn  ?_
  have hn1 : mN (u_X4_86_0 M) = 92 := by rw [un_X4_86_0, hn]
  exact PW.ret0 (pc := 83) dX4_init_83 hn1 rfl ⟨rfl, rfl⟩
def u_X4_95_0 (M : pm) : pm := sR (nw (sR (nw (sR (nw (sI (sR (nw (sR (nw (sR (nw (sR (nw (sR (nw (sI (sI M 95 0 0) 95 1 0)) 95 2 96)) 95 3 97)) 95 4 98)) 95 5 99)) 95 6 100) 95 7 0)) 95 8 101)) 95 9 102)) 95 10 103
theorem un_X4_95_0 (M : pm) : mN (u_X4_95_0 M) = mN M + 8 := rfl
set_option maxRecDepth 4000 in
theorem k_X4_95_0 {M : pm} {Q : Option Value → pm → Prop} (hn : mN M = 93)  (h : PW mX4_init 10 101 83 [.ref 95] [] (u_X4_95_0 M) Q) : PW mX4_init 10 101 0 [.ref 95] [] M Q := by
  refine PW.aload_n (pc := 0) dX4_init_0 rfl ?_
  refine PW.objInit (pc := 1) dX4_init_1 oi_X4_3 oi_i oi_c (Nat.le_of_ble_eq_true rfl) (by decide) ?_
  refine PW.aload_n (pc := 4) dX4_init_4 rfl ?_
  refine PW.iconst (pc := 5) dX4_init_5 (v := 0) (by decide) ?_
  refine PW.putI (pc := 6) dX4_init_6 lf_X4_9 (obn (show mN M + 0 = 93 by omega) s_95 (by decide) (by decide)) fx_4_0 (Or.inl rfl) rfl rfl ?_
  refine PW.aload_n (pc := 9) dX4_init_9 rfl ?_
  refine PW.iconst (pc := 10) dX4_init_10 (v := 0) (by decide) ?_
  refine PW.putI (pc := 11) dX4_init_11 lf_X4_15 (obn (show mN M + 0 = 93 by omega) s_95 (by decide) (by decide)) fx_4_1 (Or.inl rfl) rfl rfl ?_
  refine PW.aload_n (pc := 14) dX4_init_14 rfl ?_
  refine PW.bipush (pc := 15) dX4_init_15 (v := 8) (by decide) ?_
  refine PW.newaI (pc := 17) dX4_init_17 (a := 96) aw_int (by decide) (by decide +kernel) (by decide) (ltn (show mN M + 0 = 93 by omega) (by decide)) (eqn (show mN M + 0 = 93 by omega) rfl) ?_
  refine PW.putR (pc := 19) dX4_init_19 lf_X4_18 (obn (show mN M + 1 = 94 by omega) s_95 (by decide) (by decide)) fx_4_2 (Or.inr ⟨rfl, rfl, rfl⟩) (fun _ => rfl) (fun _ => rfl) (by decide) ?_
  refine PW.aload_n (pc := 22) dX4_init_22 rfl ?_
  refine PW.bipush (pc := 23) dX4_init_23 (v := 8) (by decide) ?_
  refine PW.newaI (pc := 25) dX4_init_25 (a := 97) aw_int (by decide) (by decide +kernel) (by decide) (ltn (show mN M + 1 = 94 by omega) (by decide)) (eqn (show mN M + 1 = 94 by omega) rfl) ?_
  refine PW.putR (pc := 27) dX4_init_27 lf_X4_22 (obn (show mN M + 2 = 95 by omega) s_95 (by decide) (by decide)) fx_4_3 (Or.inr ⟨rfl, rfl, rfl⟩) (fun _ => rfl) (fun _ => rfl) (by decide) ?_
  refine PW.aload_n (pc := 30) dX4_init_30 rfl ?_
  refine PW.bipush (pc := 31) dX4_init_31 (v := 8) (by decide) ?_
  refine PW.newaI (pc := 33) dX4_init_33 (a := 98) aw_int (by decide) (by decide +kernel) (by decide) (ltn (show mN M + 2 = 95 by omega) (by decide)) (eqn (show mN M + 2 = 95 by omega) rfl) ?_
  refine PW.putR (pc := 35) dX4_init_35 lf_X4_25 (obn (show mN M + 3 = 96 by omega) s_95 (by decide) (by decide)) fx_4_4 (Or.inr ⟨rfl, rfl, rfl⟩) (fun _ => rfl) (fun _ => rfl) (by decide) ?_
  refine PW.aload_n (pc := 38) dX4_init_38 rfl ?_
  refine PW.bipush (pc := 39) dX4_init_39 (v := 8) (by decide) ?_
  refine PW.newaI (pc := 41) dX4_init_41 (a := 99) aw_int (by decide) (by decide +kernel) (by decide) (ltn (show mN M + 3 = 96 by omega) (by decide)) (eqn (show mN M + 3 = 96 by omega) rfl) ?_
  refine PW.putR (pc := 43) dX4_init_43 lf_X4_28 (obn (show mN M + 4 = 97 by omega) s_95 (by decide) (by decide)) fx_4_5 (Or.inr ⟨rfl, rfl, rfl⟩) (fun _ => rfl) (fun _ => rfl) (by decide) ?_
  refine PW.aload_n (pc := 46) dX4_init_46 rfl ?_
  refine PW.bipush (pc := 47) dX4_init_47 (v := 8) (by decide) ?_
  refine PW.newaI (pc := 49) dX4_init_49 (a := 100) aw_int (by decide) (by decide +kernel) (by decide) (ltn (show mN M + 4 = 97 by omega) (by decide)) (eqn (show mN M + 4 = 97 by omega) rfl) ?_
  refine PW.putR (pc := 51) dX4_init_51 lf_X4_31 (obn (show mN M + 5 = 98 by omega) s_95 (by decide) (by decide)) fx_4_6 (Or.inr ⟨rfl, rfl, rfl⟩) (fun _ => rfl) (fun _ => rfl) (by decide) ?_
  refine PW.aload_n (pc := 54) dX4_init_54 rfl ?_
  refine PW.iconst (pc := 55) dX4_init_55 (v := 0) (by decide) ?_
  refine PW.putI (pc := 56) dX4_init_56 lf_X4_34 (obn (show mN M + 5 = 98 by omega) s_95 (by decide) (by decide)) fx_4_7 (Or.inl rfl) rfl rfl ?_
  refine PW.aload_n (pc := 59) dX4_init_59 rfl ?_
  refine PW.bipush (pc := 60) dX4_init_60 (v := 40) (by decide) ?_
  refine PW.newaI (pc := 62) dX4_init_62 (a := 101) aw_int (by decide) (by decide +kernel) (by decide) (ltn (show mN M + 5 = 98 by omega) (by decide)) (eqn (show mN M + 5 = 98 by omega) rfl) ?_
  refine PW.putR (pc := 64) dX4_init_64 lf_X4_37 (obn (show mN M + 6 = 99 by omega) s_95 (by decide) (by decide)) fx_4_8 (Or.inr ⟨rfl, rfl, rfl⟩) (fun _ => rfl) (fun _ => rfl) (by decide) ?_
  refine PW.aload_n (pc := 67) dX4_init_67 rfl ?_
  refine PW.bipush (pc := 68) dX4_init_68 (v := 40) (by decide) ?_
  refine PW.newaI (pc := 70) dX4_init_70 (a := 102) aw_int (by decide) (by decide +kernel) (by decide) (ltn (show mN M + 6 = 99 by omega) (by decide)) (eqn (show mN M + 6 = 99 by omega) rfl) ?_
  refine PW.putR (pc := 72) dX4_init_72 lf_X4_40 (obn (show mN M + 7 = 100 by omega) s_95 (by decide) (by decide)) fx_4_9 (Or.inr ⟨rfl, rfl, rfl⟩) (fun _ => rfl) (fun _ => rfl) (by decide) ?_
  refine PW.aload_n (pc := 75) dX4_init_75 rfl ?_
  refine PW.bipush (pc := 76) dX4_init_76 (v := 40) (by decide) ?_
  refine PW.newaI (pc := 78) dX4_init_78 (a := 103) aw_int (by decide) (by decide +kernel) (by decide) (ltn (show mN M + 7 = 100 by omega) (by decide)) (eqn (show mN M + 7 = 100 by omega) rfl) ?_
  refine PW.putR (pc := 80) dX4_init_80 lf_X4_43 (obn (show mN M + 8 = 101 by omega) s_95 (by decide) (by decide)) fx_4_10 (Or.inr ⟨rfl, rfl, rfl⟩) (fun _ => rfl) (fun _ => rfl) (by decide) ?_
  exact h
def i_X4_95 (M : pm) : pm := u_X4_95_0 M
theorem in_X4_95 (M : pm) : mN (i_X4_95 M) = mN M + 8 := by
  unfold i_X4_95
  rw [un_X4_95_0] <;> omega
theorem c_X4_95 {M : pm} (hn : mN M = 93) : PW mX4_init 10 101 0 (pfr mX4_init.2.2.1 [.ref 95]) [] M (fun r M' => r = none ∧ M' = i_X4_95 M) := by
  show PW mX4_init 10 101 0 [.ref 95] [] M _
  refine k_X4_95_0 hn  ?_
  have hn1 : mN (u_X4_95_0 M) = 101 := by rw [un_X4_95_0, hn]
  exact PW.ret0 (pc := 83) dX4_init_83 hn1 rfl ⟨rfl, rfl⟩
def u_X4_104_0 (M : pm) : pm := sR (nw (sR (nw (sR (nw (sI (sR (nw (sR (nw (sR (nw (sR (nw (sR (nw (sI (sI M 104 0 0) 104 1 0)) 104 2 105)) 104 3 106)) 104 4 107)) 104 5 108)) 104 6 109) 104 7 0)) 104 8 110)) 104 9 111)) 104 10 112
theorem un_X4_104_0 (M : pm) : mN (u_X4_104_0 M) = mN M + 8 := rfl
set_option maxRecDepth 4000 in
theorem k_X4_104_0 {M : pm} {Q : Option Value → pm → Prop} (hn : mN M = 102)  (h : PW mX4_init 10 110 83 [.ref 104] [] (u_X4_104_0 M) Q) : PW mX4_init 10 110 0 [.ref 104] [] M Q := by
  refine PW.aload_n (pc := 0) dX4_init_0 rfl ?_
  refine PW.objInit (pc := 1) dX4_init_1 oi_X4_3 oi_i oi_c (Nat.le_of_ble_eq_true rfl) (by decide) ?_
  refine PW.aload_n (pc := 4) dX4_init_4 rfl ?_
  refine PW.iconst (pc := 5) dX4_init_5 (v := 0) (by decide) ?_
  refine PW.putI (pc := 6) dX4_init_6 lf_X4_9 (obn (show mN M + 0 = 102 by omega) s_104 (by decide) (by decide)) fx_4_0 (Or.inl rfl) rfl rfl ?_
  refine PW.aload_n (pc := 9) dX4_init_9 rfl ?_
  refine PW.iconst (pc := 10) dX4_init_10 (v := 0) (by decide) ?_
  refine PW.putI (pc := 11) dX4_init_11 lf_X4_15 (obn (show mN M + 0 = 102 by omega) s_104 (by decide) (by decide)) fx_4_1 (Or.inl rfl) rfl rfl ?_
  refine PW.aload_n (pc := 14) dX4_init_14 rfl ?_
  refine PW.bipush (pc := 15) dX4_init_15 (v := 8) (by decide) ?_
  refine PW.newaI (pc := 17) dX4_init_17 (a := 105) aw_int (by decide) (by decide +kernel) (by decide) (ltn (show mN M + 0 = 102 by omega) (by decide)) (eqn (show mN M + 0 = 102 by omega) rfl) ?_
  refine PW.putR (pc := 19) dX4_init_19 lf_X4_18 (obn (show mN M + 1 = 103 by omega) s_104 (by decide) (by decide)) fx_4_2 (Or.inr ⟨rfl, rfl, rfl⟩) (fun _ => rfl) (fun _ => rfl) (by decide) ?_
  refine PW.aload_n (pc := 22) dX4_init_22 rfl ?_
  refine PW.bipush (pc := 23) dX4_init_23 (v := 8) (by decide) ?_
  refine PW.newaI (pc := 25) dX4_init_25 (a := 106) aw_int (by decide) (by decide +kernel) (by decide) (ltn (show mN M + 1 = 103 by omega) (by decide)) (eqn (show mN M + 1 = 103 by omega) rfl) ?_
  refine PW.putR (pc := 27) dX4_init_27 lf_X4_22 (obn (show mN M + 2 = 104 by omega) s_104 (by decide) (by decide)) fx_4_3 (Or.inr ⟨rfl, rfl, rfl⟩) (fun _ => rfl) (fun _ => rfl) (by decide) ?_
  refine PW.aload_n (pc := 30) dX4_init_30 rfl ?_
  refine PW.bipush (pc := 31) dX4_init_31 (v := 8) (by decide) ?_
  refine PW.newaI (pc := 33) dX4_init_33 (a := 107) aw_int (by decide) (by decide +kernel) (by decide) (ltn (show mN M + 2 = 104 by omega) (by decide)) (eqn (show mN M + 2 = 104 by omega) rfl) ?_
  refine PW.putR (pc := 35) dX4_init_35 lf_X4_25 (obn (show mN M + 3 = 105 by omega) s_104 (by decide) (by decide)) fx_4_4 (Or.inr ⟨rfl, rfl, rfl⟩) (fun _ => rfl) (fun _ => rfl) (by decide) ?_
  refine PW.aload_n (pc := 38) dX4_init_38 rfl ?_
  refine PW.bipush (pc := 39) dX4_init_39 (v := 8) (by decide) ?_
  refine PW.newaI (pc := 41) dX4_init_41 (a := 108) aw_int (by decide) (by decide +kernel) (by decide) (ltn (show mN M + 3 = 105 by omega) (by decide)) (eqn (show mN M + 3 = 105 by omega) rfl) ?_
  refine PW.putR (pc := 43) dX4_init_43 lf_X4_28 (obn (show mN M + 4 = 106 by omega) s_104 (by decide) (by decide)) fx_4_5 (Or.inr ⟨rfl, rfl, rfl⟩) (fun _ => rfl) (fun _ => rfl) (by decide) ?_
  refine PW.aload_n (pc := 46) dX4_init_46 rfl ?_
  refine PW.bipush (pc := 47) dX4_init_47 (v := 8) (by decide) ?_
  refine PW.newaI (pc := 49) dX4_init_49 (a := 109) aw_int (by decide) (by decide +kernel) (by decide) (ltn (show mN M + 4 = 106 by omega) (by decide)) (eqn (show mN M + 4 = 106 by omega) rfl) ?_
  refine PW.putR (pc := 51) dX4_init_51 lf_X4_31 (obn (show mN M + 5 = 107 by omega) s_104 (by decide) (by decide)) fx_4_6 (Or.inr ⟨rfl, rfl, rfl⟩) (fun _ => rfl) (fun _ => rfl) (by decide) ?_
  refine PW.aload_n (pc := 54) dX4_init_54 rfl ?_
  refine PW.iconst (pc := 55) dX4_init_55 (v := 0) (by decide) ?_
  refine PW.putI (pc := 56) dX4_init_56 lf_X4_34 (obn (show mN M + 5 = 107 by omega) s_104 (by decide) (by decide)) fx_4_7 (Or.inl rfl) rfl rfl ?_
  refine PW.aload_n (pc := 59) dX4_init_59 rfl ?_
  refine PW.bipush (pc := 60) dX4_init_60 (v := 40) (by decide) ?_
  refine PW.newaI (pc := 62) dX4_init_62 (a := 110) aw_int (by decide) (by decide +kernel) (by decide) (ltn (show mN M + 5 = 107 by omega) (by decide)) (eqn (show mN M + 5 = 107 by omega) rfl) ?_
  refine PW.putR (pc := 64) dX4_init_64 lf_X4_37 (obn (show mN M + 6 = 108 by omega) s_104 (by decide) (by decide)) fx_4_8 (Or.inr ⟨rfl, rfl, rfl⟩) (fun _ => rfl) (fun _ => rfl) (by decide) ?_
  refine PW.aload_n (pc := 67) dX4_init_67 rfl ?_
  refine PW.bipush (pc := 68) dX4_init_68 (v := 40) (by decide) ?_
  refine PW.newaI (pc := 70) dX4_init_70 (a := 111) aw_int (by decide) (by decide +kernel) (by decide) (ltn (show mN M + 6 = 108 by omega) (by decide)) (eqn (show mN M + 6 = 108 by omega) rfl) ?_
  refine PW.putR (pc := 72) dX4_init_72 lf_X4_40 (obn (show mN M + 7 = 109 by omega) s_104 (by decide) (by decide)) fx_4_9 (Or.inr ⟨rfl, rfl, rfl⟩) (fun _ => rfl) (fun _ => rfl) (by decide) ?_
  refine PW.aload_n (pc := 75) dX4_init_75 rfl ?_
  refine PW.bipush (pc := 76) dX4_init_76 (v := 40) (by decide) ?_
  refine PW.newaI (pc := 78) dX4_init_78 (a := 112) aw_int (by decide) (by decide +kernel) (by decide) (ltn (show mN M + 7 = 109 by omega) (by decide)) (eqn (show mN M + 7 = 109 by omega) rfl) ?_
  refine PW.putR (pc := 80) dX4_init_80 lf_X4_43 (obn (show mN M + 8 = 110 by omega) s_104 (by decide) (by decide)) fx_4_10 (Or.inr ⟨rfl, rfl, rfl⟩) (fun _ => rfl) (fun _ => rfl) (by decide) ?_
  exact h
def i_X4_104 (M : pm) : pm := u_X4_104_0 M
theorem in_X4_104 (M : pm) : mN (i_X4_104 M) = mN M + 8 := by
  unfold i_X4_104
  rw [un_X4_104_0] <;> omega
theorem c_X4_104 {M : pm} (hn : mN M = 102) : PW mX4_init 10 110 0 (pfr mX4_init.2.2.1 [.ref 104]) [] M (fun r M' => r = none ∧ M' = i_X4_104 M) := by
  show PW mX4_init 10 110 0 [.ref 104] [] M _
  refine k_X4_104_0 hn  ?_
  have hn1 : mN (u_X4_104_0 M) = 110 := by rw [un_X4_104_0, hn]
  exact PW.ret0 (pc := 83) dX4_init_83 hn1 rfl ⟨rfl, rfl⟩
def u_X4_113_0 (M : pm) : pm := sR (nw (sR (nw (sR (nw (sI (sR (nw (sR (nw (sR (nw (sR (nw (sR (nw (sI (sI M 113 0 0) 113 1 0)) 113 2 114)) 113 3 115)) 113 4 116)) 113 5 117)) 113 6 118) 113 7 0)) 113 8 119)) 113 9 120)) 113 10 121
theorem un_X4_113_0 (M : pm) : mN (u_X4_113_0 M) = mN M + 8 := rfl
set_option maxRecDepth 4000 in
theorem k_X4_113_0 {M : pm} {Q : Option Value → pm → Prop} (hn : mN M = 111)  (h : PW mX4_init 10 119 83 [.ref 113] [] (u_X4_113_0 M) Q) : PW mX4_init 10 119 0 [.ref 113] [] M Q := by
  refine PW.aload_n (pc := 0) dX4_init_0 rfl ?_
  refine PW.objInit (pc := 1) dX4_init_1 oi_X4_3 oi_i oi_c (Nat.le_of_ble_eq_true rfl) (by decide) ?_
  refine PW.aload_n (pc := 4) dX4_init_4 rfl ?_
  refine PW.iconst (pc := 5) dX4_init_5 (v := 0) (by decide) ?_
  refine PW.putI (pc := 6) dX4_init_6 lf_X4_9 (obn (show mN M + 0 = 111 by omega) s_113 (by decide) (by decide)) fx_4_0 (Or.inl rfl) rfl rfl ?_
  refine PW.aload_n (pc := 9) dX4_init_9 rfl ?_
  refine PW.iconst (pc := 10) dX4_init_10 (v := 0) (by decide) ?_
  refine PW.putI (pc := 11) dX4_init_11 lf_X4_15 (obn (show mN M + 0 = 111 by omega) s_113 (by decide) (by decide)) fx_4_1 (Or.inl rfl) rfl rfl ?_
  refine PW.aload_n (pc := 14) dX4_init_14 rfl ?_
  refine PW.bipush (pc := 15) dX4_init_15 (v := 8) (by decide) ?_
  refine PW.newaI (pc := 17) dX4_init_17 (a := 114) aw_int (by decide) (by decide +kernel) (by decide) (ltn (show mN M + 0 = 111 by omega) (by decide)) (eqn (show mN M + 0 = 111 by omega) rfl) ?_
  refine PW.putR (pc := 19) dX4_init_19 lf_X4_18 (obn (show mN M + 1 = 112 by omega) s_113 (by decide) (by decide)) fx_4_2 (Or.inr ⟨rfl, rfl, rfl⟩) (fun _ => rfl) (fun _ => rfl) (by decide) ?_
  refine PW.aload_n (pc := 22) dX4_init_22 rfl ?_
  refine PW.bipush (pc := 23) dX4_init_23 (v := 8) (by decide) ?_
  refine PW.newaI (pc := 25) dX4_init_25 (a := 115) aw_int (by decide) (by decide +kernel) (by decide) (ltn (show mN M + 1 = 112 by omega) (by decide)) (eqn (show mN M + 1 = 112 by omega) rfl) ?_
  refine PW.putR (pc := 27) dX4_init_27 lf_X4_22 (obn (show mN M + 2 = 113 by omega) s_113 (by decide) (by decide)) fx_4_3 (Or.inr ⟨rfl, rfl, rfl⟩) (fun _ => rfl) (fun _ => rfl) (by decide) ?_
  refine PW.aload_n (pc := 30) dX4_init_30 rfl ?_
  refine PW.bipush (pc := 31) dX4_init_31 (v := 8) (by decide) ?_
  refine PW.newaI (pc := 33) dX4_init_33 (a := 116) aw_int (by decide) (by decide +kernel) (by decide) (ltn (show mN M + 2 = 113 by omega) (by decide)) (eqn (show mN M + 2 = 113 by omega) rfl) ?_
  refine PW.putR (pc := 35) dX4_init_35 lf_X4_25 (obn (show mN M + 3 = 114 by omega) s_113 (by decide) (by decide)) fx_4_4 (Or.inr ⟨rfl, rfl, rfl⟩) (fun _ => rfl) (fun _ => rfl) (by decide) ?_
  refine PW.aload_n (pc := 38) dX4_init_38 rfl ?_
  refine PW.bipush (pc := 39) dX4_init_39 (v := 8) (by decide) ?_
  refine PW.newaI (pc := 41) dX4_init_41 (a := 117) aw_int (by decide) (by decide +kernel) (by decide) (ltn (show mN M + 3 = 114 by omega) (by decide)) (eqn (show mN M + 3 = 114 by omega) rfl) ?_
  refine PW.putR (pc := 43) dX4_init_43 lf_X4_28 (obn (show mN M + 4 = 115 by omega) s_113 (by decide) (by decide)) fx_4_5 (Or.inr ⟨rfl, rfl, rfl⟩) (fun _ => rfl) (fun _ => rfl) (by decide) ?_
  refine PW.aload_n (pc := 46) dX4_init_46 rfl ?_
  refine PW.bipush (pc := 47) dX4_init_47 (v := 8) (by decide) ?_
  refine PW.newaI (pc := 49) dX4_init_49 (a := 118) aw_int (by decide) (by decide +kernel) (by decide) (ltn (show mN M + 4 = 115 by omega) (by decide)) (eqn (show mN M + 4 = 115 by omega) rfl) ?_
  refine PW.putR (pc := 51) dX4_init_51 lf_X4_31 (obn (show mN M + 5 = 116 by omega) s_113 (by decide) (by decide)) fx_4_6 (Or.inr ⟨rfl, rfl, rfl⟩) (fun _ => rfl) (fun _ => rfl) (by decide) ?_
  refine PW.aload_n (pc := 54) dX4_init_54 rfl ?_
  refine PW.iconst (pc := 55) dX4_init_55 (v := 0) (by decide) ?_
  refine PW.putI (pc := 56) dX4_init_56 lf_X4_34 (obn (show mN M + 5 = 116 by omega) s_113 (by decide) (by decide)) fx_4_7 (Or.inl rfl) rfl rfl ?_
  refine PW.aload_n (pc := 59) dX4_init_59 rfl ?_
  refine PW.bipush (pc := 60) dX4_init_60 (v := 40) (by decide) ?_
  refine PW.newaI (pc := 62) dX4_init_62 (a := 119) aw_int (by decide) (by decide +kernel) (by decide) (ltn (show mN M + 5 = 116 by omega) (by decide)) (eqn (show mN M + 5 = 116 by omega) rfl) ?_
  refine PW.putR (pc := 64) dX4_init_64 lf_X4_37 (obn (show mN M + 6 = 117 by omega) s_113 (by decide) (by decide)) fx_4_8 (Or.inr ⟨rfl, rfl, rfl⟩) (fun _ => rfl) (fun _ => rfl) (by decide) ?_
  refine PW.aload_n (pc := 67) dX4_init_67 rfl ?_
  refine PW.bipush (pc := 68) dX4_init_68 (v := 40) (by decide) ?_
  refine PW.newaI (pc := 70) dX4_init_70 (a := 120) aw_int (by decide) (by decide +kernel) (by decide) (ltn (show mN M + 6 = 117 by omega) (by decide)) (eqn (show mN M + 6 = 117 by omega) rfl) ?_
  refine PW.putR (pc := 72) dX4_init_72 lf_X4_40 (obn (show mN M + 7 = 118 by omega) s_113 (by decide) (by decide)) fx_4_9 (Or.inr ⟨rfl, rfl, rfl⟩) (fun _ => rfl) (fun _ => rfl) (by decide) ?_
  refine PW.aload_n (pc := 75) dX4_init_75 rfl ?_
  refine PW.bipush (pc := 76) dX4_init_76 (v := 40) (by decide) ?_
  refine PW.newaI (pc := 78) dX4_init_78 (a := 121) aw_int (by decide) (by decide +kernel) (by decide) (ltn (show mN M + 7 = 118 by omega) (by decide)) (eqn (show mN M + 7 = 118 by omega) rfl) ?_
  refine PW.putR (pc := 80) dX4_init_80 lf_X4_43 (obn (show mN M + 8 = 119 by omega) s_113 (by decide) (by decide)) fx_4_10 (Or.inr ⟨rfl, rfl, rfl⟩) (fun _ => rfl) (fun _ => rfl) (by decide) ?_
  exact h
def i_X4_113 (M : pm) : pm := u_X4_113_0 M
theorem in_X4_113 (M : pm) : mN (i_X4_113 M) = mN M + 8 := by
  unfold i_X4_113
  rw [un_X4_113_0] <;> omega
theorem c_X4_113 {M : pm} (hn : mN M = 111) : PW mX4_init 10 119 0 (pfr mX4_init.2.2.1 [.ref 113]) [] M (fun r M' => r = none ∧ M' = i_X4_113 M) := by
  show PW mX4_init 10 119 0 [.ref 113] [] M _
  refine k_X4_113_0 hn  ?_
  have hn1 : mN (u_X4_113_0 M) = 119 := by rw [un_X4_113_0, hn]
  exact PW.ret0 (pc := 83) dX4_init_83 hn1 rfl ⟨rfl, rfl⟩
def u_X4_122_0 (M : pm) : pm := sR (nw (sR (nw (sR (nw (sI (sR (nw (sR (nw (sR (nw (sR (nw (sR (nw (sI (sI M 122 0 0) 122 1 0)) 122 2 123)) 122 3 124)) 122 4 125)) 122 5 126)) 122 6 127) 122 7 0)) 122 8 128)) 122 9 129)) 122 10 130
theorem un_X4_122_0 (M : pm) : mN (u_X4_122_0 M) = mN M + 8 := rfl
set_option maxRecDepth 4000 in
theorem k_X4_122_0 {M : pm} {Q : Option Value → pm → Prop} (hn : mN M = 120)  (h : PW mX4_init 10 128 83 [.ref 122] [] (u_X4_122_0 M) Q) : PW mX4_init 10 128 0 [.ref 122] [] M Q := by
  refine PW.aload_n (pc := 0) dX4_init_0 rfl ?_
  refine PW.objInit (pc := 1) dX4_init_1 oi_X4_3 oi_i oi_c (Nat.le_of_ble_eq_true rfl) (by decide) ?_
  refine PW.aload_n (pc := 4) dX4_init_4 rfl ?_
  refine PW.iconst (pc := 5) dX4_init_5 (v := 0) (by decide) ?_
  refine PW.putI (pc := 6) dX4_init_6 lf_X4_9 (obn (show mN M + 0 = 120 by omega) s_122 (by decide) (by decide)) fx_4_0 (Or.inl rfl) rfl rfl ?_
  refine PW.aload_n (pc := 9) dX4_init_9 rfl ?_
  refine PW.iconst (pc := 10) dX4_init_10 (v := 0) (by decide) ?_
  refine PW.putI (pc := 11) dX4_init_11 lf_X4_15 (obn (show mN M + 0 = 120 by omega) s_122 (by decide) (by decide)) fx_4_1 (Or.inl rfl) rfl rfl ?_
  refine PW.aload_n (pc := 14) dX4_init_14 rfl ?_
  refine PW.bipush (pc := 15) dX4_init_15 (v := 8) (by decide) ?_
  refine PW.newaI (pc := 17) dX4_init_17 (a := 123) aw_int (by decide) (by decide +kernel) (by decide) (ltn (show mN M + 0 = 120 by omega) (by decide)) (eqn (show mN M + 0 = 120 by omega) rfl) ?_
  refine PW.putR (pc := 19) dX4_init_19 lf_X4_18 (obn (show mN M + 1 = 121 by omega) s_122 (by decide) (by decide)) fx_4_2 (Or.inr ⟨rfl, rfl, rfl⟩) (fun _ => rfl) (fun _ => rfl) (by decide) ?_
  refine PW.aload_n (pc := 22) dX4_init_22 rfl ?_
  refine PW.bipush (pc := 23) dX4_init_23 (v := 8) (by decide) ?_
  refine PW.newaI (pc := 25) dX4_init_25 (a := 124) aw_int (by decide) (by decide +kernel) (by decide) (ltn (show mN M + 1 = 121 by omega) (by decide)) (eqn (show mN M + 1 = 121 by omega) rfl) ?_
  refine PW.putR (pc := 27) dX4_init_27 lf_X4_22 (obn (show mN M + 2 = 122 by omega) s_122 (by decide) (by decide)) fx_4_3 (Or.inr ⟨rfl, rfl, rfl⟩) (fun _ => rfl) (fun _ => rfl) (by decide) ?_
  refine PW.aload_n (pc := 30) dX4_init_30 rfl ?_
  refine PW.bipush (pc := 31) dX4_init_31 (v := 8) (by decide) ?_
  refine PW.newaI (pc := 33) dX4_init_33 (a := 125) aw_int (by decide) (by decide +kernel) (by decide) (ltn (show mN M + 2 = 122 by omega) (by decide)) (eqn (show mN M + 2 = 122 by omega) rfl) ?_
  refine PW.putR (pc := 35) dX4_init_35 lf_X4_25 (obn (show mN M + 3 = 123 by omega) s_122 (by decide) (by decide)) fx_4_4 (Or.inr ⟨rfl, rfl, rfl⟩) (fun _ => rfl) (fun _ => rfl) (by decide) ?_
  refine PW.aload_n (pc := 38) dX4_init_38 rfl ?_
  refine PW.bipush (pc := 39) dX4_init_39 (v := 8) (by decide) ?_
  refine PW.newaI (pc := 41) dX4_init_41 (a := 126) aw_int (by decide) (by decide +kernel) (by decide) (ltn (show mN M + 3 = 123 by omega) (by decide)) (eqn (show mN M + 3 = 123 by omega) rfl) ?_
  refine PW.putR (pc := 43) dX4_init_43 lf_X4_28 (obn (show mN M + 4 = 124 by omega) s_122 (by decide) (by decide)) fx_4_5 (Or.inr ⟨rfl, rfl, rfl⟩) (fun _ => rfl) (fun _ => rfl) (by decide) ?_
  refine PW.aload_n (pc := 46) dX4_init_46 rfl ?_
  refine PW.bipush (pc := 47) dX4_init_47 (v := 8) (by decide) ?_
  refine PW.newaI (pc := 49) dX4_init_49 (a := 127) aw_int (by decide) (by decide +kernel) (by decide) (ltn (show mN M + 4 = 124 by omega) (by decide)) (eqn (show mN M + 4 = 124 by omega) rfl) ?_
  refine PW.putR (pc := 51) dX4_init_51 lf_X4_31 (obn (show mN M + 5 = 125 by omega) s_122 (by decide) (by decide)) fx_4_6 (Or.inr ⟨rfl, rfl, rfl⟩) (fun _ => rfl) (fun _ => rfl) (by decide) ?_
  refine PW.aload_n (pc := 54) dX4_init_54 rfl ?_
  refine PW.iconst (pc := 55) dX4_init_55 (v := 0) (by decide) ?_
  refine PW.putI (pc := 56) dX4_init_56 lf_X4_34 (obn (show mN M + 5 = 125 by omega) s_122 (by decide) (by decide)) fx_4_7 (Or.inl rfl) rfl rfl ?_
  refine PW.aload_n (pc := 59) dX4_init_59 rfl ?_
  refine PW.bipush (pc := 60) dX4_init_60 (v := 40) (by decide) ?_
  refine PW.newaI (pc := 62) dX4_init_62 (a := 128) aw_int (by decide) (by decide +kernel) (by decide) (ltn (show mN M + 5 = 125 by omega) (by decide)) (eqn (show mN M + 5 = 125 by omega) rfl) ?_
  refine PW.putR (pc := 64) dX4_init_64 lf_X4_37 (obn (show mN M + 6 = 126 by omega) s_122 (by decide) (by decide)) fx_4_8 (Or.inr ⟨rfl, rfl, rfl⟩) (fun _ => rfl) (fun _ => rfl) (by decide) ?_
  refine PW.aload_n (pc := 67) dX4_init_67 rfl ?_
  refine PW.bipush (pc := 68) dX4_init_68 (v := 40) (by decide) ?_
  refine PW.newaI (pc := 70) dX4_init_70 (a := 129) aw_int (by decide) (by decide +kernel) (by decide) (ltn (show mN M + 6 = 126 by omega) (by decide)) (eqn (show mN M + 6 = 126 by omega) rfl) ?_
  refine PW.putR (pc := 72) dX4_init_72 lf_X4_40 (obn (show mN M + 7 = 127 by omega) s_122 (by decide) (by decide)) fx_4_9 (Or.inr ⟨rfl, rfl, rfl⟩) (fun _ => rfl) (fun _ => rfl) (by decide) ?_
  refine PW.aload_n (pc := 75) dX4_init_75 rfl ?_
  refine PW.bipush (pc := 76) dX4_init_76 (v := 40) (by decide) ?_
  refine PW.newaI (pc := 78) dX4_init_78 (a := 130) aw_int (by decide) (by decide +kernel) (by decide) (ltn (show mN M + 7 = 127 by omega) (by decide)) (eqn (show mN M + 7 = 127 by omega) rfl) ?_
  refine PW.putR (pc := 80) dX4_init_80 lf_X4_43 (obn (show mN M + 8 = 128 by omega) s_122 (by decide) (by decide)) fx_4_10 (Or.inr ⟨rfl, rfl, rfl⟩) (fun _ => rfl) (fun _ => rfl) (by decide) ?_
  exact h
def i_X4_122 (M : pm) : pm := u_X4_122_0 M
theorem in_X4_122 (M : pm) : mN (i_X4_122 M) = mN M + 8 := by
  unfold i_X4_122
  rw [un_X4_122_0] <;> omega
theorem c_X4_122 {M : pm} (hn : mN M = 120) : PW mX4_init 10 128 0 (pfr mX4_init.2.2.1 [.ref 122]) [] M (fun r M' => r = none ∧ M' = i_X4_122 M) := by
  show PW mX4_init 10 128 0 [.ref 122] [] M _
  refine k_X4_122_0 hn  ?_
  have hn1 : mN (u_X4_122_0 M) = 128 := by rw [un_X4_122_0, hn]
  exact PW.ret0 (pc := 83) dX4_init_83 hn1 rfl ⟨rfl, rfl⟩
def u_X4_131_0 (M : pm) : pm := sR (nw (sR (nw (sR (nw (sI (sR (nw (sR (nw (sR (nw (sR (nw (sR (nw (sI (sI M 131 0 0) 131 1 0)) 131 2 132)) 131 3 133)) 131 4 134)) 131 5 135)) 131 6 136) 131 7 0)) 131 8 137)) 131 9 138)) 131 10 139
theorem un_X4_131_0 (M : pm) : mN (u_X4_131_0 M) = mN M + 8 := rfl
set_option maxRecDepth 4000 in
theorem k_X4_131_0 {M : pm} {Q : Option Value → pm → Prop} (hn : mN M = 129)  (h : PW mX4_init 10 137 83 [.ref 131] [] (u_X4_131_0 M) Q) : PW mX4_init 10 137 0 [.ref 131] [] M Q := by
  refine PW.aload_n (pc := 0) dX4_init_0 rfl ?_
  refine PW.objInit (pc := 1) dX4_init_1 oi_X4_3 oi_i oi_c (Nat.le_of_ble_eq_true rfl) (by decide) ?_
  refine PW.aload_n (pc := 4) dX4_init_4 rfl ?_
  refine PW.iconst (pc := 5) dX4_init_5 (v := 0) (by decide) ?_
  refine PW.putI (pc := 6) dX4_init_6 lf_X4_9 (obn (show mN M + 0 = 129 by omega) s_131 (by decide) (by decide)) fx_4_0 (Or.inl rfl) rfl rfl ?_
  refine PW.aload_n (pc := 9) dX4_init_9 rfl ?_
  refine PW.iconst (pc := 10) dX4_init_10 (v := 0) (by decide) ?_
  refine PW.putI (pc := 11) dX4_init_11 lf_X4_15 (obn (show mN M + 0 = 129 by omega) s_131 (by decide) (by decide)) fx_4_1 (Or.inl rfl) rfl rfl ?_
  refine PW.aload_n (pc := 14) dX4_init_14 rfl ?_
  refine PW.bipush (pc := 15) dX4_init_15 (v := 8) (by decide) ?_
  refine PW.newaI (pc := 17) dX4_init_17 (a := 132) aw_int (by decide) (by decide +kernel) (by decide) (ltn (show mN M + 0 = 129 by omega) (by decide)) (eqn (show mN M + 0 = 129 by omega) rfl) ?_
  refine PW.putR (pc := 19) dX4_init_19 lf_X4_18 (obn (show mN M + 1 = 130 by omega) s_131 (by decide) (by decide)) fx_4_2 (Or.inr ⟨rfl, rfl, rfl⟩) (fun _ => rfl) (fun _ => rfl) (by decide) ?_
  refine PW.aload_n (pc := 22) dX4_init_22 rfl ?_
  refine PW.bipush (pc := 23) dX4_init_23 (v := 8) (by decide) ?_
  refine PW.newaI (pc := 25) dX4_init_25 (a := 133) aw_int (by decide) (by decide +kernel) (by decide) (ltn (show mN M + 1 = 130 by omega) (by decide)) (eqn (show mN M + 1 = 130 by omega) rfl) ?_
  refine PW.putR (pc := 27) dX4_init_27 lf_X4_22 (obn (show mN M + 2 = 131 by omega) s_131 (by decide) (by decide)) fx_4_3 (Or.inr ⟨rfl, rfl, rfl⟩) (fun _ => rfl) (fun _ => rfl) (by decide) ?_
  refine PW.aload_n (pc := 30) dX4_init_30 rfl ?_
  refine PW.bipush (pc := 31) dX4_init_31 (v := 8) (by decide) ?_
  refine PW.newaI (pc := 33) dX4_init_33 (a := 134) aw_int (by decide) (by decide +kernel) (by decide) (ltn (show mN M + 2 = 131 by omega) (by decide)) (eqn (show mN M + 2 = 131 by omega) rfl) ?_
  refine PW.putR (pc := 35) dX4_init_35 lf_X4_25 (obn (show mN M + 3 = 132 by omega) s_131 (by decide) (by decide)) fx_4_4 (Or.inr ⟨rfl, rfl, rfl⟩) (fun _ => rfl) (fun _ => rfl) (by decide) ?_
  refine PW.aload_n (pc := 38) dX4_init_38 rfl ?_
  refine PW.bipush (pc := 39) dX4_init_39 (v := 8) (by decide) ?_
  refine PW.newaI (pc := 41) dX4_init_41 (a := 135) aw_int (by decide) (by decide +kernel) (by decide) (ltn (show mN M + 3 = 132 by omega) (by decide)) (eqn (show mN M + 3 = 132 by omega) rfl) ?_
  refine PW.putR (pc := 43) dX4_init_43 lf_X4_28 (obn (show mN M + 4 = 133 by omega) s_131 (by decide) (by decide)) fx_4_5 (Or.inr ⟨rfl, rfl, rfl⟩) (fun _ => rfl) (fun _ => rfl) (by decide) ?_
  refine PW.aload_n (pc := 46) dX4_init_46 rfl ?_
  refine PW.bipush (pc := 47) dX4_init_47 (v := 8) (by decide) ?_
  refine PW.newaI (pc := 49) dX4_init_49 (a := 136) aw_int (by decide) (by decide +kernel) (by decide) (ltn (show mN M + 4 = 133 by omega) (by decide)) (eqn (show mN M + 4 = 133 by omega) rfl) ?_
  refine PW.putR (pc := 51) dX4_init_51 lf_X4_31 (obn (show mN M + 5 = 134 by omega) s_131 (by decide) (by decide)) fx_4_6 (Or.inr ⟨rfl, rfl, rfl⟩) (fun _ => rfl) (fun _ => rfl) (by decide) ?_
  refine PW.aload_n (pc := 54) dX4_init_54 rfl ?_
  refine PW.iconst (pc := 55) dX4_init_55 (v := 0) (by decide) ?_
  refine PW.putI (pc := 56) dX4_init_56 lf_X4_34 (obn (show mN M + 5 = 134 by omega) s_131 (by decide) (by decide)) fx_4_7 (Or.inl rfl) rfl rfl ?_
  refine PW.aload_n (pc := 59) dX4_init_59 rfl ?_
  refine PW.bipush (pc := 60) dX4_init_60 (v := 40) (by decide) ?_
  refine PW.newaI (pc := 62) dX4_init_62 (a := 137) aw_int (by decide) (by decide +kernel) (by decide) (ltn (show mN M + 5 = 134 by omega) (by decide)) (eqn (show mN M + 5 = 134 by omega) rfl) ?_
  refine PW.putR (pc := 64) dX4_init_64 lf_X4_37 (obn (show mN M + 6 = 135 by omega) s_131 (by decide) (by decide)) fx_4_8 (Or.inr ⟨rfl, rfl, rfl⟩) (fun _ => rfl) (fun _ => rfl) (by decide) ?_
  refine PW.aload_n (pc := 67) dX4_init_67 rfl ?_
  refine PW.bipush (pc := 68) dX4_init_68 (v := 40) (by decide) ?_
  refine PW.newaI (pc := 70) dX4_init_70 (a := 138) aw_int (by decide) (by decide +kernel) (by decide) (ltn (show mN M + 6 = 135 by omega) (by decide)) (eqn (show mN M + 6 = 135 by omega) rfl) ?_
  refine PW.putR (pc := 72) dX4_init_72 lf_X4_40 (obn (show mN M + 7 = 136 by omega) s_131 (by decide) (by decide)) fx_4_9 (Or.inr ⟨rfl, rfl, rfl⟩) (fun _ => rfl) (fun _ => rfl) (by decide) ?_
  refine PW.aload_n (pc := 75) dX4_init_75 rfl ?_
  refine PW.bipush (pc := 76) dX4_init_76 (v := 40) (by decide) ?_
  refine PW.newaI (pc := 78) dX4_init_78 (a := 139) aw_int (by decide) (by decide +kernel) (by decide) (ltn (show mN M + 7 = 136 by omega) (by decide)) (eqn (show mN M + 7 = 136 by omega) rfl) ?_
  refine PW.putR (pc := 80) dX4_init_80 lf_X4_43 (obn (show mN M + 8 = 137 by omega) s_131 (by decide) (by decide)) fx_4_10 (Or.inr ⟨rfl, rfl, rfl⟩) (fun _ => rfl) (fun _ => rfl) (by decide) ?_
  exact h
def i_X4_131 (M : pm) : pm := u_X4_131_0 M
theorem in_X4_131 (M : pm) : mN (i_X4_131 M) = mN M + 8 := by
  unfold i_X4_131
  rw [un_X4_131_0] <;> omega
theorem c_X4_131 {M : pm} (hn : mN M = 129) : PW mX4_init 10 137 0 (pfr mX4_init.2.2.1 [.ref 131]) [] M (fun r M' => r = none ∧ M' = i_X4_131 M) := by
  show PW mX4_init 10 137 0 [.ref 131] [] M _
  refine k_X4_131_0 hn  ?_
  have hn1 : mN (u_X4_131_0 M) = 137 := by rw [un_X4_131_0, hn]
  exact PW.ret0 (pc := 83) dX4_init_83 hn1 rfl ⟨rfl, rfl⟩
def u_X4_140_0 (M : pm) : pm := sR (nw (sR (nw (sR (nw (sI (sR (nw (sR (nw (sR (nw (sR (nw (sR (nw (sI (sI M 140 0 0) 140 1 0)) 140 2 141)) 140 3 142)) 140 4 143)) 140 5 144)) 140 6 145) 140 7 0)) 140 8 146)) 140 9 147)) 140 10 148
theorem un_X4_140_0 (M : pm) : mN (u_X4_140_0 M) = mN M + 8 := rfl
set_option maxRecDepth 4000 in
theorem k_X4_140_0 {M : pm} {Q : Option Value → pm → Prop} (hn : mN M = 138)  (h : PW mX4_init 10 146 83 [.ref 140] [] (u_X4_140_0 M) Q) : PW mX4_init 10 146 0 [.ref 140] [] M Q := by
  refine PW.aload_n (pc := 0) dX4_init_0 rfl ?_
  refine PW.objInit (pc := 1) dX4_init_1 oi_X4_3 oi_i oi_c (Nat.le_of_ble_eq_true rfl) (by decide) ?_
  refine PW.aload_n (pc := 4) dX4_init_4 rfl ?_
  refine PW.iconst (pc := 5) dX4_init_5 (v := 0) (by decide) ?_
  refine PW.putI (pc := 6) dX4_init_6 lf_X4_9 (obn (show mN M + 0 = 138 by omega) s_140 (by decide) (by decide)) fx_4_0 (Or.inl rfl) rfl rfl ?_
  refine PW.aload_n (pc := 9) dX4_init_9 rfl ?_
  refine PW.iconst (pc := 10) dX4_init_10 (v := 0) (by decide) ?_
  refine PW.putI (pc := 11) dX4_init_11 lf_X4_15 (obn (show mN M + 0 = 138 by omega) s_140 (by decide) (by decide)) fx_4_1 (Or.inl rfl) rfl rfl ?_
  refine PW.aload_n (pc := 14) dX4_init_14 rfl ?_
  refine PW.bipush (pc := 15) dX4_init_15 (v := 8) (by decide) ?_
  refine PW.newaI (pc := 17) dX4_init_17 (a := 141) aw_int (by decide) (by decide +kernel) (by decide) (ltn (show mN M + 0 = 138 by omega) (by decide)) (eqn (show mN M + 0 = 138 by omega) rfl) ?_
  refine PW.putR (pc := 19) dX4_init_19 lf_X4_18 (obn (show mN M + 1 = 139 by omega) s_140 (by decide) (by decide)) fx_4_2 (Or.inr ⟨rfl, rfl, rfl⟩) (fun _ => rfl) (fun _ => rfl) (by decide) ?_
  refine PW.aload_n (pc := 22) dX4_init_22 rfl ?_
  refine PW.bipush (pc := 23) dX4_init_23 (v := 8) (by decide) ?_
  refine PW.newaI (pc := 25) dX4_init_25 (a := 142) aw_int (by decide) (by decide +kernel) (by decide) (ltn (show mN M + 1 = 139 by omega) (by decide)) (eqn (show mN M + 1 = 139 by omega) rfl) ?_
  refine PW.putR (pc := 27) dX4_init_27 lf_X4_22 (obn (show mN M + 2 = 140 by omega) s_140 (by decide) (by decide)) fx_4_3 (Or.inr ⟨rfl, rfl, rfl⟩) (fun _ => rfl) (fun _ => rfl) (by decide) ?_
  refine PW.aload_n (pc := 30) dX4_init_30 rfl ?_
  refine PW.bipush (pc := 31) dX4_init_31 (v := 8) (by decide) ?_
  refine PW.newaI (pc := 33) dX4_init_33 (a := 143) aw_int (by decide) (by decide +kernel) (by decide) (ltn (show mN M + 2 = 140 by omega) (by decide)) (eqn (show mN M + 2 = 140 by omega) rfl) ?_
  refine PW.putR (pc := 35) dX4_init_35 lf_X4_25 (obn (show mN M + 3 = 141 by omega) s_140 (by decide) (by decide)) fx_4_4 (Or.inr ⟨rfl, rfl, rfl⟩) (fun _ => rfl) (fun _ => rfl) (by decide) ?_
  refine PW.aload_n (pc := 38) dX4_init_38 rfl ?_
  refine PW.bipush (pc := 39) dX4_init_39 (v := 8) (by decide) ?_
  refine PW.newaI (pc := 41) dX4_init_41 (a := 144) aw_int (by decide) (by decide +kernel) (by decide) (ltn (show mN M + 3 = 141 by omega) (by decide)) (eqn (show mN M + 3 = 141 by omega) rfl) ?_
  refine PW.putR (pc := 43) dX4_init_43 lf_X4_28 (obn (show mN M + 4 = 142 by omega) s_140 (by decide) (by decide)) fx_4_5 (Or.inr ⟨rfl, rfl, rfl⟩) (fun _ => rfl) (fun _ => rfl) (by decide) ?_
  refine PW.aload_n (pc := 46) dX4_init_46 rfl ?_
  refine PW.bipush (pc := 47) dX4_init_47 (v := 8) (by decide) ?_
  refine PW.newaI (pc := 49) dX4_init_49 (a := 145) aw_int (by decide) (by decide +kernel) (by decide) (ltn (show mN M + 4 = 142 by omega) (by decide)) (eqn (show mN M + 4 = 142 by omega) rfl) ?_
  refine PW.putR (pc := 51) dX4_init_51 lf_X4_31 (obn (show mN M + 5 = 143 by omega) s_140 (by decide) (by decide)) fx_4_6 (Or.inr ⟨rfl, rfl, rfl⟩) (fun _ => rfl) (fun _ => rfl) (by decide) ?_
  refine PW.aload_n (pc := 54) dX4_init_54 rfl ?_
  refine PW.iconst (pc := 55) dX4_init_55 (v := 0) (by decide) ?_
  refine PW.putI (pc := 56) dX4_init_56 lf_X4_34 (obn (show mN M + 5 = 143 by omega) s_140 (by decide) (by decide)) fx_4_7 (Or.inl rfl) rfl rfl ?_
  refine PW.aload_n (pc := 59) dX4_init_59 rfl ?_
  refine PW.bipush (pc := 60) dX4_init_60 (v := 40) (by decide) ?_
  refine PW.newaI (pc := 62) dX4_init_62 (a := 146) aw_int (by decide) (by decide +kernel) (by decide) (ltn (show mN M + 5 = 143 by omega) (by decide)) (eqn (show mN M + 5 = 143 by omega) rfl) ?_
  refine PW.putR (pc := 64) dX4_init_64 lf_X4_37 (obn (show mN M + 6 = 144 by omega) s_140 (by decide) (by decide)) fx_4_8 (Or.inr ⟨rfl, rfl, rfl⟩) (fun _ => rfl) (fun _ => rfl) (by decide) ?_
  refine PW.aload_n (pc := 67) dX4_init_67 rfl ?_
  refine PW.bipush (pc := 68) dX4_init_68 (v := 40) (by decide) ?_
  refine PW.newaI (pc := 70) dX4_init_70 (a := 147) aw_int (by decide) (by decide +kernel) (by decide) (ltn (show mN M + 6 = 144 by omega) (by decide)) (eqn (show mN M + 6 = 144 by omega) rfl) ?_
  refine PW.putR (pc := 72) dX4_init_72 lf_X4_40 (obn (show mN M + 7 = 145 by omega) s_140 (by decide) (by decide)) fx_4_9 (Or.inr ⟨rfl, rfl, rfl⟩) (fun _ => rfl) (fun _ => rfl) (by decide) ?_
  refine PW.aload_n (pc := 75) dX4_init_75 rfl ?_
  refine PW.bipush (pc := 76) dX4_init_76 (v := 40) (by decide) ?_
  refine PW.newaI (pc := 78) dX4_init_78 (a := 148) aw_int (by decide) (by decide +kernel) (by decide) (ltn (show mN M + 7 = 145 by omega) (by decide)) (eqn (show mN M + 7 = 145 by omega) rfl) ?_
  refine PW.putR (pc := 80) dX4_init_80 lf_X4_43 (obn (show mN M + 8 = 146 by omega) s_140 (by decide) (by decide)) fx_4_10 (Or.inr ⟨rfl, rfl, rfl⟩) (fun _ => rfl) (fun _ => rfl) (by decide) ?_
  exact h
def i_X4_140 (M : pm) : pm := u_X4_140_0 M
theorem in_X4_140 (M : pm) : mN (i_X4_140 M) = mN M + 8 := by
  unfold i_X4_140
  rw [un_X4_140_0] <;> omega
theorem c_X4_140 {M : pm} (hn : mN M = 138) : PW mX4_init 10 146 0 (pfr mX4_init.2.2.1 [.ref 140]) [] M (fun r M' => r = none ∧ M' = i_X4_140 M) := by
  show PW mX4_init 10 146 0 [.ref 140] [] M _
  refine k_X4_140_0 hn  ?_
  have hn1 : mN (u_X4_140_0 M) = 146 := by rw [un_X4_140_0, hn]
  exact PW.ret0 (pc := 83) dX4_init_83 hn1 rfl ⟨rfl, rfl⟩
def u_X4_149_0 (M : pm) : pm := sR (nw (sR (nw (sR (nw (sI (sR (nw (sR (nw (sR (nw (sR (nw (sR (nw (sI (sI M 149 0 0) 149 1 0)) 149 2 150)) 149 3 151)) 149 4 152)) 149 5 153)) 149 6 154) 149 7 0)) 149 8 155)) 149 9 156)) 149 10 157
theorem un_X4_149_0 (M : pm) : mN (u_X4_149_0 M) = mN M + 8 := rfl
set_option maxRecDepth 4000 in
theorem k_X4_149_0 {M : pm} {Q : Option Value → pm → Prop} (hn : mN M = 147)  (h : PW mX4_init 10 155 83 [.ref 149] [] (u_X4_149_0 M) Q) : PW mX4_init 10 155 0 [.ref 149] [] M Q := by
  refine PW.aload_n (pc := 0) dX4_init_0 rfl ?_
  refine PW.objInit (pc := 1) dX4_init_1 oi_X4_3 oi_i oi_c (Nat.le_of_ble_eq_true rfl) (by decide) ?_
  refine PW.aload_n (pc := 4) dX4_init_4 rfl ?_
  refine PW.iconst (pc := 5) dX4_init_5 (v := 0) (by decide) ?_
  refine PW.putI (pc := 6) dX4_init_6 lf_X4_9 (obn (show mN M + 0 = 147 by omega) s_149 (by decide) (by decide)) fx_4_0 (Or.inl rfl) rfl rfl ?_
  refine PW.aload_n (pc := 9) dX4_init_9 rfl ?_
  refine PW.iconst (pc := 10) dX4_init_10 (v := 0) (by decide) ?_
  refine PW.putI (pc := 11) dX4_init_11 lf_X4_15 (obn (show mN M + 0 = 147 by omega) s_149 (by decide) (by decide)) fx_4_1 (Or.inl rfl) rfl rfl ?_
  refine PW.aload_n (pc := 14) dX4_init_14 rfl ?_
  refine PW.bipush (pc := 15) dX4_init_15 (v := 8) (by decide) ?_
  refine PW.newaI (pc := 17) dX4_init_17 (a := 150) aw_int (by decide) (by decide +kernel) (by decide) (ltn (show mN M + 0 = 147 by omega) (by decide)) (eqn (show mN M + 0 = 147 by omega) rfl) ?_
  refine PW.putR (pc := 19) dX4_init_19 lf_X4_18 (obn (show mN M + 1 = 148 by omega) s_149 (by decide) (by decide)) fx_4_2 (Or.inr ⟨rfl, rfl, rfl⟩) (fun _ => rfl) (fun _ => rfl) (by decide) ?_
  refine PW.aload_n (pc := 22) dX4_init_22 rfl ?_
  refine PW.bipush (pc := 23) dX4_init_23 (v := 8) (by decide) ?_
  refine PW.newaI (pc := 25) dX4_init_25 (a := 151) aw_int (by decide) (by decide +kernel) (by decide) (ltn (show mN M + 1 = 148 by omega) (by decide)) (eqn (show mN M + 1 = 148 by omega) rfl) ?_
  refine PW.putR (pc := 27) dX4_init_27 lf_X4_22 (obn (show mN M + 2 = 149 by omega) s_149 (by decide) (by decide)) fx_4_3 (Or.inr ⟨rfl, rfl, rfl⟩) (fun _ => rfl) (fun _ => rfl) (by decide) ?_
  refine PW.aload_n (pc := 30) dX4_init_30 rfl ?_
  refine PW.bipush (pc := 31) dX4_init_31 (v := 8) (by decide) ?_
  refine PW.newaI (pc := 33) dX4_init_33 (a := 152) aw_int (by decide) (by decide +kernel) (by decide) (ltn (show mN M + 2 = 149 by omega) (by decide)) (eqn (show mN M + 2 = 149 by omega) rfl) ?_
  refine PW.putR (pc := 35) dX4_init_35 lf_X4_25 (obn (show mN M + 3 = 150 by omega) s_149 (by decide) (by decide)) fx_4_4 (Or.inr ⟨rfl, rfl, rfl⟩) (fun _ => rfl) (fun _ => rfl) (by decide) ?_
  refine PW.aload_n (pc := 38) dX4_init_38 rfl ?_
  refine PW.bipush (pc := 39) dX4_init_39 (v := 8) (by decide) ?_
  refine PW.newaI (pc := 41) dX4_init_41 (a := 153) aw_int (by decide) (by decide +kernel) (by decide) (ltn (show mN M + 3 = 150 by omega) (by decide)) (eqn (show mN M + 3 = 150 by omega) rfl) ?_
  refine PW.putR (pc := 43) dX4_init_43 lf_X4_28 (obn (show mN M + 4 = 151 by omega) s_149 (by decide) (by decide)) fx_4_5 (Or.inr ⟨rfl, rfl, rfl⟩) (fun _ => rfl) (fun _ => rfl) (by decide) ?_
  refine PW.aload_n (pc := 46) dX4_init_46 rfl ?_
  refine PW.bipush (pc := 47) dX4_init_47 (v := 8) (by decide) ?_
  refine PW.newaI (pc := 49) dX4_init_49 (a := 154) aw_int (by decide) (by decide +kernel) (by decide) (ltn (show mN M + 4 = 151 by omega) (by decide)) (eqn (show mN M + 4 = 151 by omega) rfl) ?_
  refine PW.putR (pc := 51) dX4_init_51 lf_X4_31 (obn (show mN M + 5 = 152 by omega) s_149 (by decide) (by decide)) fx_4_6 (Or.inr ⟨rfl, rfl, rfl⟩) (fun _ => rfl) (fun _ => rfl) (by decide) ?_
  refine PW.aload_n (pc := 54) dX4_init_54 rfl ?_
  refine PW.iconst (pc := 55) dX4_init_55 (v := 0) (by decide) ?_
  refine PW.putI (pc := 56) dX4_init_56 lf_X4_34 (obn (show mN M + 5 = 152 by omega) s_149 (by decide) (by decide)) fx_4_7 (Or.inl rfl) rfl rfl ?_
  refine PW.aload_n (pc := 59) dX4_init_59 rfl ?_
  refine PW.bipush (pc := 60) dX4_init_60 (v := 40) (by decide) ?_
  refine PW.newaI (pc := 62) dX4_init_62 (a := 155) aw_int (by decide) (by decide +kernel) (by decide) (ltn (show mN M + 5 = 152 by omega) (by decide)) (eqn (show mN M + 5 = 152 by omega) rfl) ?_
  refine PW.putR (pc := 64) dX4_init_64 lf_X4_37 (obn (show mN M + 6 = 153 by omega) s_149 (by decide) (by decide)) fx_4_8 (Or.inr ⟨rfl, rfl, rfl⟩) (fun _ => rfl) (fun _ => rfl) (by decide) ?_
  refine PW.aload_n (pc := 67) dX4_init_67 rfl ?_
  refine PW.bipush (pc := 68) dX4_init_68 (v := 40) (by decide) ?_
  refine PW.newaI (pc := 70) dX4_init_70 (a := 156) aw_int (by decide) (by decide +kernel) (by decide) (ltn (show mN M + 6 = 153 by omega) (by decide)) (eqn (show mN M + 6 = 153 by omega) rfl) ?_
  refine PW.putR (pc := 72) dX4_init_72 lf_X4_40 (obn (show mN M + 7 = 154 by omega) s_149 (by decide) (by decide)) fx_4_9 (Or.inr ⟨rfl, rfl, rfl⟩) (fun _ => rfl) (fun _ => rfl) (by decide) ?_
  refine PW.aload_n (pc := 75) dX4_init_75 rfl ?_
  refine PW.bipush (pc := 76) dX4_init_76 (v := 40) (by decide) ?_
  refine PW.newaI (pc := 78) dX4_init_78 (a := 157) aw_int (by decide) (by decide +kernel) (by decide) (ltn (show mN M + 7 = 154 by omega) (by decide)) (eqn (show mN M + 7 = 154 by omega) rfl) ?_
  refine PW.putR (pc := 80) dX4_init_80 lf_X4_43 (obn (show mN M + 8 = 155 by omega) s_149 (by decide) (by decide)) fx_4_10 (Or.inr ⟨rfl, rfl, rfl⟩) (fun _ => rfl) (fun _ => rfl) (by decide) ?_
  exact h
def i_X4_149 (M : pm) : pm := u_X4_149_0 M
theorem in_X4_149 (M : pm) : mN (i_X4_149 M) = mN M + 8 := by
  unfold i_X4_149
  rw [un_X4_149_0] <;> omega
theorem c_X4_149 {M : pm} (hn : mN M = 147) : PW mX4_init 10 155 0 (pfr mX4_init.2.2.1 [.ref 149]) [] M (fun r M' => r = none ∧ M' = i_X4_149 M) := by
  show PW mX4_init 10 155 0 [.ref 149] [] M _
  refine k_X4_149_0 hn  ?_
  have hn1 : mN (u_X4_149_0 M) = 155 := by rw [un_X4_149_0, hn]
  exact PW.ret0 (pc := 83) dX4_init_83 hn1 rfl ⟨rfl, rfl⟩
def u_X4_158_0 (M : pm) : pm := sR (nw (sR (nw (sR (nw (sI (sR (nw (sR (nw (sR (nw (sR (nw (sR (nw (sI (sI M 158 0 0) 158 1 0)) 158 2 159)) 158 3 160)) 158 4 161)) 158 5 162)) 158 6 163) 158 7 0)) 158 8 164)) 158 9 165)) 158 10 166
theorem un_X4_158_0 (M : pm) : mN (u_X4_158_0 M) = mN M + 8 := rfl
set_option maxRecDepth 4000 in
theorem k_X4_158_0 {M : pm} {Q : Option Value → pm → Prop} (hn : mN M = 156)  (h : PW mX4_init 10 164 83 [.ref 158] [] (u_X4_158_0 M) Q) : PW mX4_init 10 164 0 [.ref 158] [] M Q := by
  refine PW.aload_n (pc := 0) dX4_init_0 rfl ?_
  refine PW.objInit (pc := 1) dX4_init_1 oi_X4_3 oi_i oi_c (Nat.le_of_ble_eq_true rfl) (by decide) ?_
  refine PW.aload_n (pc := 4) dX4_init_4 rfl ?_
  refine PW.iconst (pc := 5) dX4_init_5 (v := 0) (by decide) ?_
  refine PW.putI (pc := 6) dX4_init_6 lf_X4_9 (obn (show mN M + 0 = 156 by omega) s_158 (by decide) (by decide)) fx_4_0 (Or.inl rfl) rfl rfl ?_
  refine PW.aload_n (pc := 9) dX4_init_9 rfl ?_
  refine PW.iconst (pc := 10) dX4_init_10 (v := 0) (by decide) ?_
  refine PW.putI (pc := 11) dX4_init_11 lf_X4_15 (obn (show mN M + 0 = 156 by omega) s_158 (by decide) (by decide)) fx_4_1 (Or.inl rfl) rfl rfl ?_
  refine PW.aload_n (pc := 14) dX4_init_14 rfl ?_
  refine PW.bipush (pc := 15) dX4_init_15 (v := 8) (by decide) ?_
  refine PW.newaI (pc := 17) dX4_init_17 (a := 159) aw_int (by decide) (by decide +kernel) (by decide) (ltn (show mN M + 0 = 156 by omega) (by decide)) (eqn (show mN M + 0 = 156 by omega) rfl) ?_
  refine PW.putR (pc := 19) dX4_init_19 lf_X4_18 (obn (show mN M + 1 = 157 by omega) s_158 (by decide) (by decide)) fx_4_2 (Or.inr ⟨rfl, rfl, rfl⟩) (fun _ => rfl) (fun _ => rfl) (by decide) ?_
  refine PW.aload_n (pc := 22) dX4_init_22 rfl ?_
  refine PW.bipush (pc := 23) dX4_init_23 (v := 8) (by decide) ?_
  refine PW.newaI (pc := 25) dX4_init_25 (a := 160) aw_int (by decide) (by decide +kernel) (by decide) (ltn (show mN M + 1 = 157 by omega) (by decide)) (eqn (show mN M + 1 = 157 by omega) rfl) ?_
  refine PW.putR (pc := 27) dX4_init_27 lf_X4_22 (obn (show mN M + 2 = 158 by omega) s_158 (by decide) (by decide)) fx_4_3 (Or.inr ⟨rfl, rfl, rfl⟩) (fun _ => rfl) (fun _ => rfl) (by decide) ?_
  refine PW.aload_n (pc := 30) dX4_init_30 rfl ?_
  refine PW.bipush (pc := 31) dX4_init_31 (v := 8) (by decide) ?_
  refine PW.newaI (pc := 33) dX4_init_33 (a := 161) aw_int (by decide) (by decide +kernel) (by decide) (ltn (show mN M + 2 = 158 by omega) (by decide)) (eqn (show mN M + 2 = 158 by omega) rfl) ?_
  refine PW.putR (pc := 35) dX4_init_35 lf_X4_25 (obn (show mN M + 3 = 159 by omega) s_158 (by decide) (by decide)) fx_4_4 (Or.inr ⟨rfl, rfl, rfl⟩) (fun _ => rfl) (fun _ => rfl) (by decide) ?_
  refine PW.aload_n (pc := 38) dX4_init_38 rfl ?_
  refine PW.bipush (pc := 39) dX4_init_39 (v := 8) (by decide) ?_
  refine PW.newaI (pc := 41) dX4_init_41 (a := 162) aw_int (by decide) (by decide +kernel) (by decide) (ltn (show mN M + 3 = 159 by omega) (by decide)) (eqn (show mN M + 3 = 159 by omega) rfl) ?_
  refine PW.putR (pc := 43) dX4_init_43 lf_X4_28 (obn (show mN M + 4 = 160 by omega) s_158 (by decide) (by decide)) fx_4_5 (Or.inr ⟨rfl, rfl, rfl⟩) (fun _ => rfl) (fun _ => rfl) (by decide) ?_
  refine PW.aload_n (pc := 46) dX4_init_46 rfl ?_
  refine PW.bipush (pc := 47) dX4_init_47 (v := 8) (by decide) ?_
  refine PW.newaI (pc := 49) dX4_init_49 (a := 163) aw_int (by decide) (by decide +kernel) (by decide) (ltn (show mN M + 4 = 160 by omega) (by decide)) (eqn (show mN M + 4 = 160 by omega) rfl) ?_
  refine PW.putR (pc := 51) dX4_init_51 lf_X4_31 (obn (show mN M + 5 = 161 by omega) s_158 (by decide) (by decide)) fx_4_6 (Or.inr ⟨rfl, rfl, rfl⟩) (fun _ => rfl) (fun _ => rfl) (by decide) ?_
  refine PW.aload_n (pc := 54) dX4_init_54 rfl ?_
  refine PW.iconst (pc := 55) dX4_init_55 (v := 0) (by decide) ?_
  refine PW.putI (pc := 56) dX4_init_56 lf_X4_34 (obn (show mN M + 5 = 161 by omega) s_158 (by decide) (by decide)) fx_4_7 (Or.inl rfl) rfl rfl ?_
  refine PW.aload_n (pc := 59) dX4_init_59 rfl ?_
  refine PW.bipush (pc := 60) dX4_init_60 (v := 40) (by decide) ?_
  refine PW.newaI (pc := 62) dX4_init_62 (a := 164) aw_int (by decide) (by decide +kernel) (by decide) (ltn (show mN M + 5 = 161 by omega) (by decide)) (eqn (show mN M + 5 = 161 by omega) rfl) ?_
  refine PW.putR (pc := 64) dX4_init_64 lf_X4_37 (obn (show mN M + 6 = 162 by omega) s_158 (by decide) (by decide)) fx_4_8 (Or.inr ⟨rfl, rfl, rfl⟩) (fun _ => rfl) (fun _ => rfl) (by decide) ?_
  refine PW.aload_n (pc := 67) dX4_init_67 rfl ?_
  refine PW.bipush (pc := 68) dX4_init_68 (v := 40) (by decide) ?_
  refine PW.newaI (pc := 70) dX4_init_70 (a := 165) aw_int (by decide) (by decide +kernel) (by decide) (ltn (show mN M + 6 = 162 by omega) (by decide)) (eqn (show mN M + 6 = 162 by omega) rfl) ?_
  refine PW.putR (pc := 72) dX4_init_72 lf_X4_40 (obn (show mN M + 7 = 163 by omega) s_158 (by decide) (by decide)) fx_4_9 (Or.inr ⟨rfl, rfl, rfl⟩) (fun _ => rfl) (fun _ => rfl) (by decide) ?_
  refine PW.aload_n (pc := 75) dX4_init_75 rfl ?_
  refine PW.bipush (pc := 76) dX4_init_76 (v := 40) (by decide) ?_
  refine PW.newaI (pc := 78) dX4_init_78 (a := 166) aw_int (by decide) (by decide +kernel) (by decide) (ltn (show mN M + 7 = 163 by omega) (by decide)) (eqn (show mN M + 7 = 163 by omega) rfl) ?_
  refine PW.putR (pc := 80) dX4_init_80 lf_X4_43 (obn (show mN M + 8 = 164 by omega) s_158 (by decide) (by decide)) fx_4_10 (Or.inr ⟨rfl, rfl, rfl⟩) (fun _ => rfl) (fun _ => rfl) (by decide) ?_
  exact h
def i_X4_158 (M : pm) : pm := u_X4_158_0 M
theorem in_X4_158 (M : pm) : mN (i_X4_158 M) = mN M + 8 := by
  unfold i_X4_158
  rw [un_X4_158_0] <;> omega
theorem c_X4_158 {M : pm} (hn : mN M = 156) : PW mX4_init 10 164 0 (pfr mX4_init.2.2.1 [.ref 158]) [] M (fun r M' => r = none ∧ M' = i_X4_158 M) := by
  show PW mX4_init 10 164 0 [.ref 158] [] M _
  refine k_X4_158_0 hn  ?_
  have hn1 : mN (u_X4_158_0 M) = 164 := by rw [un_X4_158_0, hn]
  exact PW.ret0 (pc := 83) dX4_init_83 hn1 rfl ⟨rfl, rfl⟩
def u_X4_167_0 (M : pm) : pm := sR (nw (sR (nw (sR (nw (sI (sR (nw (sR (nw (sR (nw (sR (nw (sR (nw (sI (sI M 167 0 0) 167 1 0)) 167 2 168)) 167 3 169)) 167 4 170)) 167 5 171)) 167 6 172) 167 7 0)) 167 8 173)) 167 9 174)) 167 10 175
theorem un_X4_167_0 (M : pm) : mN (u_X4_167_0 M) = mN M + 8 := rfl
set_option maxRecDepth 4000 in
theorem k_X4_167_0 {M : pm} {Q : Option Value → pm → Prop} (hn : mN M = 165)  (h : PW mX4_init 10 173 83 [.ref 167] [] (u_X4_167_0 M) Q) : PW mX4_init 10 173 0 [.ref 167] [] M Q := by
  refine PW.aload_n (pc := 0) dX4_init_0 rfl ?_
  refine PW.objInit (pc := 1) dX4_init_1 oi_X4_3 oi_i oi_c (Nat.le_of_ble_eq_true rfl) (by decide) ?_
  refine PW.aload_n (pc := 4) dX4_init_4 rfl ?_
  refine PW.iconst (pc := 5) dX4_init_5 (v := 0) (by decide) ?_
  refine PW.putI (pc := 6) dX4_init_6 lf_X4_9 (obn (show mN M + 0 = 165 by omega) s_167 (by decide) (by decide)) fx_4_0 (Or.inl rfl) rfl rfl ?_
  refine PW.aload_n (pc := 9) dX4_init_9 rfl ?_
  refine PW.iconst (pc := 10) dX4_init_10 (v := 0) (by decide) ?_
  refine PW.putI (pc := 11) dX4_init_11 lf_X4_15 (obn (show mN M + 0 = 165 by omega) s_167 (by decide) (by decide)) fx_4_1 (Or.inl rfl) rfl rfl ?_
  refine PW.aload_n (pc := 14) dX4_init_14 rfl ?_
  refine PW.bipush (pc := 15) dX4_init_15 (v := 8) (by decide) ?_
  refine PW.newaI (pc := 17) dX4_init_17 (a := 168) aw_int (by decide) (by decide +kernel) (by decide) (ltn (show mN M + 0 = 165 by omega) (by decide)) (eqn (show mN M + 0 = 165 by omega) rfl) ?_
  refine PW.putR (pc := 19) dX4_init_19 lf_X4_18 (obn (show mN M + 1 = 166 by omega) s_167 (by decide) (by decide)) fx_4_2 (Or.inr ⟨rfl, rfl, rfl⟩) (fun _ => rfl) (fun _ => rfl) (by decide) ?_
  refine PW.aload_n (pc := 22) dX4_init_22 rfl ?_
  refine PW.bipush (pc := 23) dX4_init_23 (v := 8) (by decide) ?_
  refine PW.newaI (pc := 25) dX4_init_25 (a := 169) aw_int (by decide) (by decide +kernel) (by decide) (ltn (show mN M + 1 = 166 by omega) (by decide)) (eqn (show mN M + 1 = 166 by omega) rfl) ?_
  refine PW.putR (pc := 27) dX4_init_27 lf_X4_22 (obn (show mN M + 2 = 167 by omega) s_167 (by decide) (by decide)) fx_4_3 (Or.inr ⟨rfl, rfl, rfl⟩) (fun _ => rfl) (fun _ => rfl) (by decide) ?_
  refine PW.aload_n (pc := 30) dX4_init_30 rfl ?_
  refine PW.bipush (pc := 31) dX4_init_31 (v := 8) (by decide) ?_
  refine PW.newaI (pc := 33) dX4_init_33 (a := 170) aw_int (by decide) (by decide +kernel) (by decide) (ltn (show mN M + 2 = 167 by omega) (by decide)) (eqn (show mN M + 2 = 167 by omega) rfl) ?_
  refine PW.putR (pc := 35) dX4_init_35 lf_X4_25 (obn (show mN M + 3 = 168 by omega) s_167 (by decide) (by decide)) fx_4_4 (Or.inr ⟨rfl, rfl, rfl⟩) (fun _ => rfl) (fun _ => rfl) (by decide) ?_
  refine PW.aload_n (pc := 38) dX4_init_38 rfl ?_
  refine PW.bipush (pc := 39) dX4_init_39 (v := 8) (by decide) ?_
  refine PW.newaI (pc := 41) dX4_init_41 (a := 171) aw_int (by decide) (by decide +kernel) (by decide) (ltn (show mN M + 3 = 168 by omega) (by decide)) (eqn (show mN M + 3 = 168 by omega) rfl) ?_
  refine PW.putR (pc := 43) dX4_init_43 lf_X4_28 (obn (show mN M + 4 = 169 by omega) s_167 (by decide) (by decide)) fx_4_5 (Or.inr ⟨rfl, rfl, rfl⟩) (fun _ => rfl) (fun _ => rfl) (by decide) ?_
  refine PW.aload_n (pc := 46) dX4_init_46 rfl ?_
  refine PW.bipush (pc := 47) dX4_init_47 (v := 8) (by decide) ?_
  refine PW.newaI (pc := 49) dX4_init_49 (a := 172) aw_int (by decide) (by decide +kernel) (by decide) (ltn (show mN M + 4 = 169 by omega) (by decide)) (eqn (show mN M + 4 = 169 by omega) rfl) ?_
  refine PW.putR (pc := 51) dX4_init_51 lf_X4_31 (obn (show mN M + 5 = 170 by omega) s_167 (by decide) (by decide)) fx_4_6 (Or.inr ⟨rfl, rfl, rfl⟩) (fun _ => rfl) (fun _ => rfl) (by decide) ?_
  refine PW.aload_n (pc := 54) dX4_init_54 rfl ?_
  refine PW.iconst (pc := 55) dX4_init_55 (v := 0) (by decide) ?_
  refine PW.putI (pc := 56) dX4_init_56 lf_X4_34 (obn (show mN M + 5 = 170 by omega) s_167 (by decide) (by decide)) fx_4_7 (Or.inl rfl) rfl rfl ?_
  refine PW.aload_n (pc := 59) dX4_init_59 rfl ?_
  refine PW.bipush (pc := 60) dX4_init_60 (v := 40) (by decide) ?_
  refine PW.newaI (pc := 62) dX4_init_62 (a := 173) aw_int (by decide) (by decide +kernel) (by decide) (ltn (show mN M + 5 = 170 by omega) (by decide)) (eqn (show mN M + 5 = 170 by omega) rfl) ?_
  refine PW.putR (pc := 64) dX4_init_64 lf_X4_37 (obn (show mN M + 6 = 171 by omega) s_167 (by decide) (by decide)) fx_4_8 (Or.inr ⟨rfl, rfl, rfl⟩) (fun _ => rfl) (fun _ => rfl) (by decide) ?_
  refine PW.aload_n (pc := 67) dX4_init_67 rfl ?_
  refine PW.bipush (pc := 68) dX4_init_68 (v := 40) (by decide) ?_
  refine PW.newaI (pc := 70) dX4_init_70 (a := 174) aw_int (by decide) (by decide +kernel) (by decide) (ltn (show mN M + 6 = 171 by omega) (by decide)) (eqn (show mN M + 6 = 171 by omega) rfl) ?_
  refine PW.putR (pc := 72) dX4_init_72 lf_X4_40 (obn (show mN M + 7 = 172 by omega) s_167 (by decide) (by decide)) fx_4_9 (Or.inr ⟨rfl, rfl, rfl⟩) (fun _ => rfl) (fun _ => rfl) (by decide) ?_
  refine PW.aload_n (pc := 75) dX4_init_75 rfl ?_
  refine PW.bipush (pc := 76) dX4_init_76 (v := 40) (by decide) ?_
  refine PW.newaI (pc := 78) dX4_init_78 (a := 175) aw_int (by decide) (by decide +kernel) (by decide) (ltn (show mN M + 7 = 172 by omega) (by decide)) (eqn (show mN M + 7 = 172 by omega) rfl) ?_
  refine PW.putR (pc := 80) dX4_init_80 lf_X4_43 (obn (show mN M + 8 = 173 by omega) s_167 (by decide) (by decide)) fx_4_10 (Or.inr ⟨rfl, rfl, rfl⟩) (fun _ => rfl) (fun _ => rfl) (by decide) ?_
  exact h
def i_X4_167 (M : pm) : pm := u_X4_167_0 M
theorem in_X4_167 (M : pm) : mN (i_X4_167 M) = mN M + 8 := by
  unfold i_X4_167
  rw [un_X4_167_0] <;> omega
theorem c_X4_167 {M : pm} (hn : mN M = 165) : PW mX4_init 10 173 0 (pfr mX4_init.2.2.1 [.ref 167]) [] M (fun r M' => r = none ∧ M' = i_X4_167 M) := by
  show PW mX4_init 10 173 0 [.ref 167] [] M _
  refine k_X4_167_0 hn  ?_
  have hn1 : mN (u_X4_167_0 M) = 173 := by rw [un_X4_167_0, hn]
  exact PW.ret0 (pc := 83) dX4_init_83 hn1 rfl ⟨rfl, rfl⟩
def u_X4_176_0 (M : pm) : pm := sR (nw (sR (nw (sR (nw (sI (sR (nw (sR (nw (sR (nw (sR (nw (sR (nw (sI (sI M 176 0 0) 176 1 0)) 176 2 177)) 176 3 178)) 176 4 179)) 176 5 180)) 176 6 181) 176 7 0)) 176 8 182)) 176 9 183)) 176 10 184
theorem un_X4_176_0 (M : pm) : mN (u_X4_176_0 M) = mN M + 8 := rfl
set_option maxRecDepth 4000 in
theorem k_X4_176_0 {M : pm} {Q : Option Value → pm → Prop} (hn : mN M = 174)  (h : PW mX4_init 10 182 83 [.ref 176] [] (u_X4_176_0 M) Q) : PW mX4_init 10 182 0 [.ref 176] [] M Q := by
  refine PW.aload_n (pc := 0) dX4_init_0 rfl ?_
  refine PW.objInit (pc := 1) dX4_init_1 oi_X4_3 oi_i oi_c (Nat.le_of_ble_eq_true rfl) (by decide) ?_
  refine PW.aload_n (pc := 4) dX4_init_4 rfl ?_
  refine PW.iconst (pc := 5) dX4_init_5 (v := 0) (by decide) ?_
  refine PW.putI (pc := 6) dX4_init_6 lf_X4_9 (obn (show mN M + 0 = 174 by omega) s_176 (by decide) (by decide)) fx_4_0 (Or.inl rfl) rfl rfl ?_
  refine PW.aload_n (pc := 9) dX4_init_9 rfl ?_
  refine PW.iconst (pc := 10) dX4_init_10 (v := 0) (by decide) ?_
  refine PW.putI (pc := 11) dX4_init_11 lf_X4_15 (obn (show mN M + 0 = 174 by omega) s_176 (by decide) (by decide)) fx_4_1 (Or.inl rfl) rfl rfl ?_
  refine PW.aload_n (pc := 14) dX4_init_14 rfl ?_
  refine PW.bipush (pc := 15) dX4_init_15 (v := 8) (by decide) ?_
  refine PW.newaI (pc := 17) dX4_init_17 (a := 177) aw_int (by decide) (by decide +kernel) (by decide) (ltn (show mN M + 0 = 174 by omega) (by decide)) (eqn (show mN M + 0 = 174 by omega) rfl) ?_
  refine PW.putR (pc := 19) dX4_init_19 lf_X4_18 (obn (show mN M + 1 = 175 by omega) s_176 (by decide) (by decide)) fx_4_2 (Or.inr ⟨rfl, rfl, rfl⟩) (fun _ => rfl) (fun _ => rfl) (by decide) ?_
  refine PW.aload_n (pc := 22) dX4_init_22 rfl ?_
  refine PW.bipush (pc := 23) dX4_init_23 (v := 8) (by decide) ?_
  refine PW.newaI (pc := 25) dX4_init_25 (a := 178) aw_int (by decide) (by decide +kernel) (by decide) (ltn (show mN M + 1 = 175 by omega) (by decide)) (eqn (show mN M + 1 = 175 by omega) rfl) ?_
  refine PW.putR (pc := 27) dX4_init_27 lf_X4_22 (obn (show mN M + 2 = 176 by omega) s_176 (by decide) (by decide)) fx_4_3 (Or.inr ⟨rfl, rfl, rfl⟩) (fun _ => rfl) (fun _ => rfl) (by decide) ?_
  refine PW.aload_n (pc := 30) dX4_init_30 rfl ?_
  refine PW.bipush (pc := 31) dX4_init_31 (v := 8) (by decide) ?_
  refine PW.newaI (pc := 33) dX4_init_33 (a := 179) aw_int (by decide) (by decide +kernel) (by decide) (ltn (show mN M + 2 = 176 by omega) (by decide)) (eqn (show mN M + 2 = 176 by omega) rfl) ?_
  refine PW.putR (pc := 35) dX4_init_35 lf_X4_25 (obn (show mN M + 3 = 177 by omega) s_176 (by decide) (by decide)) fx_4_4 (Or.inr ⟨rfl, rfl, rfl⟩) (fun _ => rfl) (fun _ => rfl) (by decide) ?_
  refine PW.aload_n (pc := 38) dX4_init_38 rfl ?_
  refine PW.bipush (pc := 39) dX4_init_39 (v := 8) (by decide) ?_
  refine PW.newaI (pc := 41) dX4_init_41 (a := 180) aw_int (by decide) (by decide +kernel) (by decide) (ltn (show mN M + 3 = 177 by omega) (by decide)) (eqn (show mN M + 3 = 177 by omega) rfl) ?_
  refine PW.putR (pc := 43) dX4_init_43 lf_X4_28 (obn (show mN M + 4 = 178 by omega) s_176 (by decide) (by decide)) fx_4_5 (Or.inr ⟨rfl, rfl, rfl⟩) (fun _ => rfl) (fun _ => rfl) (by decide) ?_
  refine PW.aload_n (pc := 46) dX4_init_46 rfl ?_
  refine PW.bipush (pc := 47) dX4_init_47 (v := 8) (by decide) ?_
  refine PW.newaI (pc := 49) dX4_init_49 (a := 181) aw_int (by decide) (by decide +kernel) (by decide) (ltn (show mN M + 4 = 178 by omega) (by decide)) (eqn (show mN M + 4 = 178 by omega) rfl) ?_
  refine PW.putR (pc := 51) dX4_init_51 lf_X4_31 (obn (show mN M + 5 = 179 by omega) s_176 (by decide) (by decide)) fx_4_6 (Or.inr ⟨rfl, rfl, rfl⟩) (fun _ => rfl) (fun _ => rfl) (by decide) ?_
  refine PW.aload_n (pc := 54) dX4_init_54 rfl ?_
  refine PW.iconst (pc := 55) dX4_init_55 (v := 0) (by decide) ?_
  refine PW.putI (pc := 56) dX4_init_56 lf_X4_34 (obn (show mN M + 5 = 179 by omega) s_176 (by decide) (by decide)) fx_4_7 (Or.inl rfl) rfl rfl ?_
  refine PW.aload_n (pc := 59) dX4_init_59 rfl ?_
  refine PW.bipush (pc := 60) dX4_init_60 (v := 40) (by decide) ?_
  refine PW.newaI (pc := 62) dX4_init_62 (a := 182) aw_int (by decide) (by decide +kernel) (by decide) (ltn (show mN M + 5 = 179 by omega) (by decide)) (eqn (show mN M + 5 = 179 by omega) rfl) ?_
  refine PW.putR (pc := 64) dX4_init_64 lf_X4_37 (obn (show mN M + 6 = 180 by omega) s_176 (by decide) (by decide)) fx_4_8 (Or.inr ⟨rfl, rfl, rfl⟩) (fun _ => rfl) (fun _ => rfl) (by decide) ?_
  refine PW.aload_n (pc := 67) dX4_init_67 rfl ?_
  refine PW.bipush (pc := 68) dX4_init_68 (v := 40) (by decide) ?_
  refine PW.newaI (pc := 70) dX4_init_70 (a := 183) aw_int (by decide) (by decide +kernel) (by decide) (ltn (show mN M + 6 = 180 by omega) (by decide)) (eqn (show mN M + 6 = 180 by omega) rfl) ?_
  refine PW.putR (pc := 72) dX4_init_72 lf_X4_40 (obn (show mN M + 7 = 181 by omega) s_176 (by decide) (by decide)) fx_4_9 (Or.inr ⟨rfl, rfl, rfl⟩) (fun _ => rfl) (fun _ => rfl) (by decide) ?_
  refine PW.aload_n (pc := 75) dX4_init_75 rfl ?_
  refine PW.bipush (pc := 76) dX4_init_76 (v := 40) (by decide) ?_
  refine PW.newaI (pc := 78) dX4_init_78 (a := 184) aw_int (by decide) (by decide +kernel) (by decide) (ltn (show mN M + 7 = 181 by omega) (by decide)) (eqn (show mN M + 7 = 181 by omega) rfl) ?_
  refine PW.putR (pc := 80) dX4_init_80 lf_X4_43 (obn (show mN M + 8 = 182 by omega) s_176 (by decide) (by decide)) fx_4_10 (Or.inr ⟨rfl, rfl, rfl⟩) (fun _ => rfl) (fun _ => rfl) (by decide) ?_
  exact h
def i_X4_176 (M : pm) : pm := u_X4_176_0 M
theorem in_X4_176 (M : pm) : mN (i_X4_176 M) = mN M + 8 := by
  unfold i_X4_176
  rw [un_X4_176_0] <;> omega
theorem c_X4_176 {M : pm} (hn : mN M = 174) : PW mX4_init 10 182 0 (pfr mX4_init.2.2.1 [.ref 176]) [] M (fun r M' => r = none ∧ M' = i_X4_176 M) := by
  show PW mX4_init 10 182 0 [.ref 176] [] M _
  refine k_X4_176_0 hn  ?_
  have hn1 : mN (u_X4_176_0 M) = 182 := by rw [un_X4_176_0, hn]
  exact PW.ret0 (pc := 83) dX4_init_83 hn1 rfl ⟨rfl, rfl⟩
def u_X4_185_0 (M : pm) : pm := sR (nw (sR (nw (sR (nw (sI (sR (nw (sR (nw (sR (nw (sR (nw (sR (nw (sI (sI M 185 0 0) 185 1 0)) 185 2 186)) 185 3 187)) 185 4 188)) 185 5 189)) 185 6 190) 185 7 0)) 185 8 191)) 185 9 192)) 185 10 193
theorem un_X4_185_0 (M : pm) : mN (u_X4_185_0 M) = mN M + 8 := rfl
set_option maxRecDepth 4000 in
theorem k_X4_185_0 {M : pm} {Q : Option Value → pm → Prop} (hn : mN M = 183)  (h : PW mX4_init 10 191 83 [.ref 185] [] (u_X4_185_0 M) Q) : PW mX4_init 10 191 0 [.ref 185] [] M Q := by
  refine PW.aload_n (pc := 0) dX4_init_0 rfl ?_
  refine PW.objInit (pc := 1) dX4_init_1 oi_X4_3 oi_i oi_c (Nat.le_of_ble_eq_true rfl) (by decide) ?_
  refine PW.aload_n (pc := 4) dX4_init_4 rfl ?_
  refine PW.iconst (pc := 5) dX4_init_5 (v := 0) (by decide) ?_
  refine PW.putI (pc := 6) dX4_init_6 lf_X4_9 (obn (show mN M + 0 = 183 by omega) s_185 (by decide) (by decide)) fx_4_0 (Or.inl rfl) rfl rfl ?_
  refine PW.aload_n (pc := 9) dX4_init_9 rfl ?_
  refine PW.iconst (pc := 10) dX4_init_10 (v := 0) (by decide) ?_
  refine PW.putI (pc := 11) dX4_init_11 lf_X4_15 (obn (show mN M + 0 = 183 by omega) s_185 (by decide) (by decide)) fx_4_1 (Or.inl rfl) rfl rfl ?_
  refine PW.aload_n (pc := 14) dX4_init_14 rfl ?_
  refine PW.bipush (pc := 15) dX4_init_15 (v := 8) (by decide) ?_
  refine PW.newaI (pc := 17) dX4_init_17 (a := 186) aw_int (by decide) (by decide +kernel) (by decide) (ltn (show mN M + 0 = 183 by omega) (by decide)) (eqn (show mN M + 0 = 183 by omega) rfl) ?_
  refine PW.putR (pc := 19) dX4_init_19 lf_X4_18 (obn (show mN M + 1 = 184 by omega) s_185 (by decide) (by decide)) fx_4_2 (Or.inr ⟨rfl, rfl, rfl⟩) (fun _ => rfl) (fun _ => rfl) (by decide) ?_
  refine PW.aload_n (pc := 22) dX4_init_22 rfl ?_
  refine PW.bipush (pc := 23) dX4_init_23 (v := 8) (by decide) ?_
  refine PW.newaI (pc := 25) dX4_init_25 (a := 187) aw_int (by decide) (by decide +kernel) (by decide) (ltn (show mN M + 1 = 184 by omega) (by decide)) (eqn (show mN M + 1 = 184 by omega) rfl) ?_
  refine PW.putR (pc := 27) dX4_init_27 lf_X4_22 (obn (show mN M + 2 = 185 by omega) s_185 (by decide) (by decide)) fx_4_3 (Or.inr ⟨rfl, rfl, rfl⟩) (fun _ => rfl) (fun _ => rfl) (by decide) ?_
  refine PW.aload_n (pc := 30) dX4_init_30 rfl ?_
  refine PW.bipush (pc := 31) dX4_init_31 (v := 8) (by decide) ?_
  refine PW.newaI (pc := 33) dX4_init_33 (a := 188) aw_int (by decide) (by decide +kernel) (by decide) (ltn (show mN M + 2 = 185 by omega) (by decide)) (eqn (show mN M + 2 = 185 by omega) rfl) ?_
  refine PW.putR (pc := 35) dX4_init_35 lf_X4_25 (obn (show mN M + 3 = 186 by omega) s_185 (by decide) (by decide)) fx_4_4 (Or.inr ⟨rfl, rfl, rfl⟩) (fun _ => rfl) (fun _ => rfl) (by decide) ?_
  refine PW.aload_n (pc := 38) dX4_init_38 rfl ?_
  refine PW.bipush (pc := 39) dX4_init_39 (v := 8) (by decide) ?_
  refine PW.newaI (pc := 41) dX4_init_41 (a := 189) aw_int (by decide) (by decide +kernel) (by decide) (ltn (show mN M + 3 = 186 by omega) (by decide)) (eqn (show mN M + 3 = 186 by omega) rfl) ?_
  refine PW.putR (pc := 43) dX4_init_43 lf_X4_28 (obn (show mN M + 4 = 187 by omega) s_185 (by decide) (by decide)) fx_4_5 (Or.inr ⟨rfl, rfl, rfl⟩) (fun _ => rfl) (fun _ => rfl) (by decide) ?_
  refine PW.aload_n (pc := 46) dX4_init_46 rfl ?_
  refine PW.bipush (pc := 47) dX4_init_47 (v := 8) (by decide) ?_
  refine PW.newaI (pc := 49) dX4_init_49 (a := 190) aw_int (by decide) (by decide +kernel) (by decide) (ltn (show mN M + 4 = 187 by omega) (by decide)) (eqn (show mN M + 4 = 187 by omega) rfl) ?_
  refine PW.putR (pc := 51) dX4_init_51 lf_X4_31 (obn (show mN M + 5 = 188 by omega) s_185 (by decide) (by decide)) fx_4_6 (Or.inr ⟨rfl, rfl, rfl⟩) (fun _ => rfl) (fun _ => rfl) (by decide) ?_
  refine PW.aload_n (pc := 54) dX4_init_54 rfl ?_
  refine PW.iconst (pc := 55) dX4_init_55 (v := 0) (by decide) ?_
  refine PW.putI (pc := 56) dX4_init_56 lf_X4_34 (obn (show mN M + 5 = 188 by omega) s_185 (by decide) (by decide)) fx_4_7 (Or.inl rfl) rfl rfl ?_
  refine PW.aload_n (pc := 59) dX4_init_59 rfl ?_
  refine PW.bipush (pc := 60) dX4_init_60 (v := 40) (by decide) ?_
  refine PW.newaI (pc := 62) dX4_init_62 (a := 191) aw_int (by decide) (by decide +kernel) (by decide) (ltn (show mN M + 5 = 188 by omega) (by decide)) (eqn (show mN M + 5 = 188 by omega) rfl) ?_
  refine PW.putR (pc := 64) dX4_init_64 lf_X4_37 (obn (show mN M + 6 = 189 by omega) s_185 (by decide) (by decide)) fx_4_8 (Or.inr ⟨rfl, rfl, rfl⟩) (fun _ => rfl) (fun _ => rfl) (by decide) ?_
  refine PW.aload_n (pc := 67) dX4_init_67 rfl ?_
  refine PW.bipush (pc := 68) dX4_init_68 (v := 40) (by decide) ?_
  refine PW.newaI (pc := 70) dX4_init_70 (a := 192) aw_int (by decide) (by decide +kernel) (by decide) (ltn (show mN M + 6 = 189 by omega) (by decide)) (eqn (show mN M + 6 = 189 by omega) rfl) ?_
  refine PW.putR (pc := 72) dX4_init_72 lf_X4_40 (obn (show mN M + 7 = 190 by omega) s_185 (by decide) (by decide)) fx_4_9 (Or.inr ⟨rfl, rfl, rfl⟩) (fun _ => rfl) (fun _ => rfl) (by decide) ?_
  refine PW.aload_n (pc := 75) dX4_init_75 rfl ?_
  refine PW.bipush (pc := 76) dX4_init_76 (v := 40) (by decide) ?_
  refine PW.newaI (pc := 78) dX4_init_78 (a := 193) aw_int (by decide) (by decide +kernel) (by decide) (ltn (show mN M + 7 = 190 by omega) (by decide)) (eqn (show mN M + 7 = 190 by omega) rfl) ?_
  refine PW.putR (pc := 80) dX4_init_80 lf_X4_43 (obn (show mN M + 8 = 191 by omega) s_185 (by decide) (by decide)) fx_4_10 (Or.inr ⟨rfl, rfl, rfl⟩) (fun _ => rfl) (fun _ => rfl) (by decide) ?_
  exact h
def i_X4_185 (M : pm) : pm := u_X4_185_0 M
theorem in_X4_185 (M : pm) : mN (i_X4_185 M) = mN M + 8 := by
  unfold i_X4_185
  rw [un_X4_185_0] <;> omega
theorem c_X4_185 {M : pm} (hn : mN M = 183) : PW mX4_init 10 191 0 (pfr mX4_init.2.2.1 [.ref 185]) [] M (fun r M' => r = none ∧ M' = i_X4_185 M) := by
  show PW mX4_init 10 191 0 [.ref 185] [] M _
  refine k_X4_185_0 hn  ?_
  have hn1 : mN (u_X4_185_0 M) = 191 := by rw [un_X4_185_0, hn]
  exact PW.ret0 (pc := 83) dX4_init_83 hn1 rfl ⟨rfl, rfl⟩
def u_X4_194_0 (M : pm) : pm := sR (nw (sR (nw (sR (nw (sI (sR (nw (sR (nw (sR (nw (sR (nw (sR (nw (sI (sI M 194 0 0) 194 1 0)) 194 2 195)) 194 3 196)) 194 4 197)) 194 5 198)) 194 6 199) 194 7 0)) 194 8 200)) 194 9 201)) 194 10 202
theorem un_X4_194_0 (M : pm) : mN (u_X4_194_0 M) = mN M + 8 := rfl
set_option maxRecDepth 4000 in
theorem k_X4_194_0 {M : pm} {Q : Option Value → pm → Prop} (hn : mN M = 192)  (h : PW mX4_init 10 200 83 [.ref 194] [] (u_X4_194_0 M) Q) : PW mX4_init 10 200 0 [.ref 194] [] M Q := by
  refine PW.aload_n (pc := 0) dX4_init_0 rfl ?_
  refine PW.objInit (pc := 1) dX4_init_1 oi_X4_3 oi_i oi_c (Nat.le_of_ble_eq_true rfl) (by decide) ?_
  refine PW.aload_n (pc := 4) dX4_init_4 rfl ?_
  refine PW.iconst (pc := 5) dX4_init_5 (v := 0) (by decide) ?_
  refine PW.putI (pc := 6) dX4_init_6 lf_X4_9 (obn (show mN M + 0 = 192 by omega) s_194 (by decide) (by decide)) fx_4_0 (Or.inl rfl) rfl rfl ?_
  refine PW.aload_n (pc := 9) dX4_init_9 rfl ?_
  refine PW.iconst (pc := 10) dX4_init_10 (v := 0) (by decide) ?_
  refine PW.putI (pc := 11) dX4_init_11 lf_X4_15 (obn (show mN M + 0 = 192 by omega) s_194 (by decide) (by decide)) fx_4_1 (Or.inl rfl) rfl rfl ?_
  refine PW.aload_n (pc := 14) dX4_init_14 rfl ?_
  refine PW.bipush (pc := 15) dX4_init_15 (v := 8) (by decide) ?_
  refine PW.newaI (pc := 17) dX4_init_17 (a := 195) aw_int (by decide) (by decide +kernel) (by decide) (ltn (show mN M + 0 = 192 by omega) (by decide)) (eqn (show mN M + 0 = 192 by omega) rfl) ?_
  refine PW.putR (pc := 19) dX4_init_19 lf_X4_18 (obn (show mN M + 1 = 193 by omega) s_194 (by decide) (by decide)) fx_4_2 (Or.inr ⟨rfl, rfl, rfl⟩) (fun _ => rfl) (fun _ => rfl) (by decide) ?_
  refine PW.aload_n (pc := 22) dX4_init_22 rfl ?_
  refine PW.bipush (pc := 23) dX4_init_23 (v := 8) (by decide) ?_
  refine PW.newaI (pc := 25) dX4_init_25 (a := 196) aw_int (by decide) (by decide +kernel) (by decide) (ltn (show mN M + 1 = 193 by omega) (by decide)) (eqn (show mN M + 1 = 193 by omega) rfl) ?_
  refine PW.putR (pc := 27) dX4_init_27 lf_X4_22 (obn (show mN M + 2 = 194 by omega) s_194 (by decide) (by decide)) fx_4_3 (Or.inr ⟨rfl, rfl, rfl⟩) (fun _ => rfl) (fun _ => rfl) (by decide) ?_
  refine PW.aload_n (pc := 30) dX4_init_30 rfl ?_
  refine PW.bipush (pc := 31) dX4_init_31 (v := 8) (by decide) ?_
  refine PW.newaI (pc := 33) dX4_init_33 (a := 197) aw_int (by decide) (by decide +kernel) (by decide) (ltn (show mN M + 2 = 194 by omega) (by decide)) (eqn (show mN M + 2 = 194 by omega) rfl) ?_
  refine PW.putR (pc := 35) dX4_init_35 lf_X4_25 (obn (show mN M + 3 = 195 by omega) s_194 (by decide) (by decide)) fx_4_4 (Or.inr ⟨rfl, rfl, rfl⟩) (fun _ => rfl) (fun _ => rfl) (by decide) ?_
  refine PW.aload_n (pc := 38) dX4_init_38 rfl ?_
  refine PW.bipush (pc := 39) dX4_init_39 (v := 8) (by decide) ?_
  refine PW.newaI (pc := 41) dX4_init_41 (a := 198) aw_int (by decide) (by decide +kernel) (by decide) (ltn (show mN M + 3 = 195 by omega) (by decide)) (eqn (show mN M + 3 = 195 by omega) rfl) ?_
  refine PW.putR (pc := 43) dX4_init_43 lf_X4_28 (obn (show mN M + 4 = 196 by omega) s_194 (by decide) (by decide)) fx_4_5 (Or.inr ⟨rfl, rfl, rfl⟩) (fun _ => rfl) (fun _ => rfl) (by decide) ?_
  refine PW.aload_n (pc := 46) dX4_init_46 rfl ?_
  refine PW.bipush (pc := 47) dX4_init_47 (v := 8) (by decide) ?_
  refine PW.newaI (pc := 49) dX4_init_49 (a := 199) aw_int (by decide) (by decide +kernel) (by decide) (ltn (show mN M + 4 = 196 by omega) (by decide)) (eqn (show mN M + 4 = 196 by omega) rfl) ?_
  refine PW.putR (pc := 51) dX4_init_51 lf_X4_31 (obn (show mN M + 5 = 197 by omega) s_194 (by decide) (by decide)) fx_4_6 (Or.inr ⟨rfl, rfl, rfl⟩) (fun _ => rfl) (fun _ => rfl) (by decide) ?_
  refine PW.aload_n (pc := 54) dX4_init_54 rfl ?_
  refine PW.iconst (pc := 55) dX4_init_55 (v := 0) (by decide) ?_
  refine PW.putI (pc := 56) dX4_init_56 lf_X4_34 (obn (show mN M + 5 = 197 by omega) s_194 (by decide) (by decide)) fx_4_7 (Or.inl rfl) rfl rfl ?_
  refine PW.aload_n (pc := 59) dX4_init_59 rfl ?_
  refine PW.bipush (pc := 60) dX4_init_60 (v := 40) (by decide) ?_
  refine PW.newaI (pc := 62) dX4_init_62 (a := 200) aw_int (by decide) (by decide +kernel) (by decide) (ltn (show mN M + 5 = 197 by omega) (by decide)) (eqn (show mN M + 5 = 197 by omega) rfl) ?_
  refine PW.putR (pc := 64) dX4_init_64 lf_X4_37 (obn (show mN M + 6 = 198 by omega) s_194 (by decide) (by decide)) fx_4_8 (Or.inr ⟨rfl, rfl, rfl⟩) (fun _ => rfl) (fun _ => rfl) (by decide) ?_
  refine PW.aload_n (pc := 67) dX4_init_67 rfl ?_
  refine PW.bipush (pc := 68) dX4_init_68 (v := 40) (by decide) ?_
  refine PW.newaI (pc := 70) dX4_init_70 (a := 201) aw_int (by decide) (by decide +kernel) (by decide) (ltn (show mN M + 6 = 198 by omega) (by decide)) (eqn (show mN M + 6 = 198 by omega) rfl) ?_
  refine PW.putR (pc := 72) dX4_init_72 lf_X4_40 (obn (show mN M + 7 = 199 by omega) s_194 (by decide) (by decide)) fx_4_9 (Or.inr ⟨rfl, rfl, rfl⟩) (fun _ => rfl) (fun _ => rfl) (by decide) ?_
  refine PW.aload_n (pc := 75) dX4_init_75 rfl ?_
  refine PW.bipush (pc := 76) dX4_init_76 (v := 40) (by decide) ?_
  refine PW.newaI (pc := 78) dX4_init_78 (a := 202) aw_int (by decide) (by decide +kernel) (by decide) (ltn (show mN M + 7 = 199 by omega) (by decide)) (eqn (show mN M + 7 = 199 by omega) rfl) ?_
  refine PW.putR (pc := 80) dX4_init_80 lf_X4_43 (obn (show mN M + 8 = 200 by omega) s_194 (by decide) (by decide)) fx_4_10 (Or.inr ⟨rfl, rfl, rfl⟩) (fun _ => rfl) (fun _ => rfl) (by decide) ?_
  exact h
def i_X4_194 (M : pm) : pm := u_X4_194_0 M
theorem in_X4_194 (M : pm) : mN (i_X4_194 M) = mN M + 8 := by
  unfold i_X4_194
  rw [un_X4_194_0] <;> omega
theorem c_X4_194 {M : pm} (hn : mN M = 192) : PW mX4_init 10 200 0 (pfr mX4_init.2.2.1 [.ref 194]) [] M (fun r M' => r = none ∧ M' = i_X4_194 M) := by
  show PW mX4_init 10 200 0 [.ref 194] [] M _
  refine k_X4_194_0 hn  ?_
  have hn1 : mN (u_X4_194_0 M) = 200 := by rw [un_X4_194_0, hn]
  exact PW.ret0 (pc := 83) dX4_init_83 hn1 rfl ⟨rfl, rfl⟩
def u_X4_203_0 (M : pm) : pm := sR (nw (sR (nw (sR (nw (sI (sR (nw (sR (nw (sR (nw (sR (nw (sR (nw (sI (sI M 203 0 0) 203 1 0)) 203 2 204)) 203 3 205)) 203 4 206)) 203 5 207)) 203 6 208) 203 7 0)) 203 8 209)) 203 9 210)) 203 10 211
theorem un_X4_203_0 (M : pm) : mN (u_X4_203_0 M) = mN M + 8 := rfl
set_option maxRecDepth 4000 in
theorem k_X4_203_0 {M : pm} {Q : Option Value → pm → Prop} (hn : mN M = 201)  (h : PW mX4_init 10 209 83 [.ref 203] [] (u_X4_203_0 M) Q) : PW mX4_init 10 209 0 [.ref 203] [] M Q := by
  refine PW.aload_n (pc := 0) dX4_init_0 rfl ?_
  refine PW.objInit (pc := 1) dX4_init_1 oi_X4_3 oi_i oi_c (Nat.le_of_ble_eq_true rfl) (by decide) ?_
  refine PW.aload_n (pc := 4) dX4_init_4 rfl ?_
  refine PW.iconst (pc := 5) dX4_init_5 (v := 0) (by decide) ?_
  refine PW.putI (pc := 6) dX4_init_6 lf_X4_9 (obn (show mN M + 0 = 201 by omega) s_203 (by decide) (by decide)) fx_4_0 (Or.inl rfl) rfl rfl ?_
  refine PW.aload_n (pc := 9) dX4_init_9 rfl ?_
  refine PW.iconst (pc := 10) dX4_init_10 (v := 0) (by decide) ?_
  refine PW.putI (pc := 11) dX4_init_11 lf_X4_15 (obn (show mN M + 0 = 201 by omega) s_203 (by decide) (by decide)) fx_4_1 (Or.inl rfl) rfl rfl ?_
  refine PW.aload_n (pc := 14) dX4_init_14 rfl ?_
  refine PW.bipush (pc := 15) dX4_init_15 (v := 8) (by decide) ?_
  refine PW.newaI (pc := 17) dX4_init_17 (a := 204) aw_int (by decide) (by decide +kernel) (by decide) (ltn (show mN M + 0 = 201 by omega) (by decide)) (eqn (show mN M + 0 = 201 by omega) rfl) ?_
  refine PW.putR (pc := 19) dX4_init_19 lf_X4_18 (obn (show mN M + 1 = 202 by omega) s_203 (by decide) (by decide)) fx_4_2 (Or.inr ⟨rfl, rfl, rfl⟩) (fun _ => rfl) (fun _ => rfl) (by decide) ?_
  refine PW.aload_n (pc := 22) dX4_init_22 rfl ?_
  refine PW.bipush (pc := 23) dX4_init_23 (v := 8) (by decide) ?_
  refine PW.newaI (pc := 25) dX4_init_25 (a := 205) aw_int (by decide) (by decide +kernel) (by decide) (ltn (show mN M + 1 = 202 by omega) (by decide)) (eqn (show mN M + 1 = 202 by omega) rfl) ?_
  refine PW.putR (pc := 27) dX4_init_27 lf_X4_22 (obn (show mN M + 2 = 203 by omega) s_203 (by decide) (by decide)) fx_4_3 (Or.inr ⟨rfl, rfl, rfl⟩) (fun _ => rfl) (fun _ => rfl) (by decide) ?_
  refine PW.aload_n (pc := 30) dX4_init_30 rfl ?_
  refine PW.bipush (pc := 31) dX4_init_31 (v := 8) (by decide) ?_
  refine PW.newaI (pc := 33) dX4_init_33 (a := 206) aw_int (by decide) (by decide +kernel) (by decide) (ltn (show mN M + 2 = 203 by omega) (by decide)) (eqn (show mN M + 2 = 203 by omega) rfl) ?_
  refine PW.putR (pc := 35) dX4_init_35 lf_X4_25 (obn (show mN M + 3 = 204 by omega) s_203 (by decide) (by decide)) fx_4_4 (Or.inr ⟨rfl, rfl, rfl⟩) (fun _ => rfl) (fun _ => rfl) (by decide) ?_
  refine PW.aload_n (pc := 38) dX4_init_38 rfl ?_
  refine PW.bipush (pc := 39) dX4_init_39 (v := 8) (by decide) ?_
  refine PW.newaI (pc := 41) dX4_init_41 (a := 207) aw_int (by decide) (by decide +kernel) (by decide) (ltn (show mN M + 3 = 204 by omega) (by decide)) (eqn (show mN M + 3 = 204 by omega) rfl) ?_
  refine PW.putR (pc := 43) dX4_init_43 lf_X4_28 (obn (show mN M + 4 = 205 by omega) s_203 (by decide) (by decide)) fx_4_5 (Or.inr ⟨rfl, rfl, rfl⟩) (fun _ => rfl) (fun _ => rfl) (by decide) ?_
  refine PW.aload_n (pc := 46) dX4_init_46 rfl ?_
  refine PW.bipush (pc := 47) dX4_init_47 (v := 8) (by decide) ?_
  refine PW.newaI (pc := 49) dX4_init_49 (a := 208) aw_int (by decide) (by decide +kernel) (by decide) (ltn (show mN M + 4 = 205 by omega) (by decide)) (eqn (show mN M + 4 = 205 by omega) rfl) ?_
  refine PW.putR (pc := 51) dX4_init_51 lf_X4_31 (obn (show mN M + 5 = 206 by omega) s_203 (by decide) (by decide)) fx_4_6 (Or.inr ⟨rfl, rfl, rfl⟩) (fun _ => rfl) (fun _ => rfl) (by decide) ?_
  refine PW.aload_n (pc := 54) dX4_init_54 rfl ?_
  refine PW.iconst (pc := 55) dX4_init_55 (v := 0) (by decide) ?_
  refine PW.putI (pc := 56) dX4_init_56 lf_X4_34 (obn (show mN M + 5 = 206 by omega) s_203 (by decide) (by decide)) fx_4_7 (Or.inl rfl) rfl rfl ?_
  refine PW.aload_n (pc := 59) dX4_init_59 rfl ?_
  refine PW.bipush (pc := 60) dX4_init_60 (v := 40) (by decide) ?_
  refine PW.newaI (pc := 62) dX4_init_62 (a := 209) aw_int (by decide) (by decide +kernel) (by decide) (ltn (show mN M + 5 = 206 by omega) (by decide)) (eqn (show mN M + 5 = 206 by omega) rfl) ?_
  refine PW.putR (pc := 64) dX4_init_64 lf_X4_37 (obn (show mN M + 6 = 207 by omega) s_203 (by decide) (by decide)) fx_4_8 (Or.inr ⟨rfl, rfl, rfl⟩) (fun _ => rfl) (fun _ => rfl) (by decide) ?_
  refine PW.aload_n (pc := 67) dX4_init_67 rfl ?_
  refine PW.bipush (pc := 68) dX4_init_68 (v := 40) (by decide) ?_
  refine PW.newaI (pc := 70) dX4_init_70 (a := 210) aw_int (by decide) (by decide +kernel) (by decide) (ltn (show mN M + 6 = 207 by omega) (by decide)) (eqn (show mN M + 6 = 207 by omega) rfl) ?_
  refine PW.putR (pc := 72) dX4_init_72 lf_X4_40 (obn (show mN M + 7 = 208 by omega) s_203 (by decide) (by decide)) fx_4_9 (Or.inr ⟨rfl, rfl, rfl⟩) (fun _ => rfl) (fun _ => rfl) (by decide) ?_
  refine PW.aload_n (pc := 75) dX4_init_75 rfl ?_
  refine PW.bipush (pc := 76) dX4_init_76 (v := 40) (by decide) ?_
  refine PW.newaI (pc := 78) dX4_init_78 (a := 211) aw_int (by decide) (by decide +kernel) (by decide) (ltn (show mN M + 7 = 208 by omega) (by decide)) (eqn (show mN M + 7 = 208 by omega) rfl) ?_
  refine PW.putR (pc := 80) dX4_init_80 lf_X4_43 (obn (show mN M + 8 = 209 by omega) s_203 (by decide) (by decide)) fx_4_10 (Or.inr ⟨rfl, rfl, rfl⟩) (fun _ => rfl) (fun _ => rfl) (by decide) ?_
  exact h
def i_X4_203 (M : pm) : pm := u_X4_203_0 M
theorem in_X4_203 (M : pm) : mN (i_X4_203 M) = mN M + 8 := by
  unfold i_X4_203
  rw [un_X4_203_0] <;> omega
theorem c_X4_203 {M : pm} (hn : mN M = 201) : PW mX4_init 10 209 0 (pfr mX4_init.2.2.1 [.ref 203]) [] M (fun r M' => r = none ∧ M' = i_X4_203 M) := by
  show PW mX4_init 10 209 0 [.ref 203] [] M _
  refine k_X4_203_0 hn  ?_
  have hn1 : mN (u_X4_203_0 M) = 209 := by rw [un_X4_203_0, hn]
  exact PW.ret0 (pc := 83) dX4_init_83 hn1 rfl ⟨rfl, rfl⟩
def u_X4_212_0 (M : pm) : pm := sR (nw (sR (nw (sR (nw (sI (sR (nw (sR (nw (sR (nw (sR (nw (sR (nw (sI (sI M 212 0 0) 212 1 0)) 212 2 213)) 212 3 214)) 212 4 215)) 212 5 216)) 212 6 217) 212 7 0)) 212 8 218)) 212 9 219)) 212 10 220
theorem un_X4_212_0 (M : pm) : mN (u_X4_212_0 M) = mN M + 8 := rfl
set_option maxRecDepth 4000 in
theorem k_X4_212_0 {M : pm} {Q : Option Value → pm → Prop} (hn : mN M = 210)  (h : PW mX4_init 10 218 83 [.ref 212] [] (u_X4_212_0 M) Q) : PW mX4_init 10 218 0 [.ref 212] [] M Q := by
  refine PW.aload_n (pc := 0) dX4_init_0 rfl ?_
  refine PW.objInit (pc := 1) dX4_init_1 oi_X4_3 oi_i oi_c (Nat.le_of_ble_eq_true rfl) (by decide) ?_
  refine PW.aload_n (pc := 4) dX4_init_4 rfl ?_
  refine PW.iconst (pc := 5) dX4_init_5 (v := 0) (by decide) ?_
  refine PW.putI (pc := 6) dX4_init_6 lf_X4_9 (obn (show mN M + 0 = 210 by omega) s_212 (by decide) (by decide)) fx_4_0 (Or.inl rfl) rfl rfl ?_
  refine PW.aload_n (pc := 9) dX4_init_9 rfl ?_
  refine PW.iconst (pc := 10) dX4_init_10 (v := 0) (by decide) ?_
  refine PW.putI (pc := 11) dX4_init_11 lf_X4_15 (obn (show mN M + 0 = 210 by omega) s_212 (by decide) (by decide)) fx_4_1 (Or.inl rfl) rfl rfl ?_
  refine PW.aload_n (pc := 14) dX4_init_14 rfl ?_
  refine PW.bipush (pc := 15) dX4_init_15 (v := 8) (by decide) ?_
  refine PW.newaI (pc := 17) dX4_init_17 (a := 213) aw_int (by decide) (by decide +kernel) (by decide) (ltn (show mN M + 0 = 210 by omega) (by decide)) (eqn (show mN M + 0 = 210 by omega) rfl) ?_
  refine PW.putR (pc := 19) dX4_init_19 lf_X4_18 (obn (show mN M + 1 = 211 by omega) s_212 (by decide) (by decide)) fx_4_2 (Or.inr ⟨rfl, rfl, rfl⟩) (fun _ => rfl) (fun _ => rfl) (by decide) ?_
  refine PW.aload_n (pc := 22) dX4_init_22 rfl ?_
  refine PW.bipush (pc := 23) dX4_init_23 (v := 8) (by decide) ?_
  refine PW.newaI (pc := 25) dX4_init_25 (a := 214) aw_int (by decide) (by decide +kernel) (by decide) (ltn (show mN M + 1 = 211 by omega) (by decide)) (eqn (show mN M + 1 = 211 by omega) rfl) ?_
  refine PW.putR (pc := 27) dX4_init_27 lf_X4_22 (obn (show mN M + 2 = 212 by omega) s_212 (by decide) (by decide)) fx_4_3 (Or.inr ⟨rfl, rfl, rfl⟩) (fun _ => rfl) (fun _ => rfl) (by decide) ?_
  refine PW.aload_n (pc := 30) dX4_init_30 rfl ?_
  refine PW.bipush (pc := 31) dX4_init_31 (v := 8) (by decide) ?_
  refine PW.newaI (pc := 33) dX4_init_33 (a := 215) aw_int (by decide) (by decide +kernel) (by decide) (ltn (show mN M + 2 = 212 by omega) (by decide)) (eqn (show mN M + 2 = 212 by omega) rfl) ?_
  refine PW.putR (pc := 35) dX4_init_35 lf_X4_25 (obn (show mN M + 3 = 213 by omega) s_212 (by decide) (by decide)) fx_4_4 (Or.inr ⟨rfl, rfl, rfl⟩) (fun _ => rfl) (fun _ => rfl) (by decide) ?_
  refine PW.aload_n (pc := 38) dX4_init_38 rfl ?_
  refine PW.bipush (pc := 39) dX4_init_39 (v := 8) (by decide) ?_
  refine PW.newaI (pc := 41) dX4_init_41 (a := 216) aw_int (by decide) (by decide +kernel) (by decide) (ltn (show mN M + 3 = 213 by omega) (by decide)) (eqn (show mN M + 3 = 213 by omega) rfl) ?_
  refine PW.putR (pc := 43) dX4_init_43 lf_X4_28 (obn (show mN M + 4 = 214 by omega) s_212 (by decide) (by decide)) fx_4_5 (Or.inr ⟨rfl, rfl, rfl⟩) (fun _ => rfl) (fun _ => rfl) (by decide) ?_
  refine PW.aload_n (pc := 46) dX4_init_46 rfl ?_
  refine PW.bipush (pc := 47) dX4_init_47 (v := 8) (by decide) ?_
  refine PW.newaI (pc := 49) dX4_init_49 (a := 217) aw_int (by decide) (by decide +kernel) (by decide) (ltn (show mN M + 4 = 214 by omega) (by decide)) (eqn (show mN M + 4 = 214 by omega) rfl) ?_
  refine PW.putR (pc := 51) dX4_init_51 lf_X4_31 (obn (show mN M + 5 = 215 by omega) s_212 (by decide) (by decide)) fx_4_6 (Or.inr ⟨rfl, rfl, rfl⟩) (fun _ => rfl) (fun _ => rfl) (by decide) ?_
  refine PW.aload_n (pc := 54) dX4_init_54 rfl ?_
  refine PW.iconst (pc := 55) dX4_init_55 (v := 0) (by decide) ?_
  refine PW.putI (pc := 56) dX4_init_56 lf_X4_34 (obn (show mN M + 5 = 215 by omega) s_212 (by decide) (by decide)) fx_4_7 (Or.inl rfl) rfl rfl ?_
  refine PW.aload_n (pc := 59) dX4_init_59 rfl ?_
  refine PW.bipush (pc := 60) dX4_init_60 (v := 40) (by decide) ?_
  refine PW.newaI (pc := 62) dX4_init_62 (a := 218) aw_int (by decide) (by decide +kernel) (by decide) (ltn (show mN M + 5 = 215 by omega) (by decide)) (eqn (show mN M + 5 = 215 by omega) rfl) ?_
  refine PW.putR (pc := 64) dX4_init_64 lf_X4_37 (obn (show mN M + 6 = 216 by omega) s_212 (by decide) (by decide)) fx_4_8 (Or.inr ⟨rfl, rfl, rfl⟩) (fun _ => rfl) (fun _ => rfl) (by decide) ?_
  refine PW.aload_n (pc := 67) dX4_init_67 rfl ?_
  refine PW.bipush (pc := 68) dX4_init_68 (v := 40) (by decide) ?_
  refine PW.newaI (pc := 70) dX4_init_70 (a := 219) aw_int (by decide) (by decide +kernel) (by decide) (ltn (show mN M + 6 = 216 by omega) (by decide)) (eqn (show mN M + 6 = 216 by omega) rfl) ?_
  refine PW.putR (pc := 72) dX4_init_72 lf_X4_40 (obn (show mN M + 7 = 217 by omega) s_212 (by decide) (by decide)) fx_4_9 (Or.inr ⟨rfl, rfl, rfl⟩) (fun _ => rfl) (fun _ => rfl) (by decide) ?_
  refine PW.aload_n (pc := 75) dX4_init_75 rfl ?_
  refine PW.bipush (pc := 76) dX4_init_76 (v := 40) (by decide) ?_
  refine PW.newaI (pc := 78) dX4_init_78 (a := 220) aw_int (by decide) (by decide +kernel) (by decide) (ltn (show mN M + 7 = 217 by omega) (by decide)) (eqn (show mN M + 7 = 217 by omega) rfl) ?_
  refine PW.putR (pc := 80) dX4_init_80 lf_X4_43 (obn (show mN M + 8 = 218 by omega) s_212 (by decide) (by decide)) fx_4_10 (Or.inr ⟨rfl, rfl, rfl⟩) (fun _ => rfl) (fun _ => rfl) (by decide) ?_
  exact h
def i_X4_212 (M : pm) : pm := u_X4_212_0 M
theorem in_X4_212 (M : pm) : mN (i_X4_212 M) = mN M + 8 := by
  unfold i_X4_212
  rw [un_X4_212_0] <;> omega
theorem c_X4_212 {M : pm} (hn : mN M = 210) : PW mX4_init 10 218 0 (pfr mX4_init.2.2.1 [.ref 212]) [] M (fun r M' => r = none ∧ M' = i_X4_212 M) := by
  show PW mX4_init 10 218 0 [.ref 212] [] M _
  refine k_X4_212_0 hn  ?_
  have hn1 : mN (u_X4_212_0 M) = 218 := by rw [un_X4_212_0, hn]
  exact PW.ret0 (pc := 83) dX4_init_83 hn1 rfl ⟨rfl, rfl⟩
def u_X4_221_0 (M : pm) : pm := sR (nw (sR (nw (sR (nw (sI (sR (nw (sR (nw (sR (nw (sR (nw (sR (nw (sI (sI M 221 0 0) 221 1 0)) 221 2 222)) 221 3 223)) 221 4 224)) 221 5 225)) 221 6 226) 221 7 0)) 221 8 227)) 221 9 228)) 221 10 229
theorem un_X4_221_0 (M : pm) : mN (u_X4_221_0 M) = mN M + 8 := rfl
set_option maxRecDepth 4000 in
theorem k_X4_221_0 {M : pm} {Q : Option Value → pm → Prop} (hn : mN M = 219)  (h : PW mX4_init 10 227 83 [.ref 221] [] (u_X4_221_0 M) Q) : PW mX4_init 10 227 0 [.ref 221] [] M Q := by
  refine PW.aload_n (pc := 0) dX4_init_0 rfl ?_
  refine PW.objInit (pc := 1) dX4_init_1 oi_X4_3 oi_i oi_c (Nat.le_of_ble_eq_true rfl) (by decide) ?_
  refine PW.aload_n (pc := 4) dX4_init_4 rfl ?_
  refine PW.iconst (pc := 5) dX4_init_5 (v := 0) (by decide) ?_
  refine PW.putI (pc := 6) dX4_init_6 lf_X4_9 (obn (show mN M + 0 = 219 by omega) s_221 (by decide) (by decide)) fx_4_0 (Or.inl rfl) rfl rfl ?_
  refine PW.aload_n (pc := 9) dX4_init_9 rfl ?_
  refine PW.iconst (pc := 10) dX4_init_10 (v := 0) (by decide) ?_
  refine PW.putI (pc := 11) dX4_init_11 lf_X4_15 (obn (show mN M + 0 = 219 by omega) s_221 (by decide) (by decide)) fx_4_1 (Or.inl rfl) rfl rfl ?_
  refine PW.aload_n (pc := 14) dX4_init_14 rfl ?_
  refine PW.bipush (pc := 15) dX4_init_15 (v := 8) (by decide) ?_
  refine PW.newaI (pc := 17) dX4_init_17 (a := 222) aw_int (by decide) (by decide +kernel) (by decide) (ltn (show mN M + 0 = 219 by omega) (by decide)) (eqn (show mN M + 0 = 219 by omega) rfl) ?_
  refine PW.putR (pc := 19) dX4_init_19 lf_X4_18 (obn (show mN M + 1 = 220 by omega) s_221 (by decide) (by decide)) fx_4_2 (Or.inr ⟨rfl, rfl, rfl⟩) (fun _ => rfl) (fun _ => rfl) (by decide) ?_
  refine PW.aload_n (pc := 22) dX4_init_22 rfl ?_
  refine PW.bipush (pc := 23) dX4_init_23 (v := 8) (by decide) ?_
  refine PW.newaI (pc := 25) dX4_init_25 (a := 223) aw_int (by decide) (by decide +kernel) (by decide) (ltn (show mN M + 1 = 220 by omega) (by decide)) (eqn (show mN M + 1 = 220 by omega) rfl) ?_
  refine PW.putR (pc := 27) dX4_init_27 lf_X4_22 (obn (show mN M + 2 = 221 by omega) s_221 (by decide) (by decide)) fx_4_3 (Or.inr ⟨rfl, rfl, rfl⟩) (fun _ => rfl) (fun _ => rfl) (by decide) ?_
  refine PW.aload_n (pc := 30) dX4_init_30 rfl ?_
  refine PW.bipush (pc := 31) dX4_init_31 (v := 8) (by decide) ?_
  refine PW.newaI (pc := 33) dX4_init_33 (a := 224) aw_int (by decide) (by decide +kernel) (by decide) (ltn (show mN M + 2 = 221 by omega) (by decide)) (eqn (show mN M + 2 = 221 by omega) rfl) ?_
  refine PW.putR (pc := 35) dX4_init_35 lf_X4_25 (obn (show mN M + 3 = 222 by omega) s_221 (by decide) (by decide)) fx_4_4 (Or.inr ⟨rfl, rfl, rfl⟩) (fun _ => rfl) (fun _ => rfl) (by decide) ?_
  refine PW.aload_n (pc := 38) dX4_init_38 rfl ?_
  refine PW.bipush (pc := 39) dX4_init_39 (v := 8) (by decide) ?_
  refine PW.newaI (pc := 41) dX4_init_41 (a := 225) aw_int (by decide) (by decide +kernel) (by decide) (ltn (show mN M + 3 = 222 by omega) (by decide)) (eqn (show mN M + 3 = 222 by omega) rfl) ?_
  refine PW.putR (pc := 43) dX4_init_43 lf_X4_28 (obn (show mN M + 4 = 223 by omega) s_221 (by decide) (by decide)) fx_4_5 (Or.inr ⟨rfl, rfl, rfl⟩) (fun _ => rfl) (fun _ => rfl) (by decide) ?_
  refine PW.aload_n (pc := 46) dX4_init_46 rfl ?_
  refine PW.bipush (pc := 47) dX4_init_47 (v := 8) (by decide) ?_
  refine PW.newaI (pc := 49) dX4_init_49 (a := 226) aw_int (by decide) (by decide +kernel) (by decide) (ltn (show mN M + 4 = 223 by omega) (by decide)) (eqn (show mN M + 4 = 223 by omega) rfl) ?_
  refine PW.putR (pc := 51) dX4_init_51 lf_X4_31 (obn (show mN M + 5 = 224 by omega) s_221 (by decide) (by decide)) fx_4_6 (Or.inr ⟨rfl, rfl, rfl⟩) (fun _ => rfl) (fun _ => rfl) (by decide) ?_
  refine PW.aload_n (pc := 54) dX4_init_54 rfl ?_
  refine PW.iconst (pc := 55) dX4_init_55 (v := 0) (by decide) ?_
  refine PW.putI (pc := 56) dX4_init_56 lf_X4_34 (obn (show mN M + 5 = 224 by omega) s_221 (by decide) (by decide)) fx_4_7 (Or.inl rfl) rfl rfl ?_
  refine PW.aload_n (pc := 59) dX4_init_59 rfl ?_
  refine PW.bipush (pc := 60) dX4_init_60 (v := 40) (by decide) ?_
  refine PW.newaI (pc := 62) dX4_init_62 (a := 227) aw_int (by decide) (by decide +kernel) (by decide) (ltn (show mN M + 5 = 224 by omega) (by decide)) (eqn (show mN M + 5 = 224 by omega) rfl) ?_
  refine PW.putR (pc := 64) dX4_init_64 lf_X4_37 (obn (show mN M + 6 = 225 by omega) s_221 (by decide) (by decide)) fx_4_8 (Or.inr ⟨rfl, rfl, rfl⟩) (fun _ => rfl) (fun _ => rfl) (by decide) ?_
  refine PW.aload_n (pc := 67) dX4_init_67 rfl ?_
  refine PW.bipush (pc := 68) dX4_init_68 (v := 40) (by decide) ?_
  refine PW.newaI (pc := 70) dX4_init_70 (a := 228) aw_int (by decide) (by decide +kernel) (by decide) (ltn (show mN M + 6 = 225 by omega) (by decide)) (eqn (show mN M + 6 = 225 by omega) rfl) ?_
  refine PW.putR (pc := 72) dX4_init_72 lf_X4_40 (obn (show mN M + 7 = 226 by omega) s_221 (by decide) (by decide)) fx_4_9 (Or.inr ⟨rfl, rfl, rfl⟩) (fun _ => rfl) (fun _ => rfl) (by decide) ?_
  refine PW.aload_n (pc := 75) dX4_init_75 rfl ?_
  refine PW.bipush (pc := 76) dX4_init_76 (v := 40) (by decide) ?_
  refine PW.newaI (pc := 78) dX4_init_78 (a := 229) aw_int (by decide) (by decide +kernel) (by decide) (ltn (show mN M + 7 = 226 by omega) (by decide)) (eqn (show mN M + 7 = 226 by omega) rfl) ?_
  refine PW.putR (pc := 80) dX4_init_80 lf_X4_43 (obn (show mN M + 8 = 227 by omega) s_221 (by decide) (by decide)) fx_4_10 (Or.inr ⟨rfl, rfl, rfl⟩) (fun _ => rfl) (fun _ => rfl) (by decide) ?_
  exact h
def i_X4_221 (M : pm) : pm := u_X4_221_0 M
theorem in_X4_221 (M : pm) : mN (i_X4_221 M) = mN M + 8 := by
  unfold i_X4_221
  rw [un_X4_221_0] <;> omega
theorem c_X4_221 {M : pm} (hn : mN M = 219) : PW mX4_init 10 227 0 (pfr mX4_init.2.2.1 [.ref 221]) [] M (fun r M' => r = none ∧ M' = i_X4_221 M) := by
  show PW mX4_init 10 227 0 [.ref 221] [] M _
  refine k_X4_221_0 hn  ?_
  have hn1 : mN (u_X4_221_0 M) = 227 := by rw [un_X4_221_0, hn]
  exact PW.ret0 (pc := 83) dX4_init_83 hn1 rfl ⟨rfl, rfl⟩
def u_X4_230_0 (M : pm) : pm := sR (nw (sR (nw (sR (nw (sI (sR (nw (sR (nw (sR (nw (sR (nw (sR (nw (sI (sI M 230 0 0) 230 1 0)) 230 2 231)) 230 3 232)) 230 4 233)) 230 5 234)) 230 6 235) 230 7 0)) 230 8 236)) 230 9 237)) 230 10 238
theorem un_X4_230_0 (M : pm) : mN (u_X4_230_0 M) = mN M + 8 := rfl
set_option maxRecDepth 4000 in
theorem k_X4_230_0 {M : pm} {Q : Option Value → pm → Prop} (hn : mN M = 228)  (h : PW mX4_init 10 236 83 [.ref 230] [] (u_X4_230_0 M) Q) : PW mX4_init 10 236 0 [.ref 230] [] M Q := by
  refine PW.aload_n (pc := 0) dX4_init_0 rfl ?_
  refine PW.objInit (pc := 1) dX4_init_1 oi_X4_3 oi_i oi_c (Nat.le_of_ble_eq_true rfl) (by decide) ?_
  refine PW.aload_n (pc := 4) dX4_init_4 rfl ?_
  refine PW.iconst (pc := 5) dX4_init_5 (v := 0) (by decide) ?_
  refine PW.putI (pc := 6) dX4_init_6 lf_X4_9 (obn (show mN M + 0 = 228 by omega) s_230 (by decide) (by decide)) fx_4_0 (Or.inl rfl) rfl rfl ?_
  refine PW.aload_n (pc := 9) dX4_init_9 rfl ?_
  refine PW.iconst (pc := 10) dX4_init_10 (v := 0) (by decide) ?_
  refine PW.putI (pc := 11) dX4_init_11 lf_X4_15 (obn (show mN M + 0 = 228 by omega) s_230 (by decide) (by decide)) fx_4_1 (Or.inl rfl) rfl rfl ?_
  refine PW.aload_n (pc := 14) dX4_init_14 rfl ?_
  refine PW.bipush (pc := 15) dX4_init_15 (v := 8) (by decide) ?_
  refine PW.newaI (pc := 17) dX4_init_17 (a := 231) aw_int (by decide) (by decide +kernel) (by decide) (ltn (show mN M + 0 = 228 by omega) (by decide)) (eqn (show mN M + 0 = 228 by omega) rfl) ?_
  refine PW.putR (pc := 19) dX4_init_19 lf_X4_18 (obn (show mN M + 1 = 229 by omega) s_230 (by decide) (by decide)) fx_4_2 (Or.inr ⟨rfl, rfl, rfl⟩) (fun _ => rfl) (fun _ => rfl) (by decide) ?_
  refine PW.aload_n (pc := 22) dX4_init_22 rfl ?_
  refine PW.bipush (pc := 23) dX4_init_23 (v := 8) (by decide) ?_
  refine PW.newaI (pc := 25) dX4_init_25 (a := 232) aw_int (by decide) (by decide +kernel) (by decide) (ltn (show mN M + 1 = 229 by omega) (by decide)) (eqn (show mN M + 1 = 229 by omega) rfl) ?_
  refine PW.putR (pc := 27) dX4_init_27 lf_X4_22 (obn (show mN M + 2 = 230 by omega) s_230 (by decide) (by decide)) fx_4_3 (Or.inr ⟨rfl, rfl, rfl⟩) (fun _ => rfl) (fun _ => rfl) (by decide) ?_
  refine PW.aload_n (pc := 30) dX4_init_30 rfl ?_
  refine PW.bipush (pc := 31) dX4_init_31 (v := 8) (by decide) ?_
  refine PW.newaI (pc := 33) dX4_init_33 (a := 233) aw_int (by decide) (by decide +kernel) (by decide) (ltn (show mN M + 2 = 230 by omega) (by decide)) (eqn (show mN M + 2 = 230 by omega) rfl) ?_
  refine PW.putR (pc := 35) dX4_init_35 lf_X4_25 (obn (show mN M + 3 = 231 by omega) s_230 (by decide) (by decide)) fx_4_4 (Or.inr ⟨rfl, rfl, rfl⟩) (fun _ => rfl) (fun _ => rfl) (by decide) ?_
  refine PW.aload_n (pc := 38) dX4_init_38 rfl ?_
  refine PW.bipush (pc := 39) dX4_init_39 (v := 8) (by decide) ?_
  refine PW.newaI (pc := 41) dX4_init_41 (a := 234) aw_int (by decide) (by decide +kernel) (by decide) (ltn (show mN M + 3 = 231 by omega) (by decide)) (eqn (show mN M + 3 = 231 by omega) rfl) ?_
  refine PW.putR (pc := 43) dX4_init_43 lf_X4_28 (obn (show mN M + 4 = 232 by omega) s_230 (by decide) (by decide)) fx_4_5 (Or.inr ⟨rfl, rfl, rfl⟩) (fun _ => rfl) (fun _ => rfl) (by decide) ?_
  refine PW.aload_n (pc := 46) dX4_init_46 rfl ?_
  refine PW.bipush (pc := 47) dX4_init_47 (v := 8) (by decide) ?_
  refine PW.newaI (pc := 49) dX4_init_49 (a := 235) aw_int (by decide) (by decide +kernel) (by decide) (ltn (show mN M + 4 = 232 by omega) (by decide)) (eqn (show mN M + 4 = 232 by omega) rfl) ?_
  refine PW.putR (pc := 51) dX4_init_51 lf_X4_31 (obn (show mN M + 5 = 233 by omega) s_230 (by decide) (by decide)) fx_4_6 (Or.inr ⟨rfl, rfl, rfl⟩) (fun _ => rfl) (fun _ => rfl) (by decide) ?_
  refine PW.aload_n (pc := 54) dX4_init_54 rfl ?_
  refine PW.iconst (pc := 55) dX4_init_55 (v := 0) (by decide) ?_
  refine PW.putI (pc := 56) dX4_init_56 lf_X4_34 (obn (show mN M + 5 = 233 by omega) s_230 (by decide) (by decide)) fx_4_7 (Or.inl rfl) rfl rfl ?_
  refine PW.aload_n (pc := 59) dX4_init_59 rfl ?_
  refine PW.bipush (pc := 60) dX4_init_60 (v := 40) (by decide) ?_
  refine PW.newaI (pc := 62) dX4_init_62 (a := 236) aw_int (by decide) (by decide +kernel) (by decide) (ltn (show mN M + 5 = 233 by omega) (by decide)) (eqn (show mN M + 5 = 233 by omega) rfl) ?_
  refine PW.putR (pc := 64) dX4_init_64 lf_X4_37 (obn (show mN M + 6 = 234 by omega) s_230 (by decide) (by decide)) fx_4_8 (Or.inr ⟨rfl, rfl, rfl⟩) (fun _ => rfl) (fun _ => rfl) (by decide) ?_
  refine PW.aload_n (pc := 67) dX4_init_67 rfl ?_
  refine PW.bipush (pc := 68) dX4_init_68 (v := 40) (by decide) ?_
  refine PW.newaI (pc := 70) dX4_init_70 (a := 237) aw_int (by decide) (by decide +kernel) (by decide) (ltn (show mN M + 6 = 234 by omega) (by decide)) (eqn (show mN M + 6 = 234 by omega) rfl) ?_
  refine PW.putR (pc := 72) dX4_init_72 lf_X4_40 (obn (show mN M + 7 = 235 by omega) s_230 (by decide) (by decide)) fx_4_9 (Or.inr ⟨rfl, rfl, rfl⟩) (fun _ => rfl) (fun _ => rfl) (by decide) ?_
  refine PW.aload_n (pc := 75) dX4_init_75 rfl ?_
  refine PW.bipush (pc := 76) dX4_init_76 (v := 40) (by decide) ?_
  refine PW.newaI (pc := 78) dX4_init_78 (a := 238) aw_int (by decide) (by decide +kernel) (by decide) (ltn (show mN M + 7 = 235 by omega) (by decide)) (eqn (show mN M + 7 = 235 by omega) rfl) ?_
  refine PW.putR (pc := 80) dX4_init_80 lf_X4_43 (obn (show mN M + 8 = 236 by omega) s_230 (by decide) (by decide)) fx_4_10 (Or.inr ⟨rfl, rfl, rfl⟩) (fun _ => rfl) (fun _ => rfl) (by decide) ?_
  exact h
def i_X4_230 (M : pm) : pm := u_X4_230_0 M
theorem in_X4_230 (M : pm) : mN (i_X4_230 M) = mN M + 8 := by
  unfold i_X4_230
  rw [un_X4_230_0] <;> omega
theorem c_X4_230 {M : pm} (hn : mN M = 228) : PW mX4_init 10 236 0 (pfr mX4_init.2.2.1 [.ref 230]) [] M (fun r M' => r = none ∧ M' = i_X4_230 M) := by
  show PW mX4_init 10 236 0 [.ref 230] [] M _
  refine k_X4_230_0 hn  ?_
  have hn1 : mN (u_X4_230_0 M) = 236 := by rw [un_X4_230_0, hn]
  exact PW.ret0 (pc := 83) dX4_init_83 hn1 rfl ⟨rfl, rfl⟩
def u_X4_239_0 (M : pm) : pm := sR (nw (sR (nw (sR (nw (sI (sR (nw (sR (nw (sR (nw (sR (nw (sR (nw (sI (sI M 239 0 0) 239 1 0)) 239 2 240)) 239 3 241)) 239 4 242)) 239 5 243)) 239 6 244) 239 7 0)) 239 8 245)) 239 9 246)) 239 10 247
theorem un_X4_239_0 (M : pm) : mN (u_X4_239_0 M) = mN M + 8 := rfl
set_option maxRecDepth 4000 in
theorem k_X4_239_0 {M : pm} {Q : Option Value → pm → Prop} (hn : mN M = 237)  (h : PW mX4_init 10 245 83 [.ref 239] [] (u_X4_239_0 M) Q) : PW mX4_init 10 245 0 [.ref 239] [] M Q := by
  refine PW.aload_n (pc := 0) dX4_init_0 rfl ?_
  refine PW.objInit (pc := 1) dX4_init_1 oi_X4_3 oi_i oi_c (Nat.le_of_ble_eq_true rfl) (by decide) ?_
  refine PW.aload_n (pc := 4) dX4_init_4 rfl ?_
  refine PW.iconst (pc := 5) dX4_init_5 (v := 0) (by decide) ?_
  refine PW.putI (pc := 6) dX4_init_6 lf_X4_9 (obn (show mN M + 0 = 237 by omega) s_239 (by decide) (by decide)) fx_4_0 (Or.inl rfl) rfl rfl ?_
  refine PW.aload_n (pc := 9) dX4_init_9 rfl ?_
  refine PW.iconst (pc := 10) dX4_init_10 (v := 0) (by decide) ?_
  refine PW.putI (pc := 11) dX4_init_11 lf_X4_15 (obn (show mN M + 0 = 237 by omega) s_239 (by decide) (by decide)) fx_4_1 (Or.inl rfl) rfl rfl ?_
  refine PW.aload_n (pc := 14) dX4_init_14 rfl ?_
  refine PW.bipush (pc := 15) dX4_init_15 (v := 8) (by decide) ?_
  refine PW.newaI (pc := 17) dX4_init_17 (a := 240) aw_int (by decide) (by decide +kernel) (by decide) (ltn (show mN M + 0 = 237 by omega) (by decide)) (eqn (show mN M + 0 = 237 by omega) rfl) ?_
  refine PW.putR (pc := 19) dX4_init_19 lf_X4_18 (obn (show mN M + 1 = 238 by omega) s_239 (by decide) (by decide)) fx_4_2 (Or.inr ⟨rfl, rfl, rfl⟩) (fun _ => rfl) (fun _ => rfl) (by decide) ?_
  refine PW.aload_n (pc := 22) dX4_init_22 rfl ?_
  refine PW.bipush (pc := 23) dX4_init_23 (v := 8) (by decide) ?_
  refine PW.newaI (pc := 25) dX4_init_25 (a := 241) aw_int (by decide) (by decide +kernel) (by decide) (ltn (show mN M + 1 = 238 by omega) (by decide)) (eqn (show mN M + 1 = 238 by omega) rfl) ?_
  refine PW.putR (pc := 27) dX4_init_27 lf_X4_22 (obn (show mN M + 2 = 239 by omega) s_239 (by decide) (by decide)) fx_4_3 (Or.inr ⟨rfl, rfl, rfl⟩) (fun _ => rfl) (fun _ => rfl) (by decide) ?_
  refine PW.aload_n (pc := 30) dX4_init_30 rfl ?_
  refine PW.bipush (pc := 31) dX4_init_31 (v := 8) (by decide) ?_
  refine PW.newaI (pc := 33) dX4_init_33 (a := 242) aw_int (by decide) (by decide +kernel) (by decide) (ltn (show mN M + 2 = 239 by omega) (by decide)) (eqn (show mN M + 2 = 239 by omega) rfl) ?_
  refine PW.putR (pc := 35) dX4_init_35 lf_X4_25 (obn (show mN M + 3 = 240 by omega) s_239 (by decide) (by decide)) fx_4_4 (Or.inr ⟨rfl, rfl, rfl⟩) (fun _ => rfl) (fun _ => rfl) (by decide) ?_
  refine PW.aload_n (pc := 38) dX4_init_38 rfl ?_
  refine PW.bipush (pc := 39) dX4_init_39 (v := 8) (by decide) ?_
  refine PW.newaI (pc := 41) dX4_init_41 (a := 243) aw_int (by decide) (by decide +kernel) (by decide) (ltn (show mN M + 3 = 240 by omega) (by decide)) (eqn (show mN M + 3 = 240 by omega) rfl) ?_
  refine PW.putR (pc := 43) dX4_init_43 lf_X4_28 (obn (show mN M + 4 = 241 by omega) s_239 (by decide) (by decide)) fx_4_5 (Or.inr ⟨rfl, rfl, rfl⟩) (fun _ => rfl) (fun _ => rfl) (by decide) ?_
  refine PW.aload_n (pc := 46) dX4_init_46 rfl ?_
  refine PW.bipush (pc := 47) dX4_init_47 (v := 8) (by decide) ?_
  refine PW.newaI (pc := 49) dX4_init_49 (a := 244) aw_int (by decide) (by decide +kernel) (by decide) (ltn (show mN M + 4 = 241 by omega) (by decide)) (eqn (show mN M + 4 = 241 by omega) rfl) ?_
  refine PW.putR (pc := 51) dX4_init_51 lf_X4_31 (obn (show mN M + 5 = 242 by omega) s_239 (by decide) (by decide)) fx_4_6 (Or.inr ⟨rfl, rfl, rfl⟩) (fun _ => rfl) (fun _ => rfl) (by decide) ?_
  refine PW.aload_n (pc := 54) dX4_init_54 rfl ?_
  refine PW.iconst (pc := 55) dX4_init_55 (v := 0) (by decide) ?_
  refine PW.putI (pc := 56) dX4_init_56 lf_X4_34 (obn (show mN M + 5 = 242 by omega) s_239 (by decide) (by decide)) fx_4_7 (Or.inl rfl) rfl rfl ?_
  refine PW.aload_n (pc := 59) dX4_init_59 rfl ?_
  refine PW.bipush (pc := 60) dX4_init_60 (v := 40) (by decide) ?_
  refine PW.newaI (pc := 62) dX4_init_62 (a := 245) aw_int (by decide) (by decide +kernel) (by decide) (ltn (show mN M + 5 = 242 by omega) (by decide)) (eqn (show mN M + 5 = 242 by omega) rfl) ?_
  refine PW.putR (pc := 64) dX4_init_64 lf_X4_37 (obn (show mN M + 6 = 243 by omega) s_239 (by decide) (by decide)) fx_4_8 (Or.inr ⟨rfl, rfl, rfl⟩) (fun _ => rfl) (fun _ => rfl) (by decide) ?_
  refine PW.aload_n (pc := 67) dX4_init_67 rfl ?_
  refine PW.bipush (pc := 68) dX4_init_68 (v := 40) (by decide) ?_
  refine PW.newaI (pc := 70) dX4_init_70 (a := 246) aw_int (by decide) (by decide +kernel) (by decide) (ltn (show mN M + 6 = 243 by omega) (by decide)) (eqn (show mN M + 6 = 243 by omega) rfl) ?_
  refine PW.putR (pc := 72) dX4_init_72 lf_X4_40 (obn (show mN M + 7 = 244 by omega) s_239 (by decide) (by decide)) fx_4_9 (Or.inr ⟨rfl, rfl, rfl⟩) (fun _ => rfl) (fun _ => rfl) (by decide) ?_
  refine PW.aload_n (pc := 75) dX4_init_75 rfl ?_
  refine PW.bipush (pc := 76) dX4_init_76 (v := 40) (by decide) ?_
  refine PW.newaI (pc := 78) dX4_init_78 (a := 247) aw_int (by decide) (by decide +kernel) (by decide) (ltn (show mN M + 7 = 244 by omega) (by decide)) (eqn (show mN M + 7 = 244 by omega) rfl) ?_
  refine PW.putR (pc := 80) dX4_init_80 lf_X4_43 (obn (show mN M + 8 = 245 by omega) s_239 (by decide) (by decide)) fx_4_10 (Or.inr ⟨rfl, rfl, rfl⟩) (fun _ => rfl) (fun _ => rfl) (by decide) ?_
  exact h
def i_X4_239 (M : pm) : pm := u_X4_239_0 M
theorem in_X4_239 (M : pm) : mN (i_X4_239 M) = mN M + 8 := by
  unfold i_X4_239
  rw [un_X4_239_0] <;> omega
theorem c_X4_239 {M : pm} (hn : mN M = 237) : PW mX4_init 10 245 0 (pfr mX4_init.2.2.1 [.ref 239]) [] M (fun r M' => r = none ∧ M' = i_X4_239 M) := by
  show PW mX4_init 10 245 0 [.ref 239] [] M _
  refine k_X4_239_0 hn  ?_
  have hn1 : mN (u_X4_239_0 M) = 245 := by rw [un_X4_239_0, hn]
  exact PW.ret0 (pc := 83) dX4_init_83 hn1 rfl ⟨rfl, rfl⟩
def u_X4_248_0 (M : pm) : pm := sR (nw (sR (nw (sR (nw (sI (sR (nw (sR (nw (sR (nw (sR (nw (sR (nw (sI (sI M 248 0 0) 248 1 0)) 248 2 249)) 248 3 250)) 248 4 251)) 248 5 252)) 248 6 253) 248 7 0)) 248 8 254)) 248 9 255)) 248 10 256
theorem un_X4_248_0 (M : pm) : mN (u_X4_248_0 M) = mN M + 8 := rfl
set_option maxRecDepth 4000 in
theorem k_X4_248_0 {M : pm} {Q : Option Value → pm → Prop} (hn : mN M = 246)  (h : PW mX4_init 10 254 83 [.ref 248] [] (u_X4_248_0 M) Q) : PW mX4_init 10 254 0 [.ref 248] [] M Q := by
  refine PW.aload_n (pc := 0) dX4_init_0 rfl ?_
  refine PW.objInit (pc := 1) dX4_init_1 oi_X4_3 oi_i oi_c (Nat.le_of_ble_eq_true rfl) (by decide) ?_
  refine PW.aload_n (pc := 4) dX4_init_4 rfl ?_
  refine PW.iconst (pc := 5) dX4_init_5 (v := 0) (by decide) ?_
  refine PW.putI (pc := 6) dX4_init_6 lf_X4_9 (obn (show mN M + 0 = 246 by omega) s_248 (by decide) (by decide)) fx_4_0 (Or.inl rfl) rfl rfl ?_
  refine PW.aload_n (pc := 9) dX4_init_9 rfl ?_
  refine PW.iconst (pc := 10) dX4_init_10 (v := 0) (by decide) ?_
  refine PW.putI (pc := 11) dX4_init_11 lf_X4_15 (obn (show mN M + 0 = 246 by omega) s_248 (by decide) (by decide)) fx_4_1 (Or.inl rfl) rfl rfl ?_
  refine PW.aload_n (pc := 14) dX4_init_14 rfl ?_
  refine PW.bipush (pc := 15) dX4_init_15 (v := 8) (by decide) ?_
  refine PW.newaI (pc := 17) dX4_init_17 (a := 249) aw_int (by decide) (by decide +kernel) (by decide) (ltn (show mN M + 0 = 246 by omega) (by decide)) (eqn (show mN M + 0 = 246 by omega) rfl) ?_
  refine PW.putR (pc := 19) dX4_init_19 lf_X4_18 (obn (show mN M + 1 = 247 by omega) s_248 (by decide) (by decide)) fx_4_2 (Or.inr ⟨rfl, rfl, rfl⟩) (fun _ => rfl) (fun _ => rfl) (by decide) ?_
  refine PW.aload_n (pc := 22) dX4_init_22 rfl ?_
  refine PW.bipush (pc := 23) dX4_init_23 (v := 8) (by decide) ?_
  refine PW.newaI (pc := 25) dX4_init_25 (a := 250) aw_int (by decide) (by decide +kernel) (by decide) (ltn (show mN M + 1 = 247 by omega) (by decide)) (eqn (show mN M + 1 = 247 by omega) rfl) ?_
  refine PW.putR (pc := 27) dX4_init_27 lf_X4_22 (obn (show mN M + 2 = 248 by omega) s_248 (by decide) (by decide)) fx_4_3 (Or.inr ⟨rfl, rfl, rfl⟩) (fun _ => rfl) (fun _ => rfl) (by decide) ?_
  refine PW.aload_n (pc := 30) dX4_init_30 rfl ?_
  refine PW.bipush (pc := 31) dX4_init_31 (v := 8) (by decide) ?_
  refine PW.newaI (pc := 33) dX4_init_33 (a := 251) aw_int (by decide) (by decide +kernel) (by decide) (ltn (show mN M + 2 = 248 by omega) (by decide)) (eqn (show mN M + 2 = 248 by omega) rfl) ?_
  refine PW.putR (pc := 35) dX4_init_35 lf_X4_25 (obn (show mN M + 3 = 249 by omega) s_248 (by decide) (by decide)) fx_4_4 (Or.inr ⟨rfl, rfl, rfl⟩) (fun _ => rfl) (fun _ => rfl) (by decide) ?_
  refine PW.aload_n (pc := 38) dX4_init_38 rfl ?_
  refine PW.bipush (pc := 39) dX4_init_39 (v := 8) (by decide) ?_
  refine PW.newaI (pc := 41) dX4_init_41 (a := 252) aw_int (by decide) (by decide +kernel) (by decide) (ltn (show mN M + 3 = 249 by omega) (by decide)) (eqn (show mN M + 3 = 249 by omega) rfl) ?_
  refine PW.putR (pc := 43) dX4_init_43 lf_X4_28 (obn (show mN M + 4 = 250 by omega) s_248 (by decide) (by decide)) fx_4_5 (Or.inr ⟨rfl, rfl, rfl⟩) (fun _ => rfl) (fun _ => rfl) (by decide) ?_
  refine PW.aload_n (pc := 46) dX4_init_46 rfl ?_
  refine PW.bipush (pc := 47) dX4_init_47 (v := 8) (by decide) ?_
  refine PW.newaI (pc := 49) dX4_init_49 (a := 253) aw_int (by decide) (by decide +kernel) (by decide) (ltn (show mN M + 4 = 250 by omega) (by decide)) (eqn (show mN M + 4 = 250 by omega) rfl) ?_
  refine PW.putR (pc := 51) dX4_init_51 lf_X4_31 (obn (show mN M + 5 = 251 by omega) s_248 (by decide) (by decide)) fx_4_6 (Or.inr ⟨rfl, rfl, rfl⟩) (fun _ => rfl) (fun _ => rfl) (by decide) ?_
  refine PW.aload_n (pc := 54) dX4_init_54 rfl ?_
  refine PW.iconst (pc := 55) dX4_init_55 (v := 0) (by decide) ?_
  refine PW.putI (pc := 56) dX4_init_56 lf_X4_34 (obn (show mN M + 5 = 251 by omega) s_248 (by decide) (by decide)) fx_4_7 (Or.inl rfl) rfl rfl ?_
  refine PW.aload_n (pc := 59) dX4_init_59 rfl ?_
  refine PW.bipush (pc := 60) dX4_init_60 (v := 40) (by decide) ?_
  refine PW.newaI (pc := 62) dX4_init_62 (a := 254) aw_int (by decide) (by decide +kernel) (by decide) (ltn (show mN M + 5 = 251 by omega) (by decide)) (eqn (show mN M + 5 = 251 by omega) rfl) ?_
  refine PW.putR (pc := 64) dX4_init_64 lf_X4_37 (obn (show mN M + 6 = 252 by omega) s_248 (by decide) (by decide)) fx_4_8 (Or.inr ⟨rfl, rfl, rfl⟩) (fun _ => rfl) (fun _ => rfl) (by decide) ?_
  refine PW.aload_n (pc := 67) dX4_init_67 rfl ?_
  refine PW.bipush (pc := 68) dX4_init_68 (v := 40) (by decide) ?_
  refine PW.newaI (pc := 70) dX4_init_70 (a := 255) aw_int (by decide) (by decide +kernel) (by decide) (ltn (show mN M + 6 = 252 by omega) (by decide)) (eqn (show mN M + 6 = 252 by omega) rfl) ?_
  refine PW.putR (pc := 72) dX4_init_72 lf_X4_40 (obn (show mN M + 7 = 253 by omega) s_248 (by decide) (by decide)) fx_4_9 (Or.inr ⟨rfl, rfl, rfl⟩) (fun _ => rfl) (fun _ => rfl) (by decide) ?_
  refine PW.aload_n (pc := 75) dX4_init_75 rfl ?_
  refine PW.bipush (pc := 76) dX4_init_76 (v := 40) (by decide) ?_
  refine PW.newaI (pc := 78) dX4_init_78 (a := 256) aw_int (by decide) (by decide +kernel) (by decide) (ltn (show mN M + 7 = 253 by omega) (by decide)) (eqn (show mN M + 7 = 253 by omega) rfl) ?_
  refine PW.putR (pc := 80) dX4_init_80 lf_X4_43 (obn (show mN M + 8 = 254 by omega) s_248 (by decide) (by decide)) fx_4_10 (Or.inr ⟨rfl, rfl, rfl⟩) (fun _ => rfl) (fun _ => rfl) (by decide) ?_
  exact h
def i_X4_248 (M : pm) : pm := u_X4_248_0 M
theorem in_X4_248 (M : pm) : mN (i_X4_248 M) = mN M + 8 := by
  unfold i_X4_248
  rw [un_X4_248_0] <;> omega
theorem c_X4_248 {M : pm} (hn : mN M = 246) : PW mX4_init 10 254 0 (pfr mX4_init.2.2.1 [.ref 248]) [] M (fun r M' => r = none ∧ M' = i_X4_248 M) := by
  show PW mX4_init 10 254 0 [.ref 248] [] M _
  refine k_X4_248_0 hn  ?_
  have hn1 : mN (u_X4_248_0 M) = 254 := by rw [un_X4_248_0, hn]
  exact PW.ret0 (pc := 83) dX4_init_83 hn1 rfl ⟨rfl, rfl⟩
def u_X0_75_0 (M : pm) : pm := i_X4_77 (nw (sI (sR (nw M) 75 0 76) 75 1 0))
theorem un_X0_75_0 (M : pm) : mN (u_X0_75_0 M) = mN M + 10 := by
  unfold u_X0_75_0
  rw [in_X4_77]
  show mN M + 2 + 8 = mN M + 10
  omega
set_option maxRecDepth 4000 in
theorem k_X0_75_0 {M : pm} {Q : Option Value → pm → Prop} (hn : mN M = 73)  (h : PW mX0_init 11 254 38 [.ref 75, .int 0] [.ref 77, .int 0, .ref 76] (u_X0_75_0 M) Q) : PW mX0_init 11 254 0 [.ref 75, .null] [] M Q := by
  refine PW.aload_n (pc := 0) dX0_init_0 rfl ?_
  refine PW.objInit (pc := 1) dX0_init_1 oi_X0_3 oi_i oi_c (Nat.le_of_ble_eq_true rfl) (by decide) ?_
  refine PW.aload_n (pc := 4) dX0_init_4 rfl ?_
  refine PW.bipush (pc := 5) dX0_init_5 (v := 20) (by decide) ?_
  refine PW.anewS (pc := 7) dX0_init_7 (a := 76) cl_X0_9 (by decide) (by decide +kernel) (by decide) (ltn (show mN M + 0 = 73 by omega) (by decide)) (eqn (show mN M + 0 = 73 by omega) rfl) ?_
  refine PW.putR (pc := 10) dX0_init_10 lf_X0_11 (obn (show mN M + 1 = 74 by omega) s_75 (by decide) (by decide)) fx_0_0 (Or.inr ⟨rfl, rfl, rfl⟩) (fun _ => rfl) (fun _ => rfl) (by decide) ?_
  refine PW.aload_n (pc := 13) dX0_init_13 rfl ?_
  refine PW.iconst (pc := 14) dX0_init_14 (v := 0) (by decide) ?_
  refine PW.putI (pc := 15) dX0_init_15 lf_X0_17 (obn (show mN M + 1 = 74 by omega) s_75 (by decide) (by decide)) fx_0_1 (Or.inl rfl) rfl rfl ?_
  refine PW.iconst (pc := 18) dX0_init_18 (v := 0) (by decide) ?_
  refine PW.istore_n (pc := 19) dX0_init_19 (ls' := [.ref 75, .int 0]) (Nat.le_of_ble_eq_true rfl) rfl rfl ?_
  refine PW.iload_n (pc := 20) dX0_init_20 rfl ?_
  refine PW.bipush (pc := 21) dX0_init_21 (v := 20) (by decide) ?_
  refine PW.icmp_ge (pc := 23) dX0_init_23 (t := 45) (by decide) (fun hc => ?_) (fun hc => ?_)
  · exact absurd hc (by decide)
  refine PW.aload_n (pc := 26) dX0_init_26 rfl ?_
  refine PW.getR (pc := 27) dX0_init_27 (r := 76) lf_X0_11 (obn (show mN M + 1 = 74 by omega) s_75 (by decide) (by decide)) fx_0_0 (by simp [mR_sI, mR_sR, mR_sJ, mR_nw, mN_nw, mN_sI, mN_sR, mN_sJ, hn]) (by decide) ?_
  refine PW.iload_n (pc := 30) dX0_init_30 rfl ?_
  refine PW.new (pc := 31) dX0_init_31 (ci := 4) (a := 77) cl_X0_9 in_4 iz_4 (by decide) (eqL (show mN M + 1 = 74 by omega) (by decide +kernel)) (ltn (show mN M + 1 = 74 by omega) (by decide)) (eqn (show mN M + 1 = 74 by omega) rfl) ?_
  refine PW.dupR (pc := 34) dX0_init_34 ?_
  refine PW.ini (m' := mX4_init) (pc := 35) dX0_init_35 lm_X0_21 me_X4_init mj_X4_init rfl rfl (As := []) (a := 77) (st := [.ref 77, .int 0, .ref 76]) rfl (Nat.le_of_ble_eq_true rfl) (Nat.le_of_ble_eq_true rfl) (len_ (show mN M + 2 = 75 by omega) (by decide)) (by decide) (PW.deep (by decide) (c_X4_77 (show mN M + 2 = 75 by omega))) ?_
  rintro _ _ ⟨rfl, rfl⟩
  exact h
def u_X0_75_1 (M : pm) : pm := sR M 76 0 77
theorem un_X0_75_1 (M : pm) : mN (u_X0_75_1 M) = mN M + 0 := rfl
theorem uk_X0_75_1 (M : pm) (hn : mN M = 83) : mR (u_X0_75_1 M) 75 0 = mR M 75 0 := by
  unfold u_X0_75_1
  simp [mR_sI, mR_sR, mR_sJ, mR_nw, mN_nw, mN_sI, mN_sR, mN_sJ, hn]
set_option maxRecDepth 4000 in
theorem k_X0_75_1 {M : pm} {Q : Option Value → pm → Prop} (hn : mN M = 83)  (h : PW mX0_init 11 254 20 [.ref 75, .int 1] [] (u_X0_75_1 M) Q) : PW mX0_init 11 254 38 [.ref 75, .int 0] [.ref 77, .int 0, .ref 76] M Q := by
  refine PW.aastS (pc := 38) dX0_init_38 (arn (show mN M + 0 = 83 by omega) s_76 (by decide)) (vpl n_76 (vp_c (by decide))) (obn (show mN M + 0 = 83 by omega) s_77 (by decide) (by decide)) ?_
  refine PW.iinc (pc := 39) dX0_init_39 (v := 1) (ls' := [.ref 75, .int 1]) rfl (by decide) (by decide) rfl rfl ?_
  refine PW.goto (pc := 42) dX0_init_42 (t := 20) (by decide) ?_
  exact h
def u_X0_75_2 (M : pm) : pm := i_X4_86 (nw M)
theorem un_X0_75_2 (M : pm) : mN (u_X0_75_2 M) = mN M + 9 := by
  unfold u_X0_75_2
  rw [in_X4_86]
  show mN M + 1 + 8 = mN M + 9
  omega
theorem uk_X0_75_2 (M : pm) (hn : mN M = 83) : mR (u_X0_75_2 M) 75 0 = mR M 75 0 := by
  unfold u_X0_75_2 i_X4_86 u_X4_86_0
  simp [mR_sI, mR_sR, mR_sJ, mR_nw, mN_nw, mN_sI, mN_sR, mN_sJ, hn]
set_option maxRecDepth 4000 in
theorem k_X0_75_2 {M : pm} {Q : Option Value → pm → Prop} (hn : mN M = 83) (hr75_0 : mR M 75 0 = 76) (h : PW mX0_init 11 254 38 [.ref 75, .int 1] [.ref 86, .int 1, .ref 76] (u_X0_75_2 M) Q) : PW mX0_init 11 254 20 [.ref 75, .int 1] [] M Q := by
  refine PW.iload_n (pc := 20) dX0_init_20 rfl ?_
  refine PW.bipush (pc := 21) dX0_init_21 (v := 20) (by decide) ?_
  refine PW.icmp_ge (pc := 23) dX0_init_23 (t := 45) (by decide) (fun hc => ?_) (fun hc => ?_)
  · exact absurd hc (by decide)
  refine PW.aload_n (pc := 26) dX0_init_26 rfl ?_
  refine PW.getR (pc := 27) dX0_init_27 (r := 76) lf_X0_11 (obn (show mN M + 0 = 83 by omega) s_75 (by decide) (by decide)) fx_0_0 hr75_0 (by decide) ?_
  refine PW.iload_n (pc := 30) dX0_init_30 rfl ?_
  refine PW.new (pc := 31) dX0_init_31 (ci := 4) (a := 86) cl_X0_9 in_4 iz_4 (by decide) (eqL (show mN M + 0 = 83 by omega) (by decide +kernel)) (ltn (show mN M + 0 = 83 by omega) (by decide)) (eqn (show mN M + 0 = 83 by omega) rfl) ?_
  refine PW.dupR (pc := 34) dX0_init_34 ?_
  refine PW.ini (m' := mX4_init) (pc := 35) dX0_init_35 lm_X0_21 me_X4_init mj_X4_init rfl rfl (As := []) (a := 86) (st := [.ref 86, .int 1, .ref 76]) rfl (Nat.le_of_ble_eq_true rfl) (Nat.le_of_ble_eq_true rfl) (len_ (show mN M + 1 = 84 by omega) (by decide)) (by decide) (PW.deep (by decide) (c_X4_86 (show mN M + 1 = 84 by omega))) ?_
  rintro _ _ ⟨rfl, rfl⟩
  exact h
def u_X0_75_3 (M : pm) : pm := sR M 76 1 86
theorem un_X0_75_3 (M : pm) : mN (u_X0_75_3 M) = mN M + 0 := rfl
theorem uk_X0_75_3 (M : pm) (hn : mN M = 92) : mR (u_X0_75_3 M) 75 0 = mR M 75 0 := by
  unfold u_X0_75_3
  simp [mR_sI, mR_sR, mR_sJ, mR_nw, mN_nw, mN_sI, mN_sR, mN_sJ, hn]
set_option maxRecDepth 4000 in
theorem k_X0_75_3 {M : pm} {Q : Option Value → pm → Prop} (hn : mN M = 92)  (h : PW mX0_init 11 254 20 [.ref 75, .int 2] [] (u_X0_75_3 M) Q) : PW mX0_init 11 254 38 [.ref 75, .int 1] [.ref 86, .int 1, .ref 76] M Q := by
  refine PW.aastS (pc := 38) dX0_init_38 (arn (show mN M + 0 = 92 by omega) s_76 (by decide)) (vpl n_76 (vp_c (by decide))) (obn (show mN M + 0 = 92 by omega) s_86 (by decide) (by decide)) ?_
  refine PW.iinc (pc := 39) dX0_init_39 (v := 2) (ls' := [.ref 75, .int 2]) rfl (by decide) (by decide) rfl rfl ?_
  refine PW.goto (pc := 42) dX0_init_42 (t := 20) (by decide) ?_
  exact h
def u_X0_75_4 (M : pm) : pm := i_X4_95 (nw M)
theorem un_X0_75_4 (M : pm) : mN (u_X0_75_4 M) = mN M + 9 := by
  unfold u_X0_75_4
  rw [in_X4_95]
  show mN M + 1 + 8 = mN M + 9
  omega
theorem uk_X0_75_4 (M : pm) (hn : mN M = 92) : mR (u_X0_75_4 M) 75 0 = mR M 75 0 := by
  unfold u_X0_75_4 i_X4_95 u_X4_95_0
  simp [mR_sI, mR_sR, mR_sJ, mR_nw, mN_nw, mN_sI, mN_sR, mN_sJ, hn]
set_option maxRecDepth 4000 in
theorem k_X0_75_4 {M : pm} {Q : Option Value → pm → Prop} (hn : mN M = 92) (hr75_0 : mR M 75 0 = 76) (h : PW mX0_init 11 254 38 [.ref 75, .int 2] [.ref 95, .int 2, .ref 76] (u_X0_75_4 M) Q) : PW mX0_init 11 254 20 [.ref 75, .int 2] [] M Q := by
  refine PW.iload_n (pc := 20) dX0_init_20 rfl ?_
  refine PW.bipush (pc := 21) dX0_init_21 (v := 20) (by decide) ?_
  refine PW.icmp_ge (pc := 23) dX0_init_23 (t := 45) (by decide) (fun hc => ?_) (fun hc => ?_)
  · exact absurd hc (by decide)
  refine PW.aload_n (pc := 26) dX0_init_26 rfl ?_
  refine PW.getR (pc := 27) dX0_init_27 (r := 76) lf_X0_11 (obn (show mN M + 0 = 92 by omega) s_75 (by decide) (by decide)) fx_0_0 hr75_0 (by decide) ?_
  refine PW.iload_n (pc := 30) dX0_init_30 rfl ?_
  refine PW.new (pc := 31) dX0_init_31 (ci := 4) (a := 95) cl_X0_9 in_4 iz_4 (by decide) (eqL (show mN M + 0 = 92 by omega) (by decide +kernel)) (ltn (show mN M + 0 = 92 by omega) (by decide)) (eqn (show mN M + 0 = 92 by omega) rfl) ?_
  refine PW.dupR (pc := 34) dX0_init_34 ?_
  refine PW.ini (m' := mX4_init) (pc := 35) dX0_init_35 lm_X0_21 me_X4_init mj_X4_init rfl rfl (As := []) (a := 95) (st := [.ref 95, .int 2, .ref 76]) rfl (Nat.le_of_ble_eq_true rfl) (Nat.le_of_ble_eq_true rfl) (len_ (show mN M + 1 = 93 by omega) (by decide)) (by decide) (PW.deep (by decide) (c_X4_95 (show mN M + 1 = 93 by omega))) ?_
  rintro _ _ ⟨rfl, rfl⟩
  exact h
def u_X0_75_5 (M : pm) : pm := sR M 76 2 95
theorem un_X0_75_5 (M : pm) : mN (u_X0_75_5 M) = mN M + 0 := rfl
theorem uk_X0_75_5 (M : pm) (hn : mN M = 101) : mR (u_X0_75_5 M) 75 0 = mR M 75 0 := by
  unfold u_X0_75_5
  simp [mR_sI, mR_sR, mR_sJ, mR_nw, mN_nw, mN_sI, mN_sR, mN_sJ, hn]
set_option maxRecDepth 4000 in
theorem k_X0_75_5 {M : pm} {Q : Option Value → pm → Prop} (hn : mN M = 101)  (h : PW mX0_init 11 254 20 [.ref 75, .int 3] [] (u_X0_75_5 M) Q) : PW mX0_init 11 254 38 [.ref 75, .int 2] [.ref 95, .int 2, .ref 76] M Q := by
  refine PW.aastS (pc := 38) dX0_init_38 (arn (show mN M + 0 = 101 by omega) s_76 (by decide)) (vpl n_76 (vp_c (by decide))) (obn (show mN M + 0 = 101 by omega) s_95 (by decide) (by decide)) ?_
  refine PW.iinc (pc := 39) dX0_init_39 (v := 3) (ls' := [.ref 75, .int 3]) rfl (by decide) (by decide) rfl rfl ?_
  refine PW.goto (pc := 42) dX0_init_42 (t := 20) (by decide) ?_
  exact h
def u_X0_75_6 (M : pm) : pm := i_X4_104 (nw M)
theorem un_X0_75_6 (M : pm) : mN (u_X0_75_6 M) = mN M + 9 := by
  unfold u_X0_75_6
  rw [in_X4_104]
  show mN M + 1 + 8 = mN M + 9
  omega
theorem uk_X0_75_6 (M : pm) (hn : mN M = 101) : mR (u_X0_75_6 M) 75 0 = mR M 75 0 := by
  unfold u_X0_75_6 i_X4_104 u_X4_104_0
  simp [mR_sI, mR_sR, mR_sJ, mR_nw, mN_nw, mN_sI, mN_sR, mN_sJ, hn]
set_option maxRecDepth 4000 in
theorem k_X0_75_6 {M : pm} {Q : Option Value → pm → Prop} (hn : mN M = 101) (hr75_0 : mR M 75 0 = 76) (h : PW mX0_init 11 254 38 [.ref 75, .int 3] [.ref 104, .int 3, .ref 76] (u_X0_75_6 M) Q) : PW mX0_init 11 254 20 [.ref 75, .int 3] [] M Q := by
  refine PW.iload_n (pc := 20) dX0_init_20 rfl ?_
  refine PW.bipush (pc := 21) dX0_init_21 (v := 20) (by decide) ?_
  refine PW.icmp_ge (pc := 23) dX0_init_23 (t := 45) (by decide) (fun hc => ?_) (fun hc => ?_)
  · exact absurd hc (by decide)
  refine PW.aload_n (pc := 26) dX0_init_26 rfl ?_
  refine PW.getR (pc := 27) dX0_init_27 (r := 76) lf_X0_11 (obn (show mN M + 0 = 101 by omega) s_75 (by decide) (by decide)) fx_0_0 hr75_0 (by decide) ?_
  refine PW.iload_n (pc := 30) dX0_init_30 rfl ?_
  refine PW.new (pc := 31) dX0_init_31 (ci := 4) (a := 104) cl_X0_9 in_4 iz_4 (by decide) (eqL (show mN M + 0 = 101 by omega) (by decide +kernel)) (ltn (show mN M + 0 = 101 by omega) (by decide)) (eqn (show mN M + 0 = 101 by omega) rfl) ?_
  refine PW.dupR (pc := 34) dX0_init_34 ?_
  refine PW.ini (m' := mX4_init) (pc := 35) dX0_init_35 lm_X0_21 me_X4_init mj_X4_init rfl rfl (As := []) (a := 104) (st := [.ref 104, .int 3, .ref 76]) rfl (Nat.le_of_ble_eq_true rfl) (Nat.le_of_ble_eq_true rfl) (len_ (show mN M + 1 = 102 by omega) (by decide)) (by decide) (PW.deep (by decide) (c_X4_104 (show mN M + 1 = 102 by omega))) ?_
  rintro _ _ ⟨rfl, rfl⟩
  exact h
def u_X0_75_7 (M : pm) : pm := sR M 76 3 104
theorem un_X0_75_7 (M : pm) : mN (u_X0_75_7 M) = mN M + 0 := rfl
theorem uk_X0_75_7 (M : pm) (hn : mN M = 110) : mR (u_X0_75_7 M) 75 0 = mR M 75 0 := by
  unfold u_X0_75_7
  simp [mR_sI, mR_sR, mR_sJ, mR_nw, mN_nw, mN_sI, mN_sR, mN_sJ, hn]
set_option maxRecDepth 4000 in
theorem k_X0_75_7 {M : pm} {Q : Option Value → pm → Prop} (hn : mN M = 110)  (h : PW mX0_init 11 254 20 [.ref 75, .int 4] [] (u_X0_75_7 M) Q) : PW mX0_init 11 254 38 [.ref 75, .int 3] [.ref 104, .int 3, .ref 76] M Q := by
  refine PW.aastS (pc := 38) dX0_init_38 (arn (show mN M + 0 = 110 by omega) s_76 (by decide)) (vpl n_76 (vp_c (by decide))) (obn (show mN M + 0 = 110 by omega) s_104 (by decide) (by decide)) ?_
  refine PW.iinc (pc := 39) dX0_init_39 (v := 4) (ls' := [.ref 75, .int 4]) rfl (by decide) (by decide) rfl rfl ?_
  refine PW.goto (pc := 42) dX0_init_42 (t := 20) (by decide) ?_
  exact h
def u_X0_75_8 (M : pm) : pm := i_X4_113 (nw M)
theorem un_X0_75_8 (M : pm) : mN (u_X0_75_8 M) = mN M + 9 := by
  unfold u_X0_75_8
  rw [in_X4_113]
  show mN M + 1 + 8 = mN M + 9
  omega
theorem uk_X0_75_8 (M : pm) (hn : mN M = 110) : mR (u_X0_75_8 M) 75 0 = mR M 75 0 := by
  unfold u_X0_75_8 i_X4_113 u_X4_113_0
  simp [mR_sI, mR_sR, mR_sJ, mR_nw, mN_nw, mN_sI, mN_sR, mN_sJ, hn]
set_option maxRecDepth 4000 in
theorem k_X0_75_8 {M : pm} {Q : Option Value → pm → Prop} (hn : mN M = 110) (hr75_0 : mR M 75 0 = 76) (h : PW mX0_init 11 254 38 [.ref 75, .int 4] [.ref 113, .int 4, .ref 76] (u_X0_75_8 M) Q) : PW mX0_init 11 254 20 [.ref 75, .int 4] [] M Q := by
  refine PW.iload_n (pc := 20) dX0_init_20 rfl ?_
  refine PW.bipush (pc := 21) dX0_init_21 (v := 20) (by decide) ?_
  refine PW.icmp_ge (pc := 23) dX0_init_23 (t := 45) (by decide) (fun hc => ?_) (fun hc => ?_)
  · exact absurd hc (by decide)
  refine PW.aload_n (pc := 26) dX0_init_26 rfl ?_
  refine PW.getR (pc := 27) dX0_init_27 (r := 76) lf_X0_11 (obn (show mN M + 0 = 110 by omega) s_75 (by decide) (by decide)) fx_0_0 hr75_0 (by decide) ?_
  refine PW.iload_n (pc := 30) dX0_init_30 rfl ?_
  refine PW.new (pc := 31) dX0_init_31 (ci := 4) (a := 113) cl_X0_9 in_4 iz_4 (by decide) (eqL (show mN M + 0 = 110 by omega) (by decide +kernel)) (ltn (show mN M + 0 = 110 by omega) (by decide)) (eqn (show mN M + 0 = 110 by omega) rfl) ?_
  refine PW.dupR (pc := 34) dX0_init_34 ?_
  refine PW.ini (m' := mX4_init) (pc := 35) dX0_init_35 lm_X0_21 me_X4_init mj_X4_init rfl rfl (As := []) (a := 113) (st := [.ref 113, .int 4, .ref 76]) rfl (Nat.le_of_ble_eq_true rfl) (Nat.le_of_ble_eq_true rfl) (len_ (show mN M + 1 = 111 by omega) (by decide)) (by decide) (PW.deep (by decide) (c_X4_113 (show mN M + 1 = 111 by omega))) ?_
  rintro _ _ ⟨rfl, rfl⟩
  exact h
def u_X0_75_9 (M : pm) : pm := sR M 76 4 113
theorem un_X0_75_9 (M : pm) : mN (u_X0_75_9 M) = mN M + 0 := rfl
theorem uk_X0_75_9 (M : pm) (hn : mN M = 119) : mR (u_X0_75_9 M) 75 0 = mR M 75 0 := by
  unfold u_X0_75_9
  simp [mR_sI, mR_sR, mR_sJ, mR_nw, mN_nw, mN_sI, mN_sR, mN_sJ, hn]
set_option maxRecDepth 4000 in
theorem k_X0_75_9 {M : pm} {Q : Option Value → pm → Prop} (hn : mN M = 119)  (h : PW mX0_init 11 254 20 [.ref 75, .int 5] [] (u_X0_75_9 M) Q) : PW mX0_init 11 254 38 [.ref 75, .int 4] [.ref 113, .int 4, .ref 76] M Q := by
  refine PW.aastS (pc := 38) dX0_init_38 (arn (show mN M + 0 = 119 by omega) s_76 (by decide)) (vpl n_76 (vp_c (by decide))) (obn (show mN M + 0 = 119 by omega) s_113 (by decide) (by decide)) ?_
  refine PW.iinc (pc := 39) dX0_init_39 (v := 5) (ls' := [.ref 75, .int 5]) rfl (by decide) (by decide) rfl rfl ?_
  refine PW.goto (pc := 42) dX0_init_42 (t := 20) (by decide) ?_
  exact h
def u_X0_75_10 (M : pm) : pm := i_X4_122 (nw M)
theorem un_X0_75_10 (M : pm) : mN (u_X0_75_10 M) = mN M + 9 := by
  unfold u_X0_75_10
  rw [in_X4_122]
  show mN M + 1 + 8 = mN M + 9
  omega
theorem uk_X0_75_10 (M : pm) (hn : mN M = 119) : mR (u_X0_75_10 M) 75 0 = mR M 75 0 := by
  unfold u_X0_75_10 i_X4_122 u_X4_122_0
  simp [mR_sI, mR_sR, mR_sJ, mR_nw, mN_nw, mN_sI, mN_sR, mN_sJ, hn]
set_option maxRecDepth 4000 in
theorem k_X0_75_10 {M : pm} {Q : Option Value → pm → Prop} (hn : mN M = 119) (hr75_0 : mR M 75 0 = 76) (h : PW mX0_init 11 254 38 [.ref 75, .int 5] [.ref 122, .int 5, .ref 76] (u_X0_75_10 M) Q) : PW mX0_init 11 254 20 [.ref 75, .int 5] [] M Q := by
  refine PW.iload_n (pc := 20) dX0_init_20 rfl ?_
  refine PW.bipush (pc := 21) dX0_init_21 (v := 20) (by decide) ?_
  refine PW.icmp_ge (pc := 23) dX0_init_23 (t := 45) (by decide) (fun hc => ?_) (fun hc => ?_)
  · exact absurd hc (by decide)
  refine PW.aload_n (pc := 26) dX0_init_26 rfl ?_
  refine PW.getR (pc := 27) dX0_init_27 (r := 76) lf_X0_11 (obn (show mN M + 0 = 119 by omega) s_75 (by decide) (by decide)) fx_0_0 hr75_0 (by decide) ?_
  refine PW.iload_n (pc := 30) dX0_init_30 rfl ?_
  refine PW.new (pc := 31) dX0_init_31 (ci := 4) (a := 122) cl_X0_9 in_4 iz_4 (by decide) (eqL (show mN M + 0 = 119 by omega) (by decide +kernel)) (ltn (show mN M + 0 = 119 by omega) (by decide)) (eqn (show mN M + 0 = 119 by omega) rfl) ?_
  refine PW.dupR (pc := 34) dX0_init_34 ?_
  refine PW.ini (m' := mX4_init) (pc := 35) dX0_init_35 lm_X0_21 me_X4_init mj_X4_init rfl rfl (As := []) (a := 122) (st := [.ref 122, .int 5, .ref 76]) rfl (Nat.le_of_ble_eq_true rfl) (Nat.le_of_ble_eq_true rfl) (len_ (show mN M + 1 = 120 by omega) (by decide)) (by decide) (PW.deep (by decide) (c_X4_122 (show mN M + 1 = 120 by omega))) ?_
  rintro _ _ ⟨rfl, rfl⟩
  exact h
def u_X0_75_11 (M : pm) : pm := sR M 76 5 122
theorem un_X0_75_11 (M : pm) : mN (u_X0_75_11 M) = mN M + 0 := rfl
theorem uk_X0_75_11 (M : pm) (hn : mN M = 128) : mR (u_X0_75_11 M) 75 0 = mR M 75 0 := by
  unfold u_X0_75_11
  simp [mR_sI, mR_sR, mR_sJ, mR_nw, mN_nw, mN_sI, mN_sR, mN_sJ, hn]
set_option maxRecDepth 4000 in
theorem k_X0_75_11 {M : pm} {Q : Option Value → pm → Prop} (hn : mN M = 128)  (h : PW mX0_init 11 254 20 [.ref 75, .int 6] [] (u_X0_75_11 M) Q) : PW mX0_init 11 254 38 [.ref 75, .int 5] [.ref 122, .int 5, .ref 76] M Q := by
  refine PW.aastS (pc := 38) dX0_init_38 (arn (show mN M + 0 = 128 by omega) s_76 (by decide)) (vpl n_76 (vp_c (by decide))) (obn (show mN M + 0 = 128 by omega) s_122 (by decide) (by decide)) ?_
  refine PW.iinc (pc := 39) dX0_init_39 (v := 6) (ls' := [.ref 75, .int 6]) rfl (by decide) (by decide) rfl rfl ?_
  refine PW.goto (pc := 42) dX0_init_42 (t := 20) (by decide) ?_
  exact h
def u_X0_75_12 (M : pm) : pm := i_X4_131 (nw M)
theorem un_X0_75_12 (M : pm) : mN (u_X0_75_12 M) = mN M + 9 := by
  unfold u_X0_75_12
  rw [in_X4_131]
  show mN M + 1 + 8 = mN M + 9
  omega
theorem uk_X0_75_12 (M : pm) (hn : mN M = 128) : mR (u_X0_75_12 M) 75 0 = mR M 75 0 := by
  unfold u_X0_75_12 i_X4_131 u_X4_131_0
  simp [mR_sI, mR_sR, mR_sJ, mR_nw, mN_nw, mN_sI, mN_sR, mN_sJ, hn]
set_option maxRecDepth 4000 in
theorem k_X0_75_12 {M : pm} {Q : Option Value → pm → Prop} (hn : mN M = 128) (hr75_0 : mR M 75 0 = 76) (h : PW mX0_init 11 254 38 [.ref 75, .int 6] [.ref 131, .int 6, .ref 76] (u_X0_75_12 M) Q) : PW mX0_init 11 254 20 [.ref 75, .int 6] [] M Q := by
  refine PW.iload_n (pc := 20) dX0_init_20 rfl ?_
  refine PW.bipush (pc := 21) dX0_init_21 (v := 20) (by decide) ?_
  refine PW.icmp_ge (pc := 23) dX0_init_23 (t := 45) (by decide) (fun hc => ?_) (fun hc => ?_)
  · exact absurd hc (by decide)
  refine PW.aload_n (pc := 26) dX0_init_26 rfl ?_
  refine PW.getR (pc := 27) dX0_init_27 (r := 76) lf_X0_11 (obn (show mN M + 0 = 128 by omega) s_75 (by decide) (by decide)) fx_0_0 hr75_0 (by decide) ?_
  refine PW.iload_n (pc := 30) dX0_init_30 rfl ?_
  refine PW.new (pc := 31) dX0_init_31 (ci := 4) (a := 131) cl_X0_9 in_4 iz_4 (by decide) (eqL (show mN M + 0 = 128 by omega) (by decide +kernel)) (ltn (show mN M + 0 = 128 by omega) (by decide)) (eqn (show mN M + 0 = 128 by omega) rfl) ?_
  refine PW.dupR (pc := 34) dX0_init_34 ?_
  refine PW.ini (m' := mX4_init) (pc := 35) dX0_init_35 lm_X0_21 me_X4_init mj_X4_init rfl rfl (As := []) (a := 131) (st := [.ref 131, .int 6, .ref 76]) rfl (Nat.le_of_ble_eq_true rfl) (Nat.le_of_ble_eq_true rfl) (len_ (show mN M + 1 = 129 by omega) (by decide)) (by decide) (PW.deep (by decide) (c_X4_131 (show mN M + 1 = 129 by omega))) ?_
  rintro _ _ ⟨rfl, rfl⟩
  exact h
def u_X0_75_13 (M : pm) : pm := sR M 76 6 131
theorem un_X0_75_13 (M : pm) : mN (u_X0_75_13 M) = mN M + 0 := rfl
theorem uk_X0_75_13 (M : pm) (hn : mN M = 137) : mR (u_X0_75_13 M) 75 0 = mR M 75 0 := by
  unfold u_X0_75_13
  simp [mR_sI, mR_sR, mR_sJ, mR_nw, mN_nw, mN_sI, mN_sR, mN_sJ, hn]
set_option maxRecDepth 4000 in
theorem k_X0_75_13 {M : pm} {Q : Option Value → pm → Prop} (hn : mN M = 137)  (h : PW mX0_init 11 254 20 [.ref 75, .int 7] [] (u_X0_75_13 M) Q) : PW mX0_init 11 254 38 [.ref 75, .int 6] [.ref 131, .int 6, .ref 76] M Q := by
  refine PW.aastS (pc := 38) dX0_init_38 (arn (show mN M + 0 = 137 by omega) s_76 (by decide)) (vpl n_76 (vp_c (by decide))) (obn (show mN M + 0 = 137 by omega) s_131 (by decide) (by decide)) ?_
  refine PW.iinc (pc := 39) dX0_init_39 (v := 7) (ls' := [.ref 75, .int 7]) rfl (by decide) (by decide) rfl rfl ?_
  refine PW.goto (pc := 42) dX0_init_42 (t := 20) (by decide) ?_
  exact h
def u_X0_75_14 (M : pm) : pm := i_X4_140 (nw M)
theorem un_X0_75_14 (M : pm) : mN (u_X0_75_14 M) = mN M + 9 := by
  unfold u_X0_75_14
  rw [in_X4_140]
  show mN M + 1 + 8 = mN M + 9
  omega
theorem uk_X0_75_14 (M : pm) (hn : mN M = 137) : mR (u_X0_75_14 M) 75 0 = mR M 75 0 := by
  unfold u_X0_75_14 i_X4_140 u_X4_140_0
  simp [mR_sI, mR_sR, mR_sJ, mR_nw, mN_nw, mN_sI, mN_sR, mN_sJ, hn]
set_option maxRecDepth 4000 in
theorem k_X0_75_14 {M : pm} {Q : Option Value → pm → Prop} (hn : mN M = 137) (hr75_0 : mR M 75 0 = 76) (h : PW mX0_init 11 254 38 [.ref 75, .int 7] [.ref 140, .int 7, .ref 76] (u_X0_75_14 M) Q) : PW mX0_init 11 254 20 [.ref 75, .int 7] [] M Q := by
  refine PW.iload_n (pc := 20) dX0_init_20 rfl ?_
  refine PW.bipush (pc := 21) dX0_init_21 (v := 20) (by decide) ?_
  refine PW.icmp_ge (pc := 23) dX0_init_23 (t := 45) (by decide) (fun hc => ?_) (fun hc => ?_)
  · exact absurd hc (by decide)
  refine PW.aload_n (pc := 26) dX0_init_26 rfl ?_
  refine PW.getR (pc := 27) dX0_init_27 (r := 76) lf_X0_11 (obn (show mN M + 0 = 137 by omega) s_75 (by decide) (by decide)) fx_0_0 hr75_0 (by decide) ?_
  refine PW.iload_n (pc := 30) dX0_init_30 rfl ?_
  refine PW.new (pc := 31) dX0_init_31 (ci := 4) (a := 140) cl_X0_9 in_4 iz_4 (by decide) (eqL (show mN M + 0 = 137 by omega) (by decide +kernel)) (ltn (show mN M + 0 = 137 by omega) (by decide)) (eqn (show mN M + 0 = 137 by omega) rfl) ?_
  refine PW.dupR (pc := 34) dX0_init_34 ?_
  refine PW.ini (m' := mX4_init) (pc := 35) dX0_init_35 lm_X0_21 me_X4_init mj_X4_init rfl rfl (As := []) (a := 140) (st := [.ref 140, .int 7, .ref 76]) rfl (Nat.le_of_ble_eq_true rfl) (Nat.le_of_ble_eq_true rfl) (len_ (show mN M + 1 = 138 by omega) (by decide)) (by decide) (PW.deep (by decide) (c_X4_140 (show mN M + 1 = 138 by omega))) ?_
  rintro _ _ ⟨rfl, rfl⟩
  exact h
def u_X0_75_15 (M : pm) : pm := sR M 76 7 140
theorem un_X0_75_15 (M : pm) : mN (u_X0_75_15 M) = mN M + 0 := rfl
theorem uk_X0_75_15 (M : pm) (hn : mN M = 146) : mR (u_X0_75_15 M) 75 0 = mR M 75 0 := by
  unfold u_X0_75_15
  simp [mR_sI, mR_sR, mR_sJ, mR_nw, mN_nw, mN_sI, mN_sR, mN_sJ, hn]
set_option maxRecDepth 4000 in
theorem k_X0_75_15 {M : pm} {Q : Option Value → pm → Prop} (hn : mN M = 146)  (h : PW mX0_init 11 254 20 [.ref 75, .int 8] [] (u_X0_75_15 M) Q) : PW mX0_init 11 254 38 [.ref 75, .int 7] [.ref 140, .int 7, .ref 76] M Q := by
  refine PW.aastS (pc := 38) dX0_init_38 (arn (show mN M + 0 = 146 by omega) s_76 (by decide)) (vpl n_76 (vp_c (by decide))) (obn (show mN M + 0 = 146 by omega) s_140 (by decide) (by decide)) ?_
  refine PW.iinc (pc := 39) dX0_init_39 (v := 8) (ls' := [.ref 75, .int 8]) rfl (by decide) (by decide) rfl rfl ?_
  refine PW.goto (pc := 42) dX0_init_42 (t := 20) (by decide) ?_
  exact h
def u_X0_75_16 (M : pm) : pm := i_X4_149 (nw M)
theorem un_X0_75_16 (M : pm) : mN (u_X0_75_16 M) = mN M + 9 := by
  unfold u_X0_75_16
  rw [in_X4_149]
  show mN M + 1 + 8 = mN M + 9
  omega
theorem uk_X0_75_16 (M : pm) (hn : mN M = 146) : mR (u_X0_75_16 M) 75 0 = mR M 75 0 := by
  unfold u_X0_75_16 i_X4_149 u_X4_149_0
  simp [mR_sI, mR_sR, mR_sJ, mR_nw, mN_nw, mN_sI, mN_sR, mN_sJ, hn]
set_option maxRecDepth 4000 in
theorem k_X0_75_16 {M : pm} {Q : Option Value → pm → Prop} (hn : mN M = 146) (hr75_0 : mR M 75 0 = 76) (h : PW mX0_init 11 254 38 [.ref 75, .int 8] [.ref 149, .int 8, .ref 76] (u_X0_75_16 M) Q) : PW mX0_init 11 254 20 [.ref 75, .int 8] [] M Q := by
  refine PW.iload_n (pc := 20) dX0_init_20 rfl ?_
  refine PW.bipush (pc := 21) dX0_init_21 (v := 20) (by decide) ?_
  refine PW.icmp_ge (pc := 23) dX0_init_23 (t := 45) (by decide) (fun hc => ?_) (fun hc => ?_)
  · exact absurd hc (by decide)
  refine PW.aload_n (pc := 26) dX0_init_26 rfl ?_
  refine PW.getR (pc := 27) dX0_init_27 (r := 76) lf_X0_11 (obn (show mN M + 0 = 146 by omega) s_75 (by decide) (by decide)) fx_0_0 hr75_0 (by decide) ?_
  refine PW.iload_n (pc := 30) dX0_init_30 rfl ?_
  refine PW.new (pc := 31) dX0_init_31 (ci := 4) (a := 149) cl_X0_9 in_4 iz_4 (by decide) (eqL (show mN M + 0 = 146 by omega) (by decide +kernel)) (ltn (show mN M + 0 = 146 by omega) (by decide)) (eqn (show mN M + 0 = 146 by omega) rfl) ?_
  refine PW.dupR (pc := 34) dX0_init_34 ?_
  refine PW.ini (m' := mX4_init) (pc := 35) dX0_init_35 lm_X0_21 me_X4_init mj_X4_init rfl rfl (As := []) (a := 149) (st := [.ref 149, .int 8, .ref 76]) rfl (Nat.le_of_ble_eq_true rfl) (Nat.le_of_ble_eq_true rfl) (len_ (show mN M + 1 = 147 by omega) (by decide)) (by decide) (PW.deep (by decide) (c_X4_149 (show mN M + 1 = 147 by omega))) ?_
  rintro _ _ ⟨rfl, rfl⟩
  exact h
def u_X0_75_17 (M : pm) : pm := sR M 76 8 149
theorem un_X0_75_17 (M : pm) : mN (u_X0_75_17 M) = mN M + 0 := rfl
theorem uk_X0_75_17 (M : pm) (hn : mN M = 155) : mR (u_X0_75_17 M) 75 0 = mR M 75 0 := by
  unfold u_X0_75_17
  simp [mR_sI, mR_sR, mR_sJ, mR_nw, mN_nw, mN_sI, mN_sR, mN_sJ, hn]
set_option maxRecDepth 4000 in
theorem k_X0_75_17 {M : pm} {Q : Option Value → pm → Prop} (hn : mN M = 155)  (h : PW mX0_init 11 254 20 [.ref 75, .int 9] [] (u_X0_75_17 M) Q) : PW mX0_init 11 254 38 [.ref 75, .int 8] [.ref 149, .int 8, .ref 76] M Q := by
  refine PW.aastS (pc := 38) dX0_init_38 (arn (show mN M + 0 = 155 by omega) s_76 (by decide)) (vpl n_76 (vp_c (by decide))) (obn (show mN M + 0 = 155 by omega) s_149 (by decide) (by decide)) ?_
  refine PW.iinc (pc := 39) dX0_init_39 (v := 9) (ls' := [.ref 75, .int 9]) rfl (by decide) (by decide) rfl rfl ?_
  refine PW.goto (pc := 42) dX0_init_42 (t := 20) (by decide) ?_
  exact h
def u_X0_75_18 (M : pm) : pm := i_X4_158 (nw M)
theorem un_X0_75_18 (M : pm) : mN (u_X0_75_18 M) = mN M + 9 := by
  unfold u_X0_75_18
  rw [in_X4_158]
  show mN M + 1 + 8 = mN M + 9
  omega
theorem uk_X0_75_18 (M : pm) (hn : mN M = 155) : mR (u_X0_75_18 M) 75 0 = mR M 75 0 := by
  unfold u_X0_75_18 i_X4_158 u_X4_158_0
  simp [mR_sI, mR_sR, mR_sJ, mR_nw, mN_nw, mN_sI, mN_sR, mN_sJ, hn]
set_option maxRecDepth 4000 in
theorem k_X0_75_18 {M : pm} {Q : Option Value → pm → Prop} (hn : mN M = 155) (hr75_0 : mR M 75 0 = 76) (h : PW mX0_init 11 254 38 [.ref 75, .int 9] [.ref 158, .int 9, .ref 76] (u_X0_75_18 M) Q) : PW mX0_init 11 254 20 [.ref 75, .int 9] [] M Q := by
  refine PW.iload_n (pc := 20) dX0_init_20 rfl ?_
  refine PW.bipush (pc := 21) dX0_init_21 (v := 20) (by decide) ?_
  refine PW.icmp_ge (pc := 23) dX0_init_23 (t := 45) (by decide) (fun hc => ?_) (fun hc => ?_)
  · exact absurd hc (by decide)
  refine PW.aload_n (pc := 26) dX0_init_26 rfl ?_
  refine PW.getR (pc := 27) dX0_init_27 (r := 76) lf_X0_11 (obn (show mN M + 0 = 155 by omega) s_75 (by decide) (by decide)) fx_0_0 hr75_0 (by decide) ?_
  refine PW.iload_n (pc := 30) dX0_init_30 rfl ?_
  refine PW.new (pc := 31) dX0_init_31 (ci := 4) (a := 158) cl_X0_9 in_4 iz_4 (by decide) (eqL (show mN M + 0 = 155 by omega) (by decide +kernel)) (ltn (show mN M + 0 = 155 by omega) (by decide)) (eqn (show mN M + 0 = 155 by omega) rfl) ?_
  refine PW.dupR (pc := 34) dX0_init_34 ?_
  refine PW.ini (m' := mX4_init) (pc := 35) dX0_init_35 lm_X0_21 me_X4_init mj_X4_init rfl rfl (As := []) (a := 158) (st := [.ref 158, .int 9, .ref 76]) rfl (Nat.le_of_ble_eq_true rfl) (Nat.le_of_ble_eq_true rfl) (len_ (show mN M + 1 = 156 by omega) (by decide)) (by decide) (PW.deep (by decide) (c_X4_158 (show mN M + 1 = 156 by omega))) ?_
  rintro _ _ ⟨rfl, rfl⟩
  exact h
def u_X0_75_19 (M : pm) : pm := sR M 76 9 158
theorem un_X0_75_19 (M : pm) : mN (u_X0_75_19 M) = mN M + 0 := rfl
theorem uk_X0_75_19 (M : pm) (hn : mN M = 164) : mR (u_X0_75_19 M) 75 0 = mR M 75 0 := by
  unfold u_X0_75_19
  simp [mR_sI, mR_sR, mR_sJ, mR_nw, mN_nw, mN_sI, mN_sR, mN_sJ, hn]
set_option maxRecDepth 4000 in
theorem k_X0_75_19 {M : pm} {Q : Option Value → pm → Prop} (hn : mN M = 164)  (h : PW mX0_init 11 254 20 [.ref 75, .int 10] [] (u_X0_75_19 M) Q) : PW mX0_init 11 254 38 [.ref 75, .int 9] [.ref 158, .int 9, .ref 76] M Q := by
  refine PW.aastS (pc := 38) dX0_init_38 (arn (show mN M + 0 = 164 by omega) s_76 (by decide)) (vpl n_76 (vp_c (by decide))) (obn (show mN M + 0 = 164 by omega) s_158 (by decide) (by decide)) ?_
  refine PW.iinc (pc := 39) dX0_init_39 (v := 10) (ls' := [.ref 75, .int 10]) rfl (by decide) (by decide) rfl rfl ?_
  refine PW.goto (pc := 42) dX0_init_42 (t := 20) (by decide) ?_
  exact h
def u_X0_75_20 (M : pm) : pm := i_X4_167 (nw M)
theorem un_X0_75_20 (M : pm) : mN (u_X0_75_20 M) = mN M + 9 := by
  unfold u_X0_75_20
  rw [in_X4_167]
  show mN M + 1 + 8 = mN M + 9
  omega
theorem uk_X0_75_20 (M : pm) (hn : mN M = 164) : mR (u_X0_75_20 M) 75 0 = mR M 75 0 := by
  unfold u_X0_75_20 i_X4_167 u_X4_167_0
  simp [mR_sI, mR_sR, mR_sJ, mR_nw, mN_nw, mN_sI, mN_sR, mN_sJ, hn]
set_option maxRecDepth 4000 in
theorem k_X0_75_20 {M : pm} {Q : Option Value → pm → Prop} (hn : mN M = 164) (hr75_0 : mR M 75 0 = 76) (h : PW mX0_init 11 254 38 [.ref 75, .int 10] [.ref 167, .int 10, .ref 76] (u_X0_75_20 M) Q) : PW mX0_init 11 254 20 [.ref 75, .int 10] [] M Q := by
  refine PW.iload_n (pc := 20) dX0_init_20 rfl ?_
  refine PW.bipush (pc := 21) dX0_init_21 (v := 20) (by decide) ?_
  refine PW.icmp_ge (pc := 23) dX0_init_23 (t := 45) (by decide) (fun hc => ?_) (fun hc => ?_)
  · exact absurd hc (by decide)
  refine PW.aload_n (pc := 26) dX0_init_26 rfl ?_
  refine PW.getR (pc := 27) dX0_init_27 (r := 76) lf_X0_11 (obn (show mN M + 0 = 164 by omega) s_75 (by decide) (by decide)) fx_0_0 hr75_0 (by decide) ?_
  refine PW.iload_n (pc := 30) dX0_init_30 rfl ?_
  refine PW.new (pc := 31) dX0_init_31 (ci := 4) (a := 167) cl_X0_9 in_4 iz_4 (by decide) (eqL (show mN M + 0 = 164 by omega) (by decide +kernel)) (ltn (show mN M + 0 = 164 by omega) (by decide)) (eqn (show mN M + 0 = 164 by omega) rfl) ?_
  refine PW.dupR (pc := 34) dX0_init_34 ?_
  refine PW.ini (m' := mX4_init) (pc := 35) dX0_init_35 lm_X0_21 me_X4_init mj_X4_init rfl rfl (As := []) (a := 167) (st := [.ref 167, .int 10, .ref 76]) rfl (Nat.le_of_ble_eq_true rfl) (Nat.le_of_ble_eq_true rfl) (len_ (show mN M + 1 = 165 by omega) (by decide)) (by decide) (PW.deep (by decide) (c_X4_167 (show mN M + 1 = 165 by omega))) ?_
  rintro _ _ ⟨rfl, rfl⟩
  exact h
def u_X0_75_21 (M : pm) : pm := sR M 76 10 167
theorem un_X0_75_21 (M : pm) : mN (u_X0_75_21 M) = mN M + 0 := rfl
theorem uk_X0_75_21 (M : pm) (hn : mN M = 173) : mR (u_X0_75_21 M) 75 0 = mR M 75 0 := by
  unfold u_X0_75_21
  simp [mR_sI, mR_sR, mR_sJ, mR_nw, mN_nw, mN_sI, mN_sR, mN_sJ, hn]
set_option maxRecDepth 4000 in
theorem k_X0_75_21 {M : pm} {Q : Option Value → pm → Prop} (hn : mN M = 173)  (h : PW mX0_init 11 254 20 [.ref 75, .int 11] [] (u_X0_75_21 M) Q) : PW mX0_init 11 254 38 [.ref 75, .int 10] [.ref 167, .int 10, .ref 76] M Q := by
  refine PW.aastS (pc := 38) dX0_init_38 (arn (show mN M + 0 = 173 by omega) s_76 (by decide)) (vpl n_76 (vp_c (by decide))) (obn (show mN M + 0 = 173 by omega) s_167 (by decide) (by decide)) ?_
  refine PW.iinc (pc := 39) dX0_init_39 (v := 11) (ls' := [.ref 75, .int 11]) rfl (by decide) (by decide) rfl rfl ?_
  refine PW.goto (pc := 42) dX0_init_42 (t := 20) (by decide) ?_
  exact h
def u_X0_75_22 (M : pm) : pm := i_X4_176 (nw M)
theorem un_X0_75_22 (M : pm) : mN (u_X0_75_22 M) = mN M + 9 := by
  unfold u_X0_75_22
  rw [in_X4_176]
  show mN M + 1 + 8 = mN M + 9
  omega
theorem uk_X0_75_22 (M : pm) (hn : mN M = 173) : mR (u_X0_75_22 M) 75 0 = mR M 75 0 := by
  unfold u_X0_75_22 i_X4_176 u_X4_176_0
  simp [mR_sI, mR_sR, mR_sJ, mR_nw, mN_nw, mN_sI, mN_sR, mN_sJ, hn]
set_option maxRecDepth 4000 in
theorem k_X0_75_22 {M : pm} {Q : Option Value → pm → Prop} (hn : mN M = 173) (hr75_0 : mR M 75 0 = 76) (h : PW mX0_init 11 254 38 [.ref 75, .int 11] [.ref 176, .int 11, .ref 76] (u_X0_75_22 M) Q) : PW mX0_init 11 254 20 [.ref 75, .int 11] [] M Q := by
  refine PW.iload_n (pc := 20) dX0_init_20 rfl ?_
  refine PW.bipush (pc := 21) dX0_init_21 (v := 20) (by decide) ?_
  refine PW.icmp_ge (pc := 23) dX0_init_23 (t := 45) (by decide) (fun hc => ?_) (fun hc => ?_)
  · exact absurd hc (by decide)
  refine PW.aload_n (pc := 26) dX0_init_26 rfl ?_
  refine PW.getR (pc := 27) dX0_init_27 (r := 76) lf_X0_11 (obn (show mN M + 0 = 173 by omega) s_75 (by decide) (by decide)) fx_0_0 hr75_0 (by decide) ?_
  refine PW.iload_n (pc := 30) dX0_init_30 rfl ?_
  refine PW.new (pc := 31) dX0_init_31 (ci := 4) (a := 176) cl_X0_9 in_4 iz_4 (by decide) (eqL (show mN M + 0 = 173 by omega) (by decide +kernel)) (ltn (show mN M + 0 = 173 by omega) (by decide)) (eqn (show mN M + 0 = 173 by omega) rfl) ?_
  refine PW.dupR (pc := 34) dX0_init_34 ?_
  refine PW.ini (m' := mX4_init) (pc := 35) dX0_init_35 lm_X0_21 me_X4_init mj_X4_init rfl rfl (As := []) (a := 176) (st := [.ref 176, .int 11, .ref 76]) rfl (Nat.le_of_ble_eq_true rfl) (Nat.le_of_ble_eq_true rfl) (len_ (show mN M + 1 = 174 by omega) (by decide)) (by decide) (PW.deep (by decide) (c_X4_176 (show mN M + 1 = 174 by omega))) ?_
  rintro _ _ ⟨rfl, rfl⟩
  exact h
def u_X0_75_23 (M : pm) : pm := sR M 76 11 176
theorem un_X0_75_23 (M : pm) : mN (u_X0_75_23 M) = mN M + 0 := rfl
theorem uk_X0_75_23 (M : pm) (hn : mN M = 182) : mR (u_X0_75_23 M) 75 0 = mR M 75 0 := by
  unfold u_X0_75_23
  simp [mR_sI, mR_sR, mR_sJ, mR_nw, mN_nw, mN_sI, mN_sR, mN_sJ, hn]
set_option maxRecDepth 4000 in
theorem k_X0_75_23 {M : pm} {Q : Option Value → pm → Prop} (hn : mN M = 182)  (h : PW mX0_init 11 254 20 [.ref 75, .int 12] [] (u_X0_75_23 M) Q) : PW mX0_init 11 254 38 [.ref 75, .int 11] [.ref 176, .int 11, .ref 76] M Q := by
  refine PW.aastS (pc := 38) dX0_init_38 (arn (show mN M + 0 = 182 by omega) s_76 (by decide)) (vpl n_76 (vp_c (by decide))) (obn (show mN M + 0 = 182 by omega) s_176 (by decide) (by decide)) ?_
  refine PW.iinc (pc := 39) dX0_init_39 (v := 12) (ls' := [.ref 75, .int 12]) rfl (by decide) (by decide) rfl rfl ?_
  refine PW.goto (pc := 42) dX0_init_42 (t := 20) (by decide) ?_
  exact h
def u_X0_75_24 (M : pm) : pm := i_X4_185 (nw M)
theorem un_X0_75_24 (M : pm) : mN (u_X0_75_24 M) = mN M + 9 := by
  unfold u_X0_75_24
  rw [in_X4_185]
  show mN M + 1 + 8 = mN M + 9
  omega
theorem uk_X0_75_24 (M : pm) (hn : mN M = 182) : mR (u_X0_75_24 M) 75 0 = mR M 75 0 := by
  unfold u_X0_75_24 i_X4_185 u_X4_185_0
  simp [mR_sI, mR_sR, mR_sJ, mR_nw, mN_nw, mN_sI, mN_sR, mN_sJ, hn]
set_option maxRecDepth 4000 in
theorem k_X0_75_24 {M : pm} {Q : Option Value → pm → Prop} (hn : mN M = 182) (hr75_0 : mR M 75 0 = 76) (h : PW mX0_init 11 254 38 [.ref 75, .int 12] [.ref 185, .int 12, .ref 76] (u_X0_75_24 M) Q) : PW mX0_init 11 254 20 [.ref 75, .int 12] [] M Q := by
  refine PW.iload_n (pc := 20) dX0_init_20 rfl ?_
  refine PW.bipush (pc := 21) dX0_init_21 (v := 20) (by decide) ?_
  refine PW.icmp_ge (pc := 23) dX0_init_23 (t := 45) (by decide) (fun hc => ?_) (fun hc => ?_)
  · exact absurd hc (by decide)
  refine PW.aload_n (pc := 26) dX0_init_26 rfl ?_
  refine PW.getR (pc := 27) dX0_init_27 (r := 76) lf_X0_11 (obn (show mN M + 0 = 182 by omega) s_75 (by decide) (by decide)) fx_0_0 hr75_0 (by decide) ?_
  refine PW.iload_n (pc := 30) dX0_init_30 rfl ?_
  refine PW.new (pc := 31) dX0_init_31 (ci := 4) (a := 185) cl_X0_9 in_4 iz_4 (by decide) (eqL (show mN M + 0 = 182 by omega) (by decide +kernel)) (ltn (show mN M + 0 = 182 by omega) (by decide)) (eqn (show mN M + 0 = 182 by omega) rfl) ?_
  refine PW.dupR (pc := 34) dX0_init_34 ?_
  refine PW.ini (m' := mX4_init) (pc := 35) dX0_init_35 lm_X0_21 me_X4_init mj_X4_init rfl rfl (As := []) (a := 185) (st := [.ref 185, .int 12, .ref 76]) rfl (Nat.le_of_ble_eq_true rfl) (Nat.le_of_ble_eq_true rfl) (len_ (show mN M + 1 = 183 by omega) (by decide)) (by decide) (PW.deep (by decide) (c_X4_185 (show mN M + 1 = 183 by omega))) ?_
  rintro _ _ ⟨rfl, rfl⟩
  exact h
def u_X0_75_25 (M : pm) : pm := sR M 76 12 185
theorem un_X0_75_25 (M : pm) : mN (u_X0_75_25 M) = mN M + 0 := rfl
theorem uk_X0_75_25 (M : pm) (hn : mN M = 191) : mR (u_X0_75_25 M) 75 0 = mR M 75 0 := by
  unfold u_X0_75_25
  simp [mR_sI, mR_sR, mR_sJ, mR_nw, mN_nw, mN_sI, mN_sR, mN_sJ, hn]
set_option maxRecDepth 4000 in
theorem k_X0_75_25 {M : pm} {Q : Option Value → pm → Prop} (hn : mN M = 191)  (h : PW mX0_init 11 254 20 [.ref 75, .int 13] [] (u_X0_75_25 M) Q) : PW mX0_init 11 254 38 [.ref 75, .int 12] [.ref 185, .int 12, .ref 76] M Q := by
  refine PW.aastS (pc := 38) dX0_init_38 (arn (show mN M + 0 = 191 by omega) s_76 (by decide)) (vpl n_76 (vp_c (by decide))) (obn (show mN M + 0 = 191 by omega) s_185 (by decide) (by decide)) ?_
  refine PW.iinc (pc := 39) dX0_init_39 (v := 13) (ls' := [.ref 75, .int 13]) rfl (by decide) (by decide) rfl rfl ?_
  refine PW.goto (pc := 42) dX0_init_42 (t := 20) (by decide) ?_
  exact h
def u_X0_75_26 (M : pm) : pm := i_X4_194 (nw M)
theorem un_X0_75_26 (M : pm) : mN (u_X0_75_26 M) = mN M + 9 := by
  unfold u_X0_75_26
  rw [in_X4_194]
  show mN M + 1 + 8 = mN M + 9
  omega
theorem uk_X0_75_26 (M : pm) (hn : mN M = 191) : mR (u_X0_75_26 M) 75 0 = mR M 75 0 := by
  unfold u_X0_75_26 i_X4_194 u_X4_194_0
  simp [mR_sI, mR_sR, mR_sJ, mR_nw, mN_nw, mN_sI, mN_sR, mN_sJ, hn]
set_option maxRecDepth 4000 in
theorem k_X0_75_26 {M : pm} {Q : Option Value → pm → Prop} (hn : mN M = 191) (hr75_0 : mR M 75 0 = 76) (h : PW mX0_init 11 254 38 [.ref 75, .int 13] [.ref 194, .int 13, .ref 76] (u_X0_75_26 M) Q) : PW mX0_init 11 254 20 [.ref 75, .int 13] [] M Q := by
  refine PW.iload_n (pc := 20) dX0_init_20 rfl ?_
  refine PW.bipush (pc := 21) dX0_init_21 (v := 20) (by decide) ?_
  refine PW.icmp_ge (pc := 23) dX0_init_23 (t := 45) (by decide) (fun hc => ?_) (fun hc => ?_)
  · exact absurd hc (by decide)
  refine PW.aload_n (pc := 26) dX0_init_26 rfl ?_
  refine PW.getR (pc := 27) dX0_init_27 (r := 76) lf_X0_11 (obn (show mN M + 0 = 191 by omega) s_75 (by decide) (by decide)) fx_0_0 hr75_0 (by decide) ?_
  refine PW.iload_n (pc := 30) dX0_init_30 rfl ?_
  refine PW.new (pc := 31) dX0_init_31 (ci := 4) (a := 194) cl_X0_9 in_4 iz_4 (by decide) (eqL (show mN M + 0 = 191 by omega) (by decide +kernel)) (ltn (show mN M + 0 = 191 by omega) (by decide)) (eqn (show mN M + 0 = 191 by omega) rfl) ?_
  refine PW.dupR (pc := 34) dX0_init_34 ?_
  refine PW.ini (m' := mX4_init) (pc := 35) dX0_init_35 lm_X0_21 me_X4_init mj_X4_init rfl rfl (As := []) (a := 194) (st := [.ref 194, .int 13, .ref 76]) rfl (Nat.le_of_ble_eq_true rfl) (Nat.le_of_ble_eq_true rfl) (len_ (show mN M + 1 = 192 by omega) (by decide)) (by decide) (PW.deep (by decide) (c_X4_194 (show mN M + 1 = 192 by omega))) ?_
  rintro _ _ ⟨rfl, rfl⟩
  exact h
def u_X0_75_27 (M : pm) : pm := sR M 76 13 194
theorem un_X0_75_27 (M : pm) : mN (u_X0_75_27 M) = mN M + 0 := rfl
theorem uk_X0_75_27 (M : pm) (hn : mN M = 200) : mR (u_X0_75_27 M) 75 0 = mR M 75 0 := by
  unfold u_X0_75_27
  simp [mR_sI, mR_sR, mR_sJ, mR_nw, mN_nw, mN_sI, mN_sR, mN_sJ, hn]
set_option maxRecDepth 4000 in
theorem k_X0_75_27 {M : pm} {Q : Option Value → pm → Prop} (hn : mN M = 200)  (h : PW mX0_init 11 254 20 [.ref 75, .int 14] [] (u_X0_75_27 M) Q) : PW mX0_init 11 254 38 [.ref 75, .int 13] [.ref 194, .int 13, .ref 76] M Q := by
  refine PW.aastS (pc := 38) dX0_init_38 (arn (show mN M + 0 = 200 by omega) s_76 (by decide)) (vpl n_76 (vp_c (by decide))) (obn (show mN M + 0 = 200 by omega) s_194 (by decide) (by decide)) ?_
  refine PW.iinc (pc := 39) dX0_init_39 (v := 14) (ls' := [.ref 75, .int 14]) rfl (by decide) (by decide) rfl rfl ?_
  refine PW.goto (pc := 42) dX0_init_42 (t := 20) (by decide) ?_
  exact h
def u_X0_75_28 (M : pm) : pm := i_X4_203 (nw M)
theorem un_X0_75_28 (M : pm) : mN (u_X0_75_28 M) = mN M + 9 := by
  unfold u_X0_75_28
  rw [in_X4_203]
  show mN M + 1 + 8 = mN M + 9
  omega
theorem uk_X0_75_28 (M : pm) (hn : mN M = 200) : mR (u_X0_75_28 M) 75 0 = mR M 75 0 := by
  unfold u_X0_75_28 i_X4_203 u_X4_203_0
  simp [mR_sI, mR_sR, mR_sJ, mR_nw, mN_nw, mN_sI, mN_sR, mN_sJ, hn]
set_option maxRecDepth 4000 in
theorem k_X0_75_28 {M : pm} {Q : Option Value → pm → Prop} (hn : mN M = 200) (hr75_0 : mR M 75 0 = 76) (h : PW mX0_init 11 254 38 [.ref 75, .int 14] [.ref 203, .int 14, .ref 76] (u_X0_75_28 M) Q) : PW mX0_init 11 254 20 [.ref 75, .int 14] [] M Q := by
  refine PW.iload_n (pc := 20) dX0_init_20 rfl ?_
  refine PW.bipush (pc := 21) dX0_init_21 (v := 20) (by decide) ?_
  refine PW.icmp_ge (pc := 23) dX0_init_23 (t := 45) (by decide) (fun hc => ?_) (fun hc => ?_)
  · exact absurd hc (by decide)
  refine PW.aload_n (pc := 26) dX0_init_26 rfl ?_
  refine PW.getR (pc := 27) dX0_init_27 (r := 76) lf_X0_11 (obn (show mN M + 0 = 200 by omega) s_75 (by decide) (by decide)) fx_0_0 hr75_0 (by decide) ?_
  refine PW.iload_n (pc := 30) dX0_init_30 rfl ?_
  refine PW.new (pc := 31) dX0_init_31 (ci := 4) (a := 203) cl_X0_9 in_4 iz_4 (by decide) (eqL (show mN M + 0 = 200 by omega) (by decide +kernel)) (ltn (show mN M + 0 = 200 by omega) (by decide)) (eqn (show mN M + 0 = 200 by omega) rfl) ?_
  refine PW.dupR (pc := 34) dX0_init_34 ?_
  refine PW.ini (m' := mX4_init) (pc := 35) dX0_init_35 lm_X0_21 me_X4_init mj_X4_init rfl rfl (As := []) (a := 203) (st := [.ref 203, .int 14, .ref 76]) rfl (Nat.le_of_ble_eq_true rfl) (Nat.le_of_ble_eq_true rfl) (len_ (show mN M + 1 = 201 by omega) (by decide)) (by decide) (PW.deep (by decide) (c_X4_203 (show mN M + 1 = 201 by omega))) ?_
  rintro _ _ ⟨rfl, rfl⟩
  exact h
def u_X0_75_29 (M : pm) : pm := sR M 76 14 203
theorem un_X0_75_29 (M : pm) : mN (u_X0_75_29 M) = mN M + 0 := rfl
theorem uk_X0_75_29 (M : pm) (hn : mN M = 209) : mR (u_X0_75_29 M) 75 0 = mR M 75 0 := by
  unfold u_X0_75_29
  simp [mR_sI, mR_sR, mR_sJ, mR_nw, mN_nw, mN_sI, mN_sR, mN_sJ, hn]
set_option maxRecDepth 4000 in
theorem k_X0_75_29 {M : pm} {Q : Option Value → pm → Prop} (hn : mN M = 209)  (h : PW mX0_init 11 254 20 [.ref 75, .int 15] [] (u_X0_75_29 M) Q) : PW mX0_init 11 254 38 [.ref 75, .int 14] [.ref 203, .int 14, .ref 76] M Q := by
  refine PW.aastS (pc := 38) dX0_init_38 (arn (show mN M + 0 = 209 by omega) s_76 (by decide)) (vpl n_76 (vp_c (by decide))) (obn (show mN M + 0 = 209 by omega) s_203 (by decide) (by decide)) ?_
  refine PW.iinc (pc := 39) dX0_init_39 (v := 15) (ls' := [.ref 75, .int 15]) rfl (by decide) (by decide) rfl rfl ?_
  refine PW.goto (pc := 42) dX0_init_42 (t := 20) (by decide) ?_
  exact h
def u_X0_75_30 (M : pm) : pm := i_X4_212 (nw M)
theorem un_X0_75_30 (M : pm) : mN (u_X0_75_30 M) = mN M + 9 := by
  unfold u_X0_75_30
  rw [in_X4_212]
  show mN M + 1 + 8 = mN M + 9
  omega
theorem uk_X0_75_30 (M : pm) (hn : mN M = 209) : mR (u_X0_75_30 M) 75 0 = mR M 75 0 := by
  unfold u_X0_75_30 i_X4_212 u_X4_212_0
  simp [mR_sI, mR_sR, mR_sJ, mR_nw, mN_nw, mN_sI, mN_sR, mN_sJ, hn]
set_option maxRecDepth 4000 in
theorem k_X0_75_30 {M : pm} {Q : Option Value → pm → Prop} (hn : mN M = 209) (hr75_0 : mR M 75 0 = 76) (h : PW mX0_init 11 254 38 [.ref 75, .int 15] [.ref 212, .int 15, .ref 76] (u_X0_75_30 M) Q) : PW mX0_init 11 254 20 [.ref 75, .int 15] [] M Q := by
  refine PW.iload_n (pc := 20) dX0_init_20 rfl ?_
  refine PW.bipush (pc := 21) dX0_init_21 (v := 20) (by decide) ?_
  refine PW.icmp_ge (pc := 23) dX0_init_23 (t := 45) (by decide) (fun hc => ?_) (fun hc => ?_)
  · exact absurd hc (by decide)
  refine PW.aload_n (pc := 26) dX0_init_26 rfl ?_
  refine PW.getR (pc := 27) dX0_init_27 (r := 76) lf_X0_11 (obn (show mN M + 0 = 209 by omega) s_75 (by decide) (by decide)) fx_0_0 hr75_0 (by decide) ?_
  refine PW.iload_n (pc := 30) dX0_init_30 rfl ?_
  refine PW.new (pc := 31) dX0_init_31 (ci := 4) (a := 212) cl_X0_9 in_4 iz_4 (by decide) (eqL (show mN M + 0 = 209 by omega) (by decide +kernel)) (ltn (show mN M + 0 = 209 by omega) (by decide)) (eqn (show mN M + 0 = 209 by omega) rfl) ?_
  refine PW.dupR (pc := 34) dX0_init_34 ?_
  refine PW.ini (m' := mX4_init) (pc := 35) dX0_init_35 lm_X0_21 me_X4_init mj_X4_init rfl rfl (As := []) (a := 212) (st := [.ref 212, .int 15, .ref 76]) rfl (Nat.le_of_ble_eq_true rfl) (Nat.le_of_ble_eq_true rfl) (len_ (show mN M + 1 = 210 by omega) (by decide)) (by decide) (PW.deep (by decide) (c_X4_212 (show mN M + 1 = 210 by omega))) ?_
  rintro _ _ ⟨rfl, rfl⟩
  exact h
def u_X0_75_31 (M : pm) : pm := sR M 76 15 212
theorem un_X0_75_31 (M : pm) : mN (u_X0_75_31 M) = mN M + 0 := rfl
theorem uk_X0_75_31 (M : pm) (hn : mN M = 218) : mR (u_X0_75_31 M) 75 0 = mR M 75 0 := by
  unfold u_X0_75_31
  simp [mR_sI, mR_sR, mR_sJ, mR_nw, mN_nw, mN_sI, mN_sR, mN_sJ, hn]
set_option maxRecDepth 4000 in
theorem k_X0_75_31 {M : pm} {Q : Option Value → pm → Prop} (hn : mN M = 218)  (h : PW mX0_init 11 254 20 [.ref 75, .int 16] [] (u_X0_75_31 M) Q) : PW mX0_init 11 254 38 [.ref 75, .int 15] [.ref 212, .int 15, .ref 76] M Q := by
  refine PW.aastS (pc := 38) dX0_init_38 (arn (show mN M + 0 = 218 by omega) s_76 (by decide)) (vpl n_76 (vp_c (by decide))) (obn (show mN M + 0 = 218 by omega) s_212 (by decide) (by decide)) ?_
  refine PW.iinc (pc := 39) dX0_init_39 (v := 16) (ls' := [.ref 75, .int 16]) rfl (by decide) (by decide) rfl rfl ?_
  refine PW.goto (pc := 42) dX0_init_42 (t := 20) (by decide) ?_
  exact h
def u_X0_75_32 (M : pm) : pm := i_X4_221 (nw M)
theorem un_X0_75_32 (M : pm) : mN (u_X0_75_32 M) = mN M + 9 := by
  unfold u_X0_75_32
  rw [in_X4_221]
  show mN M + 1 + 8 = mN M + 9
  omega
theorem uk_X0_75_32 (M : pm) (hn : mN M = 218) : mR (u_X0_75_32 M) 75 0 = mR M 75 0 := by
  unfold u_X0_75_32 i_X4_221 u_X4_221_0
  simp [mR_sI, mR_sR, mR_sJ, mR_nw, mN_nw, mN_sI, mN_sR, mN_sJ, hn]
set_option maxRecDepth 4000 in
theorem k_X0_75_32 {M : pm} {Q : Option Value → pm → Prop} (hn : mN M = 218) (hr75_0 : mR M 75 0 = 76) (h : PW mX0_init 11 254 38 [.ref 75, .int 16] [.ref 221, .int 16, .ref 76] (u_X0_75_32 M) Q) : PW mX0_init 11 254 20 [.ref 75, .int 16] [] M Q := by
  refine PW.iload_n (pc := 20) dX0_init_20 rfl ?_
  refine PW.bipush (pc := 21) dX0_init_21 (v := 20) (by decide) ?_
  refine PW.icmp_ge (pc := 23) dX0_init_23 (t := 45) (by decide) (fun hc => ?_) (fun hc => ?_)
  · exact absurd hc (by decide)
  refine PW.aload_n (pc := 26) dX0_init_26 rfl ?_
  refine PW.getR (pc := 27) dX0_init_27 (r := 76) lf_X0_11 (obn (show mN M + 0 = 218 by omega) s_75 (by decide) (by decide)) fx_0_0 hr75_0 (by decide) ?_
  refine PW.iload_n (pc := 30) dX0_init_30 rfl ?_
  refine PW.new (pc := 31) dX0_init_31 (ci := 4) (a := 221) cl_X0_9 in_4 iz_4 (by decide) (eqL (show mN M + 0 = 218 by omega) (by decide +kernel)) (ltn (show mN M + 0 = 218 by omega) (by decide)) (eqn (show mN M + 0 = 218 by omega) rfl) ?_
  refine PW.dupR (pc := 34) dX0_init_34 ?_
  refine PW.ini (m' := mX4_init) (pc := 35) dX0_init_35 lm_X0_21 me_X4_init mj_X4_init rfl rfl (As := []) (a := 221) (st := [.ref 221, .int 16, .ref 76]) rfl (Nat.le_of_ble_eq_true rfl) (Nat.le_of_ble_eq_true rfl) (len_ (show mN M + 1 = 219 by omega) (by decide)) (by decide) (PW.deep (by decide) (c_X4_221 (show mN M + 1 = 219 by omega))) ?_
  rintro _ _ ⟨rfl, rfl⟩
  exact h
def u_X0_75_33 (M : pm) : pm := sR M 76 16 221
theorem un_X0_75_33 (M : pm) : mN (u_X0_75_33 M) = mN M + 0 := rfl
theorem uk_X0_75_33 (M : pm) (hn : mN M = 227) : mR (u_X0_75_33 M) 75 0 = mR M 75 0 := by
  unfold u_X0_75_33
  simp [mR_sI, mR_sR, mR_sJ, mR_nw, mN_nw, mN_sI, mN_sR, mN_sJ, hn]
set_option maxRecDepth 4000 in
theorem k_X0_75_33 {M : pm} {Q : Option Value → pm → Prop} (hn : mN M = 227)  (h : PW mX0_init 11 254 20 [.ref 75, .int 17] [] (u_X0_75_33 M) Q) : PW mX0_init 11 254 38 [.ref 75, .int 16] [.ref 221, .int 16, .ref 76] M Q := by
  refine PW.aastS (pc := 38) dX0_init_38 (arn (show mN M + 0 = 227 by omega) s_76 (by decide)) (vpl n_76 (vp_c (by decide))) (obn (show mN M + 0 = 227 by omega) s_221 (by decide) (by decide)) ?_
  refine PW.iinc (pc := 39) dX0_init_39 (v := 17) (ls' := [.ref 75, .int 17]) rfl (by decide) (by decide) rfl rfl ?_
  refine PW.goto (pc := 42) dX0_init_42 (t := 20) (by decide) ?_
  exact h
def u_X0_75_34 (M : pm) : pm := i_X4_230 (nw M)
theorem un_X0_75_34 (M : pm) : mN (u_X0_75_34 M) = mN M + 9 := by
  unfold u_X0_75_34
  rw [in_X4_230]
  show mN M + 1 + 8 = mN M + 9
  omega
theorem uk_X0_75_34 (M : pm) (hn : mN M = 227) : mR (u_X0_75_34 M) 75 0 = mR M 75 0 := by
  unfold u_X0_75_34 i_X4_230 u_X4_230_0
  simp [mR_sI, mR_sR, mR_sJ, mR_nw, mN_nw, mN_sI, mN_sR, mN_sJ, hn]
set_option maxRecDepth 4000 in
theorem k_X0_75_34 {M : pm} {Q : Option Value → pm → Prop} (hn : mN M = 227) (hr75_0 : mR M 75 0 = 76) (h : PW mX0_init 11 254 38 [.ref 75, .int 17] [.ref 230, .int 17, .ref 76] (u_X0_75_34 M) Q) : PW mX0_init 11 254 20 [.ref 75, .int 17] [] M Q := by
  refine PW.iload_n (pc := 20) dX0_init_20 rfl ?_
  refine PW.bipush (pc := 21) dX0_init_21 (v := 20) (by decide) ?_
  refine PW.icmp_ge (pc := 23) dX0_init_23 (t := 45) (by decide) (fun hc => ?_) (fun hc => ?_)
  · exact absurd hc (by decide)
  refine PW.aload_n (pc := 26) dX0_init_26 rfl ?_
  refine PW.getR (pc := 27) dX0_init_27 (r := 76) lf_X0_11 (obn (show mN M + 0 = 227 by omega) s_75 (by decide) (by decide)) fx_0_0 hr75_0 (by decide) ?_
  refine PW.iload_n (pc := 30) dX0_init_30 rfl ?_
  refine PW.new (pc := 31) dX0_init_31 (ci := 4) (a := 230) cl_X0_9 in_4 iz_4 (by decide) (eqL (show mN M + 0 = 227 by omega) (by decide +kernel)) (ltn (show mN M + 0 = 227 by omega) (by decide)) (eqn (show mN M + 0 = 227 by omega) rfl) ?_
  refine PW.dupR (pc := 34) dX0_init_34 ?_
  refine PW.ini (m' := mX4_init) (pc := 35) dX0_init_35 lm_X0_21 me_X4_init mj_X4_init rfl rfl (As := []) (a := 230) (st := [.ref 230, .int 17, .ref 76]) rfl (Nat.le_of_ble_eq_true rfl) (Nat.le_of_ble_eq_true rfl) (len_ (show mN M + 1 = 228 by omega) (by decide)) (by decide) (PW.deep (by decide) (c_X4_230 (show mN M + 1 = 228 by omega))) ?_
  rintro _ _ ⟨rfl, rfl⟩
  exact h
def u_X0_75_35 (M : pm) : pm := sR M 76 17 230
theorem un_X0_75_35 (M : pm) : mN (u_X0_75_35 M) = mN M + 0 := rfl
theorem uk_X0_75_35 (M : pm) (hn : mN M = 236) : mR (u_X0_75_35 M) 75 0 = mR M 75 0 := by
  unfold u_X0_75_35
  simp [mR_sI, mR_sR, mR_sJ, mR_nw, mN_nw, mN_sI, mN_sR, mN_sJ, hn]
set_option maxRecDepth 4000 in
theorem k_X0_75_35 {M : pm} {Q : Option Value → pm → Prop} (hn : mN M = 236)  (h : PW mX0_init 11 254 20 [.ref 75, .int 18] [] (u_X0_75_35 M) Q) : PW mX0_init 11 254 38 [.ref 75, .int 17] [.ref 230, .int 17, .ref 76] M Q := by
  refine PW.aastS (pc := 38) dX0_init_38 (arn (show mN M + 0 = 236 by omega) s_76 (by decide)) (vpl n_76 (vp_c (by decide))) (obn (show mN M + 0 = 236 by omega) s_230 (by decide) (by decide)) ?_
  refine PW.iinc (pc := 39) dX0_init_39 (v := 18) (ls' := [.ref 75, .int 18]) rfl (by decide) (by decide) rfl rfl ?_
  refine PW.goto (pc := 42) dX0_init_42 (t := 20) (by decide) ?_
  exact h
def u_X0_75_36 (M : pm) : pm := i_X4_239 (nw M)
theorem un_X0_75_36 (M : pm) : mN (u_X0_75_36 M) = mN M + 9 := by
  unfold u_X0_75_36
  rw [in_X4_239]
  show mN M + 1 + 8 = mN M + 9
  omega
theorem uk_X0_75_36 (M : pm) (hn : mN M = 236) : mR (u_X0_75_36 M) 75 0 = mR M 75 0 := by
  unfold u_X0_75_36 i_X4_239 u_X4_239_0
  simp [mR_sI, mR_sR, mR_sJ, mR_nw, mN_nw, mN_sI, mN_sR, mN_sJ, hn]
set_option maxRecDepth 4000 in
theorem k_X0_75_36 {M : pm} {Q : Option Value → pm → Prop} (hn : mN M = 236) (hr75_0 : mR M 75 0 = 76) (h : PW mX0_init 11 254 38 [.ref 75, .int 18] [.ref 239, .int 18, .ref 76] (u_X0_75_36 M) Q) : PW mX0_init 11 254 20 [.ref 75, .int 18] [] M Q := by
  refine PW.iload_n (pc := 20) dX0_init_20 rfl ?_
  refine PW.bipush (pc := 21) dX0_init_21 (v := 20) (by decide) ?_
  refine PW.icmp_ge (pc := 23) dX0_init_23 (t := 45) (by decide) (fun hc => ?_) (fun hc => ?_)
  · exact absurd hc (by decide)
  refine PW.aload_n (pc := 26) dX0_init_26 rfl ?_
  refine PW.getR (pc := 27) dX0_init_27 (r := 76) lf_X0_11 (obn (show mN M + 0 = 236 by omega) s_75 (by decide) (by decide)) fx_0_0 hr75_0 (by decide) ?_
  refine PW.iload_n (pc := 30) dX0_init_30 rfl ?_
  refine PW.new (pc := 31) dX0_init_31 (ci := 4) (a := 239) cl_X0_9 in_4 iz_4 (by decide) (eqL (show mN M + 0 = 236 by omega) (by decide +kernel)) (ltn (show mN M + 0 = 236 by omega) (by decide)) (eqn (show mN M + 0 = 236 by omega) rfl) ?_
  refine PW.dupR (pc := 34) dX0_init_34 ?_
  refine PW.ini (m' := mX4_init) (pc := 35) dX0_init_35 lm_X0_21 me_X4_init mj_X4_init rfl rfl (As := []) (a := 239) (st := [.ref 239, .int 18, .ref 76]) rfl (Nat.le_of_ble_eq_true rfl) (Nat.le_of_ble_eq_true rfl) (len_ (show mN M + 1 = 237 by omega) (by decide)) (by decide) (PW.deep (by decide) (c_X4_239 (show mN M + 1 = 237 by omega))) ?_
  rintro _ _ ⟨rfl, rfl⟩
  exact h
def u_X0_75_37 (M : pm) : pm := sR M 76 18 239
theorem un_X0_75_37 (M : pm) : mN (u_X0_75_37 M) = mN M + 0 := rfl
theorem uk_X0_75_37 (M : pm) (hn : mN M = 245) : mR (u_X0_75_37 M) 75 0 = mR M 75 0 := by
  unfold u_X0_75_37
  simp [mR_sI, mR_sR, mR_sJ, mR_nw, mN_nw, mN_sI, mN_sR, mN_sJ, hn]
set_option maxRecDepth 4000 in
theorem k_X0_75_37 {M : pm} {Q : Option Value → pm → Prop} (hn : mN M = 245)  (h : PW mX0_init 11 254 20 [.ref 75, .int 19] [] (u_X0_75_37 M) Q) : PW mX0_init 11 254 38 [.ref 75, .int 18] [.ref 239, .int 18, .ref 76] M Q := by
  refine PW.aastS (pc := 38) dX0_init_38 (arn (show mN M + 0 = 245 by omega) s_76 (by decide)) (vpl n_76 (vp_c (by decide))) (obn (show mN M + 0 = 245 by omega) s_239 (by decide) (by decide)) ?_
  refine PW.iinc (pc := 39) dX0_init_39 (v := 19) (ls' := [.ref 75, .int 19]) rfl (by decide) (by decide) rfl rfl ?_
  refine PW.goto (pc := 42) dX0_init_42 (t := 20) (by decide) ?_
  exact h
def u_X0_75_38 (M : pm) : pm := i_X4_248 (nw M)
theorem un_X0_75_38 (M : pm) : mN (u_X0_75_38 M) = mN M + 9 := by
  unfold u_X0_75_38
  rw [in_X4_248]
  show mN M + 1 + 8 = mN M + 9
  omega
theorem uk_X0_75_38 (M : pm) (hn : mN M = 245) : mR (u_X0_75_38 M) 75 0 = mR M 75 0 := by
  unfold u_X0_75_38 i_X4_248 u_X4_248_0
  simp [mR_sI, mR_sR, mR_sJ, mR_nw, mN_nw, mN_sI, mN_sR, mN_sJ, hn]
set_option maxRecDepth 4000 in
theorem k_X0_75_38 {M : pm} {Q : Option Value → pm → Prop} (hn : mN M = 245) (hr75_0 : mR M 75 0 = 76) (h : PW mX0_init 11 254 38 [.ref 75, .int 19] [.ref 248, .int 19, .ref 76] (u_X0_75_38 M) Q) : PW mX0_init 11 254 20 [.ref 75, .int 19] [] M Q := by
  refine PW.iload_n (pc := 20) dX0_init_20 rfl ?_
  refine PW.bipush (pc := 21) dX0_init_21 (v := 20) (by decide) ?_
  refine PW.icmp_ge (pc := 23) dX0_init_23 (t := 45) (by decide) (fun hc => ?_) (fun hc => ?_)
  · exact absurd hc (by decide)
  refine PW.aload_n (pc := 26) dX0_init_26 rfl ?_
  refine PW.getR (pc := 27) dX0_init_27 (r := 76) lf_X0_11 (obn (show mN M + 0 = 245 by omega) s_75 (by decide) (by decide)) fx_0_0 hr75_0 (by decide) ?_
  refine PW.iload_n (pc := 30) dX0_init_30 rfl ?_
  refine PW.new (pc := 31) dX0_init_31 (ci := 4) (a := 248) cl_X0_9 in_4 iz_4 (by decide) (eqL (show mN M + 0 = 245 by omega) (by decide +kernel)) (ltn (show mN M + 0 = 245 by omega) (by decide)) (eqn (show mN M + 0 = 245 by omega) rfl) ?_
  refine PW.dupR (pc := 34) dX0_init_34 ?_
  refine PW.ini (m' := mX4_init) (pc := 35) dX0_init_35 lm_X0_21 me_X4_init mj_X4_init rfl rfl (As := []) (a := 248) (st := [.ref 248, .int 19, .ref 76]) rfl (Nat.le_of_ble_eq_true rfl) (Nat.le_of_ble_eq_true rfl) (len_ (show mN M + 1 = 246 by omega) (by decide)) (by decide) (PW.deep (by decide) (c_X4_248 (show mN M + 1 = 246 by omega))) ?_
  rintro _ _ ⟨rfl, rfl⟩
  exact h
def u_X0_75_39 (M : pm) : pm := sR M 76 19 248
theorem un_X0_75_39 (M : pm) : mN (u_X0_75_39 M) = mN M + 0 := rfl
theorem uk_X0_75_39 (M : pm) (hn : mN M = 254) : mR (u_X0_75_39 M) 75 0 = mR M 75 0 := by
  unfold u_X0_75_39
  simp [mR_sI, mR_sR, mR_sJ, mR_nw, mN_nw, mN_sI, mN_sR, mN_sJ, hn]
set_option maxRecDepth 4000 in
theorem k_X0_75_39 {M : pm} {Q : Option Value → pm → Prop} (hn : mN M = 254)  (h : PW mX0_init 11 254 20 [.ref 75, .int 20] [] (u_X0_75_39 M) Q) : PW mX0_init 11 254 38 [.ref 75, .int 19] [.ref 248, .int 19, .ref 76] M Q := by
  refine PW.aastS (pc := 38) dX0_init_38 (arn (show mN M + 0 = 254 by omega) s_76 (by decide)) (vpl n_76 (vp_c (by decide))) (obn (show mN M + 0 = 254 by omega) s_248 (by decide) (by decide)) ?_
  refine PW.iinc (pc := 39) dX0_init_39 (v := 20) (ls' := [.ref 75, .int 20]) rfl (by decide) (by decide) rfl rfl ?_
  refine PW.goto (pc := 42) dX0_init_42 (t := 20) (by decide) ?_
  exact h
def u_X0_75_40 (M : pm) : pm := M
theorem un_X0_75_40 (M : pm) : mN (u_X0_75_40 M) = mN M + 0 := rfl
theorem uk_X0_75_40 (M : pm) (hn : mN M = 254) : mR (u_X0_75_40 M) 75 0 = mR M 75 0 := by
  unfold u_X0_75_40
  simp [mR_sI, mR_sR, mR_sJ, mR_nw, mN_nw, mN_sI, mN_sR, mN_sJ, hn]
set_option maxRecDepth 4000 in
theorem k_X0_75_40 {M : pm} {Q : Option Value → pm → Prop} (hn : mN M = 254)  (h : PW mX0_init 11 254 45 [.ref 75, .int 20] [] (u_X0_75_40 M) Q) : PW mX0_init 11 254 20 [.ref 75, .int 20] [] M Q := by
  refine PW.iload_n (pc := 20) dX0_init_20 rfl ?_
  refine PW.bipush (pc := 21) dX0_init_21 (v := 20) (by decide) ?_
  refine PW.icmp_ge (pc := 23) dX0_init_23 (t := 45) (by decide) (fun hc => ?_) (fun hc => ?_)
  rotate_left
  · exact absurd (by decide) hc
  exact h
def i_X0_75 (M : pm) : pm := u_X0_75_40 (u_X0_75_39 (u_X0_75_38 (u_X0_75_37 (u_X0_75_36 (u_X0_75_35 (u_X0_75_34 (u_X0_75_33 (u_X0_75_32 (u_X0_75_31 (u_X0_75_30 (u_X0_75_29 (u_X0_75_28 (u_X0_75_27 (u_X0_75_26 (u_X0_75_25 (u_X0_75_24 (u_X0_75_23 (u_X0_75_22 (u_X0_75_21 (u_X0_75_20 (u_X0_75_19 (u_X0_75_18 (u_X0_75_17 (u_X0_75_16 (u_X0_75_15 (u_X0_75_14 (u_X0_75_13 (u_X0_75_12 (u_X0_75_11 (u_X0_75_10 (u_X0_75_9 (u_X0_75_8 (u_X0_75_7 (u_X0_75_6 (u_X0_75_5 (u_X0_75_4 (u_X0_75_3 (u_X0_75_2 (u_X0_75_1 (u_X0_75_0 M))))))))))))))))))))))))))))))))))))))))
theorem in_X0_75 (M : pm) : mN (i_X0_75 M) = mN M + 181 := by
  unfold i_X0_75
  rw [un_X0_75_40, un_X0_75_39, un_X0_75_38, un_X0_75_37, un_X0_75_36, un_X0_75_35, un_X0_75_34, un_X0_75_33, un_X0_75_32, un_X0_75_31, un_X0_75_30, un_X0_75_29, un_X0_75_28, un_X0_75_27, un_X0_75_26, un_X0_75_25, un_X0_75_24, un_X0_75_23, un_X0_75_22, un_X0_75_21, un_X0_75_20, un_X0_75_19, un_X0_75_18, un_X0_75_17, un_X0_75_16, un_X0_75_15, un_X0_75_14, un_X0_75_13, un_X0_75_12, un_X0_75_11, un_X0_75_10, un_X0_75_9, un_X0_75_8, un_X0_75_7, un_X0_75_6, un_X0_75_5, un_X0_75_4, un_X0_75_3, un_X0_75_2, un_X0_75_1, un_X0_75_0] <;> omega
theorem c_X0_75 {M : pm} (hn : mN M = 73) : PW mX0_init 11 254 0 (pfr mX0_init.2.2.1 [.ref 75]) [] M (fun r M' => r = none ∧ M' = i_X0_75 M) := by
  show PW mX0_init 11 254 0 [.ref 75, .null] [] M _
  refine k_X0_75_0 hn  ?_
  have hn1 : mN (u_X0_75_0 M) = 83 := by rw [un_X0_75_0, hn]
  have hr : mR (u_X0_75_0 M) 75 0 = 76 := by
    unfold u_X0_75_0 i_X4_77 u_X4_77_0
    simp [mR_sI, mR_sR, mR_sJ, mR_nw, mN_nw, mN_sI, mN_sR, mN_sJ, hn]
  refine k_X0_75_1 hn1  ?_
  have hn2 : mN (u_X0_75_1 (u_X0_75_0 M)) = 83 := by rw [un_X0_75_1, hn1]
  have hr : mR (u_X0_75_1 (u_X0_75_0 M)) 75 0 = 76 := by rw [uk_X0_75_1 _ hn1]; exact hr
  refine k_X0_75_2 hn2 hr ?_
  have hn3 : mN (u_X0_75_2 (u_X0_75_1 (u_X0_75_0 M))) = 92 := by rw [un_X0_75_2, hn2]
  have hr : mR (u_X0_75_2 (u_X0_75_1 (u_X0_75_0 M))) 75 0 = 76 := by rw [uk_X0_75_2 _ hn2]; exact hr
  refine k_X0_75_3 hn3  ?_
  have hn4 : mN (u_X0_75_3 (u_X0_75_2 (u_X0_75_1 (u_X0_75_0 M)))) = 92 := by rw [un_X0_75_3, hn3]
  have hr : mR (u_X0_75_3 (u_X0_75_2 (u_X0_75_1 (u_X0_75_0 M)))) 75 0 = 76 := by rw [uk_X0_75_3 _ hn3]; exact hr
  refine k_X0_75_4 hn4 hr ?_
  have hn5 : mN (u_X0_75_4 (u_X0_75_3 (u_X0_75_2 (u_X0_75_1 (u_X0_75_0 M))))) = 101 := by rw [un_X0_75_4, hn4]
  have hr : mR (u_X0_75_4 (u_X0_75_3 (u_X0_75_2 (u_X0_75_1 (u_X0_75_0 M))))) 75 0 = 76 := by rw [uk_X0_75_4 _ hn4]; exact hr
  refine k_X0_75_5 hn5  ?_
  have hn6 : mN (u_X0_75_5 (u_X0_75_4 (u_X0_75_3 (u_X0_75_2 (u_X0_75_1 (u_X0_75_0 M)))))) = 101 := by rw [un_X0_75_5, hn5]
  have hr : mR (u_X0_75_5 (u_X0_75_4 (u_X0_75_3 (u_X0_75_2 (u_X0_75_1 (u_X0_75_0 M)))))) 75 0 = 76 := by rw [uk_X0_75_5 _ hn5]; exact hr
  refine k_X0_75_6 hn6 hr ?_
  have hn7 : mN (u_X0_75_6 (u_X0_75_5 (u_X0_75_4 (u_X0_75_3 (u_X0_75_2 (u_X0_75_1 (u_X0_75_0 M))))))) = 110 := by rw [un_X0_75_6, hn6]
  have hr : mR (u_X0_75_6 (u_X0_75_5 (u_X0_75_4 (u_X0_75_3 (u_X0_75_2 (u_X0_75_1 (u_X0_75_0 M))))))) 75 0 = 76 := by rw [uk_X0_75_6 _ hn6]; exact hr
  refine k_X0_75_7 hn7  ?_
  have hn8 : mN (u_X0_75_7 (u_X0_75_6 (u_X0_75_5 (u_X0_75_4 (u_X0_75_3 (u_X0_75_2 (u_X0_75_1 (u_X0_75_0 M)))))))) = 110 := by rw [un_X0_75_7, hn7]
  have hr : mR (u_X0_75_7 (u_X0_75_6 (u_X0_75_5 (u_X0_75_4 (u_X0_75_3 (u_X0_75_2 (u_X0_75_1 (u_X0_75_0 M)))))))) 75 0 = 76 := by rw [uk_X0_75_7 _ hn7]; exact hr
  refine k_X0_75_8 hn8 hr ?_
  have hn9 : mN (u_X0_75_8 (u_X0_75_7 (u_X0_75_6 (u_X0_75_5 (u_X0_75_4 (u_X0_75_3 (u_X0_75_2 (u_X0_75_1 (u_X0_75_0 M))))))))) = 119 := by rw [un_X0_75_8, hn8]
  have hr : mR (u_X0_75_8 (u_X0_75_7 (u_X0_75_6 (u_X0_75_5 (u_X0_75_4 (u_X0_75_3 (u_X0_75_2 (u_X0_75_1 (u_X0_75_0 M))))))))) 75 0 = 76 := by rw [uk_X0_75_8 _ hn8]; exact hr
  refine k_X0_75_9 hn9  ?_
  have hn10 : mN (u_X0_75_9 (u_X0_75_8 (u_X0_75_7 (u_X0_75_6 (u_X0_75_5 (u_X0_75_4 (u_X0_75_3 (u_X0_75_2 (u_X0_75_1 (u_X0_75_0 M)))))))))) = 119 := by rw [un_X0_75_9, hn9]
  have hr : mR (u_X0_75_9 (u_X0_75_8 (u_X0_75_7 (u_X0_75_6 (u_X0_75_5 (u_X0_75_4 (u_X0_75_3 (u_X0_75_2 (u_X0_75_1 (u_X0_75_0 M)))))))))) 75 0 = 76 := by rw [uk_X0_75_9 _ hn9]; exact hr
  refine k_X0_75_10 hn10 hr ?_
  have hn11 : mN (u_X0_75_10 (u_X0_75_9 (u_X0_75_8 (u_X0_75_7 (u_X0_75_6 (u_X0_75_5 (u_X0_75_4 (u_X0_75_3 (u_X0_75_2 (u_X0_75_1 (u_X0_75_0 M))))))))))) = 128 := by rw [un_X0_75_10, hn10]
  have hr : mR (u_X0_75_10 (u_X0_75_9 (u_X0_75_8 (u_X0_75_7 (u_X0_75_6 (u_X0_75_5 (u_X0_75_4 (u_X0_75_3 (u_X0_75_2 (u_X0_75_1 (u_X0_75_0 M))))))))))) 75 0 = 76 := by rw [uk_X0_75_10 _ hn10]; exact hr
  refine k_X0_75_11 hn11  ?_
  have hn12 : mN (u_X0_75_11 (u_X0_75_10 (u_X0_75_9 (u_X0_75_8 (u_X0_75_7 (u_X0_75_6 (u_X0_75_5 (u_X0_75_4 (u_X0_75_3 (u_X0_75_2 (u_X0_75_1 (u_X0_75_0 M)))))))))))) = 128 := by rw [un_X0_75_11, hn11]
  have hr : mR (u_X0_75_11 (u_X0_75_10 (u_X0_75_9 (u_X0_75_8 (u_X0_75_7 (u_X0_75_6 (u_X0_75_5 (u_X0_75_4 (u_X0_75_3 (u_X0_75_2 (u_X0_75_1 (u_X0_75_0 M)))))))))))) 75 0 = 76 := by rw [uk_X0_75_11 _ hn11]; exact hr
  refine k_X0_75_12 hn12 hr ?_
  have hn13 : mN (u_X0_75_12 (u_X0_75_11 (u_X0_75_10 (u_X0_75_9 (u_X0_75_8 (u_X0_75_7 (u_X0_75_6 (u_X0_75_5 (u_X0_75_4 (u_X0_75_3 (u_X0_75_2 (u_X0_75_1 (u_X0_75_0 M))))))))))))) = 137 := by rw [un_X0_75_12, hn12]
  have hr : mR (u_X0_75_12 (u_X0_75_11 (u_X0_75_10 (u_X0_75_9 (u_X0_75_8 (u_X0_75_7 (u_X0_75_6 (u_X0_75_5 (u_X0_75_4 (u_X0_75_3 (u_X0_75_2 (u_X0_75_1 (u_X0_75_0 M))))))))))))) 75 0 = 76 := by rw [uk_X0_75_12 _ hn12]; exact hr
  refine k_X0_75_13 hn13  ?_
  have hn14 : mN (u_X0_75_13 (u_X0_75_12 (u_X0_75_11 (u_X0_75_10 (u_X0_75_9 (u_X0_75_8 (u_X0_75_7 (u_X0_75_6 (u_X0_75_5 (u_X0_75_4 (u_X0_75_3 (u_X0_75_2 (u_X0_75_1 (u_X0_75_0 M)))))))))))))) = 137 := by rw [un_X0_75_13, hn13]
  have hr : mR (u_X0_75_13 (u_X0_75_12 (u_X0_75_11 (u_X0_75_10 (u_X0_75_9 (u_X0_75_8 (u_X0_75_7 (u_X0_75_6 (u_X0_75_5 (u_X0_75_4 (u_X0_75_3 (u_X0_75_2 (u_X0_75_1 (u_X0_75_0 M)))))))))))))) 75 0 = 76 := by rw [uk_X0_75_13 _ hn13]; exact hr
  refine k_X0_75_14 hn14 hr ?_
  have hn15 : mN (u_X0_75_14 (u_X0_75_13 (u_X0_75_12 (u_X0_75_11 (u_X0_75_10 (u_X0_75_9 (u_X0_75_8 (u_X0_75_7 (u_X0_75_6 (u_X0_75_5 (u_X0_75_4 (u_X0_75_3 (u_X0_75_2 (u_X0_75_1 (u_X0_75_0 M))))))))))))))) = 146 := by rw [un_X0_75_14, hn14]
  have hr : mR (u_X0_75_14 (u_X0_75_13 (u_X0_75_12 (u_X0_75_11 (u_X0_75_10 (u_X0_75_9 (u_X0_75_8 (u_X0_75_7 (u_X0_75_6 (u_X0_75_5 (u_X0_75_4 (u_X0_75_3 (u_X0_75_2 (u_X0_75_1 (u_X0_75_0 M))))))))))))))) 75 0 = 76 := by rw [uk_X0_75_14 _ hn14]; exact hr
  refine k_X0_75_15 hn15  ?_
  have hn16 : mN (u_X0_75_15 (u_X0_75_14 (u_X0_75_13 (u_X0_75_12 (u_X0_75_11 (u_X0_75_10 (u_X0_75_9 (u_X0_75_8 (u_X0_75_7 (u_X0_75_6 (u_X0_75_5 (u_X0_75_4 (u_X0_75_3 (u_X0_75_2 (u_X0_75_1 (u_X0_75_0 M)))))))))))))))) = 146 := by rw [un_X0_75_15, hn15]
  have hr : mR (u_X0_75_15 (u_X0_75_14 (u_X0_75_13 (u_X0_75_12 (u_X0_75_11 (u_X0_75_10 (u_X0_75_9 (u_X0_75_8 (u_X0_75_7 (u_X0_75_6 (u_X0_75_5 (u_X0_75_4 (u_X0_75_3 (u_X0_75_2 (u_X0_75_1 (u_X0_75_0 M)))))))))))))))) 75 0 = 76 := by rw [uk_X0_75_15 _ hn15]; exact hr
  refine k_X0_75_16 hn16 hr ?_
  have hn17 : mN (u_X0_75_16 (u_X0_75_15 (u_X0_75_14 (u_X0_75_13 (u_X0_75_12 (u_X0_75_11 (u_X0_75_10 (u_X0_75_9 (u_X0_75_8 (u_X0_75_7 (u_X0_75_6 (u_X0_75_5 (u_X0_75_4 (u_X0_75_3 (u_X0_75_2 (u_X0_75_1 (u_X0_75_0 M))))))))))))))))) = 155 := by rw [un_X0_75_16, hn16]
  have hr : mR (u_X0_75_16 (u_X0_75_15 (u_X0_75_14 (u_X0_75_13 (u_X0_75_12 (u_X0_75_11 (u_X0_75_10 (u_X0_75_9 (u_X0_75_8 (u_X0_75_7 (u_X0_75_6 (u_X0_75_5 (u_X0_75_4 (u_X0_75_3 (u_X0_75_2 (u_X0_75_1 (u_X0_75_0 M))))))))))))))))) 75 0 = 76 := by rw [uk_X0_75_16 _ hn16]; exact hr
  refine k_X0_75_17 hn17  ?_
  have hn18 : mN (u_X0_75_17 (u_X0_75_16 (u_X0_75_15 (u_X0_75_14 (u_X0_75_13 (u_X0_75_12 (u_X0_75_11 (u_X0_75_10 (u_X0_75_9 (u_X0_75_8 (u_X0_75_7 (u_X0_75_6 (u_X0_75_5 (u_X0_75_4 (u_X0_75_3 (u_X0_75_2 (u_X0_75_1 (u_X0_75_0 M)))))))))))))))))) = 155 := by rw [un_X0_75_17, hn17]
  have hr : mR (u_X0_75_17 (u_X0_75_16 (u_X0_75_15 (u_X0_75_14 (u_X0_75_13 (u_X0_75_12 (u_X0_75_11 (u_X0_75_10 (u_X0_75_9 (u_X0_75_8 (u_X0_75_7 (u_X0_75_6 (u_X0_75_5 (u_X0_75_4 (u_X0_75_3 (u_X0_75_2 (u_X0_75_1 (u_X0_75_0 M)))))))))))))))))) 75 0 = 76 := by rw [uk_X0_75_17 _ hn17]; exact hr
  refine k_X0_75_18 hn18 hr ?_
  have hn19 : mN (u_X0_75_18 (u_X0_75_17 (u_X0_75_16 (u_X0_75_15 (u_X0_75_14 (u_X0_75_13 (u_X0_75_12 (u_X0_75_11 (u_X0_75_10 (u_X0_75_9 (u_X0_75_8 (u_X0_75_7 (u_X0_75_6 (u_X0_75_5 (u_X0_75_4 (u_X0_75_3 (u_X0_75_2 (u_X0_75_1 (u_X0_75_0 M))))))))))))))))))) = 164 := by rw [un_X0_75_18, hn18]
  have hr : mR (u_X0_75_18 (u_X0_75_17 (u_X0_75_16 (u_X0_75_15 (u_X0_75_14 (u_X0_75_13 (u_X0_75_12 (u_X0_75_11 (u_X0_75_10 (u_X0_75_9 (u_X0_75_8 (u_X0_75_7 (u_X0_75_6 (u_X0_75_5 (u_X0_75_4 (u_X0_75_3 (u_X0_75_2 (u_X0_75_1 (u_X0_75_0 M))))))))))))))))))) 75 0 = 76 := by rw [uk_X0_75_18 _ hn18]; exact hr
  refine k_X0_75_19 hn19  ?_
  have hn20 : mN (u_X0_75_19 (u_X0_75_18 (u_X0_75_17 (u_X0_75_16 (u_X0_75_15 (u_X0_75_14 (u_X0_75_13 (u_X0_75_12 (u_X0_75_11 (u_X0_75_10 (u_X0_75_9 (u_X0_75_8 (u_X0_75_7 (u_X0_75_6 (u_X0_75_5 (u_X0_75_4 (u_X0_75_3 (u_X0_75_2 (u_X0_75_1 (u_X0_75_0 M)))))))))))))))))))) = 164 := by rw [un_X0_75_19, hn19]
  have hr : mR (u_X0_75_19 (u_X0_75_18 (u_X0_75_17 (u_X0_75_16 (u_X0_75_15 (u_X0_75_14 (u_X0_75_13 (u_X0_75_12 (u_X0_75_11 (u_X0_75_10 (u_X0_75_9 (u_X0_75_8 (u_X0_75_7 (u_X0_75_6 (u_X0_75_5 (u_X0_75_4 (u_X0_75_3 (u_X0_75_2 (u_X0_75_1 (u_X0_75_0 M)))))))))))))))))))) 75 0 = 76 := by rw [uk_X0_75_19 _ hn19]; exact hr
  refine k_X0_75_20 hn20 hr ?_
  have hn21 : mN (u_X0_75_20 (u_X0_75_19 (u_X0_75_18 (u_X0_75_17 (u_X0_75_16 (u_X0_75_15 (u_X0_75_14 (u_X0_75_13 (u_X0_75_12 (u_X0_75_11 (u_X0_75_10 (u_X0_75_9 (u_X0_75_8 (u_X0_75_7 (u_X0_75_6 (u_X0_75_5 (u_X0_75_4 (u_X0_75_3 (u_X0_75_2 (u_X0_75_1 (u_X0_75_0 M))))))))))))))))))))) = 173 := by rw [un_X0_75_20, hn20]
  have hr : mR (u_X0_75_20 (u_X0_75_19 (u_X0_75_18 (u_X0_75_17 (u_X0_75_16 (u_X0_75_15 (u_X0_75_14 (u_X0_75_13 (u_X0_75_12 (u_X0_75_11 (u_X0_75_10 (u_X0_75_9 (u_X0_75_8 (u_X0_75_7 (u_X0_75_6 (u_X0_75_5 (u_X0_75_4 (u_X0_75_3 (u_X0_75_2 (u_X0_75_1 (u_X0_75_0 M))))))))))))))))))))) 75 0 = 76 := by rw [uk_X0_75_20 _ hn20]; exact hr
  refine k_X0_75_21 hn21  ?_
  have hn22 : mN (u_X0_75_21 (u_X0_75_20 (u_X0_75_19 (u_X0_75_18 (u_X0_75_17 (u_X0_75_16 (u_X0_75_15 (u_X0_75_14 (u_X0_75_13 (u_X0_75_12 (u_X0_75_11 (u_X0_75_10 (u_X0_75_9 (u_X0_75_8 (u_X0_75_7 (u_X0_75_6 (u_X0_75_5 (u_X0_75_4 (u_X0_75_3 (u_X0_75_2 (u_X0_75_1 (u_X0_75_0 M)))))))))))))))))))))) = 173 := by rw [un_X0_75_21, hn21]
  have hr : mR (u_X0_75_21 (u_X0_75_20 (u_X0_75_19 (u_X0_75_18 (u_X0_75_17 (u_X0_75_16 (u_X0_75_15 (u_X0_75_14 (u_X0_75_13 (u_X0_75_12 (u_X0_75_11 (u_X0_75_10 (u_X0_75_9 (u_X0_75_8 (u_X0_75_7 (u_X0_75_6 (u_X0_75_5 (u_X0_75_4 (u_X0_75_3 (u_X0_75_2 (u_X0_75_1 (u_X0_75_0 M)))))))))))))))))))))) 75 0 = 76 := by rw [uk_X0_75_21 _ hn21]; exact hr
  refine k_X0_75_22 hn22 hr ?_
  have hn23 : mN (u_X0_75_22 (u_X0_75_21 (u_X0_75_20 (u_X0_75_19 (u_X0_75_18 (u_X0_75_17 (u_X0_75_16 (u_X0_75_15 (u_X0_75_14 (u_X0_75_13 (u_X0_75_12 (u_X0_75_11 (u_X0_75_10 (u_X0_75_9 (u_X0_75_8 (u_X0_75_7 (u_X0_75_6 (u_X0_75_5 (u_X0_75_4 (u_X0_75_3 (u_X0_75_2 (u_X0_75_1 (u_X0_75_0 M))))))))))))))))))))))) = 182 := by rw [un_X0_75_22, hn22]
  have hr : mR (u_X0_75_22 (u_X0_75_21 (u_X0_75_20 (u_X0_75_19 (u_X0_75_18 (u_X0_75_17 (u_X0_75_16 (u_X0_75_15 (u_X0_75_14 (u_X0_75_13 (u_X0_75_12 (u_X0_75_11 (u_X0_75_10 (u_X0_75_9 (u_X0_75_8 (u_X0_75_7 (u_X0_75_6 (u_X0_75_5 (u_X0_75_4 (u_X0_75_3 (u_X0_75_2 (u_X0_75_1 (u_X0_75_0 M))))))))))))))))))))))) 75 0 = 76 := by rw [uk_X0_75_22 _ hn22]; exact hr
  refine k_X0_75_23 hn23  ?_
  have hn24 : mN (u_X0_75_23 (u_X0_75_22 (u_X0_75_21 (u_X0_75_20 (u_X0_75_19 (u_X0_75_18 (u_X0_75_17 (u_X0_75_16 (u_X0_75_15 (u_X0_75_14 (u_X0_75_13 (u_X0_75_12 (u_X0_75_11 (u_X0_75_10 (u_X0_75_9 (u_X0_75_8 (u_X0_75_7 (u_X0_75_6 (u_X0_75_5 (u_X0_75_4 (u_X0_75_3 (u_X0_75_2 (u_X0_75_1 (u_X0_75_0 M)))))))))))))))))))))))) = 182 := by rw [un_X0_75_23, hn23]
  have hr : mR (u_X0_75_23 (u_X0_75_22 (u_X0_75_21 (u_X0_75_20 (u_X0_75_19 (u_X0_75_18 (u_X0_75_17 (u_X0_75_16 (u_X0_75_15 (u_X0_75_14 (u_X0_75_13 (u_X0_75_12 (u_X0_75_11 (u_X0_75_10 (u_X0_75_9 (u_X0_75_8 (u_X0_75_7 (u_X0_75_6 (u_X0_75_5 (u_X0_75_4 (u_X0_75_3 (u_X0_75_2 (u_X0_75_1 (u_X0_75_0 M)))))))))))))))))))))))) 75 0 = 76 := by rw [uk_X0_75_23 _ hn23]; exact hr
  refine k_X0_75_24 hn24 hr ?_
  have hn25 : mN (u_X0_75_24 (u_X0_75_23 (u_X0_75_22 (u_X0_75_21 (u_X0_75_20 (u_X0_75_19 (u_X0_75_18 (u_X0_75_17 (u_X0_75_16 (u_X0_75_15 (u_X0_75_14 (u_X0_75_13 (u_X0_75_12 (u_X0_75_11 (u_X0_75_10 (u_X0_75_9 (u_X0_75_8 (u_X0_75_7 (u_X0_75_6 (u_X0_75_5 (u_X0_75_4 (u_X0_75_3 (u_X0_75_2 (u_X0_75_1 (u_X0_75_0 M))))))))))))))))))))))))) = 191 := by rw [un_X0_75_24, hn24]
  have hr : mR (u_X0_75_24 (u_X0_75_23 (u_X0_75_22 (u_X0_75_21 (u_X0_75_20 (u_X0_75_19 (u_X0_75_18 (u_X0_75_17 (u_X0_75_16 (u_X0_75_15 (u_X0_75_14 (u_X0_75_13 (u_X0_75_12 (u_X0_75_11 (u_X0_75_10 (u_X0_75_9 (u_X0_75_8 (u_X0_75_7 (u_X0_75_6 (u_X0_75_5 (u_X0_75_4 (u_X0_75_3 (u_X0_75_2 (u_X0_75_1 (u_X0_75_0 M))))))))))))))))))))))))) 75 0 = 76 := by rw [uk_X0_75_24 _ hn24]; exact hr
  refine k_X0_75_25 hn25  ?_
  have hn26 : mN (u_X0_75_25 (u_X0_75_24 (u_X0_75_23 (u_X0_75_22 (u_X0_75_21 (u_X0_75_20 (u_X0_75_19 (u_X0_75_18 (u_X0_75_17 (u_X0_75_16 (u_X0_75_15 (u_X0_75_14 (u_X0_75_13 (u_X0_75_12 (u_X0_75_11 (u_X0_75_10 (u_X0_75_9 (u_X0_75_8 (u_X0_75_7 (u_X0_75_6 (u_X0_75_5 (u_X0_75_4 (u_X0_75_3 (u_X0_75_2 (u_X0_75_1 (u_X0_75_0 M)))))))))))))))))))))))))) = 191 := by rw [un_X0_75_25, hn25]
  have hr : mR (u_X0_75_25 (u_X0_75_24 (u_X0_75_23 (u_X0_75_22 (u_X0_75_21 (u_X0_75_20 (u_X0_75_19 (u_X0_75_18 (u_X0_75_17 (u_X0_75_16 (u_X0_75_15 (u_X0_75_14 (u_X0_75_13 (u_X0_75_12 (u_X0_75_11 (u_X0_75_10 (u_X0_75_9 (u_X0_75_8 (u_X0_75_7 (u_X0_75_6 (u_X0_75_5 (u_X0_75_4 (u_X0_75_3 (u_X0_75_2 (u_X0_75_1 (u_X0_75_0 M)))))))))))))))))))))))))) 75 0 = 76 := by rw [uk_X0_75_25 _ hn25]; exact hr
  refine k_X0_75_26 hn26 hr ?_
  have hn27 : mN (u_X0_75_26 (u_X0_75_25 (u_X0_75_24 (u_X0_75_23 (u_X0_75_22 (u_X0_75_21 (u_X0_75_20 (u_X0_75_19 (u_X0_75_18 (u_X0_75_17 (u_X0_75_16 (u_X0_75_15 (u_X0_75_14 (u_X0_75_13 (u_X0_75_12 (u_X0_75_11 (u_X0_75_10 (u_X0_75_9 (u_X0_75_8 (u_X0_75_7 (u_X0_75_6 (u_X0_75_5 (u_X0_75_4 (u_X0_75_3 (u_X0_75_2 (u_X0_75_1 (u_X0_75_0 M))))))))))))))))))))))))))) = 200 := by rw [un_X0_75_26, hn26]
  have hr : mR (u_X0_75_26 (u_X0_75_25 (u_X0_75_24 (u_X0_75_23 (u_X0_75_22 (u_X0_75_21 (u_X0_75_20 (u_X0_75_19 (u_X0_75_18 (u_X0_75_17 (u_X0_75_16 (u_X0_75_15 (u_X0_75_14 (u_X0_75_13 (u_X0_75_12 (u_X0_75_11 (u_X0_75_10 (u_X0_75_9 (u_X0_75_8 (u_X0_75_7 (u_X0_75_6 (u_X0_75_5 (u_X0_75_4 (u_X0_75_3 (u_X0_75_2 (u_X0_75_1 (u_X0_75_0 M))))))))))))))))))))))))))) 75 0 = 76 := by rw [uk_X0_75_26 _ hn26]; exact hr
  refine k_X0_75_27 hn27  ?_
  have hn28 : mN (u_X0_75_27 (u_X0_75_26 (u_X0_75_25 (u_X0_75_24 (u_X0_75_23 (u_X0_75_22 (u_X0_75_21 (u_X0_75_20 (u_X0_75_19 (u_X0_75_18 (u_X0_75_17 (u_X0_75_16 (u_X0_75_15 (u_X0_75_14 (u_X0_75_13 (u_X0_75_12 (u_X0_75_11 (u_X0_75_10 (u_X0_75_9 (u_X0_75_8 (u_X0_75_7 (u_X0_75_6 (u_X0_75_5 (u_X0_75_4 (u_X0_75_3 (u_X0_75_2 (u_X0_75_1 (u_X0_75_0 M)))))))))))))))))))))))))))) = 200 := by rw [un_X0_75_27, hn27]
  have hr : mR (u_X0_75_27 (u_X0_75_26 (u_X0_75_25 (u_X0_75_24 (u_X0_75_23 (u_X0_75_22 (u_X0_75_21 (u_X0_75_20 (u_X0_75_19 (u_X0_75_18 (u_X0_75_17 (u_X0_75_16 (u_X0_75_15 (u_X0_75_14 (u_X0_75_13 (u_X0_75_12 (u_X0_75_11 (u_X0_75_10 (u_X0_75_9 (u_X0_75_8 (u_X0_75_7 (u_X0_75_6 (u_X0_75_5 (u_X0_75_4 (u_X0_75_3 (u_X0_75_2 (u_X0_75_1 (u_X0_75_0 M)))))))))))))))))))))))))))) 75 0 = 76 := by rw [uk_X0_75_27 _ hn27]; exact hr
  refine k_X0_75_28 hn28 hr ?_
  have hn29 : mN (u_X0_75_28 (u_X0_75_27 (u_X0_75_26 (u_X0_75_25 (u_X0_75_24 (u_X0_75_23 (u_X0_75_22 (u_X0_75_21 (u_X0_75_20 (u_X0_75_19 (u_X0_75_18 (u_X0_75_17 (u_X0_75_16 (u_X0_75_15 (u_X0_75_14 (u_X0_75_13 (u_X0_75_12 (u_X0_75_11 (u_X0_75_10 (u_X0_75_9 (u_X0_75_8 (u_X0_75_7 (u_X0_75_6 (u_X0_75_5 (u_X0_75_4 (u_X0_75_3 (u_X0_75_2 (u_X0_75_1 (u_X0_75_0 M))))))))))))))))))))))))))))) = 209 := by rw [un_X0_75_28, hn28]
  have hr : mR (u_X0_75_28 (u_X0_75_27 (u_X0_75_26 (u_X0_75_25 (u_X0_75_24 (u_X0_75_23 (u_X0_75_22 (u_X0_75_21 (u_X0_75_20 (u_X0_75_19 (u_X0_75_18 (u_X0_75_17 (u_X0_75_16 (u_X0_75_15 (u_X0_75_14 (u_X0_75_13 (u_X0_75_12 (u_X0_75_11 (u_X0_75_10 (u_X0_75_9 (u_X0_75_8 (u_X0_75_7 (u_X0_75_6 (u_X0_75_5 (u_X0_75_4 (u_X0_75_3 (u_X0_75_2 (u_X0_75_1 (u_X0_75_0 M))))))))))))))))))))))))))))) 75 0 = 76 := by rw [uk_X0_75_28 _ hn28]; exact hr
  refine k_X0_75_29 hn29  ?_
  have hn30 : mN (u_X0_75_29 (u_X0_75_28 (u_X0_75_27 (u_X0_75_26 (u_X0_75_25 (u_X0_75_24 (u_X0_75_23 (u_X0_75_22 (u_X0_75_21 (u_X0_75_20 (u_X0_75_19 (u_X0_75_18 (u_X0_75_17 (u_X0_75_16 (u_X0_75_15 (u_X0_75_14 (u_X0_75_13 (u_X0_75_12 (u_X0_75_11 (u_X0_75_10 (u_X0_75_9 (u_X0_75_8 (u_X0_75_7 (u_X0_75_6 (u_X0_75_5 (u_X0_75_4 (u_X0_75_3 (u_X0_75_2 (u_X0_75_1 (u_X0_75_0 M)))))))))))))))))))))))))))))) = 209 := by rw [un_X0_75_29, hn29]
  have hr : mR (u_X0_75_29 (u_X0_75_28 (u_X0_75_27 (u_X0_75_26 (u_X0_75_25 (u_X0_75_24 (u_X0_75_23 (u_X0_75_22 (u_X0_75_21 (u_X0_75_20 (u_X0_75_19 (u_X0_75_18 (u_X0_75_17 (u_X0_75_16 (u_X0_75_15 (u_X0_75_14 (u_X0_75_13 (u_X0_75_12 (u_X0_75_11 (u_X0_75_10 (u_X0_75_9 (u_X0_75_8 (u_X0_75_7 (u_X0_75_6 (u_X0_75_5 (u_X0_75_4 (u_X0_75_3 (u_X0_75_2 (u_X0_75_1 (u_X0_75_0 M)))))))))))))))))))))))))))))) 75 0 = 76 := by rw [uk_X0_75_29 _ hn29]; exact hr
  refine k_X0_75_30 hn30 hr ?_
  have hn31 : mN (u_X0_75_30 (u_X0_75_29 (u_X0_75_28 (u_X0_75_27 (u_X0_75_26 (u_X0_75_25 (u_X0_75_24 (u_X0_75_23 (u_X0_75_22 (u_X0_75_21 (u_X0_75_20 (u_X0_75_19 (u_X0_75_18 (u_X0_75_17 (u_X0_75_16 (u_X0_75_15 (u_X0_75_14 (u_X0_75_13 (u_X0_75_12 (u_X0_75_11 (u_X0_75_10 (u_X0_75_9 (u_X0_75_8 (u_X0_75_7 (u_X0_75_6 (u_X0_75_5 (u_X0_75_4 (u_X0_75_3 (u_X0_75_2 (u_X0_75_1 (u_X0_75_0 M))))))))))))))))))))))))))))))) = 218 := by rw [un_X0_75_30, hn30]
  have hr : mR (u_X0_75_30 (u_X0_75_29 (u_X0_75_28 (u_X0_75_27 (u_X0_75_26 (u_X0_75_25 (u_X0_75_24 (u_X0_75_23 (u_X0_75_22 (u_X0_75_21 (u_X0_75_20 (u_X0_75_19 (u_X0_75_18 (u_X0_75_17 (u_X0_75_16 (u_X0_75_15 (u_X0_75_14 (u_X0_75_13 (u_X0_75_12 (u_X0_75_11 (u_X0_75_10 (u_X0_75_9 (u_X0_75_8 (u_X0_75_7 (u_X0_75_6 (u_X0_75_5 (u_X0_75_4 (u_X0_75_3 (u_X0_75_2 (u_X0_75_1 (u_X0_75_0 M))))))))))))))))))))))))))))))) 75 0 = 76 := by rw [uk_X0_75_30 _ hn30]; exact hr
  refine k_X0_75_31 hn31  ?_
  have hn32 : mN (u_X0_75_31 (u_X0_75_30 (u_X0_75_29 (u_X0_75_28 (u_X0_75_27 (u_X0_75_26 (u_X0_75_25 (u_X0_75_24 (u_X0_75_23 (u_X0_75_22 (u_X0_75_21 (u_X0_75_20 (u_X0_75_19 (u_X0_75_18 (u_X0_75_17 (u_X0_75_16 (u_X0_75_15 (u_X0_75_14 (u_X0_75_13 (u_X0_75_12 (u_X0_75_11 (u_X0_75_10 (u_X0_75_9 (u_X0_75_8 (u_X0_75_7 (u_X0_75_6 (u_X0_75_5 (u_X0_75_4 (u_X0_75_3 (u_X0_75_2 (u_X0_75_1 (u_X0_75_0 M)))))))))))))))))))))))))))))))) = 218 := by rw [un_X0_75_31, hn31]
  have hr : mR (u_X0_75_31 (u_X0_75_30 (u_X0_75_29 (u_X0_75_28 (u_X0_75_27 (u_X0_75_26 (u_X0_75_25 (u_X0_75_24 (u_X0_75_23 (u_X0_75_22 (u_X0_75_21 (u_X0_75_20 (u_X0_75_19 (u_X0_75_18 (u_X0_75_17 (u_X0_75_16 (u_X0_75_15 (u_X0_75_14 (u_X0_75_13 (u_X0_75_12 (u_X0_75_11 (u_X0_75_10 (u_X0_75_9 (u_X0_75_8 (u_X0_75_7 (u_X0_75_6 (u_X0_75_5 (u_X0_75_4 (u_X0_75_3 (u_X0_75_2 (u_X0_75_1 (u_X0_75_0 M)))))))))))))))))))))))))))))))) 75 0 = 76 := by rw [uk_X0_75_31 _ hn31]; exact hr
  refine k_X0_75_32 hn32 hr ?_
  have hn33 : mN (u_X0_75_32 (u_X0_75_31 (u_X0_75_30 (u_X0_75_29 (u_X0_75_28 (u_X0_75_27 (u_X0_75_26 (u_X0_75_25 (u_X0_75_24 (u_X0_75_23 (u_X0_75_22 (u_X0_75_21 (u_X0_75_20 (u_X0_75_19 (u_X0_75_18 (u_X0_75_17 (u_X0_75_16 (u_X0_75_15 (u_X0_75_14 (u_X0_75_13 (u_X0_75_12 (u_X0_75_11 (u_X0_75_10 (u_X0_75_9 (u_X0_75_8 (u_X0_75_7 (u_X0_75_6 (u_X0_75_5 (u_X0_75_4 (u_X0_75_3 (u_X0_75_2 (u_X0_75_1 (u_X0_75_0 M))))))))))))))))))))))))))))))))) = 227 := by rw [un_X0_75_32, hn32]
  have hr : mR (u_X0_75_32 (u_X0_75_31 (u_X0_75_30 (u_X0_75_29 (u_X0_75_28 (u_X0_75_27 (u_X0_75_26 (u_X0_75_25 (u_X0_75_24 (u_X0_75_23 (u_X0_75_22 (u_X0_75_21 (u_X0_75_20 (u_X0_75_19 (u_X0_75_18 (u_X0_75_17 (u_X0_75_16 (u_X0_75_15 (u_X0_75_14 (u_X0_75_13 (u_X0_75_12 (u_X0_75_11 (u_X0_75_10 (u_X0_75_9 (u_X0_75_8 (u_X0_75_7 (u_X0_75_6 (u_X0_75_5 (u_X0_75_4 (u_X0_75_3 (u_X0_75_2 (u_X0_75_1 (u_X0_75_0 M))))))))))))))))))))))))))))))))) 75 0 = 76 := by rw [uk_X0_75_32 _ hn32]; exact hr
  refine k_X0_75_33 hn33  ?_
  have hn34 : mN (u_X0_75_33 (u_X0_75_32 (u_X0_75_31 (u_X0_75_30 (u_X0_75_29 (u_X0_75_28 (u_X0_75_27 (u_X0_75_26 (u_X0_75_25 (u_X0_75_24 (u_X0_75_23 (u_X0_75_22 (u_X0_75_21 (u_X0_75_20 (u_X0_75_19 (u_X0_75_18 (u_X0_75_17 (u_X0_75_16 (u_X0_75_15 (u_X0_75_14 (u_X0_75_13 (u_X0_75_12 (u_X0_75_11 (u_X0_75_10 (u_X0_75_9 (u_X0_75_8 (u_X0_75_7 (u_X0_75_6 (u_X0_75_5 (u_X0_75_4 (u_X0_75_3 (u_X0_75_2 (u_X0_75_1 (u_X0_75_0 M)))))))))))))))))))))))))))))))))) = 227 := by rw [un_X0_75_33, hn33]
  have hr : mR (u_X0_75_33 (u_X0_75_32 (u_X0_75_31 (u_X0_75_30 (u_X0_75_29 (u_X0_75_28 (u_X0_75_27 (u_X0_75_26 (u_X0_75_25 (u_X0_75_24 (u_X0_75_23 (u_X0_75_22 (u_X0_75_21 (u_X0_75_20 (u_X0_75_19 (u_X0_75_18 (u_X0_75_17 (u_X0_75_16 (u_X0_75_15 (u_X0_75_14 (u_X0_75_13 (u_X0_75_12 (u_X0_75_11 (u_X0_75_10 (u_X0_75_9 (u_X0_75_8 (u_X0_75_7 (u_X0_75_6 (u_X0_75_5 (u_X0_75_4 (u_X0_75_3 (u_X0_75_2 (u_X0_75_1 (u_X0_75_0 M)))))))))))))))))))))))))))))))))) 75 0 = 76 := by rw [uk_X0_75_33 _ hn33]; exact hr
  refine k_X0_75_34 hn34 hr ?_
  have hn35 : mN (u_X0_75_34 (u_X0_75_33 (u_X0_75_32 (u_X0_75_31 (u_X0_75_30 (u_X0_75_29 (u_X0_75_28 (u_X0_75_27 (u_X0_75_26 (u_X0_75_25 (u_X0_75_24 (u_X0_75_23 (u_X0_75_22 (u_X0_75_21 (u_X0_75_20 (u_X0_75_19 (u_X0_75_18 (u_X0_75_17 (u_X0_75_16 (u_X0_75_15 (u_X0_75_14 (u_X0_75_13 (u_X0_75_12 (u_X0_75_11 (u_X0_75_10 (u_X0_75_9 (u_X0_75_8 (u_X0_75_7 (u_X0_75_6 (u_X0_75_5 (u_X0_75_4 (u_X0_75_3 (u_X0_75_2 (u_X0_75_1 (u_X0_75_0 M))))))))))))))))))))))))))))))))))) = 236 := by rw [un_X0_75_34, hn34]
  have hr : mR (u_X0_75_34 (u_X0_75_33 (u_X0_75_32 (u_X0_75_31 (u_X0_75_30 (u_X0_75_29 (u_X0_75_28 (u_X0_75_27 (u_X0_75_26 (u_X0_75_25 (u_X0_75_24 (u_X0_75_23 (u_X0_75_22 (u_X0_75_21 (u_X0_75_20 (u_X0_75_19 (u_X0_75_18 (u_X0_75_17 (u_X0_75_16 (u_X0_75_15 (u_X0_75_14 (u_X0_75_13 (u_X0_75_12 (u_X0_75_11 (u_X0_75_10 (u_X0_75_9 (u_X0_75_8 (u_X0_75_7 (u_X0_75_6 (u_X0_75_5 (u_X0_75_4 (u_X0_75_3 (u_X0_75_2 (u_X0_75_1 (u_X0_75_0 M))))))))))))))))))))))))))))))))))) 75 0 = 76 := by rw [uk_X0_75_34 _ hn34]; exact hr
  refine k_X0_75_35 hn35  ?_
  have hn36 : mN (u_X0_75_35 (u_X0_75_34 (u_X0_75_33 (u_X0_75_32 (u_X0_75_31 (u_X0_75_30 (u_X0_75_29 (u_X0_75_28 (u_X0_75_27 (u_X0_75_26 (u_X0_75_25 (u_X0_75_24 (u_X0_75_23 (u_X0_75_22 (u_X0_75_21 (u_X0_75_20 (u_X0_75_19 (u_X0_75_18 (u_X0_75_17 (u_X0_75_16 (u_X0_75_15 (u_X0_75_14 (u_X0_75_13 (u_X0_75_12 (u_X0_75_11 (u_X0_75_10 (u_X0_75_9 (u_X0_75_8 (u_X0_75_7 (u_X0_75_6 (u_X0_75_5 (u_X0_75_4 (u_X0_75_3 (u_X0_75_2 (u_X0_75_1 (u_X0_75_0 M)))))))))))))))))))))))))))))))))))) = 236 := by rw [un_X0_75_35, hn35]
  have hr : mR (u_X0_75_35 (u_X0_75_34 (u_X0_75_33 (u_X0_75_32 (u_X0_75_31 (u_X0_75_30 (u_X0_75_29 (u_X0_75_28 (u_X0_75_27 (u_X0_75_26 (u_X0_75_25 (u_X0_75_24 (u_X0_75_23 (u_X0_75_22 (u_X0_75_21 (u_X0_75_20 (u_X0_75_19 (u_X0_75_18 (u_X0_75_17 (u_X0_75_16 (u_X0_75_15 (u_X0_75_14 (u_X0_75_13 (u_X0_75_12 (u_X0_75_11 (u_X0_75_10 (u_X0_75_9 (u_X0_75_8 (u_X0_75_7 (u_X0_75_6 (u_X0_75_5 (u_X0_75_4 (u_X0_75_3 (u_X0_75_2 (u_X0_75_1 (u_X0_75_0 M)))))))))))))))))))))))))))))))))))) 75 0 = 76 := by rw [uk_X0_75_35 _ hn35]; exact hr
  refine k_X0_75_36 hn36 hr ?_
  have hn37 : mN (u_X0_75_36 (u_X0_75_35 (u_X0_75_34 (u_X0_75_33 (u_X0_75_32 (u_X0_75_31 (u_X0_75_30 (u_X0_75_29 (u_X0_75_28 (u_X0_75_27 (u_X0_75_26 (u_X0_75_25 (u_X0_75_24 (u_X0_75_23 (u_X0_75_22 (u_X0_75_21 (u_X0_75_20 (u_X0_75_19 (u_X0_75_18 (u_X0_75_17 (u_X0_75_16 (u_X0_75_15 (u_X0_75_14 (u_X0_75_13 (u_X0_75_12 (u_X0_75_11 (u_X0_75_10 (u_X0_75_9 (u_X0_75_8 (u_X0_75_7 (u_X0_75_6 (u_X0_75_5 (u_X0_75_4 (u_X0_75_3 (u_X0_75_2 (u_X0_75_1 (u_X0_75_0 M))))))))))))))))))))))))))))))))))))) = 245 := by rw [un_X0_75_36, hn36]
  have hr : mR (u_X0_75_36 (u_X0_75_35 (u_X0_75_34 (u_X0_75_33 (u_X0_75_32 (u_X0_75_31 (u_X0_75_30 (u_X0_75_29 (u_X0_75_28 (u_X0_75_27 (u_X0_75_26 (u_X0_75_25 (u_X0_75_24 (u_X0_75_23 (u_X0_75_22 (u_X0_75_21 (u_X0_75_20 (u_X0_75_19 (u_X0_75_18 (u_X0_75_17 (u_X0_75_16 (u_X0_75_15 (u_X0_75_14 (u_X0_75_13 (u_X0_75_12 (u_X0_75_11 (u_X0_75_10 (u_X0_75_9 (u_X0_75_8 (u_X0_75_7 (u_X0_75_6 (u_X0_75_5 (u_X0_75_4 (u_X0_75_3 (u_X0_75_2 (u_X0_75_1 (u_X0_75_0 M))))))))))))))))))))))))))))))))))))) 75 0 = 76 := by rw [uk_X0_75_36 _ hn36]; exact hr
  refine k_X0_75_37 hn37  ?_
  have hn38 : mN (u_X0_75_37 (u_X0_75_36 (u_X0_75_35 (u_X0_75_34 (u_X0_75_33 (u_X0_75_32 (u_X0_75_31 (u_X0_75_30 (u_X0_75_29 (u_X0_75_28 (u_X0_75_27 (u_X0_75_26 (u_X0_75_25 (u_X0_75_24 (u_X0_75_23 (u_X0_75_22 (u_X0_75_21 (u_X0_75_20 (u_X0_75_19 (u_X0_75_18 (u_X0_75_17 (u_X0_75_16 (u_X0_75_15 (u_X0_75_14 (u_X0_75_13 (u_X0_75_12 (u_X0_75_11 (u_X0_75_10 (u_X0_75_9 (u_X0_75_8 (u_X0_75_7 (u_X0_75_6 (u_X0_75_5 (u_X0_75_4 (u_X0_75_3 (u_X0_75_2 (u_X0_75_1 (u_X0_75_0 M)))))))))))))))))))))))))))))))))))))) = 245 := by rw [un_X0_75_37, hn37]
  have hr : mR (u_X0_75_37 (u_X0_75_36 (u_X0_75_35 (u_X0_75_34 (u_X0_75_33 (u_X0_75_32 (u_X0_75_31 (u_X0_75_30 (u_X0_75_29 (u_X0_75_28 (u_X0_75_27 (u_X0_75_26 (u_X0_75_25 (u_X0_75_24 (u_X0_75_23 (u_X0_75_22 (u_X0_75_21 (u_X0_75_20 (u_X0_75_19 (u_X0_75_18 (u_X0_75_17 (u_X0_75_16 (u_X0_75_15 (u_X0_75_14 (u_X0_75_13 (u_X0_75_12 (u_X0_75_11 (u_X0_75_10 (u_X0_75_9 (u_X0_75_8 (u_X0_75_7 (u_X0_75_6 (u_X0_75_5 (u_X0_75_4 (u_X0_75_3 (u_X0_75_2 (u_X0_75_1 (u_X0_75_0 M)))))))))))))))))))))))))))))))))))))) 75 0 = 76 := by rw [uk_X0_75_37 _ hn37]; exact hr
  refine k_X0_75_38 hn38 hr ?_
  have hn39 : mN (u_X0_75_38 (u_X0_75_37 (u_X0_75_36 (u_X0_75_35 (u_X0_75_34 (u_X0_75_33 (u_X0_75_32 (u_X0_75_31 (u_X0_75_30 (u_X0_75_29 (u_X0_75_28 (u_X0_75_27 (u_X0_75_26 (u_X0_75_25 (u_X0_75_24 (u_X0_75_23 (u_X0_75_22 (u_X0_75_21 (u_X0_75_20 (u_X0_75_19 (u_X0_75_18 (u_X0_75_17 (u_X0_75_16 (u_X0_75_15 (u_X0_75_14 (u_X0_75_13 (u_X0_75_12 (u_X0_75_11 (u_X0_75_10 (u_X0_75_9 (u_X0_75_8 (u_X0_75_7 (u_X0_75_6 (u_X0_75_5 (u_X0_75_4 (u_X0_75_3 (u_X0_75_2 (u_X0_75_1 (u_X0_75_0 M))))))))))))))))))))))))))))))))))))))) = 254 := by rw [un_X0_75_38, hn38]
  have hr : mR (u_X0_75_38 (u_X0_75_37 (u_X0_75_36 (u_X0_75_35 (u_X0_75_34 (u_X0_75_33 (u_X0_75_32 (u_X0_75_31 (u_X0_75_30 (u_X0_75_29 (u_X0_75_28 (u_X0_75_27 (u_X0_75_26 (u_X0_75_25 (u_X0_75_24 (u_X0_75_23 (u_X0_75_22 (u_X0_75_21 (u_X0_75_20 (u_X0_75_19 (u_X0_75_18 (u_X0_75_17 (u_X0_75_16 (u_X0_75_15 (u_X0_75_14 (u_X0_75_13 (u_X0_75_12 (u_X0_75_11 (u_X0_75_10 (u_X0_75_9 (u_X0_75_8 (u_X0_75_7 (u_X0_75_6 (u_X0_75_5 (u_X0_75_4 (u_X0_75_3 (u_X0_75_2 (u_X0_75_1 (u_X0_75_0 M))))))))))))))))))))))))))))))))))))))) 75 0 = 76 := by rw [uk_X0_75_38 _ hn38]; exact hr
  refine k_X0_75_39 hn39  ?_
  have hn40 : mN (u_X0_75_39 (u_X0_75_38 (u_X0_75_37 (u_X0_75_36 (u_X0_75_35 (u_X0_75_34 (u_X0_75_33 (u_X0_75_32 (u_X0_75_31 (u_X0_75_30 (u_X0_75_29 (u_X0_75_28 (u_X0_75_27 (u_X0_75_26 (u_X0_75_25 (u_X0_75_24 (u_X0_75_23 (u_X0_75_22 (u_X0_75_21 (u_X0_75_20 (u_X0_75_19 (u_X0_75_18 (u_X0_75_17 (u_X0_75_16 (u_X0_75_15 (u_X0_75_14 (u_X0_75_13 (u_X0_75_12 (u_X0_75_11 (u_X0_75_10 (u_X0_75_9 (u_X0_75_8 (u_X0_75_7 (u_X0_75_6 (u_X0_75_5 (u_X0_75_4 (u_X0_75_3 (u_X0_75_2 (u_X0_75_1 (u_X0_75_0 M)))))))))))))))))))))))))))))))))))))))) = 254 := by rw [un_X0_75_39, hn39]
  have hr : mR (u_X0_75_39 (u_X0_75_38 (u_X0_75_37 (u_X0_75_36 (u_X0_75_35 (u_X0_75_34 (u_X0_75_33 (u_X0_75_32 (u_X0_75_31 (u_X0_75_30 (u_X0_75_29 (u_X0_75_28 (u_X0_75_27 (u_X0_75_26 (u_X0_75_25 (u_X0_75_24 (u_X0_75_23 (u_X0_75_22 (u_X0_75_21 (u_X0_75_20 (u_X0_75_19 (u_X0_75_18 (u_X0_75_17 (u_X0_75_16 (u_X0_75_15 (u_X0_75_14 (u_X0_75_13 (u_X0_75_12 (u_X0_75_11 (u_X0_75_10 (u_X0_75_9 (u_X0_75_8 (u_X0_75_7 (u_X0_75_6 (u_X0_75_5 (u_X0_75_4 (u_X0_75_3 (u_X0_75_2 (u_X0_75_1 (u_X0_75_0 M)))))))))))))))))))))))))))))))))))))))) 75 0 = 76 := by rw [uk_X0_75_39 _ hn39]; exact hr
  refine k_X0_75_40 hn40  ?_
  have hn41 : mN (u_X0_75_40 (u_X0_75_39 (u_X0_75_38 (u_X0_75_37 (u_X0_75_36 (u_X0_75_35 (u_X0_75_34 (u_X0_75_33 (u_X0_75_32 (u_X0_75_31 (u_X0_75_30 (u_X0_75_29 (u_X0_75_28 (u_X0_75_27 (u_X0_75_26 (u_X0_75_25 (u_X0_75_24 (u_X0_75_23 (u_X0_75_22 (u_X0_75_21 (u_X0_75_20 (u_X0_75_19 (u_X0_75_18 (u_X0_75_17 (u_X0_75_16 (u_X0_75_15 (u_X0_75_14 (u_X0_75_13 (u_X0_75_12 (u_X0_75_11 (u_X0_75_10 (u_X0_75_9 (u_X0_75_8 (u_X0_75_7 (u_X0_75_6 (u_X0_75_5 (u_X0_75_4 (u_X0_75_3 (u_X0_75_2 (u_X0_75_1 (u_X0_75_0 M))))))))))))))))))))))))))))))))))))))))) = 254 := by rw [un_X0_75_40, hn40]
  have hr : mR (u_X0_75_40 (u_X0_75_39 (u_X0_75_38 (u_X0_75_37 (u_X0_75_36 (u_X0_75_35 (u_X0_75_34 (u_X0_75_33 (u_X0_75_32 (u_X0_75_31 (u_X0_75_30 (u_X0_75_29 (u_X0_75_28 (u_X0_75_27 (u_X0_75_26 (u_X0_75_25 (u_X0_75_24 (u_X0_75_23 (u_X0_75_22 (u_X0_75_21 (u_X0_75_20 (u_X0_75_19 (u_X0_75_18 (u_X0_75_17 (u_X0_75_16 (u_X0_75_15 (u_X0_75_14 (u_X0_75_13 (u_X0_75_12 (u_X0_75_11 (u_X0_75_10 (u_X0_75_9 (u_X0_75_8 (u_X0_75_7 (u_X0_75_6 (u_X0_75_5 (u_X0_75_4 (u_X0_75_3 (u_X0_75_2 (u_X0_75_1 (u_X0_75_0 M))))))))))))))))))))))))))))))))))))))))) 75 0 = 76 := by rw [uk_X0_75_40 _ hn40]; exact hr
  exact PW.ret0 (pc := 45) dX0_init_45 hn41 rfl ⟨rfl, rfl⟩
def u_X7_3_0 (M : pm) : pm := i_X3_5 (nw (sI (sR (nw M) 3 0 4) 3 1 0))
theorem un_X7_3_0 (M : pm) : mN (u_X7_3_0 M) = mN M + 10 := by
  unfold u_X7_3_0
  rw [in_X3_5]
  show mN M + 2 + 8 = mN M + 10
  omega
set_option maxRecDepth 4000 in
theorem k_X7_3_0 {M : pm} {Q : Option Value → pm → Prop} (hn : mN M = 1)  (h : PW mX7_init 14 274 26 [.ref 3] [.ref 5, .ref 3] (u_X7_3_0 M) Q) : PW mX7_init 14 274 0 [.ref 3] [] M Q := by
  refine PW.aload_n (pc := 0) dX7_init_0 rfl ?_
  refine PW.objInit (pc := 1) dX7_init_1 oi_X7_3 oi_i oi_c (Nat.le_of_ble_eq_true rfl) (by decide) ?_
  refine PW.aload_n (pc := 4) dX7_init_4 rfl ?_
  refine PW.sipush (pc := 5) dX7_init_5 (v := 1600) (by decide) ?_
  refine PW.newaB (pc := 8) dX7_init_8 (a := 4) aw_byte (by decide) (by decide +kernel) (by decide) (ltn (show mN M + 0 = 1 by omega) (by decide)) (eqn (show mN M + 0 = 1 by omega) rfl) ?_
  refine PW.putR (pc := 10) dX7_init_10 lf_X7_9 (obn (show mN M + 1 = 2 by omega) s_3 (by decide) (by decide)) fx_7_0 (Or.inr ⟨rfl, rfl, rfl⟩) (fun _ => rfl) (fun _ => rfl) (by decide) ?_
  refine PW.aload_n (pc := 13) dX7_init_13 rfl ?_
  refine PW.iconst (pc := 14) dX7_init_14 (v := 0) (by decide) ?_
  refine PW.putI (pc := 15) dX7_init_15 lf_X7_13 (obn (show mN M + 1 = 2 by omega) s_3 (by decide) (by decide)) fx_7_1 (Or.inl rfl) rfl rfl ?_
  refine PW.aload_n (pc := 18) dX7_init_18 rfl ?_
  refine PW.new (pc := 19) dX7_init_19 (ci := 3) (a := 5) cl_X7_17 in_3 iz_3 (by decide) (eqL (show mN M + 1 = 2 by omega) (by decide +kernel)) (ltn (show mN M + 1 = 2 by omega) (by decide)) (eqn (show mN M + 1 = 2 by omega) rfl) ?_
  refine PW.dupR (pc := 22) dX7_init_22 ?_
  refine PW.ini (m' := mX3_init) (pc := 23) dX7_init_23 lm_X7_19 me_X3_init mj_X3_init rfl rfl (As := []) (a := 5) (st := [.ref 5, .ref 3]) rfl (Nat.le_of_ble_eq_true rfl) (Nat.le_of_ble_eq_true rfl) (len_ (show mN M + 2 = 3 by omega) (by decide)) (by decide) (PW.deep (by decide) (c_X3_5 (show mN M + 2 = 3 by omega))) ?_
  rintro _ _ ⟨rfl, rfl⟩
  exact h
def u_X7_3_1 (M : pm) : pm := i_X5_14 (nw (sR M 3 2 5))
theorem un_X7_3_1 (M : pm) : mN (u_X7_3_1 M) = mN M + 15 := by
  unfold u_X7_3_1
  rw [in_X5_14]
  show mN M + 1 + 14 = mN M + 15
  omega
set_option maxRecDepth 4000 in
theorem k_X7_3_1 {M : pm} {Q : Option Value → pm → Prop} (hn : mN M = 11)  (h : PW mX7_init 14 274 37 [.ref 3] [.ref 14, .ref 3] (u_X7_3_1 M) Q) : PW mX7_init 14 274 26 [.ref 3] [.ref 5, .ref 3] M Q := by
  refine PW.putR (pc := 26) dX7_init_26 lf_X7_20 (obn (show mN M + 0 = 11 by omega) s_3 (by decide) (by decide)) fx_7_2 (Or.inr ⟨rfl, rfl, rfl⟩) (fun _ => rfl) (fun _ => rfl) (by decide) ?_
  refine PW.aload_n (pc := 29) dX7_init_29 rfl ?_
  refine PW.new (pc := 30) dX7_init_30 (ci := 5) (a := 14) cl_X7_24 in_5 iz_5 (by decide) (eqL (show mN M + 0 = 11 by omega) (by decide +kernel)) (ltn (show mN M + 0 = 11 by omega) (by decide)) (eqn (show mN M + 0 = 11 by omega) rfl) ?_
  refine PW.dupR (pc := 33) dX7_init_33 ?_
  refine PW.ini (m' := mX5_init) (pc := 34) dX7_init_34 lm_X7_26 me_X5_init mj_X5_init rfl rfl (As := []) (a := 14) (st := [.ref 14, .ref 3]) rfl (Nat.le_of_ble_eq_true rfl) (Nat.le_of_ble_eq_true rfl) (len_ (show mN M + 1 = 12 by omega) (by decide)) (by decide) (PW.deep (by decide) (c_X5_14 (show mN M + 1 = 12 by omega))) ?_
  rintro _ _ ⟨rfl, rfl⟩
  exact h
def u_X7_3_2 (M : pm) : pm := i_X5_29 (nw (sR M 3 3 14))
theorem un_X7_3_2 (M : pm) : mN (u_X7_3_2 M) = mN M + 15 := by
  unfold u_X7_3_2
  rw [in_X5_29]
  show mN M + 1 + 14 = mN M + 15
  omega
set_option maxRecDepth 4000 in
theorem k_X7_3_2 {M : pm} {Q : Option Value → pm → Prop} (hn : mN M = 26)  (h : PW mX7_init 14 274 48 [.ref 3] [.ref 29, .ref 3] (u_X7_3_2 M) Q) : PW mX7_init 14 274 37 [.ref 3] [.ref 14, .ref 3] M Q := by
  refine PW.putR (pc := 37) dX7_init_37 lf_X7_27 (obn (show mN M + 0 = 26 by omega) s_3 (by decide) (by decide)) fx_7_3 (Or.inl rfl) (fun _ => rfl) (fun _ => rfl) (by decide) ?_
  refine PW.aload_n (pc := 40) dX7_init_40 rfl ?_
  refine PW.new (pc := 41) dX7_init_41 (ci := 5) (a := 29) cl_X7_24 in_5 iz_5 (by decide) (eqL (show mN M + 0 = 26 by omega) (by decide +kernel)) (ltn (show mN M + 0 = 26 by omega) (by decide)) (eqn (show mN M + 0 = 26 by omega) rfl) ?_
  refine PW.dupR (pc := 44) dX7_init_44 ?_
  refine PW.ini (m' := mX5_init) (pc := 45) dX7_init_45 lm_X7_26 me_X5_init mj_X5_init rfl rfl (As := []) (a := 29) (st := [.ref 29, .ref 3]) rfl (Nat.le_of_ble_eq_true rfl) (Nat.le_of_ble_eq_true rfl) (len_ (show mN M + 1 = 27 by omega) (by decide)) (by decide) (PW.deep (by decide) (c_X5_29 (show mN M + 1 = 27 by omega))) ?_
  rintro _ _ ⟨rfl, rfl⟩
  exact h
def u_X7_3_3 (M : pm) : pm := i_X1_44 (nw (sI (sI (sI (sR M 3 4 29) 3 5 0) 3 6 0) 3 7 (-1)))
theorem un_X7_3_3 (M : pm) : mN (u_X7_3_3 M) = mN M + 13 := by
  unfold u_X7_3_3
  rw [in_X1_44]
  show mN M + 1 + 12 = mN M + 13
  omega
set_option maxRecDepth 4000 in
theorem k_X7_3_3 {M : pm} {Q : Option Value → pm → Prop} (hn : mN M = 41)  (h : PW mX7_init 14 274 74 [.ref 3] [.ref 44, .ref 3] (u_X7_3_3 M) Q) : PW mX7_init 14 274 48 [.ref 3] [.ref 29, .ref 3] M Q := by
  refine PW.putR (pc := 48) dX7_init_48 lf_X7_31 (obn (show mN M + 0 = 41 by omega) s_3 (by decide) (by decide)) fx_7_4 (Or.inl rfl) (fun _ => rfl) (fun _ => rfl) (by decide) ?_
  refine PW.aload_n (pc := 51) dX7_init_51 rfl ?_
  refine PW.iconst (pc := 52) dX7_init_52 (v := 0) (by decide) ?_
  refine PW.putI (pc := 53) dX7_init_53 lf_X7_34 (obn (show mN M + 0 = 41 by omega) s_3 (by decide) (by decide)) fx_7_5 (Or.inl rfl) (bz_n bz0) (bz_f bz0) ?_
  refine PW.aload_n (pc := 56) dX7_init_56 rfl ?_
  refine PW.iconst (pc := 57) dX7_init_57 (v := 0) (by decide) ?_
  refine PW.putI (pc := 58) dX7_init_58 lf_X7_38 (obn (show mN M + 0 = 41 by omega) s_3 (by decide) (by decide)) fx_7_6 (Or.inl rfl) rfl rfl ?_
  refine PW.aload_n (pc := 61) dX7_init_61 rfl ?_
  refine PW.iconst (pc := 62) dX7_init_62 (v := (-1)) (by decide) ?_
  refine PW.putI (pc := 63) dX7_init_63 lf_X7_41 (obn (show mN M + 0 = 41 by omega) s_3 (by decide) (by decide)) fx_7_7 (Or.inl rfl) rfl rfl ?_
  refine PW.aload_n (pc := 66) dX7_init_66 rfl ?_
  refine PW.new (pc := 67) dX7_init_67 (ci := 1) (a := 44) cl_X7_44 in_1 iz_1 (by decide) (eqL (show mN M + 0 = 41 by omega) (by decide +kernel)) (ltn (show mN M + 0 = 41 by omega) (by decide)) (eqn (show mN M + 0 = 41 by omega) rfl) ?_
  refine PW.dupR (pc := 70) dX7_init_70 ?_
  refine PW.ini (m' := mX1_init) (pc := 71) dX7_init_71 lm_X7_46 me_X1_init mj_X1_init rfl rfl (As := []) (a := 44) (st := [.ref 44, .ref 3]) rfl (Nat.le_of_ble_eq_true rfl) (Nat.le_of_ble_eq_true rfl) (len_ (show mN M + 1 = 42 by omega) (by decide)) (by decide) (PW.deep (by decide) (c_X1_44 (show mN M + 1 = 42 by omega))) ?_
  rintro _ _ ⟨rfl, rfl⟩
  exact h
def u_X7_3_4 (M : pm) : pm := i_X4_57 (nw (sR M 3 8 44))
theorem un_X7_3_4 (M : pm) : mN (u_X7_3_4 M) = mN M + 9 := by
  unfold u_X7_3_4
  rw [in_X4_57]
  show mN M + 1 + 8 = mN M + 9
  omega
set_option maxRecDepth 4000 in
theorem k_X7_3_4 {M : pm} {Q : Option Value → pm → Prop} (hn : mN M = 54)  (h : PW mX7_init 14 274 85 [.ref 3] [.ref 57, .ref 3] (u_X7_3_4 M) Q) : PW mX7_init 14 274 74 [.ref 3] [.ref 44, .ref 3] M Q := by
  refine PW.putR (pc := 74) dX7_init_74 lf_X7_47 (obn (show mN M + 0 = 54 by omega) s_3 (by decide) (by decide)) fx_7_8 (Or.inr ⟨rfl, rfl, rfl⟩) (fun _ => rfl) (fun _ => rfl) (by decide) ?_
  refine PW.aload_n (pc := 77) dX7_init_77 rfl ?_
  refine PW.new (pc := 78) dX7_init_78 (ci := 4) (a := 57) cl_X7_51 in_4 iz_4 (by decide) (eqL (show mN M + 0 = 54 by omega) (by decide +kernel)) (ltn (show mN M + 0 = 54 by omega) (by decide)) (eqn (show mN M + 0 = 54 by omega) rfl) ?_
  refine PW.dupR (pc := 81) dX7_init_81 ?_
  refine PW.ini (m' := mX4_init) (pc := 82) dX7_init_82 lm_X7_53 me_X4_init mj_X4_init rfl rfl (As := []) (a := 57) (st := [.ref 57, .ref 3]) rfl (Nat.le_of_ble_eq_true rfl) (Nat.le_of_ble_eq_true rfl) (len_ (show mN M + 1 = 55 by omega) (by decide)) (by decide) (PW.deep (by decide) (c_X4_57 (show mN M + 1 = 55 by omega))) ?_
  rintro _ _ ⟨rfl, rfl⟩
  exact h
def u_X7_3_5 (M : pm) : pm := i_X4_66 (nw (sR M 3 9 57))
theorem un_X7_3_5 (M : pm) : mN (u_X7_3_5 M) = mN M + 9 := by
  unfold u_X7_3_5
  rw [in_X4_66]
  show mN M + 1 + 8 = mN M + 9
  omega
set_option maxRecDepth 4000 in
theorem k_X7_3_5 {M : pm} {Q : Option Value → pm → Prop} (hn : mN M = 63)  (h : PW mX7_init 14 274 96 [.ref 3] [.ref 66, .ref 3] (u_X7_3_5 M) Q) : PW mX7_init 14 274 85 [.ref 3] [.ref 57, .ref 3] M Q := by
  refine PW.putR (pc := 85) dX7_init_85 lf_X7_54 (obn (show mN M + 0 = 63 by omega) s_3 (by decide) (by decide)) fx_7_9 (Or.inr ⟨rfl, rfl, rfl⟩) (fun _ => rfl) (fun _ => rfl) (by decide) ?_
  refine PW.aload_n (pc := 88) dX7_init_88 rfl ?_
  refine PW.new (pc := 89) dX7_init_89 (ci := 4) (a := 66) cl_X7_51 in_4 iz_4 (by decide) (eqL (show mN M + 0 = 63 by omega) (by decide +kernel)) (ltn (show mN M + 0 = 63 by omega) (by decide)) (eqn (show mN M + 0 = 63 by omega) rfl) ?_
  refine PW.dupR (pc := 92) dX7_init_92 ?_
  refine PW.ini (m' := mX4_init) (pc := 93) dX7_init_93 lm_X7_53 me_X4_init mj_X4_init rfl rfl (As := []) (a := 66) (st := [.ref 66, .ref 3]) rfl (Nat.le_of_ble_eq_true rfl) (Nat.le_of_ble_eq_true rfl) (len_ (show mN M + 1 = 64 by omega) (by decide)) (by decide) (PW.deep (by decide) (c_X4_66 (show mN M + 1 = 64 by omega))) ?_
  rintro _ _ ⟨rfl, rfl⟩
  exact h
def u_X7_3_6 (M : pm) : pm := i_X0_75 (nw (sR M 3 10 66))
theorem un_X7_3_6 (M : pm) : mN (u_X7_3_6 M) = mN M + 182 := by
  unfold u_X7_3_6
  rw [in_X0_75]
  show mN M + 1 + 181 = mN M + 182
  omega
set_option maxRecDepth 4000 in
theorem k_X7_3_6 {M : pm} {Q : Option Value → pm → Prop} (hn : mN M = 72)  (h : PW mX7_init 14 274 107 [.ref 3] [.ref 75, .ref 3] (u_X7_3_6 M) Q) : PW mX7_init 14 274 96 [.ref 3] [.ref 66, .ref 3] M Q := by
  refine PW.putR (pc := 96) dX7_init_96 lf_X7_58 (obn (show mN M + 0 = 72 by omega) s_3 (by decide) (by decide)) fx_7_10 (Or.inr ⟨rfl, rfl, rfl⟩) (fun _ => rfl) (fun _ => rfl) (by decide) ?_
  refine PW.aload_n (pc := 99) dX7_init_99 rfl ?_
  refine PW.new (pc := 100) dX7_init_100 (ci := 0) (a := 75) cl_X7_61 in_0 iz_0 (by decide) (eqL (show mN M + 0 = 72 by omega) (by decide +kernel)) (ltn (show mN M + 0 = 72 by omega) (by decide)) (eqn (show mN M + 0 = 72 by omega) rfl) ?_
  refine PW.dupR (pc := 103) dX7_init_103 ?_
  refine PW.ini (m' := mX0_init) (pc := 104) dX7_init_104 lm_X7_63 me_X0_init mj_X0_init rfl rfl (As := []) (a := 75) (st := [.ref 75, .ref 3]) rfl (Nat.le_of_ble_eq_true rfl) (Nat.le_of_ble_eq_true rfl) (len_ (show mN M + 1 = 73 by omega) (by decide)) (by decide) (PW.deep (by decide) (c_X0_75 (show mN M + 1 = 73 by omega))) ?_
  rintro _ _ ⟨rfl, rfl⟩
  exact h
def u_X7_3_7 (M : pm) : pm := sI (sR (nw (sI (sR (nw (sR (nw (sI (sR (nm (sR M 3 11 75) 16) 3 12 257) 3 13 0)) 3 14 274)) 3 15 275) 3 16 0)) 3 17 276) 3 18 1
theorem un_X7_3_7 (M : pm) : mN (u_X7_3_7 M) = mN M + 20 := rfl
set_option maxRecDepth 4000 in
theorem k_X7_3_7 {M : pm} {Q : Option Value → pm → Prop} (hn : mN M = 254)  (h : PW mX7_init 14 274 160 [.ref 3] [] (u_X7_3_7 M) Q) : PW mX7_init 14 274 107 [.ref 3] [.ref 75, .ref 3] M Q := by
  refine PW.putR (pc := 107) dX7_init_107 lf_X7_64 (obn (show mN M + 0 = 254 by omega) s_3 (by decide) (by decide)) fx_7_11 (Or.inr ⟨rfl, rfl, rfl⟩) (fun _ => rfl) (fun _ => rfl) (by decide) ?_
  refine PW.aload_n (pc := 110) dX7_init_110 rfl ?_
  refine PW.bipush (pc := 111) dX7_init_111 (v := 16) (by decide) ?_
  refine PW.iconst (pc := 113) dX7_init_113 (v := 3) (by decide) ?_
  refine PW.mna (pc := 114) dX7_init_114 (a := 257) (N := 16) (K := 3) cl_X7_68 aw_int (by decide) (by decide) (by decide) (by decide) (by decide) (by decide) (by decide) (by decide +kernel) (by decide +kernel) (lzL (show mN M + 0 = 254 by omega) (by decide +kernel)) (leL (show mN M + 0 = 254 by omega) (by decide)) (eqn (show mN M + 0 = 254 by omega) rfl) ?_
  refine PW.putR (pc := 118) dX7_init_118 lf_X7_70 (obn (show mN M + 17 = 271 by omega) s_3 (by decide) (by decide)) fx_7_12 (Or.inr ⟨rfl, rfl, rfl⟩) (fun _ => rfl) (fun _ => rfl) (by decide) ?_
  refine PW.aload_n (pc := 121) dX7_init_121 rfl ?_
  refine PW.iconst (pc := 122) dX7_init_122 (v := 0) (by decide) ?_
  refine PW.putI (pc := 123) dX7_init_123 lf_X7_73 (obn (show mN M + 17 = 271 by omega) s_3 (by decide) (by decide)) fx_7_13 (Or.inl rfl) rfl rfl ?_
  refine PW.aload_n (pc := 126) dX7_init_126 rfl ?_
  refine PW.bipush (pc := 127) dX7_init_127 (v := 100) (by decide) ?_
  refine PW.newaI (pc := 129) dX7_init_129 (a := 274) aw_int (by decide) (by decide +kernel) (by decide) (ltn (show mN M + 17 = 271 by omega) (by decide)) (eqn (show mN M + 17 = 271 by omega) rfl) ?_
  refine PW.putR (pc := 131) dX7_init_131 lf_X7_76 (obn (show mN M + 18 = 272 by omega) s_3 (by decide) (by decide)) fx_7_14 (Or.inr ⟨rfl, rfl, rfl⟩) (fun _ => rfl) (fun _ => rfl) (by decide) ?_
  refine PW.aload_n (pc := 134) dX7_init_134 rfl ?_
  refine PW.bipush (pc := 135) dX7_init_135 (v := 69) (by decide) ?_
  refine PW.newaI (pc := 137) dX7_init_137 (a := 275) aw_int (by decide) (by decide +kernel) (by decide) (ltn (show mN M + 18 = 272 by omega) (by decide)) (eqn (show mN M + 18 = 272 by omega) rfl) ?_
  refine PW.putR (pc := 139) dX7_init_139 lf_X7_80 (obn (show mN M + 19 = 273 by omega) s_3 (by decide) (by decide)) fx_7_15 (Or.inr ⟨rfl, rfl, rfl⟩) (fun _ => rfl) (fun _ => rfl) (by decide) ?_
  refine PW.aload_n (pc := 142) dX7_init_142 rfl ?_
  refine PW.iconst (pc := 143) dX7_init_143 (v := 0) (by decide) ?_
  refine PW.putI (pc := 144) dX7_init_144 lf_X7_83 (obn (show mN M + 19 = 273 by omega) s_3 (by decide) (by decide)) fx_7_16 (Or.inl rfl) rfl rfl ?_
  refine PW.aload_n (pc := 147) dX7_init_147 rfl ?_
  refine PW.bipush (pc := 148) dX7_init_148 (v := 6) (by decide) ?_
  refine PW.newaI (pc := 150) dX7_init_150 (a := 276) aw_int (by decide) (by decide +kernel) (by decide) (ltn (show mN M + 19 = 273 by omega) (by decide)) (eqn (show mN M + 19 = 273 by omega) rfl) ?_
  refine PW.putR (pc := 152) dX7_init_152 lf_X7_86 (obn (show mN M + 20 = 274 by omega) s_3 (by decide) (by decide)) fx_7_17 (Or.inr ⟨rfl, rfl, rfl⟩) (fun _ => rfl) (fun _ => rfl) (by decide) ?_
  refine PW.aload_n (pc := 155) dX7_init_155 rfl ?_
  refine PW.iconst (pc := 156) dX7_init_156 (v := 1) (by decide) ?_
  refine PW.putI (pc := 157) dX7_init_157 lf_X7_89 (obn (show mN M + 20 = 274 by omega) s_3 (by decide) (by decide)) fx_7_18 (Or.inl rfl) rfl rfl ?_
  exact h
def i_X7_3 (M : pm) : pm := u_X7_3_7 (u_X7_3_6 (u_X7_3_5 (u_X7_3_4 (u_X7_3_3 (u_X7_3_2 (u_X7_3_1 (u_X7_3_0 M)))))))
theorem in_X7_3 (M : pm) : mN (i_X7_3 M) = mN M + 273 := by
  unfold i_X7_3
  rw [un_X7_3_7, un_X7_3_6, un_X7_3_5, un_X7_3_4, un_X7_3_3, un_X7_3_2, un_X7_3_1, un_X7_3_0] <;> omega
theorem c_X7_3 {M : pm} (hn : mN M = 1) : PW mX7_init 14 274 0 (pfr mX7_init.2.2.1 [.ref 3]) [] M (fun r M' => r = none ∧ M' = i_X7_3 M) := by
  show PW mX7_init 14 274 0 [.ref 3] [] M _
  refine k_X7_3_0 hn  ?_
  have hn1 : mN (u_X7_3_0 M) = 11 := by rw [un_X7_3_0, hn]
  refine k_X7_3_1 hn1  ?_
  have hn2 : mN (u_X7_3_1 (u_X7_3_0 M)) = 26 := by rw [un_X7_3_1, hn1]
  refine k_X7_3_2 hn2  ?_
  have hn3 : mN (u_X7_3_2 (u_X7_3_1 (u_X7_3_0 M))) = 41 := by rw [un_X7_3_2, hn2]
  refine k_X7_3_3 hn3  ?_
  have hn4 : mN (u_X7_3_3 (u_X7_3_2 (u_X7_3_1 (u_X7_3_0 M)))) = 54 := by rw [un_X7_3_3, hn3]
  refine k_X7_3_4 hn4  ?_
  have hn5 : mN (u_X7_3_4 (u_X7_3_3 (u_X7_3_2 (u_X7_3_1 (u_X7_3_0 M))))) = 63 := by rw [un_X7_3_4, hn4]
  refine k_X7_3_5 hn5  ?_
  have hn6 : mN (u_X7_3_5 (u_X7_3_4 (u_X7_3_3 (u_X7_3_2 (u_X7_3_1 (u_X7_3_0 M)))))) = 72 := by rw [un_X7_3_5, hn5]
  refine k_X7_3_6 hn6  ?_
  have hn7 : mN (u_X7_3_6 (u_X7_3_5 (u_X7_3_4 (u_X7_3_3 (u_X7_3_2 (u_X7_3_1 (u_X7_3_0 M))))))) = 254 := by rw [un_X7_3_6, hn6]
  refine k_X7_3_7 hn7  ?_
  have hn8 : mN (u_X7_3_7 (u_X7_3_6 (u_X7_3_5 (u_X7_3_4 (u_X7_3_3 (u_X7_3_2 (u_X7_3_1 (u_X7_3_0 M)))))))) = 274 := by rw [un_X7_3_7, hn7]
  exact PW.ret0 (pc := 160) dX7_init_160 hn8 rfl ⟨rfl, rfl⟩
def u_X8_277_0 (M : pm) : pm := sR (sI (sI (sI (sI (nw (sR (sI (sI (sI (sI (nw (sR (nw (sI (sR (nw M) 277 0 278) 277 8 (-1))) 277 9 279)) 280 0 (vp_nar .char 104)) 280 1 (vp_nar .char 111)) 280 2 (vp_nar .char 117)) 280 3 (vp_nar .char 114)) 277 10 280)) 281 0 (vp_nar .char 115)) 281 1 (vp_nar .char 111)) 281 2 (vp_nar .char 110)) 281 3 (vp_nar .char 103)) 277 11 281
theorem un_X8_277_0 (M : pm) : mN (u_X8_277_0 M) = mN M + 4 := rfl
set_option maxRecDepth 4000 in
theorem k_X8_277_0 {M : pm} {Q : Option Value → pm → Prop} (hn : mN M = 275)  (h : PW mX8_init 10 350 80 [.ref 277] [] (u_X8_277_0 M) Q) : PW mX8_init 10 350 0 [.ref 277] [] M Q := by
  refine PW.aload_n (pc := 0) dX8_init_0 rfl ?_
  refine PW.objInit (pc := 1) dX8_init_1 oi_X8_1 oi_i oi_c (Nat.le_of_ble_eq_true rfl) (by decide) ?_
  refine PW.aload_n (pc := 4) dX8_init_4 rfl ?_
  refine PW.sipush (pc := 5) dX8_init_5 (v := 1600) (by decide) ?_
  refine PW.newaI (pc := 8) dX8_init_8 (a := 278) aw_int (by decide) (by decide +kernel) (by decide) (ltn (show mN M + 0 = 275 by omega) (by decide)) (eqn (show mN M + 0 = 275 by omega) rfl) ?_
  refine PW.putR (pc := 10) dX8_init_10 lf_X8_7 (obn (show mN M + 1 = 276 by omega) s_277 (by decide) (by decide)) fx_8_0 (Or.inr ⟨rfl, rfl, rfl⟩) (fun _ => rfl) (fun _ => rfl) (by decide) ?_
  refine PW.aload_n (pc := 13) dX8_init_13 rfl ?_
  refine PW.iconst (pc := 14) dX8_init_14 (v := (-1)) (by decide) ?_
  refine PW.putI (pc := 15) dX8_init_15 lf_X8_13 (obn (show mN M + 1 = 276 by omega) s_277 (by decide) (by decide)) fx_8_8 (Or.inl rfl) rfl rfl ?_
  refine PW.aload_n (pc := 18) dX8_init_18 rfl ?_
  refine PW.bipush (pc := 19) dX8_init_19 (v := 6) (by decide) ?_
  refine PW.newaI (pc := 21) dX8_init_21 (a := 279) aw_int (by decide) (by decide +kernel) (by decide) (ltn (show mN M + 1 = 276 by omega) (by decide)) (eqn (show mN M + 1 = 276 by omega) rfl) ?_
  refine PW.putR (pc := 23) dX8_init_23 lf_X8_17 (obn (show mN M + 2 = 277 by omega) s_277 (by decide) (by decide)) fx_8_9 (Or.inr ⟨rfl, rfl, rfl⟩) (fun _ => rfl) (fun _ => rfl) (by decide) ?_
  refine PW.aload_n (pc := 26) dX8_init_26 rfl ?_
  refine PW.iconst (pc := 27) dX8_init_27 (v := 4) (by decide) ?_
  refine PW.newaC (pc := 28) dX8_init_28 (a := 280) aw_char (by decide) (by decide +kernel) (by decide) (ltn (show mN M + 2 = 277 by omega) (by decide)) (eqn (show mN M + 2 = 277 by omega) rfl) ?_
  refine PW.dupR (pc := 30) dX8_init_30 ?_
  refine PW.iconst (pc := 31) dX8_init_31 (v := 0) (by decide) ?_
  refine PW.bipush (pc := 32) dX8_init_32 (v := 104) (by decide) ?_
  refine PW.cast (pc := 34) dX8_init_34 (arn (show mN M + 3 = 278 by omega) s_280 (by decide)) (vpl n_280 (vp_c (by decide))) ?_
  refine PW.dupR (pc := 35) dX8_init_35 ?_
  refine PW.iconst (pc := 36) dX8_init_36 (v := 1) (by decide) ?_
  refine PW.bipush (pc := 37) dX8_init_37 (v := 111) (by decide) ?_
  refine PW.cast (pc := 39) dX8_init_39 (arn (show mN M + 3 = 278 by omega) s_280 (by decide)) (vpl n_280 (vp_c (by decide))) ?_
  refine PW.dupR (pc := 40) dX8_init_40 ?_
  refine PW.iconst (pc := 41) dX8_init_41 (v := 2) (by decide) ?_
  refine PW.bipush (pc := 42) dX8_init_42 (v := 117) (by decide) ?_
  refine PW.cast (pc := 44) dX8_init_44 (arn (show mN M + 3 = 278 by omega) s_280 (by decide)) (vpl n_280 (vp_c (by decide))) ?_
  refine PW.dupR (pc := 45) dX8_init_45 ?_
  refine PW.iconst (pc := 46) dX8_init_46 (v := 3) (by decide) ?_
  refine PW.bipush (pc := 47) dX8_init_47 (v := 114) (by decide) ?_
  refine PW.cast (pc := 49) dX8_init_49 (arn (show mN M + 3 = 278 by omega) s_280 (by decide)) (vpl n_280 (vp_c (by decide))) ?_
  refine PW.putR (pc := 50) dX8_init_50 lf_X8_20 (obn (show mN M + 3 = 278 by omega) s_277 (by decide) (by decide)) fx_8_10 (Or.inr ⟨rfl, rfl, rfl⟩) (fun _ => rfl) (fun _ => rfl) (by decide) ?_
  refine PW.aload_n (pc := 53) dX8_init_53 rfl ?_
  refine PW.iconst (pc := 54) dX8_init_54 (v := 4) (by decide) ?_
  refine PW.newaC (pc := 55) dX8_init_55 (a := 281) aw_char (by decide) (by decide +kernel) (by decide) (ltn (show mN M + 3 = 278 by omega) (by decide)) (eqn (show mN M + 3 = 278 by omega) rfl) ?_
  refine PW.dupR (pc := 57) dX8_init_57 ?_
  refine PW.iconst (pc := 58) dX8_init_58 (v := 0) (by decide) ?_
  refine PW.bipush (pc := 59) dX8_init_59 (v := 115) (by decide) ?_
  refine PW.cast (pc := 61) dX8_init_61 (arn (show mN M + 4 = 279 by omega) s_281 (by decide)) (vpl n_281 (vp_c (by decide))) ?_
  refine PW.dupR (pc := 62) dX8_init_62 ?_
  refine PW.iconst (pc := 63) dX8_init_63 (v := 1) (by decide) ?_
  refine PW.bipush (pc := 64) dX8_init_64 (v := 111) (by decide) ?_
  refine PW.cast (pc := 66) dX8_init_66 (arn (show mN M + 4 = 279 by omega) s_281 (by decide)) (vpl n_281 (vp_c (by decide))) ?_
  refine PW.dupR (pc := 67) dX8_init_67 ?_
  refine PW.iconst (pc := 68) dX8_init_68 (v := 2) (by decide) ?_
  refine PW.bipush (pc := 69) dX8_init_69 (v := 110) (by decide) ?_
  refine PW.cast (pc := 71) dX8_init_71 (arn (show mN M + 4 = 279 by omega) s_281 (by decide)) (vpl n_281 (vp_c (by decide))) ?_
  refine PW.dupR (pc := 72) dX8_init_72 ?_
  refine PW.iconst (pc := 73) dX8_init_73 (v := 3) (by decide) ?_
  refine PW.bipush (pc := 74) dX8_init_74 (v := 103) (by decide) ?_
  refine PW.cast (pc := 76) dX8_init_76 (arn (show mN M + 4 = 279 by omega) s_281 (by decide)) (vpl n_281 (vp_c (by decide))) ?_
  refine PW.putR (pc := 77) dX8_init_77 lf_X8_24 (obn (show mN M + 4 = 279 by omega) s_277 (by decide) (by decide)) fx_8_11 (Or.inr ⟨rfl, rfl, rfl⟩) (fun _ => rfl) (fun _ => rfl) (by decide) ?_
  exact h
def u_X8_277_1 (M : pm) : pm := sR (sI (sI (sI (sI (sI (nw (sR (sI (sI (sI (sI (nw M) 282 0 (vp_nar .char 108)) 282 1 (vp_nar .char 111)) 282 2 (vp_nar .char 110)) 282 3 (vp_nar .char 103)) 277 12 282)) 283 0 (vp_nar .char 115)) 283 1 (vp_nar .char 116)) 283 2 (vp_nar .char 121)) 283 3 (vp_nar .char 108)) 283 4 (vp_nar .char 101)) 277 13 283
theorem un_X8_277_1 (M : pm) : mN (u_X8_277_1 M) = mN M + 2 := rfl
set_option maxRecDepth 4000 in
theorem k_X8_277_1 {M : pm} {Q : Option Value → pm → Prop} (hn : mN M = 279)  (h : PW mX8_init 10 350 139 [.ref 277] [] (u_X8_277_1 M) Q) : PW mX8_init 10 350 80 [.ref 277] [] M Q := by
  refine PW.aload_n (pc := 80) dX8_init_80 rfl ?_
  refine PW.iconst (pc := 81) dX8_init_81 (v := 4) (by decide) ?_
  refine PW.newaC (pc := 82) dX8_init_82 (a := 282) aw_char (by decide) (by decide +kernel) (by decide) (ltn (show mN M + 0 = 279 by omega) (by decide)) (eqn (show mN M + 0 = 279 by omega) rfl) ?_
  refine PW.dupR (pc := 84) dX8_init_84 ?_
  refine PW.iconst (pc := 85) dX8_init_85 (v := 0) (by decide) ?_
  refine PW.bipush (pc := 86) dX8_init_86 (v := 108) (by decide) ?_
  refine PW.cast (pc := 88) dX8_init_88 (arn (show mN M + 1 = 280 by omega) s_282 (by decide)) (vpl n_282 (vp_c (by decide))) ?_
  refine PW.dupR (pc := 89) dX8_init_89 ?_
  refine PW.iconst (pc := 90) dX8_init_90 (v := 1) (by decide) ?_
  refine PW.bipush (pc := 91) dX8_init_91 (v := 111) (by decide) ?_
  refine PW.cast (pc := 93) dX8_init_93 (arn (show mN M + 1 = 280 by omega) s_282 (by decide)) (vpl n_282 (vp_c (by decide))) ?_
  refine PW.dupR (pc := 94) dX8_init_94 ?_
  refine PW.iconst (pc := 95) dX8_init_95 (v := 2) (by decide) ?_
  refine PW.bipush (pc := 96) dX8_init_96 (v := 110) (by decide) ?_
  refine PW.cast (pc := 98) dX8_init_98 (arn (show mN M + 1 = 280 by omega) s_282 (by decide)) (vpl n_282 (vp_c (by decide))) ?_
  refine PW.dupR (pc := 99) dX8_init_99 ?_
  refine PW.iconst (pc := 100) dX8_init_100 (v := 3) (by decide) ?_
  refine PW.bipush (pc := 101) dX8_init_101 (v := 103) (by decide) ?_
  refine PW.cast (pc := 103) dX8_init_103 (arn (show mN M + 1 = 280 by omega) s_282 (by decide)) (vpl n_282 (vp_c (by decide))) ?_
  refine PW.putR (pc := 104) dX8_init_104 lf_X8_27 (obn (show mN M + 1 = 280 by omega) s_277 (by decide) (by decide)) fx_8_12 (Or.inr ⟨rfl, rfl, rfl⟩) (fun _ => rfl) (fun _ => rfl) (by decide) ?_
  refine PW.aload_n (pc := 107) dX8_init_107 rfl ?_
  refine PW.iconst (pc := 108) dX8_init_108 (v := 5) (by decide) ?_
  refine PW.newaC (pc := 109) dX8_init_109 (a := 283) aw_char (by decide) (by decide +kernel) (by decide) (ltn (show mN M + 1 = 280 by omega) (by decide)) (eqn (show mN M + 1 = 280 by omega) rfl) ?_
  refine PW.dupR (pc := 111) dX8_init_111 ?_
  refine PW.iconst (pc := 112) dX8_init_112 (v := 0) (by decide) ?_
  refine PW.bipush (pc := 113) dX8_init_113 (v := 115) (by decide) ?_
  refine PW.cast (pc := 115) dX8_init_115 (arn (show mN M + 2 = 281 by omega) s_283 (by decide)) (vpl n_283 (vp_c (by decide))) ?_
  refine PW.dupR (pc := 116) dX8_init_116 ?_
  refine PW.iconst (pc := 117) dX8_init_117 (v := 1) (by decide) ?_
  refine PW.bipush (pc := 118) dX8_init_118 (v := 116) (by decide) ?_
  refine PW.cast (pc := 120) dX8_init_120 (arn (show mN M + 2 = 281 by omega) s_283 (by decide)) (vpl n_283 (vp_c (by decide))) ?_
  refine PW.dupR (pc := 121) dX8_init_121 ?_
  refine PW.iconst (pc := 122) dX8_init_122 (v := 2) (by decide) ?_
  refine PW.bipush (pc := 123) dX8_init_123 (v := 121) (by decide) ?_
  refine PW.cast (pc := 125) dX8_init_125 (arn (show mN M + 2 = 281 by omega) s_283 (by decide)) (vpl n_283 (vp_c (by decide))) ?_
  refine PW.dupR (pc := 126) dX8_init_126 ?_
  refine PW.iconst (pc := 127) dX8_init_127 (v := 3) (by decide) ?_
  refine PW.bipush (pc := 128) dX8_init_128 (v := 108) (by decide) ?_
  refine PW.cast (pc := 130) dX8_init_130 (arn (show mN M + 2 = 281 by omega) s_283 (by decide)) (vpl n_283 (vp_c (by decide))) ?_
  refine PW.dupR (pc := 131) dX8_init_131 ?_
  refine PW.iconst (pc := 132) dX8_init_132 (v := 4) (by decide) ?_
  refine PW.bipush (pc := 133) dX8_init_133 (v := 101) (by decide) ?_
  refine PW.cast (pc := 135) dX8_init_135 (arn (show mN M + 2 = 281 by omega) s_283 (by decide)) (vpl n_283 (vp_c (by decide))) ?_
  refine PW.putR (pc := 136) dX8_init_136 lf_X8_30 (obn (show mN M + 2 = 281 by omega) s_277 (by decide) (by decide)) fx_8_13 (Or.inr ⟨rfl, rfl, rfl⟩) (fun _ => rfl) (fun _ => rfl) (by decide) ?_
  exact h
def u_X8_277_2 (M : pm) : pm := sR (sI (sI (sI (sI (sI (nw (sR (sI (sI (sI (sI (sI (nw M) 284 0 (vp_nar .char 97)) 284 1 (vp_nar .char 115)) 284 2 (vp_nar .char 107)) 284 3 (vp_nar .char 101)) 284 4 (vp_nar .char 114)) 277 14 284)) 285 0 (vp_nar .char 119)) 285 1 (vp_nar .char 97)) 285 2 (vp_nar .char 110)) 285 3 (vp_nar .char 116)) 285 4 (vp_nar .char 115)) 277 15 285
theorem un_X8_277_2 (M : pm) : mN (u_X8_277_2 M) = mN M + 2 := rfl
set_option maxRecDepth 4000 in
theorem k_X8_277_2 {M : pm} {Q : Option Value → pm → Prop} (hn : mN M = 281)  (h : PW mX8_init 10 350 203 [.ref 277] [] (u_X8_277_2 M) Q) : PW mX8_init 10 350 139 [.ref 277] [] M Q := by
  refine PW.aload_n (pc := 139) dX8_init_139 rfl ?_
  refine PW.iconst (pc := 140) dX8_init_140 (v := 5) (by decide) ?_
  refine PW.newaC (pc := 141) dX8_init_141 (a := 284) aw_char (by decide) (by decide +kernel) (by decide) (ltn (show mN M + 0 = 281 by omega) (by decide)) (eqn (show mN M + 0 = 281 by omega) rfl) ?_
  refine PW.dupR (pc := 143) dX8_init_143 ?_
  refine PW.iconst (pc := 144) dX8_init_144 (v := 0) (by decide) ?_
  refine PW.bipush (pc := 145) dX8_init_145 (v := 97) (by decide) ?_
  refine PW.cast (pc := 147) dX8_init_147 (arn (show mN M + 1 = 282 by omega) s_284 (by decide)) (vpl n_284 (vp_c (by decide))) ?_
  refine PW.dupR (pc := 148) dX8_init_148 ?_
  refine PW.iconst (pc := 149) dX8_init_149 (v := 1) (by decide) ?_
  refine PW.bipush (pc := 150) dX8_init_150 (v := 115) (by decide) ?_
  refine PW.cast (pc := 152) dX8_init_152 (arn (show mN M + 1 = 282 by omega) s_284 (by decide)) (vpl n_284 (vp_c (by decide))) ?_
  refine PW.dupR (pc := 153) dX8_init_153 ?_
  refine PW.iconst (pc := 154) dX8_init_154 (v := 2) (by decide) ?_
  refine PW.bipush (pc := 155) dX8_init_155 (v := 107) (by decide) ?_
  refine PW.cast (pc := 157) dX8_init_157 (arn (show mN M + 1 = 282 by omega) s_284 (by decide)) (vpl n_284 (vp_c (by decide))) ?_
  refine PW.dupR (pc := 158) dX8_init_158 ?_
  refine PW.iconst (pc := 159) dX8_init_159 (v := 3) (by decide) ?_
  refine PW.bipush (pc := 160) dX8_init_160 (v := 101) (by decide) ?_
  refine PW.cast (pc := 162) dX8_init_162 (arn (show mN M + 1 = 282 by omega) s_284 (by decide)) (vpl n_284 (vp_c (by decide))) ?_
  refine PW.dupR (pc := 163) dX8_init_163 ?_
  refine PW.iconst (pc := 164) dX8_init_164 (v := 4) (by decide) ?_
  refine PW.bipush (pc := 165) dX8_init_165 (v := 114) (by decide) ?_
  refine PW.cast (pc := 167) dX8_init_167 (arn (show mN M + 1 = 282 by omega) s_284 (by decide)) (vpl n_284 (vp_c (by decide))) ?_
  refine PW.putR (pc := 168) dX8_init_168 lf_X8_33 (obn (show mN M + 1 = 282 by omega) s_277 (by decide) (by decide)) fx_8_14 (Or.inr ⟨rfl, rfl, rfl⟩) (fun _ => rfl) (fun _ => rfl) (by decide) ?_
  refine PW.aload_n (pc := 171) dX8_init_171 rfl ?_
  refine PW.iconst (pc := 172) dX8_init_172 (v := 5) (by decide) ?_
  refine PW.newaC (pc := 173) dX8_init_173 (a := 285) aw_char (by decide) (by decide +kernel) (by decide) (ltn (show mN M + 1 = 282 by omega) (by decide)) (eqn (show mN M + 1 = 282 by omega) rfl) ?_
  refine PW.dupR (pc := 175) dX8_init_175 ?_
  refine PW.iconst (pc := 176) dX8_init_176 (v := 0) (by decide) ?_
  refine PW.bipush (pc := 177) dX8_init_177 (v := 119) (by decide) ?_
  refine PW.cast (pc := 179) dX8_init_179 (arn (show mN M + 2 = 283 by omega) s_285 (by decide)) (vpl n_285 (vp_c (by decide))) ?_
  refine PW.dupR (pc := 180) dX8_init_180 ?_
  refine PW.iconst (pc := 181) dX8_init_181 (v := 1) (by decide) ?_
  refine PW.bipush (pc := 182) dX8_init_182 (v := 97) (by decide) ?_
  refine PW.cast (pc := 184) dX8_init_184 (arn (show mN M + 2 = 283 by omega) s_285 (by decide)) (vpl n_285 (vp_c (by decide))) ?_
  refine PW.dupR (pc := 185) dX8_init_185 ?_
  refine PW.iconst (pc := 186) dX8_init_186 (v := 2) (by decide) ?_
  refine PW.bipush (pc := 187) dX8_init_187 (v := 110) (by decide) ?_
  refine PW.cast (pc := 189) dX8_init_189 (arn (show mN M + 2 = 283 by omega) s_285 (by decide)) (vpl n_285 (vp_c (by decide))) ?_
  refine PW.dupR (pc := 190) dX8_init_190 ?_
  refine PW.iconst (pc := 191) dX8_init_191 (v := 3) (by decide) ?_
  refine PW.bipush (pc := 192) dX8_init_192 (v := 116) (by decide) ?_
  refine PW.cast (pc := 194) dX8_init_194 (arn (show mN M + 2 = 283 by omega) s_285 (by decide)) (vpl n_285 (vp_c (by decide))) ?_
  refine PW.dupR (pc := 195) dX8_init_195 ?_
  refine PW.iconst (pc := 196) dX8_init_196 (v := 4) (by decide) ?_
  refine PW.bipush (pc := 197) dX8_init_197 (v := 115) (by decide) ?_
  refine PW.cast (pc := 199) dX8_init_199 (arn (show mN M + 2 = 283 by omega) s_285 (by decide)) (vpl n_285 (vp_c (by decide))) ?_
  refine PW.putR (pc := 200) dX8_init_200 lf_X8_36 (obn (show mN M + 2 = 283 by omega) s_277 (by decide) (by decide)) fx_8_15 (Or.inr ⟨rfl, rfl, rfl⟩) (fun _ => rfl) (fun _ => rfl) (by decide) ?_
  exact h
def u_X8_277_3 (M : pm) : pm := sR (sI (sI (sI (sI (sI (nw (sR (sI (sI (sI (sI (nw M) 286 0 (vp_nar .char 100)) 286 1 (vp_nar .char 105)) 286 2 (vp_nar .char 101)) 286 3 (vp_nar .char 115)) 277 16 286)) 287 0 (vp_nar .char 109)) 287 1 (vp_nar .char 105)) 287 2 (vp_nar .char 110)) 287 3 (vp_nar .char 100)) 287 4 (vp_nar .char 115)) 277 17 287
theorem un_X8_277_3 (M : pm) : mN (u_X8_277_3 M) = mN M + 2 := rfl
set_option maxRecDepth 4000 in
theorem k_X8_277_3 {M : pm} {Q : Option Value → pm → Prop} (hn : mN M = 283)  (h : PW mX8_init 10 350 262 [.ref 277] [] (u_X8_277_3 M) Q) : PW mX8_init 10 350 203 [.ref 277] [] M Q := by
  refine PW.aload_n (pc := 203) dX8_init_203 rfl ?_
  refine PW.iconst (pc := 204) dX8_init_204 (v := 4) (by decide) ?_
  refine PW.newaC (pc := 205) dX8_init_205 (a := 286) aw_char (by decide) (by decide +kernel) (by decide) (ltn (show mN M + 0 = 283 by omega) (by decide)) (eqn (show mN M + 0 = 283 by omega) rfl) ?_
  refine PW.dupR (pc := 207) dX8_init_207 ?_
  refine PW.iconst (pc := 208) dX8_init_208 (v := 0) (by decide) ?_
  refine PW.bipush (pc := 209) dX8_init_209 (v := 100) (by decide) ?_
  refine PW.cast (pc := 211) dX8_init_211 (arn (show mN M + 1 = 284 by omega) s_286 (by decide)) (vpl n_286 (vp_c (by decide))) ?_
  refine PW.dupR (pc := 212) dX8_init_212 ?_
  refine PW.iconst (pc := 213) dX8_init_213 (v := 1) (by decide) ?_
  refine PW.bipush (pc := 214) dX8_init_214 (v := 105) (by decide) ?_
  refine PW.cast (pc := 216) dX8_init_216 (arn (show mN M + 1 = 284 by omega) s_286 (by decide)) (vpl n_286 (vp_c (by decide))) ?_
  refine PW.dupR (pc := 217) dX8_init_217 ?_
  refine PW.iconst (pc := 218) dX8_init_218 (v := 2) (by decide) ?_
  refine PW.bipush (pc := 219) dX8_init_219 (v := 101) (by decide) ?_
  refine PW.cast (pc := 221) dX8_init_221 (arn (show mN M + 1 = 284 by omega) s_286 (by decide)) (vpl n_286 (vp_c (by decide))) ?_
  refine PW.dupR (pc := 222) dX8_init_222 ?_
  refine PW.iconst (pc := 223) dX8_init_223 (v := 3) (by decide) ?_
  refine PW.bipush (pc := 224) dX8_init_224 (v := 115) (by decide) ?_
  refine PW.cast (pc := 226) dX8_init_226 (arn (show mN M + 1 = 284 by omega) s_286 (by decide)) (vpl n_286 (vp_c (by decide))) ?_
  refine PW.putR (pc := 227) dX8_init_227 lf_X8_39 (obn (show mN M + 1 = 284 by omega) s_277 (by decide) (by decide)) fx_8_16 (Or.inr ⟨rfl, rfl, rfl⟩) (fun _ => rfl) (fun _ => rfl) (by decide) ?_
  refine PW.aload_n (pc := 230) dX8_init_230 rfl ?_
  refine PW.iconst (pc := 231) dX8_init_231 (v := 5) (by decide) ?_
  refine PW.newaC (pc := 232) dX8_init_232 (a := 287) aw_char (by decide) (by decide +kernel) (by decide) (ltn (show mN M + 1 = 284 by omega) (by decide)) (eqn (show mN M + 1 = 284 by omega) rfl) ?_
  refine PW.dupR (pc := 234) dX8_init_234 ?_
  refine PW.iconst (pc := 235) dX8_init_235 (v := 0) (by decide) ?_
  refine PW.bipush (pc := 236) dX8_init_236 (v := 109) (by decide) ?_
  refine PW.cast (pc := 238) dX8_init_238 (arn (show mN M + 2 = 285 by omega) s_287 (by decide)) (vpl n_287 (vp_c (by decide))) ?_
  refine PW.dupR (pc := 239) dX8_init_239 ?_
  refine PW.iconst (pc := 240) dX8_init_240 (v := 1) (by decide) ?_
  refine PW.bipush (pc := 241) dX8_init_241 (v := 105) (by decide) ?_
  refine PW.cast (pc := 243) dX8_init_243 (arn (show mN M + 2 = 285 by omega) s_287 (by decide)) (vpl n_287 (vp_c (by decide))) ?_
  refine PW.dupR (pc := 244) dX8_init_244 ?_
  refine PW.iconst (pc := 245) dX8_init_245 (v := 2) (by decide) ?_
  refine PW.bipush (pc := 246) dX8_init_246 (v := 110) (by decide) ?_
  refine PW.cast (pc := 248) dX8_init_248 (arn (show mN M + 2 = 285 by omega) s_287 (by decide)) (vpl n_287 (vp_c (by decide))) ?_
  refine PW.dupR (pc := 249) dX8_init_249 ?_
  refine PW.iconst (pc := 250) dX8_init_250 (v := 3) (by decide) ?_
  refine PW.bipush (pc := 251) dX8_init_251 (v := 100) (by decide) ?_
  refine PW.cast (pc := 253) dX8_init_253 (arn (show mN M + 2 = 285 by omega) s_287 (by decide)) (vpl n_287 (vp_c (by decide))) ?_
  refine PW.dupR (pc := 254) dX8_init_254 ?_
  refine PW.iconst (pc := 255) dX8_init_255 (v := 4) (by decide) ?_
  refine PW.bipush (pc := 256) dX8_init_256 (v := 115) (by decide) ?_
  refine PW.cast (pc := 258) dX8_init_258 (arn (show mN M + 2 = 285 by omega) s_287 (by decide)) (vpl n_287 (vp_c (by decide))) ?_
  refine PW.putR (pc := 259) dX8_init_259 lf_X8_42 (obn (show mN M + 2 = 285 by omega) s_277 (by decide) (by decide)) fx_8_17 (Or.inr ⟨rfl, rfl, rfl⟩) (fun _ => rfl) (fun _ => rfl) (by decide) ?_
  exact h
def u_X8_277_4 (M : pm) : pm := sR (sI (sI (sI (sI (sI (nw (sR (sI (sI (sI (sI (sI (nw (sR (sI (sI (sI (nw M) 288 0 (vp_nar .char 101)) 288 1 (vp_nar .char 97)) 288 2 (vp_nar .char 114)) 277 18 288)) 289 0 (vp_nar .char 116)) 289 1 (vp_nar .char 97)) 289 2 (vp_nar .char 115)) 289 3 (vp_nar .char 116)) 289 4 (vp_nar .char 101)) 277 19 289)) 290 0 (vp_nar .char 102)) 290 1 (vp_nar .char 97)) 290 2 (vp_nar .char 100)) 290 3 (vp_nar .char 101)) 290 4 (vp_nar .char 115)) 277 20 290
theorem un_X8_277_4 (M : pm) : mN (u_X8_277_4 M) = mN M + 3 := rfl
set_option maxRecDepth 4000 in
theorem k_X8_277_4 {M : pm} {Q : Option Value → pm → Prop} (hn : mN M = 285)  (h : PW mX8_init 10 350 348 [.ref 277] [] (u_X8_277_4 M) Q) : PW mX8_init 10 350 262 [.ref 277] [] M Q := by
  refine PW.aload_n (pc := 262) dX8_init_262 rfl ?_
  refine PW.iconst (pc := 263) dX8_init_263 (v := 3) (by decide) ?_
  refine PW.newaC (pc := 264) dX8_init_264 (a := 288) aw_char (by decide) (by decide +kernel) (by decide) (ltn (show mN M + 0 = 285 by omega) (by decide)) (eqn (show mN M + 0 = 285 by omega) rfl) ?_
  refine PW.dupR (pc := 266) dX8_init_266 ?_
  refine PW.iconst (pc := 267) dX8_init_267 (v := 0) (by decide) ?_
  refine PW.bipush (pc := 268) dX8_init_268 (v := 101) (by decide) ?_
  refine PW.cast (pc := 270) dX8_init_270 (arn (show mN M + 1 = 286 by omega) s_288 (by decide)) (vpl n_288 (vp_c (by decide))) ?_
  refine PW.dupR (pc := 271) dX8_init_271 ?_
  refine PW.iconst (pc := 272) dX8_init_272 (v := 1) (by decide) ?_
  refine PW.bipush (pc := 273) dX8_init_273 (v := 97) (by decide) ?_
  refine PW.cast (pc := 275) dX8_init_275 (arn (show mN M + 1 = 286 by omega) s_288 (by decide)) (vpl n_288 (vp_c (by decide))) ?_
  refine PW.dupR (pc := 276) dX8_init_276 ?_
  refine PW.iconst (pc := 277) dX8_init_277 (v := 2) (by decide) ?_
  refine PW.bipush (pc := 278) dX8_init_278 (v := 114) (by decide) ?_
  refine PW.cast (pc := 280) dX8_init_280 (arn (show mN M + 1 = 286 by omega) s_288 (by decide)) (vpl n_288 (vp_c (by decide))) ?_
  refine PW.putR (pc := 281) dX8_init_281 lf_X8_45 (obn (show mN M + 1 = 286 by omega) s_277 (by decide) (by decide)) fx_8_18 (Or.inr ⟨rfl, rfl, rfl⟩) (fun _ => rfl) (fun _ => rfl) (by decide) ?_
  refine PW.aload_n (pc := 284) dX8_init_284 rfl ?_
  refine PW.iconst (pc := 285) dX8_init_285 (v := 5) (by decide) ?_
  refine PW.newaC (pc := 286) dX8_init_286 (a := 289) aw_char (by decide) (by decide +kernel) (by decide) (ltn (show mN M + 1 = 286 by omega) (by decide)) (eqn (show mN M + 1 = 286 by omega) rfl) ?_
  refine PW.dupR (pc := 288) dX8_init_288 ?_
  refine PW.iconst (pc := 289) dX8_init_289 (v := 0) (by decide) ?_
  refine PW.bipush (pc := 290) dX8_init_290 (v := 116) (by decide) ?_
  refine PW.cast (pc := 292) dX8_init_292 (arn (show mN M + 2 = 287 by omega) s_289 (by decide)) (vpl n_289 (vp_c (by decide))) ?_
  refine PW.dupR (pc := 293) dX8_init_293 ?_
  refine PW.iconst (pc := 294) dX8_init_294 (v := 1) (by decide) ?_
  refine PW.bipush (pc := 295) dX8_init_295 (v := 97) (by decide) ?_
  refine PW.cast (pc := 297) dX8_init_297 (arn (show mN M + 2 = 287 by omega) s_289 (by decide)) (vpl n_289 (vp_c (by decide))) ?_
  refine PW.dupR (pc := 298) dX8_init_298 ?_
  refine PW.iconst (pc := 299) dX8_init_299 (v := 2) (by decide) ?_
  refine PW.bipush (pc := 300) dX8_init_300 (v := 115) (by decide) ?_
  refine PW.cast (pc := 302) dX8_init_302 (arn (show mN M + 2 = 287 by omega) s_289 (by decide)) (vpl n_289 (vp_c (by decide))) ?_
  refine PW.dupR (pc := 303) dX8_init_303 ?_
  refine PW.iconst (pc := 304) dX8_init_304 (v := 3) (by decide) ?_
  refine PW.bipush (pc := 305) dX8_init_305 (v := 116) (by decide) ?_
  refine PW.cast (pc := 307) dX8_init_307 (arn (show mN M + 2 = 287 by omega) s_289 (by decide)) (vpl n_289 (vp_c (by decide))) ?_
  refine PW.dupR (pc := 308) dX8_init_308 ?_
  refine PW.iconst (pc := 309) dX8_init_309 (v := 4) (by decide) ?_
  refine PW.bipush (pc := 310) dX8_init_310 (v := 101) (by decide) ?_
  refine PW.cast (pc := 312) dX8_init_312 (arn (show mN M + 2 = 287 by omega) s_289 (by decide)) (vpl n_289 (vp_c (by decide))) ?_
  refine PW.putR (pc := 313) dX8_init_313 lf_X8_48 (obn (show mN M + 2 = 287 by omega) s_277 (by decide) (by decide)) fx_8_19 (Or.inr ⟨rfl, rfl, rfl⟩) (fun _ => rfl) (fun _ => rfl) (by decide) ?_
  refine PW.aload_n (pc := 316) dX8_init_316 rfl ?_
  refine PW.iconst (pc := 317) dX8_init_317 (v := 5) (by decide) ?_
  refine PW.newaC (pc := 318) dX8_init_318 (a := 290) aw_char (by decide) (by decide +kernel) (by decide) (ltn (show mN M + 2 = 287 by omega) (by decide)) (eqn (show mN M + 2 = 287 by omega) rfl) ?_
  refine PW.dupR (pc := 320) dX8_init_320 ?_
  refine PW.iconst (pc := 321) dX8_init_321 (v := 0) (by decide) ?_
  refine PW.bipush (pc := 322) dX8_init_322 (v := 102) (by decide) ?_
  refine PW.cast (pc := 324) dX8_init_324 (arn (show mN M + 3 = 288 by omega) s_290 (by decide)) (vpl n_290 (vp_c (by decide))) ?_
  refine PW.dupR (pc := 325) dX8_init_325 ?_
  refine PW.iconst (pc := 326) dX8_init_326 (v := 1) (by decide) ?_
  refine PW.bipush (pc := 327) dX8_init_327 (v := 97) (by decide) ?_
  refine PW.cast (pc := 329) dX8_init_329 (arn (show mN M + 3 = 288 by omega) s_290 (by decide)) (vpl n_290 (vp_c (by decide))) ?_
  refine PW.dupR (pc := 330) dX8_init_330 ?_
  refine PW.iconst (pc := 331) dX8_init_331 (v := 2) (by decide) ?_
  refine PW.bipush (pc := 332) dX8_init_332 (v := 100) (by decide) ?_
  refine PW.cast (pc := 334) dX8_init_334 (arn (show mN M + 3 = 288 by omega) s_290 (by decide)) (vpl n_290 (vp_c (by decide))) ?_
  refine PW.dupR (pc := 335) dX8_init_335 ?_
  refine PW.iconst (pc := 336) dX8_init_336 (v := 3) (by decide) ?_
  refine PW.bipush (pc := 337) dX8_init_337 (v := 101) (by decide) ?_
  refine PW.cast (pc := 339) dX8_init_339 (arn (show mN M + 3 = 288 by omega) s_290 (by decide)) (vpl n_290 (vp_c (by decide))) ?_
  refine PW.dupR (pc := 340) dX8_init_340 ?_
  refine PW.iconst (pc := 341) dX8_init_341 (v := 4) (by decide) ?_
  refine PW.bipush (pc := 342) dX8_init_342 (v := 115) (by decide) ?_
  refine PW.cast (pc := 344) dX8_init_344 (arn (show mN M + 3 = 288 by omega) s_290 (by decide)) (vpl n_290 (vp_c (by decide))) ?_
  refine PW.putR (pc := 345) dX8_init_345 lf_X8_51 (obn (show mN M + 3 = 288 by omega) s_277 (by decide) (by decide)) fx_8_20 (Or.inr ⟨rfl, rfl, rfl⟩) (fun _ => rfl) (fun _ => rfl) (by decide) ?_
  exact h
def u_X8_277_5 (M : pm) : pm := sR (sI (sI (sI (sI (sI (nw (sR (sI (sI (sI (sI (sI (nw M) 291 0 (vp_nar .char 112)) 291 1 (vp_nar .char 108)) 291 2 (vp_nar .char 97)) 291 3 (vp_nar .char 121)) 291 4 (vp_nar .char 115)) 277 21 291)) 292 0 (vp_nar .char 119)) 292 1 (vp_nar .char 111)) 292 2 (vp_nar .char 114)) 292 3 (vp_nar .char 116)) 292 4 (vp_nar .char 104)) 277 22 292
theorem un_X8_277_5 (M : pm) : mN (u_X8_277_5 M) = mN M + 2 := rfl
set_option maxRecDepth 4000 in
theorem k_X8_277_5 {M : pm} {Q : Option Value → pm → Prop} (hn : mN M = 288)  (h : PW mX8_init 10 350 412 [.ref 277] [] (u_X8_277_5 M) Q) : PW mX8_init 10 350 348 [.ref 277] [] M Q := by
  refine PW.aload_n (pc := 348) dX8_init_348 rfl ?_
  refine PW.iconst (pc := 349) dX8_init_349 (v := 5) (by decide) ?_
  refine PW.newaC (pc := 350) dX8_init_350 (a := 291) aw_char (by decide) (by decide +kernel) (by decide) (ltn (show mN M + 0 = 288 by omega) (by decide)) (eqn (show mN M + 0 = 288 by omega) rfl) ?_
  refine PW.dupR (pc := 352) dX8_init_352 ?_
  refine PW.iconst (pc := 353) dX8_init_353 (v := 0) (by decide) ?_
  refine PW.bipush (pc := 354) dX8_init_354 (v := 112) (by decide) ?_
  refine PW.cast (pc := 356) dX8_init_356 (arn (show mN M + 1 = 289 by omega) s_291 (by decide)) (vpl n_291 (vp_c (by decide))) ?_
  refine PW.dupR (pc := 357) dX8_init_357 ?_
  refine PW.iconst (pc := 358) dX8_init_358 (v := 1) (by decide) ?_
  refine PW.bipush (pc := 359) dX8_init_359 (v := 108) (by decide) ?_
  refine PW.cast (pc := 361) dX8_init_361 (arn (show mN M + 1 = 289 by omega) s_291 (by decide)) (vpl n_291 (vp_c (by decide))) ?_
  refine PW.dupR (pc := 362) dX8_init_362 ?_
  refine PW.iconst (pc := 363) dX8_init_363 (v := 2) (by decide) ?_
  refine PW.bipush (pc := 364) dX8_init_364 (v := 97) (by decide) ?_
  refine PW.cast (pc := 366) dX8_init_366 (arn (show mN M + 1 = 289 by omega) s_291 (by decide)) (vpl n_291 (vp_c (by decide))) ?_
  refine PW.dupR (pc := 367) dX8_init_367 ?_
  refine PW.iconst (pc := 368) dX8_init_368 (v := 3) (by decide) ?_
  refine PW.bipush (pc := 369) dX8_init_369 (v := 121) (by decide) ?_
  refine PW.cast (pc := 371) dX8_init_371 (arn (show mN M + 1 = 289 by omega) s_291 (by decide)) (vpl n_291 (vp_c (by decide))) ?_
  refine PW.dupR (pc := 372) dX8_init_372 ?_
  refine PW.iconst (pc := 373) dX8_init_373 (v := 4) (by decide) ?_
  refine PW.bipush (pc := 374) dX8_init_374 (v := 115) (by decide) ?_
  refine PW.cast (pc := 376) dX8_init_376 (arn (show mN M + 1 = 289 by omega) s_291 (by decide)) (vpl n_291 (vp_c (by decide))) ?_
  refine PW.putR (pc := 377) dX8_init_377 lf_X8_54 (obn (show mN M + 1 = 289 by omega) s_277 (by decide) (by decide)) fx_8_21 (Or.inr ⟨rfl, rfl, rfl⟩) (fun _ => rfl) (fun _ => rfl) (by decide) ?_
  refine PW.aload_n (pc := 380) dX8_init_380 rfl ?_
  refine PW.iconst (pc := 381) dX8_init_381 (v := 5) (by decide) ?_
  refine PW.newaC (pc := 382) dX8_init_382 (a := 292) aw_char (by decide) (by decide +kernel) (by decide) (ltn (show mN M + 1 = 289 by omega) (by decide)) (eqn (show mN M + 1 = 289 by omega) rfl) ?_
  refine PW.dupR (pc := 384) dX8_init_384 ?_
  refine PW.iconst (pc := 385) dX8_init_385 (v := 0) (by decide) ?_
  refine PW.bipush (pc := 386) dX8_init_386 (v := 119) (by decide) ?_
  refine PW.cast (pc := 388) dX8_init_388 (arn (show mN M + 2 = 290 by omega) s_292 (by decide)) (vpl n_292 (vp_c (by decide))) ?_
  refine PW.dupR (pc := 389) dX8_init_389 ?_
  refine PW.iconst (pc := 390) dX8_init_390 (v := 1) (by decide) ?_
  refine PW.bipush (pc := 391) dX8_init_391 (v := 111) (by decide) ?_
  refine PW.cast (pc := 393) dX8_init_393 (arn (show mN M + 2 = 290 by omega) s_292 (by decide)) (vpl n_292 (vp_c (by decide))) ?_
  refine PW.dupR (pc := 394) dX8_init_394 ?_
  refine PW.iconst (pc := 395) dX8_init_395 (v := 2) (by decide) ?_
  refine PW.bipush (pc := 396) dX8_init_396 (v := 114) (by decide) ?_
  refine PW.cast (pc := 398) dX8_init_398 (arn (show mN M + 2 = 290 by omega) s_292 (by decide)) (vpl n_292 (vp_c (by decide))) ?_
  refine PW.dupR (pc := 399) dX8_init_399 ?_
  refine PW.iconst (pc := 400) dX8_init_400 (v := 3) (by decide) ?_
  refine PW.bipush (pc := 401) dX8_init_401 (v := 116) (by decide) ?_
  refine PW.cast (pc := 403) dX8_init_403 (arn (show mN M + 2 = 290 by omega) s_292 (by decide)) (vpl n_292 (vp_c (by decide))) ?_
  refine PW.dupR (pc := 404) dX8_init_404 ?_
  refine PW.iconst (pc := 405) dX8_init_405 (v := 4) (by decide) ?_
  refine PW.bipush (pc := 406) dX8_init_406 (v := 104) (by decide) ?_
  refine PW.cast (pc := 408) dX8_init_408 (arn (show mN M + 2 = 290 by omega) s_292 (by decide)) (vpl n_292 (vp_c (by decide))) ?_
  refine PW.putR (pc := 409) dX8_init_409 lf_X8_57 (obn (show mN M + 2 = 290 by omega) s_277 (by decide) (by decide)) fx_8_22 (Or.inr ⟨rfl, rfl, rfl⟩) (fun _ => rfl) (fun _ => rfl) (by decide) ?_
  exact h
def u_X8_277_6 (M : pm) : pm := sR (sI (sI (sI (nw (sR (sI (sI (sI (sI (nw (sR (sI (sI (sI (sI (nw M) 293 0 (vp_nar .char 104)) 293 1 (vp_nar .char 117)) 293 2 (vp_nar .char 115)) 293 3 (vp_nar .char 104)) 277 23 293)) 294 0 (vp_nar .char 116)) 294 1 (vp_nar .char 111)) 294 2 (vp_nar .char 108)) 294 3 (vp_nar .char 108)) 277 24 294)) 295 0 (vp_nar .char 97)) 295 1 (vp_nar .char 103)) 295 2 (vp_nar .char 101)) 277 25 295
theorem un_X8_277_6 (M : pm) : mN (u_X8_277_6 M) = mN M + 3 := rfl
set_option maxRecDepth 4000 in
theorem k_X8_277_6 {M : pm} {Q : Option Value → pm → Prop} (hn : mN M = 290)  (h : PW mX8_init 10 350 488 [.ref 277] [] (u_X8_277_6 M) Q) : PW mX8_init 10 350 412 [.ref 277] [] M Q := by
  refine PW.aload_n (pc := 412) dX8_init_412 rfl ?_
  refine PW.iconst (pc := 413) dX8_init_413 (v := 4) (by decide) ?_
  refine PW.newaC (pc := 414) dX8_init_414 (a := 293) aw_char (by decide) (by decide +kernel) (by decide) (ltn (show mN M + 0 = 290 by omega) (by decide)) (eqn (show mN M + 0 = 290 by omega) rfl) ?_
  refine PW.dupR (pc := 416) dX8_init_416 ?_
  refine PW.iconst (pc := 417) dX8_init_417 (v := 0) (by decide) ?_
  refine PW.bipush (pc := 418) dX8_init_418 (v := 104) (by decide) ?_
  refine PW.cast (pc := 420) dX8_init_420 (arn (show mN M + 1 = 291 by omega) s_293 (by decide)) (vpl n_293 (vp_c (by decide))) ?_
  refine PW.dupR (pc := 421) dX8_init_421 ?_
  refine PW.iconst (pc := 422) dX8_init_422 (v := 1) (by decide) ?_
  refine PW.bipush (pc := 423) dX8_init_423 (v := 117) (by decide) ?_
  refine PW.cast (pc := 425) dX8_init_425 (arn (show mN M + 1 = 291 by omega) s_293 (by decide)) (vpl n_293 (vp_c (by decide))) ?_
  refine PW.dupR (pc := 426) dX8_init_426 ?_
  refine PW.iconst (pc := 427) dX8_init_427 (v := 2) (by decide) ?_
  refine PW.bipush (pc := 428) dX8_init_428 (v := 115) (by decide) ?_
  refine PW.cast (pc := 430) dX8_init_430 (arn (show mN M + 1 = 291 by omega) s_293 (by decide)) (vpl n_293 (vp_c (by decide))) ?_
  refine PW.dupR (pc := 431) dX8_init_431 ?_
  refine PW.iconst (pc := 432) dX8_init_432 (v := 3) (by decide) ?_
  refine PW.bipush (pc := 433) dX8_init_433 (v := 104) (by decide) ?_
  refine PW.cast (pc := 435) dX8_init_435 (arn (show mN M + 1 = 291 by omega) s_293 (by decide)) (vpl n_293 (vp_c (by decide))) ?_
  refine PW.putR (pc := 436) dX8_init_436 lf_X8_60 (obn (show mN M + 1 = 291 by omega) s_277 (by decide) (by decide)) fx_8_23 (Or.inr ⟨rfl, rfl, rfl⟩) (fun _ => rfl) (fun _ => rfl) (by decide) ?_
  refine PW.aload_n (pc := 439) dX8_init_439 rfl ?_
  refine PW.iconst (pc := 440) dX8_init_440 (v := 4) (by decide) ?_
  refine PW.newaC (pc := 441) dX8_init_441 (a := 294) aw_char (by decide) (by decide +kernel) (by decide) (ltn (show mN M + 1 = 291 by omega) (by decide)) (eqn (show mN M + 1 = 291 by omega) rfl) ?_
  refine PW.dupR (pc := 443) dX8_init_443 ?_
  refine PW.iconst (pc := 444) dX8_init_444 (v := 0) (by decide) ?_
  refine PW.bipush (pc := 445) dX8_init_445 (v := 116) (by decide) ?_
  refine PW.cast (pc := 447) dX8_init_447 (arn (show mN M + 2 = 292 by omega) s_294 (by decide)) (vpl n_294 (vp_c (by decide))) ?_
  refine PW.dupR (pc := 448) dX8_init_448 ?_
  refine PW.iconst (pc := 449) dX8_init_449 (v := 1) (by decide) ?_
  refine PW.bipush (pc := 450) dX8_init_450 (v := 111) (by decide) ?_
  refine PW.cast (pc := 452) dX8_init_452 (arn (show mN M + 2 = 292 by omega) s_294 (by decide)) (vpl n_294 (vp_c (by decide))) ?_
  refine PW.dupR (pc := 453) dX8_init_453 ?_
  refine PW.iconst (pc := 454) dX8_init_454 (v := 2) (by decide) ?_
  refine PW.bipush (pc := 455) dX8_init_455 (v := 108) (by decide) ?_
  refine PW.cast (pc := 457) dX8_init_457 (arn (show mN M + 2 = 292 by omega) s_294 (by decide)) (vpl n_294 (vp_c (by decide))) ?_
  refine PW.dupR (pc := 458) dX8_init_458 ?_
  refine PW.iconst (pc := 459) dX8_init_459 (v := 3) (by decide) ?_
  refine PW.bipush (pc := 460) dX8_init_460 (v := 108) (by decide) ?_
  refine PW.cast (pc := 462) dX8_init_462 (arn (show mN M + 2 = 292 by omega) s_294 (by decide)) (vpl n_294 (vp_c (by decide))) ?_
  refine PW.putR (pc := 463) dX8_init_463 lf_X8_63 (obn (show mN M + 2 = 292 by omega) s_277 (by decide) (by decide)) fx_8_24 (Or.inr ⟨rfl, rfl, rfl⟩) (fun _ => rfl) (fun _ => rfl) (by decide) ?_
  refine PW.aload_n (pc := 466) dX8_init_466 rfl ?_
  refine PW.iconst (pc := 467) dX8_init_467 (v := 3) (by decide) ?_
  refine PW.newaC (pc := 468) dX8_init_468 (a := 295) aw_char (by decide) (by decide +kernel) (by decide) (ltn (show mN M + 2 = 292 by omega) (by decide)) (eqn (show mN M + 2 = 292 by omega) rfl) ?_
  refine PW.dupR (pc := 470) dX8_init_470 ?_
  refine PW.iconst (pc := 471) dX8_init_471 (v := 0) (by decide) ?_
  refine PW.bipush (pc := 472) dX8_init_472 (v := 97) (by decide) ?_
  refine PW.cast (pc := 474) dX8_init_474 (arn (show mN M + 3 = 293 by omega) s_295 (by decide)) (vpl n_295 (vp_c (by decide))) ?_
  refine PW.dupR (pc := 475) dX8_init_475 ?_
  refine PW.iconst (pc := 476) dX8_init_476 (v := 1) (by decide) ?_
  refine PW.bipush (pc := 477) dX8_init_477 (v := 103) (by decide) ?_
  refine PW.cast (pc := 479) dX8_init_479 (arn (show mN M + 3 = 293 by omega) s_295 (by decide)) (vpl n_295 (vp_c (by decide))) ?_
  refine PW.dupR (pc := 480) dX8_init_480 ?_
  refine PW.iconst (pc := 481) dX8_init_481 (v := 2) (by decide) ?_
  refine PW.bipush (pc := 482) dX8_init_482 (v := 101) (by decide) ?_
  refine PW.cast (pc := 484) dX8_init_484 (arn (show mN M + 3 = 293 by omega) s_295 (by decide)) (vpl n_295 (vp_c (by decide))) ?_
  refine PW.putR (pc := 485) dX8_init_485 lf_X8_66 (obn (show mN M + 3 = 293 by omega) s_277 (by decide) (by decide)) fx_8_25 (Or.inr ⟨rfl, rfl, rfl⟩) (fun _ => rfl) (fun _ => rfl) (by decide) ?_
  exact h
def u_X8_277_7 (M : pm) : pm := sR (sI (sI (sI (sI (sI (sI (nw (sR (sI (sI (sI (sI (sI (nw M) 296 0 (vp_nar .char 115)) 296 1 (vp_nar .char 105)) 296 2 (vp_nar .char 110)) 296 3 (vp_nar .char 99)) 296 4 (vp_nar .char 101)) 277 26 296)) 297 0 (vp_nar .char 112)) 297 1 (vp_nar .char 108)) 297 2 (vp_nar .char 97)) 297 3 (vp_nar .char 121)) 297 4 (vp_nar .char 101)) 297 5 (vp_nar .char 100)) 277 27 297
theorem un_X8_277_7 (M : pm) : mN (u_X8_277_7 M) = mN M + 2 := rfl
set_option maxRecDepth 4000 in
theorem k_X8_277_7 {M : pm} {Q : Option Value → pm → Prop} (hn : mN M = 293)  (h : PW mX8_init 10 350 558 [.ref 277] [] (u_X8_277_7 M) Q) : PW mX8_init 10 350 488 [.ref 277] [] M Q := by
  refine PW.aload_n (pc := 488) dX8_init_488 rfl ?_
  refine PW.iconst (pc := 489) dX8_init_489 (v := 5) (by decide) ?_
  refine PW.newaC (pc := 490) dX8_init_490 (a := 296) aw_char (by decide) (by decide +kernel) (by decide) (ltn (show mN M + 0 = 293 by omega) (by decide)) (eqn (show mN M + 0 = 293 by omega) rfl) ?_
  refine PW.dupR (pc := 492) dX8_init_492 ?_
  refine PW.iconst (pc := 493) dX8_init_493 (v := 0) (by decide) ?_
  refine PW.bipush (pc := 494) dX8_init_494 (v := 115) (by decide) ?_
  refine PW.cast (pc := 496) dX8_init_496 (arn (show mN M + 1 = 294 by omega) s_296 (by decide)) (vpl n_296 (vp_c (by decide))) ?_
  refine PW.dupR (pc := 497) dX8_init_497 ?_
  refine PW.iconst (pc := 498) dX8_init_498 (v := 1) (by decide) ?_
  refine PW.bipush (pc := 499) dX8_init_499 (v := 105) (by decide) ?_
  refine PW.cast (pc := 501) dX8_init_501 (arn (show mN M + 1 = 294 by omega) s_296 (by decide)) (vpl n_296 (vp_c (by decide))) ?_
  refine PW.dupR (pc := 502) dX8_init_502 ?_
  refine PW.iconst (pc := 503) dX8_init_503 (v := 2) (by decide) ?_
  refine PW.bipush (pc := 504) dX8_init_504 (v := 110) (by decide) ?_
  refine PW.cast (pc := 506) dX8_init_506 (arn (show mN M + 1 = 294 by omega) s_296 (by decide)) (vpl n_296 (vp_c (by decide))) ?_
  refine PW.dupR (pc := 507) dX8_init_507 ?_
  refine PW.iconst (pc := 508) dX8_init_508 (v := 3) (by decide) ?_
  refine PW.bipush (pc := 509) dX8_init_509 (v := 99) (by decide) ?_
  refine PW.cast (pc := 511) dX8_init_511 (arn (show mN M + 1 = 294 by omega) s_296 (by decide)) (vpl n_296 (vp_c (by decide))) ?_
  refine PW.dupR (pc := 512) dX8_init_512 ?_
  refine PW.iconst (pc := 513) dX8_init_513 (v := 4) (by decide) ?_
  refine PW.bipush (pc := 514) dX8_init_514 (v := 101) (by decide) ?_
  refine PW.cast (pc := 516) dX8_init_516 (arn (show mN M + 1 = 294 by omega) s_296 (by decide)) (vpl n_296 (vp_c (by decide))) ?_
  refine PW.putR (pc := 517) dX8_init_517 lf_X8_69 (obn (show mN M + 1 = 294 by omega) s_277 (by decide) (by decide)) fx_8_26 (Or.inr ⟨rfl, rfl, rfl⟩) (fun _ => rfl) (fun _ => rfl) (by decide) ?_
  refine PW.aload_n (pc := 520) dX8_init_520 rfl ?_
  refine PW.bipush (pc := 521) dX8_init_521 (v := 6) (by decide) ?_
  refine PW.newaC (pc := 523) dX8_init_523 (a := 297) aw_char (by decide) (by decide +kernel) (by decide) (ltn (show mN M + 1 = 294 by omega) (by decide)) (eqn (show mN M + 1 = 294 by omega) rfl) ?_
  refine PW.dupR (pc := 525) dX8_init_525 ?_
  refine PW.iconst (pc := 526) dX8_init_526 (v := 0) (by decide) ?_
  refine PW.bipush (pc := 527) dX8_init_527 (v := 112) (by decide) ?_
  refine PW.cast (pc := 529) dX8_init_529 (arn (show mN M + 2 = 295 by omega) s_297 (by decide)) (vpl n_297 (vp_c (by decide))) ?_
  refine PW.dupR (pc := 530) dX8_init_530 ?_
  refine PW.iconst (pc := 531) dX8_init_531 (v := 1) (by decide) ?_
  refine PW.bipush (pc := 532) dX8_init_532 (v := 108) (by decide) ?_
  refine PW.cast (pc := 534) dX8_init_534 (arn (show mN M + 2 = 295 by omega) s_297 (by decide)) (vpl n_297 (vp_c (by decide))) ?_
  refine PW.dupR (pc := 535) dX8_init_535 ?_
  refine PW.iconst (pc := 536) dX8_init_536 (v := 2) (by decide) ?_
  refine PW.bipush (pc := 537) dX8_init_537 (v := 97) (by decide) ?_
  refine PW.cast (pc := 539) dX8_init_539 (arn (show mN M + 2 = 295 by omega) s_297 (by decide)) (vpl n_297 (vp_c (by decide))) ?_
  refine PW.dupR (pc := 540) dX8_init_540 ?_
  refine PW.iconst (pc := 541) dX8_init_541 (v := 3) (by decide) ?_
  refine PW.bipush (pc := 542) dX8_init_542 (v := 121) (by decide) ?_
  refine PW.cast (pc := 544) dX8_init_544 (arn (show mN M + 2 = 295 by omega) s_297 (by decide)) (vpl n_297 (vp_c (by decide))) ?_
  refine PW.dupR (pc := 545) dX8_init_545 ?_
  refine PW.iconst (pc := 546) dX8_init_546 (v := 4) (by decide) ?_
  refine PW.bipush (pc := 547) dX8_init_547 (v := 101) (by decide) ?_
  refine PW.cast (pc := 549) dX8_init_549 (arn (show mN M + 2 = 295 by omega) s_297 (by decide)) (vpl n_297 (vp_c (by decide))) ?_
  refine PW.dupR (pc := 550) dX8_init_550 ?_
  refine PW.iconst (pc := 551) dX8_init_551 (v := 5) (by decide) ?_
  refine PW.bipush (pc := 552) dX8_init_552 (v := 100) (by decide) ?_
  refine PW.cast (pc := 554) dX8_init_554 (arn (show mN M + 2 = 295 by omega) s_297 (by decide)) (vpl n_297 (vp_c (by decide))) ?_
  refine PW.putR (pc := 555) dX8_init_555 lf_X8_72 (obn (show mN M + 2 = 295 by omega) s_277 (by decide) (by decide)) fx_8_27 (Or.inr ⟨rfl, rfl, rfl⟩) (fun _ => rfl) (fun _ => rfl) (by decide) ?_
  exact h
def u_X8_277_8 (M : pm) : pm := sR (sI (sI (sI (sI (sI (sI (nw (sR (sI (sI (sI (nw M) 298 0 (vp_nar .char 100)) 298 1 (vp_nar .char 97)) 298 2 (vp_nar .char 121)) 277 28 298)) 299 0 (vp_nar .char 110)) 299 1 (vp_nar .char 117)) 299 2 (vp_nar .char 109)) 299 3 (vp_nar .char 98)) 299 4 (vp_nar .char 101)) 299 5 (vp_nar .char 114)) 277 29 299
theorem un_X8_277_8 (M : pm) : mN (u_X8_277_8 M) = mN M + 2 := rfl
set_option maxRecDepth 4000 in
theorem k_X8_277_8 {M : pm} {Q : Option Value → pm → Prop} (hn : mN M = 295)  (h : PW mX8_init 10 350 618 [.ref 277] [] (u_X8_277_8 M) Q) : PW mX8_init 10 350 558 [.ref 277] [] M Q := by
  refine PW.aload_n (pc := 558) dX8_init_558 rfl ?_
  refine PW.iconst (pc := 559) dX8_init_559 (v := 3) (by decide) ?_
  refine PW.newaC (pc := 560) dX8_init_560 (a := 298) aw_char (by decide) (by decide +kernel) (by decide) (ltn (show mN M + 0 = 295 by omega) (by decide)) (eqn (show mN M + 0 = 295 by omega) rfl) ?_
  refine PW.dupR (pc := 562) dX8_init_562 ?_
  refine PW.iconst (pc := 563) dX8_init_563 (v := 0) (by decide) ?_
  refine PW.bipush (pc := 564) dX8_init_564 (v := 100) (by decide) ?_
  refine PW.cast (pc := 566) dX8_init_566 (arn (show mN M + 1 = 296 by omega) s_298 (by decide)) (vpl n_298 (vp_c (by decide))) ?_
  refine PW.dupR (pc := 567) dX8_init_567 ?_
  refine PW.iconst (pc := 568) dX8_init_568 (v := 1) (by decide) ?_
  refine PW.bipush (pc := 569) dX8_init_569 (v := 97) (by decide) ?_
  refine PW.cast (pc := 571) dX8_init_571 (arn (show mN M + 1 = 296 by omega) s_298 (by decide)) (vpl n_298 (vp_c (by decide))) ?_
  refine PW.dupR (pc := 572) dX8_init_572 ?_
  refine PW.iconst (pc := 573) dX8_init_573 (v := 2) (by decide) ?_
  refine PW.bipush (pc := 574) dX8_init_574 (v := 121) (by decide) ?_
  refine PW.cast (pc := 576) dX8_init_576 (arn (show mN M + 1 = 296 by omega) s_298 (by decide)) (vpl n_298 (vp_c (by decide))) ?_
  refine PW.putR (pc := 577) dX8_init_577 lf_X8_75 (obn (show mN M + 1 = 296 by omega) s_277 (by decide) (by decide)) fx_8_28 (Or.inr ⟨rfl, rfl, rfl⟩) (fun _ => rfl) (fun _ => rfl) (by decide) ?_
  refine PW.aload_n (pc := 580) dX8_init_580 rfl ?_
  refine PW.bipush (pc := 581) dX8_init_581 (v := 6) (by decide) ?_
  refine PW.newaC (pc := 583) dX8_init_583 (a := 299) aw_char (by decide) (by decide +kernel) (by decide) (ltn (show mN M + 1 = 296 by omega) (by decide)) (eqn (show mN M + 1 = 296 by omega) rfl) ?_
  refine PW.dupR (pc := 585) dX8_init_585 ?_
  refine PW.iconst (pc := 586) dX8_init_586 (v := 0) (by decide) ?_
  refine PW.bipush (pc := 587) dX8_init_587 (v := 110) (by decide) ?_
  refine PW.cast (pc := 589) dX8_init_589 (arn (show mN M + 2 = 297 by omega) s_299 (by decide)) (vpl n_299 (vp_c (by decide))) ?_
  refine PW.dupR (pc := 590) dX8_init_590 ?_
  refine PW.iconst (pc := 591) dX8_init_591 (v := 1) (by decide) ?_
  refine PW.bipush (pc := 592) dX8_init_592 (v := 117) (by decide) ?_
  refine PW.cast (pc := 594) dX8_init_594 (arn (show mN M + 2 = 297 by omega) s_299 (by decide)) (vpl n_299 (vp_c (by decide))) ?_
  refine PW.dupR (pc := 595) dX8_init_595 ?_
  refine PW.iconst (pc := 596) dX8_init_596 (v := 2) (by decide) ?_
  refine PW.bipush (pc := 597) dX8_init_597 (v := 109) (by decide) ?_
  refine PW.cast (pc := 599) dX8_init_599 (arn (show mN M + 2 = 297 by omega) s_299 (by decide)) (vpl n_299 (vp_c (by decide))) ?_
  refine PW.dupR (pc := 600) dX8_init_600 ?_
  refine PW.iconst (pc := 601) dX8_init_601 (v := 3) (by decide) ?_
  refine PW.bipush (pc := 602) dX8_init_602 (v := 98) (by decide) ?_
  refine PW.cast (pc := 604) dX8_init_604 (arn (show mN M + 2 = 297 by omega) s_299 (by decide)) (vpl n_299 (vp_c (by decide))) ?_
  refine PW.dupR (pc := 605) dX8_init_605 ?_
  refine PW.iconst (pc := 606) dX8_init_606 (v := 4) (by decide) ?_
  refine PW.bipush (pc := 607) dX8_init_607 (v := 101) (by decide) ?_
  refine PW.cast (pc := 609) dX8_init_609 (arn (show mN M + 2 = 297 by omega) s_299 (by decide)) (vpl n_299 (vp_c (by decide))) ?_
  refine PW.dupR (pc := 610) dX8_init_610 ?_
  refine PW.iconst (pc := 611) dX8_init_611 (v := 5) (by decide) ?_
  refine PW.bipush (pc := 612) dX8_init_612 (v := 114) (by decide) ?_
  refine PW.cast (pc := 614) dX8_init_614 (arn (show mN M + 2 = 297 by omega) s_299 (by decide)) (vpl n_299 (vp_c (by decide))) ?_
  refine PW.putR (pc := 615) dX8_init_615 lf_X8_78 (obn (show mN M + 2 = 297 by omega) s_277 (by decide) (by decide)) fx_8_29 (Or.inr ⟨rfl, rfl, rfl⟩) (fun _ => rfl) (fun _ => rfl) (by decide) ?_
  exact h
def u_X8_277_9 (M : pm) : pm := sR (sI (sI (nw (sR (sI (sI (nw (sR (sI (sI (sI (sI (sI (nw M) 300 0 (vp_nar .char 97)) 300 1 (vp_nar .char 108)) 300 2 (vp_nar .char 105)) 300 3 (vp_nar .char 118)) 300 4 (vp_nar .char 101)) 277 30 300)) 301 0 (vp_nar .char 111)) 301 1 (vp_nar .char 110)) 277 31 301)) 302 0 (vp_nar .char 111)) 302 1 (vp_nar .char 114)) 277 32 302
theorem un_X8_277_9 (M : pm) : mN (u_X8_277_9 M) = mN M + 3 := rfl
set_option maxRecDepth 4000 in
theorem k_X8_277_9 {M : pm} {Q : Option Value → pm → Prop} (hn : mN M = 297)  (h : PW mX8_init 10 350 684 [.ref 277] [] (u_X8_277_9 M) Q) : PW mX8_init 10 350 618 [.ref 277] [] M Q := by
  refine PW.aload_n (pc := 618) dX8_init_618 rfl ?_
  refine PW.iconst (pc := 619) dX8_init_619 (v := 5) (by decide) ?_
  refine PW.newaC (pc := 620) dX8_init_620 (a := 300) aw_char (by decide) (by decide +kernel) (by decide) (ltn (show mN M + 0 = 297 by omega) (by decide)) (eqn (show mN M + 0 = 297 by omega) rfl) ?_
  refine PW.dupR (pc := 622) dX8_init_622 ?_
  refine PW.iconst (pc := 623) dX8_init_623 (v := 0) (by decide) ?_
  refine PW.bipush (pc := 624) dX8_init_624 (v := 97) (by decide) ?_
  refine PW.cast (pc := 626) dX8_init_626 (arn (show mN M + 1 = 298 by omega) s_300 (by decide)) (vpl n_300 (vp_c (by decide))) ?_
  refine PW.dupR (pc := 627) dX8_init_627 ?_
  refine PW.iconst (pc := 628) dX8_init_628 (v := 1) (by decide) ?_
  refine PW.bipush (pc := 629) dX8_init_629 (v := 108) (by decide) ?_
  refine PW.cast (pc := 631) dX8_init_631 (arn (show mN M + 1 = 298 by omega) s_300 (by decide)) (vpl n_300 (vp_c (by decide))) ?_
  refine PW.dupR (pc := 632) dX8_init_632 ?_
  refine PW.iconst (pc := 633) dX8_init_633 (v := 2) (by decide) ?_
  refine PW.bipush (pc := 634) dX8_init_634 (v := 105) (by decide) ?_
  refine PW.cast (pc := 636) dX8_init_636 (arn (show mN M + 1 = 298 by omega) s_300 (by decide)) (vpl n_300 (vp_c (by decide))) ?_
  refine PW.dupR (pc := 637) dX8_init_637 ?_
  refine PW.iconst (pc := 638) dX8_init_638 (v := 3) (by decide) ?_
  refine PW.bipush (pc := 639) dX8_init_639 (v := 118) (by decide) ?_
  refine PW.cast (pc := 641) dX8_init_641 (arn (show mN M + 1 = 298 by omega) s_300 (by decide)) (vpl n_300 (vp_c (by decide))) ?_
  refine PW.dupR (pc := 642) dX8_init_642 ?_
  refine PW.iconst (pc := 643) dX8_init_643 (v := 4) (by decide) ?_
  refine PW.bipush (pc := 644) dX8_init_644 (v := 101) (by decide) ?_
  refine PW.cast (pc := 646) dX8_init_646 (arn (show mN M + 1 = 298 by omega) s_300 (by decide)) (vpl n_300 (vp_c (by decide))) ?_
  refine PW.putR (pc := 647) dX8_init_647 lf_X8_81 (obn (show mN M + 1 = 298 by omega) s_277 (by decide) (by decide)) fx_8_30 (Or.inr ⟨rfl, rfl, rfl⟩) (fun _ => rfl) (fun _ => rfl) (by decide) ?_
  refine PW.aload_n (pc := 650) dX8_init_650 rfl ?_
  refine PW.iconst (pc := 651) dX8_init_651 (v := 2) (by decide) ?_
  refine PW.newaC (pc := 652) dX8_init_652 (a := 301) aw_char (by decide) (by decide +kernel) (by decide) (ltn (show mN M + 1 = 298 by omega) (by decide)) (eqn (show mN M + 1 = 298 by omega) rfl) ?_
  refine PW.dupR (pc := 654) dX8_init_654 ?_
  refine PW.iconst (pc := 655) dX8_init_655 (v := 0) (by decide) ?_
  refine PW.bipush (pc := 656) dX8_init_656 (v := 111) (by decide) ?_
  refine PW.cast (pc := 658) dX8_init_658 (arn (show mN M + 2 = 299 by omega) s_301 (by decide)) (vpl n_301 (vp_c (by decide))) ?_
  refine PW.dupR (pc := 659) dX8_init_659 ?_
  refine PW.iconst (pc := 660) dX8_init_660 (v := 1) (by decide) ?_
  refine PW.bipush (pc := 661) dX8_init_661 (v := 110) (by decide) ?_
  refine PW.cast (pc := 663) dX8_init_663 (arn (show mN M + 2 = 299 by omega) s_301 (by decide)) (vpl n_301 (vp_c (by decide))) ?_
  refine PW.putR (pc := 664) dX8_init_664 lf_X8_84 (obn (show mN M + 2 = 299 by omega) s_277 (by decide) (by decide)) fx_8_31 (Or.inr ⟨rfl, rfl, rfl⟩) (fun _ => rfl) (fun _ => rfl) (by decide) ?_
  refine PW.aload_n (pc := 667) dX8_init_667 rfl ?_
  refine PW.iconst (pc := 668) dX8_init_668 (v := 2) (by decide) ?_
  refine PW.newaC (pc := 669) dX8_init_669 (a := 302) aw_char (by decide) (by decide +kernel) (by decide) (ltn (show mN M + 2 = 299 by omega) (by decide)) (eqn (show mN M + 2 = 299 by omega) rfl) ?_
  refine PW.dupR (pc := 671) dX8_init_671 ?_
  refine PW.iconst (pc := 672) dX8_init_672 (v := 0) (by decide) ?_
  refine PW.bipush (pc := 673) dX8_init_673 (v := 111) (by decide) ?_
  refine PW.cast (pc := 675) dX8_init_675 (arn (show mN M + 3 = 300 by omega) s_302 (by decide)) (vpl n_302 (vp_c (by decide))) ?_
  refine PW.dupR (pc := 676) dX8_init_676 ?_
  refine PW.iconst (pc := 677) dX8_init_677 (v := 1) (by decide) ?_
  refine PW.bipush (pc := 678) dX8_init_678 (v := 114) (by decide) ?_
  refine PW.cast (pc := 680) dX8_init_680 (arn (show mN M + 3 = 300 by omega) s_302 (by decide)) (vpl n_302 (vp_c (by decide))) ?_
  refine PW.putR (pc := 681) dX8_init_681 lf_X8_87 (obn (show mN M + 3 = 300 by omega) s_277 (by decide) (by decide)) fx_8_32 (Or.inr ⟨rfl, rfl, rfl⟩) (fun _ => rfl) (fun _ => rfl) (by decide) ?_
  exact h
def u_X8_277_10 (M : pm) : pm := sR (sI (sI (sI (nw (sR (sI (sI (sI (nw (sR (sI (sI (sI (nw M) 303 0 (vp_nar .char 97)) 303 1 (vp_nar .char 110)) 303 2 (vp_nar .char 100)) 277 33 303)) 304 0 (vp_nar .char 110)) 304 1 (vp_nar .char 111)) 304 2 (vp_nar .char 116)) 277 34 304)) 305 0 (vp_nar .char 97)) 305 1 (vp_nar .char 108)) 305 2 (vp_nar .char 108)) 277 35 305
theorem un_X8_277_10 (M : pm) : mN (u_X8_277_10 M) = mN M + 3 := rfl
set_option maxRecDepth 4000 in
theorem k_X8_277_10 {M : pm} {Q : Option Value → pm → Prop} (hn : mN M = 300)  (h : PW mX8_init 10 350 750 [.ref 277] [] (u_X8_277_10 M) Q) : PW mX8_init 10 350 684 [.ref 277] [] M Q := by
  refine PW.aload_n (pc := 684) dX8_init_684 rfl ?_
  refine PW.iconst (pc := 685) dX8_init_685 (v := 3) (by decide) ?_
  refine PW.newaC (pc := 686) dX8_init_686 (a := 303) aw_char (by decide) (by decide +kernel) (by decide) (ltn (show mN M + 0 = 300 by omega) (by decide)) (eqn (show mN M + 0 = 300 by omega) rfl) ?_
  refine PW.dupR (pc := 688) dX8_init_688 ?_
  refine PW.iconst (pc := 689) dX8_init_689 (v := 0) (by decide) ?_
  refine PW.bipush (pc := 690) dX8_init_690 (v := 97) (by decide) ?_
  refine PW.cast (pc := 692) dX8_init_692 (arn (show mN M + 1 = 301 by omega) s_303 (by decide)) (vpl n_303 (vp_c (by decide))) ?_
  refine PW.dupR (pc := 693) dX8_init_693 ?_
  refine PW.iconst (pc := 694) dX8_init_694 (v := 1) (by decide) ?_
  refine PW.bipush (pc := 695) dX8_init_695 (v := 110) (by decide) ?_
  refine PW.cast (pc := 697) dX8_init_697 (arn (show mN M + 1 = 301 by omega) s_303 (by decide)) (vpl n_303 (vp_c (by decide))) ?_
  refine PW.dupR (pc := 698) dX8_init_698 ?_
  refine PW.iconst (pc := 699) dX8_init_699 (v := 2) (by decide) ?_
  refine PW.bipush (pc := 700) dX8_init_700 (v := 100) (by decide) ?_
  refine PW.cast (pc := 702) dX8_init_702 (arn (show mN M + 1 = 301 by omega) s_303 (by decide)) (vpl n_303 (vp_c (by decide))) ?_
  refine PW.putR (pc := 703) dX8_init_703 lf_X8_90 (obn (show mN M + 1 = 301 by omega) s_277 (by decide) (by decide)) fx_8_33 (Or.inr ⟨rfl, rfl, rfl⟩) (fun _ => rfl) (fun _ => rfl) (by decide) ?_
  refine PW.aload_n (pc := 706) dX8_init_706 rfl ?_
  refine PW.iconst (pc := 707) dX8_init_707 (v := 3) (by decide) ?_
  refine PW.newaC (pc := 708) dX8_init_708 (a := 304) aw_char (by decide) (by decide +kernel) (by decide) (ltn (show mN M + 1 = 301 by omega) (by decide)) (eqn (show mN M + 1 = 301 by omega) rfl) ?_
  refine PW.dupR (pc := 710) dX8_init_710 ?_
  refine PW.iconst (pc := 711) dX8_init_711 (v := 0) (by decide) ?_
  refine PW.bipush (pc := 712) dX8_init_712 (v := 110) (by decide) ?_
  refine PW.cast (pc := 714) dX8_init_714 (arn (show mN M + 2 = 302 by omega) s_304 (by decide)) (vpl n_304 (vp_c (by decide))) ?_
  refine PW.dupR (pc := 715) dX8_init_715 ?_
  refine PW.iconst (pc := 716) dX8_init_716 (v := 1) (by decide) ?_
  refine PW.bipush (pc := 717) dX8_init_717 (v := 111) (by decide) ?_
  refine PW.cast (pc := 719) dX8_init_719 (arn (show mN M + 2 = 302 by omega) s_304 (by decide)) (vpl n_304 (vp_c (by decide))) ?_
  refine PW.dupR (pc := 720) dX8_init_720 ?_
  refine PW.iconst (pc := 721) dX8_init_721 (v := 2) (by decide) ?_
  refine PW.bipush (pc := 722) dX8_init_722 (v := 116) (by decide) ?_
  refine PW.cast (pc := 724) dX8_init_724 (arn (show mN M + 2 = 302 by omega) s_304 (by decide)) (vpl n_304 (vp_c (by decide))) ?_
  refine PW.putR (pc := 725) dX8_init_725 lf_X8_93 (obn (show mN M + 2 = 302 by omega) s_277 (by decide) (by decide)) fx_8_34 (Or.inr ⟨rfl, rfl, rfl⟩) (fun _ => rfl) (fun _ => rfl) (by decide) ?_
  refine PW.aload_n (pc := 728) dX8_init_728 rfl ?_
  refine PW.iconst (pc := 729) dX8_init_729 (v := 3) (by decide) ?_
  refine PW.newaC (pc := 730) dX8_init_730 (a := 305) aw_char (by decide) (by decide +kernel) (by decide) (ltn (show mN M + 2 = 302 by omega) (by decide)) (eqn (show mN M + 2 = 302 by omega) rfl) ?_
  refine PW.dupR (pc := 732) dX8_init_732 ?_
  refine PW.iconst (pc := 733) dX8_init_733 (v := 0) (by decide) ?_
  refine PW.bipush (pc := 734) dX8_init_734 (v := 97) (by decide) ?_
  refine PW.cast (pc := 736) dX8_init_736 (arn (show mN M + 3 = 303 by omega) s_305 (by decide)) (vpl n_305 (vp_c (by decide))) ?_
  refine PW.dupR (pc := 737) dX8_init_737 ?_
  refine PW.iconst (pc := 738) dX8_init_738 (v := 1) (by decide) ?_
  refine PW.bipush (pc := 739) dX8_init_739 (v := 108) (by decide) ?_
  refine PW.cast (pc := 741) dX8_init_741 (arn (show mN M + 3 = 303 by omega) s_305 (by decide)) (vpl n_305 (vp_c (by decide))) ?_
  refine PW.dupR (pc := 742) dX8_init_742 ?_
  refine PW.iconst (pc := 743) dX8_init_743 (v := 2) (by decide) ?_
  refine PW.bipush (pc := 744) dX8_init_744 (v := 108) (by decide) ?_
  refine PW.cast (pc := 746) dX8_init_746 (arn (show mN M + 3 = 303 by omega) s_305 (by decide)) (vpl n_305 (vp_c (by decide))) ?_
  refine PW.putR (pc := 747) dX8_init_747 lf_X8_96 (obn (show mN M + 3 = 303 by omega) s_277 (by decide) (by decide)) fx_8_35 (Or.inr ⟨rfl, rfl, rfl⟩) (fun _ => rfl) (fun _ => rfl) (by decide) ?_
  exact h
def u_X8_277_11 (M : pm) : pm := sR (nw (sR (nw (sR (nw (sR (sI (sI (sI (nw (sR (sI (sI (sI (nw M) 306 0 (vp_nar .char 109)) 306 1 (vp_nar .char 105)) 306 2 (vp_nar .char 110)) 277 36 306)) 307 0 (vp_nar .char 109)) 307 1 (vp_nar .char 97)) 307 2 (vp_nar .char 120)) 277 37 307)) 277 39 308)) 277 40 309)) 277 41 310
theorem un_X8_277_11 (M : pm) : mN (u_X8_277_11 M) = mN M + 5 := rfl
set_option maxRecDepth 4000 in
theorem k_X8_277_11 {M : pm} {Q : Option Value → pm → Prop} (hn : mN M = 303)  (h : PW mX8_init 10 350 818 [.ref 277] [] (u_X8_277_11 M) Q) : PW mX8_init 10 350 750 [.ref 277] [] M Q := by
  refine PW.aload_n (pc := 750) dX8_init_750 rfl ?_
  refine PW.iconst (pc := 751) dX8_init_751 (v := 3) (by decide) ?_
  refine PW.newaC (pc := 752) dX8_init_752 (a := 306) aw_char (by decide) (by decide +kernel) (by decide) (ltn (show mN M + 0 = 303 by omega) (by decide)) (eqn (show mN M + 0 = 303 by omega) rfl) ?_
  refine PW.dupR (pc := 754) dX8_init_754 ?_
  refine PW.iconst (pc := 755) dX8_init_755 (v := 0) (by decide) ?_
  refine PW.bipush (pc := 756) dX8_init_756 (v := 109) (by decide) ?_
  refine PW.cast (pc := 758) dX8_init_758 (arn (show mN M + 1 = 304 by omega) s_306 (by decide)) (vpl n_306 (vp_c (by decide))) ?_
  refine PW.dupR (pc := 759) dX8_init_759 ?_
  refine PW.iconst (pc := 760) dX8_init_760 (v := 1) (by decide) ?_
  refine PW.bipush (pc := 761) dX8_init_761 (v := 105) (by decide) ?_
  refine PW.cast (pc := 763) dX8_init_763 (arn (show mN M + 1 = 304 by omega) s_306 (by decide)) (vpl n_306 (vp_c (by decide))) ?_
  refine PW.dupR (pc := 764) dX8_init_764 ?_
  refine PW.iconst (pc := 765) dX8_init_765 (v := 2) (by decide) ?_
  refine PW.bipush (pc := 766) dX8_init_766 (v := 110) (by decide) ?_
  refine PW.cast (pc := 768) dX8_init_768 (arn (show mN M + 1 = 304 by omega) s_306 (by decide)) (vpl n_306 (vp_c (by decide))) ?_
  refine PW.putR (pc := 769) dX8_init_769 lf_X8_99 (obn (show mN M + 1 = 304 by omega) s_277 (by decide) (by decide)) fx_8_36 (Or.inr ⟨rfl, rfl, rfl⟩) (fun _ => rfl) (fun _ => rfl) (by decide) ?_
  refine PW.aload_n (pc := 772) dX8_init_772 rfl ?_
  refine PW.iconst (pc := 773) dX8_init_773 (v := 3) (by decide) ?_
  refine PW.newaC (pc := 774) dX8_init_774 (a := 307) aw_char (by decide) (by decide +kernel) (by decide) (ltn (show mN M + 1 = 304 by omega) (by decide)) (eqn (show mN M + 1 = 304 by omega) rfl) ?_
  refine PW.dupR (pc := 776) dX8_init_776 ?_
  refine PW.iconst (pc := 777) dX8_init_777 (v := 0) (by decide) ?_
  refine PW.bipush (pc := 778) dX8_init_778 (v := 109) (by decide) ?_
  refine PW.cast (pc := 780) dX8_init_780 (arn (show mN M + 2 = 305 by omega) s_307 (by decide)) (vpl n_307 (vp_c (by decide))) ?_
  refine PW.dupR (pc := 781) dX8_init_781 ?_
  refine PW.iconst (pc := 782) dX8_init_782 (v := 1) (by decide) ?_
  refine PW.bipush (pc := 783) dX8_init_783 (v := 97) (by decide) ?_
  refine PW.cast (pc := 785) dX8_init_785 (arn (show mN M + 2 = 305 by omega) s_307 (by decide)) (vpl n_307 (vp_c (by decide))) ?_
  refine PW.dupR (pc := 786) dX8_init_786 ?_
  refine PW.iconst (pc := 787) dX8_init_787 (v := 2) (by decide) ?_
  refine PW.bipush (pc := 788) dX8_init_788 (v := 120) (by decide) ?_
  refine PW.cast (pc := 790) dX8_init_790 (arn (show mN M + 2 = 305 by omega) s_307 (by decide)) (vpl n_307 (vp_c (by decide))) ?_
  refine PW.putR (pc := 791) dX8_init_791 lf_X8_102 (obn (show mN M + 2 = 305 by omega) s_277 (by decide) (by decide)) fx_8_37 (Or.inr ⟨rfl, rfl, rfl⟩) (fun _ => rfl) (fun _ => rfl) (by decide) ?_
  refine PW.aload_n (pc := 794) dX8_init_794 rfl ?_
  refine PW.bipush (pc := 795) dX8_init_795 (v := 6) (by decide) ?_
  refine PW.newaI (pc := 797) dX8_init_797 (a := 308) aw_int (by decide) (by decide +kernel) (by decide) (ltn (show mN M + 2 = 305 by omega) (by decide)) (eqn (show mN M + 2 = 305 by omega) rfl) ?_
  refine PW.putR (pc := 799) dX8_init_799 lf_X8_105 (obn (show mN M + 3 = 306 by omega) s_277 (by decide) (by decide)) fx_8_39 (Or.inr ⟨rfl, rfl, rfl⟩) (fun _ => rfl) (fun _ => rfl) (by decide) ?_
  refine PW.aload_n (pc := 802) dX8_init_802 rfl ?_
  refine PW.bipush (pc := 803) dX8_init_803 (v := 6) (by decide) ?_
  refine PW.newaI (pc := 805) dX8_init_805 (a := 309) aw_int (by decide) (by decide +kernel) (by decide) (ltn (show mN M + 3 = 306 by omega) (by decide)) (eqn (show mN M + 3 = 306 by omega) rfl) ?_
  refine PW.putR (pc := 807) dX8_init_807 lf_X8_108 (obn (show mN M + 4 = 307 by omega) s_277 (by decide) (by decide)) fx_8_40 (Or.inr ⟨rfl, rfl, rfl⟩) (fun _ => rfl) (fun _ => rfl) (by decide) ?_
  refine PW.aload_n (pc := 810) dX8_init_810 rfl ?_
  refine PW.bipush (pc := 811) dX8_init_811 (v := 48) (by decide) ?_
  refine PW.newaJ (pc := 813) dX8_init_813 (a := 310) aw_long (by decide) (by decide +kernel) (by decide) (ltn (show mN M + 4 = 307 by omega) (by decide)) (eqn (show mN M + 4 = 307 by omega) rfl) ?_
  refine PW.putR (pc := 815) dX8_init_815 lf_X8_111 (obn (show mN M + 5 = 308 by omega) s_277 (by decide) (by decide)) fx_8_41 (Or.inr ⟨rfl, rfl, rfl⟩) (fun _ => rfl) (fun _ => rfl) (by decide) ?_
  exact h
def u_X8_277_12 (M : pm) : pm := sR (nw (sR (sI (sI (sI (sI (sI (sI (nw (sR (nw (sR (nw (sR (nw M) 277 42 311)) 277 43 312)) 277 44 313)) 314 0 (-1)) 314 1 (-1)) 314 2 (-1)) 314 3 (-1)) 314 4 (-1)) 314 5 (-1)) 277 45 314)) 277 46 315
theorem un_X8_277_12 (M : pm) : mN (u_X8_277_12 M) = mN M + 5 := rfl
set_option maxRecDepth 4000 in
theorem k_X8_277_12 {M : pm} {Q : Option Value → pm → Prop} (hn : mN M = 308)  (h : PW mX8_init 10 350 882 [.ref 277] [] (u_X8_277_12 M) Q) : PW mX8_init 10 350 818 [.ref 277] [] M Q := by
  refine PW.aload_n (pc := 818) dX8_init_818 rfl ?_
  refine PW.bipush (pc := 819) dX8_init_819 (v := 24) (by decide) ?_
  refine PW.newaI (pc := 821) dX8_init_821 (a := 311) aw_int (by decide) (by decide +kernel) (by decide) (ltn (show mN M + 0 = 308 by omega) (by decide)) (eqn (show mN M + 0 = 308 by omega) rfl) ?_
  refine PW.putR (pc := 823) dX8_init_823 lf_X8_115 (obn (show mN M + 1 = 309 by omega) s_277 (by decide) (by decide)) fx_8_42 (Or.inr ⟨rfl, rfl, rfl⟩) (fun _ => rfl) (fun _ => rfl) (by decide) ?_
  refine PW.aload_n (pc := 826) dX8_init_826 rfl ?_
  refine PW.bipush (pc := 827) dX8_init_827 (v := 24) (by decide) ?_
  refine PW.newaI (pc := 829) dX8_init_829 (a := 312) aw_int (by decide) (by decide +kernel) (by decide) (ltn (show mN M + 1 = 309 by omega) (by decide)) (eqn (show mN M + 1 = 309 by omega) rfl) ?_
  refine PW.putR (pc := 831) dX8_init_831 lf_X8_118 (obn (show mN M + 2 = 310 by omega) s_277 (by decide) (by decide)) fx_8_43 (Or.inr ⟨rfl, rfl, rfl⟩) (fun _ => rfl) (fun _ => rfl) (by decide) ?_
  refine PW.aload_n (pc := 834) dX8_init_834 rfl ?_
  refine PW.bipush (pc := 835) dX8_init_835 (v := 10) (by decide) ?_
  refine PW.newaI (pc := 837) dX8_init_837 (a := 313) aw_int (by decide) (by decide +kernel) (by decide) (ltn (show mN M + 2 = 310 by omega) (by decide)) (eqn (show mN M + 2 = 310 by omega) rfl) ?_
  refine PW.putR (pc := 839) dX8_init_839 lf_X8_121 (obn (show mN M + 3 = 311 by omega) s_277 (by decide) (by decide)) fx_8_44 (Or.inr ⟨rfl, rfl, rfl⟩) (fun _ => rfl) (fun _ => rfl) (by decide) ?_
  refine PW.aload_n (pc := 842) dX8_init_842 rfl ?_
  refine PW.bipush (pc := 843) dX8_init_843 (v := 6) (by decide) ?_
  refine PW.newaI (pc := 845) dX8_init_845 (a := 314) aw_int (by decide) (by decide +kernel) (by decide) (ltn (show mN M + 3 = 311 by omega) (by decide)) (eqn (show mN M + 3 = 311 by omega) rfl) ?_
  refine PW.dupR (pc := 847) dX8_init_847 ?_
  refine PW.iconst (pc := 848) dX8_init_848 (v := 0) (by decide) ?_
  refine PW.iconst (pc := 849) dX8_init_849 (v := (-1)) (by decide) ?_
  refine PW.iast (pc := 850) dX8_init_850 (arn (show mN M + 4 = 312 by omega) s_314 (by decide)) (vpl n_314 (vp_c (by decide))) ?_
  refine PW.dupR (pc := 851) dX8_init_851 ?_
  refine PW.iconst (pc := 852) dX8_init_852 (v := 1) (by decide) ?_
  refine PW.iconst (pc := 853) dX8_init_853 (v := (-1)) (by decide) ?_
  refine PW.iast (pc := 854) dX8_init_854 (arn (show mN M + 4 = 312 by omega) s_314 (by decide)) (vpl n_314 (vp_c (by decide))) ?_
  refine PW.dupR (pc := 855) dX8_init_855 ?_
  refine PW.iconst (pc := 856) dX8_init_856 (v := 2) (by decide) ?_
  refine PW.iconst (pc := 857) dX8_init_857 (v := (-1)) (by decide) ?_
  refine PW.iast (pc := 858) dX8_init_858 (arn (show mN M + 4 = 312 by omega) s_314 (by decide)) (vpl n_314 (vp_c (by decide))) ?_
  refine PW.dupR (pc := 859) dX8_init_859 ?_
  refine PW.iconst (pc := 860) dX8_init_860 (v := 3) (by decide) ?_
  refine PW.iconst (pc := 861) dX8_init_861 (v := (-1)) (by decide) ?_
  refine PW.iast (pc := 862) dX8_init_862 (arn (show mN M + 4 = 312 by omega) s_314 (by decide)) (vpl n_314 (vp_c (by decide))) ?_
  refine PW.dupR (pc := 863) dX8_init_863 ?_
  refine PW.iconst (pc := 864) dX8_init_864 (v := 4) (by decide) ?_
  refine PW.iconst (pc := 865) dX8_init_865 (v := (-1)) (by decide) ?_
  refine PW.iast (pc := 866) dX8_init_866 (arn (show mN M + 4 = 312 by omega) s_314 (by decide)) (vpl n_314 (vp_c (by decide))) ?_
  refine PW.dupR (pc := 867) dX8_init_867 ?_
  refine PW.iconst (pc := 868) dX8_init_868 (v := 5) (by decide) ?_
  refine PW.iconst (pc := 869) dX8_init_869 (v := (-1)) (by decide) ?_
  refine PW.iast (pc := 870) dX8_init_870 (arn (show mN M + 4 = 312 by omega) s_314 (by decide)) (vpl n_314 (vp_c (by decide))) ?_
  refine PW.putR (pc := 871) dX8_init_871 lf_X8_124 (obn (show mN M + 4 = 312 by omega) s_277 (by decide) (by decide)) fx_8_45 (Or.inr ⟨rfl, rfl, rfl⟩) (fun _ => rfl) (fun _ => rfl) (by decide) ?_
  refine PW.aload_n (pc := 874) dX8_init_874 rfl ?_
  refine PW.bipush (pc := 875) dX8_init_875 (v := 6) (by decide) ?_
  refine PW.newaI (pc := 877) dX8_init_877 (a := 315) aw_int (by decide) (by decide +kernel) (by decide) (ltn (show mN M + 4 = 312 by omega) (by decide)) (eqn (show mN M + 4 = 312 by omega) rfl) ?_
  refine PW.putR (pc := 879) dX8_init_879 lf_X8_127 (obn (show mN M + 5 = 313 by omega) s_277 (by decide) (by decide)) fx_8_46 (Or.inr ⟨rfl, rfl, rfl⟩) (fun _ => rfl) (fun _ => rfl) (by decide) ?_
  exact h
def u_X8_277_13 (M : pm) : pm := sJ (sR (nw (sR (nw (sR (nw (sR (nw (sR (nw (sR (nw (sR (nw (sR (nw (sR (nw (sR (nw M) 277 47 316)) 277 52 317)) 277 53 318)) 277 55 319)) 277 60 320)) 277 61 321)) 277 64 322)) 277 65 323)) 277 66 324)) 277 68 325) 277 71 1
theorem un_X8_277_13 (M : pm) : mN (u_X8_277_13 M) = mN M + 10 := rfl
set_option maxRecDepth 4000 in
theorem k_X8_277_13 {M : pm} {Q : Option Value → pm → Prop} (hn : mN M = 313)  (h : PW mX8_init 10 350 969 [.ref 277] [] (u_X8_277_13 M) Q) : PW mX8_init 10 350 882 [.ref 277] [] M Q := by
  refine PW.aload_n (pc := 882) dX8_init_882 rfl ?_
  refine PW.sipush (pc := 883) dX8_init_883 (v := 3200) (by decide) ?_
  refine PW.newaI (pc := 886) dX8_init_886 (a := 316) aw_int (by decide) (by decide +kernel) (by decide) (ltn (show mN M + 0 = 313 by omega) (by decide)) (eqn (show mN M + 0 = 313 by omega) rfl) ?_
  refine PW.putR (pc := 888) dX8_init_888 lf_X8_130 (obn (show mN M + 1 = 314 by omega) s_277 (by decide) (by decide)) fx_8_47 (Or.inr ⟨rfl, rfl, rfl⟩) (fun _ => rfl) (fun _ => rfl) (by decide) ?_
  refine PW.aload_n (pc := 891) dX8_init_891 rfl ?_
  refine PW.sipush (pc := 892) dX8_init_892 (v := 163) (by decide) ?_
  refine PW.newaI (pc := 895) dX8_init_895 (a := 317) aw_int (by decide) (by decide +kernel) (by decide) (ltn (show mN M + 1 = 314 by omega) (by decide)) (eqn (show mN M + 1 = 314 by omega) rfl) ?_
  refine PW.putR (pc := 897) dX8_init_897 lf_X8_133 (obn (show mN M + 2 = 315 by omega) s_277 (by decide) (by decide)) fx_8_52 (Or.inr ⟨rfl, rfl, rfl⟩) (fun _ => rfl) (fun _ => rfl) (by decide) ?_
  refine PW.aload_n (pc := 900) dX8_init_900 rfl ?_
  refine PW.bipush (pc := 901) dX8_init_901 (v := 42) (by decide) ?_
  refine PW.newaI (pc := 903) dX8_init_903 (a := 318) aw_int (by decide) (by decide +kernel) (by decide) (ltn (show mN M + 2 = 315 by omega) (by decide)) (eqn (show mN M + 2 = 315 by omega) rfl) ?_
  refine PW.putR (pc := 905) dX8_init_905 lf_X8_136 (obn (show mN M + 3 = 316 by omega) s_277 (by decide) (by decide)) fx_8_53 (Or.inr ⟨rfl, rfl, rfl⟩) (fun _ => rfl) (fun _ => rfl) (by decide) ?_
  refine PW.aload_n (pc := 908) dX8_init_908 rfl ?_
  refine PW.bipush (pc := 909) dX8_init_909 (v := 8) (by decide) ?_
  refine PW.newaJ (pc := 911) dX8_init_911 (a := 319) aw_long (by decide) (by decide +kernel) (by decide) (ltn (show mN M + 3 = 316 by omega) (by decide)) (eqn (show mN M + 3 = 316 by omega) rfl) ?_
  refine PW.putR (pc := 913) dX8_init_913 lf_X8_139 (obn (show mN M + 4 = 317 by omega) s_277 (by decide) (by decide)) fx_8_55 (Or.inr ⟨rfl, rfl, rfl⟩) (fun _ => rfl) (fun _ => rfl) (by decide) ?_
  refine PW.aload_n (pc := 916) dX8_init_916 rfl ?_
  refine PW.iconst (pc := 917) dX8_init_917 (v := 5) (by decide) ?_
  refine PW.newaI (pc := 918) dX8_init_918 (a := 320) aw_int (by decide) (by decide +kernel) (by decide) (ltn (show mN M + 4 = 317 by omega) (by decide)) (eqn (show mN M + 4 = 317 by omega) rfl) ?_
  refine PW.putR (pc := 920) dX8_init_920 lf_X8_142 (obn (show mN M + 5 = 318 by omega) s_277 (by decide) (by decide)) fx_8_60 (Or.inr ⟨rfl, rfl, rfl⟩) (fun _ => rfl) (fun _ => rfl) (by decide) ?_
  refine PW.aload_n (pc := 923) dX8_init_923 rfl ?_
  refine PW.iconst (pc := 924) dX8_init_924 (v := 5) (by decide) ?_
  refine PW.newaI (pc := 925) dX8_init_925 (a := 321) aw_int (by decide) (by decide +kernel) (by decide) (ltn (show mN M + 5 = 318 by omega) (by decide)) (eqn (show mN M + 5 = 318 by omega) rfl) ?_
  refine PW.putR (pc := 927) dX8_init_927 lf_X8_145 (obn (show mN M + 6 = 319 by omega) s_277 (by decide) (by decide)) fx_8_61 (Or.inr ⟨rfl, rfl, rfl⟩) (fun _ => rfl) (fun _ => rfl) (by decide) ?_
  refine PW.aload_n (pc := 930) dX8_init_930 rfl ?_
  refine PW.bipush (pc := 931) dX8_init_931 (v := 48) (by decide) ?_
  refine PW.newaI (pc := 933) dX8_init_933 (a := 322) aw_int (by decide) (by decide +kernel) (by decide) (ltn (show mN M + 6 = 319 by omega) (by decide)) (eqn (show mN M + 6 = 319 by omega) rfl) ?_
  refine PW.putR (pc := 935) dX8_init_935 lf_X8_148 (obn (show mN M + 7 = 320 by omega) s_277 (by decide) (by decide)) fx_8_64 (Or.inr ⟨rfl, rfl, rfl⟩) (fun _ => rfl) (fun _ => rfl) (by decide) ?_
  refine PW.aload_n (pc := 938) dX8_init_938 rfl ?_
  refine PW.sipush (pc := 939) dX8_init_939 (v := 3100) (by decide) ?_
  refine PW.newaZ (pc := 942) dX8_init_942 (a := 323) aw_boolean (by decide) (by decide +kernel) (by decide) (ltn (show mN M + 7 = 320 by omega) (by decide)) (eqn (show mN M + 7 = 320 by omega) rfl) ?_
  refine PW.putR (pc := 944) dX8_init_944 lf_X8_151 (obn (show mN M + 8 = 321 by omega) s_277 (by decide) (by decide)) fx_8_65 (Or.inr ⟨rfl, rfl, rfl⟩) (fun _ => rfl) (fun _ => rfl) (by decide) ?_
  refine PW.aload_n (pc := 947) dX8_init_947 rfl ?_
  refine PW.bipush (pc := 948) dX8_init_948 (v := 100) (by decide) ?_
  refine PW.newaZ (pc := 950) dX8_init_950 (a := 324) aw_boolean (by decide) (by decide +kernel) (by decide) (ltn (show mN M + 8 = 321 by omega) (by decide)) (eqn (show mN M + 8 = 321 by omega) rfl) ?_
  refine PW.putR (pc := 952) dX8_init_952 lf_X8_155 (obn (show mN M + 9 = 322 by omega) s_277 (by decide) (by decide)) fx_8_66 (Or.inr ⟨rfl, rfl, rfl⟩) (fun _ => rfl) (fun _ => rfl) (by decide) ?_
  refine PW.aload_n (pc := 955) dX8_init_955 rfl ?_
  refine PW.sipush (pc := 956) dX8_init_956 (v := 3260) (by decide) ?_
  refine PW.newaI (pc := 959) dX8_init_959 (a := 325) aw_int (by decide) (by decide +kernel) (by decide) (ltn (show mN M + 9 = 322 by omega) (by decide)) (eqn (show mN M + 9 = 322 by omega) rfl) ?_
  refine PW.putR (pc := 961) dX8_init_961 lf_X8_158 (obn (show mN M + 10 = 323 by omega) s_277 (by decide) (by decide)) fx_8_68 (Or.inr ⟨rfl, rfl, rfl⟩) (fun _ => rfl) (fun _ => rfl) (by decide) ?_
  refine PW.aload_n (pc := 964) dX8_init_964 rfl ?_
  refine PW.lconst (pc := 965) dX8_init_965 (v := 1) (by decide) ?_
  refine PW.putJ (pc := 966) dX8_init_966 lf_X8_161 (obn (show mN M + 10 = 323 by omega) s_277 (by decide) (by decide)) fx_8_71 (Or.inl rfl) rfl rfl ?_
  exact h
def u_X8_277_14 (M : pm) : pm := sR (sI (sI (sI (sI (nw (sR (sI (sI (sI (sI (sI (nw M) 326 0 (vp_nar .char 102)) 326 1 (vp_nar .char 105)) 326 2 (vp_nar .char 114)) 326 3 (vp_nar .char 115)) 326 4 (vp_nar .char 116)) 277 72 326)) 327 0 (vp_nar .char 108)) 327 1 (vp_nar .char 97)) 327 2 (vp_nar .char 115)) 327 3 (vp_nar .char 116)) 277 73 327
theorem un_X8_277_14 (M : pm) : mN (u_X8_277_14 M) = mN M + 2 := rfl
set_option maxRecDepth 4000 in
theorem k_X8_277_14 {M : pm} {Q : Option Value → pm → Prop} (hn : mN M = 323)  (h : PW mX8_init 10 350 1028 [.ref 277] [] (u_X8_277_14 M) Q) : PW mX8_init 10 350 969 [.ref 277] [] M Q := by
  refine PW.aload_n (pc := 969) dX8_init_969 rfl ?_
  refine PW.iconst (pc := 970) dX8_init_970 (v := 5) (by decide) ?_
  refine PW.newaC (pc := 971) dX8_init_971 (a := 326) aw_char (by decide) (by decide +kernel) (by decide) (ltn (show mN M + 0 = 323 by omega) (by decide)) (eqn (show mN M + 0 = 323 by omega) rfl) ?_
  refine PW.dupR (pc := 973) dX8_init_973 ?_
  refine PW.iconst (pc := 974) dX8_init_974 (v := 0) (by decide) ?_
  refine PW.bipush (pc := 975) dX8_init_975 (v := 102) (by decide) ?_
  refine PW.cast (pc := 977) dX8_init_977 (arn (show mN M + 1 = 324 by omega) s_326 (by decide)) (vpl n_326 (vp_c (by decide))) ?_
  refine PW.dupR (pc := 978) dX8_init_978 ?_
  refine PW.iconst (pc := 979) dX8_init_979 (v := 1) (by decide) ?_
  refine PW.bipush (pc := 980) dX8_init_980 (v := 105) (by decide) ?_
  refine PW.cast (pc := 982) dX8_init_982 (arn (show mN M + 1 = 324 by omega) s_326 (by decide)) (vpl n_326 (vp_c (by decide))) ?_
  refine PW.dupR (pc := 983) dX8_init_983 ?_
  refine PW.iconst (pc := 984) dX8_init_984 (v := 2) (by decide) ?_
  refine PW.bipush (pc := 985) dX8_init_985 (v := 114) (by decide) ?_
  refine PW.cast (pc := 987) dX8_init_987 (arn (show mN M + 1 = 324 by omega) s_326 (by decide)) (vpl n_326 (vp_c (by decide))) ?_
  refine PW.dupR (pc := 988) dX8_init_988 ?_
  refine PW.iconst (pc := 989) dX8_init_989 (v := 3) (by decide) ?_
  refine PW.bipush (pc := 990) dX8_init_990 (v := 115) (by decide) ?_
  refine PW.cast (pc := 992) dX8_init_992 (arn (show mN M + 1 = 324 by omega) s_326 (by decide)) (vpl n_326 (vp_c (by decide))) ?_
  refine PW.dupR (pc := 993) dX8_init_993 ?_
  refine PW.iconst (pc := 994) dX8_init_994 (v := 4) (by decide) ?_
  refine PW.bipush (pc := 995) dX8_init_995 (v := 116) (by decide) ?_
  refine PW.cast (pc := 997) dX8_init_997 (arn (show mN M + 1 = 324 by omega) s_326 (by decide)) (vpl n_326 (vp_c (by decide))) ?_
  refine PW.putR (pc := 998) dX8_init_998 lf_X8_165 (obn (show mN M + 1 = 324 by omega) s_277 (by decide) (by decide)) fx_8_72 (Or.inr ⟨rfl, rfl, rfl⟩) (fun _ => rfl) (fun _ => rfl) (by decide) ?_
  refine PW.aload_n (pc := 1001) dX8_init_1001 rfl ?_
  refine PW.iconst (pc := 1002) dX8_init_1002 (v := 4) (by decide) ?_
  refine PW.newaC (pc := 1003) dX8_init_1003 (a := 327) aw_char (by decide) (by decide +kernel) (by decide) (ltn (show mN M + 1 = 324 by omega) (by decide)) (eqn (show mN M + 1 = 324 by omega) rfl) ?_
  refine PW.dupR (pc := 1005) dX8_init_1005 ?_
  refine PW.iconst (pc := 1006) dX8_init_1006 (v := 0) (by decide) ?_
  refine PW.bipush (pc := 1007) dX8_init_1007 (v := 108) (by decide) ?_
  refine PW.cast (pc := 1009) dX8_init_1009 (arn (show mN M + 2 = 325 by omega) s_327 (by decide)) (vpl n_327 (vp_c (by decide))) ?_
  refine PW.dupR (pc := 1010) dX8_init_1010 ?_
  refine PW.iconst (pc := 1011) dX8_init_1011 (v := 1) (by decide) ?_
  refine PW.bipush (pc := 1012) dX8_init_1012 (v := 97) (by decide) ?_
  refine PW.cast (pc := 1014) dX8_init_1014 (arn (show mN M + 2 = 325 by omega) s_327 (by decide)) (vpl n_327 (vp_c (by decide))) ?_
  refine PW.dupR (pc := 1015) dX8_init_1015 ?_
  refine PW.iconst (pc := 1016) dX8_init_1016 (v := 2) (by decide) ?_
  refine PW.bipush (pc := 1017) dX8_init_1017 (v := 115) (by decide) ?_
  refine PW.cast (pc := 1019) dX8_init_1019 (arn (show mN M + 2 = 325 by omega) s_327 (by decide)) (vpl n_327 (vp_c (by decide))) ?_
  refine PW.dupR (pc := 1020) dX8_init_1020 ?_
  refine PW.iconst (pc := 1021) dX8_init_1021 (v := 3) (by decide) ?_
  refine PW.bipush (pc := 1022) dX8_init_1022 (v := 116) (by decide) ?_
  refine PW.cast (pc := 1024) dX8_init_1024 (arn (show mN M + 2 = 325 by omega) s_327 (by decide)) (vpl n_327 (vp_c (by decide))) ?_
  refine PW.putR (pc := 1025) dX8_init_1025 lf_X8_168 (obn (show mN M + 2 = 325 by omega) s_277 (by decide) (by decide)) fx_8_73 (Or.inr ⟨rfl, rfl, rfl⟩) (fun _ => rfl) (fun _ => rfl) (by decide) ?_
  exact h
def u_X8_277_15 (M : pm) : pm := sR (sI (sI (sI (sI (sI (nw (sR (sI (sI (sI (sI (sI (nw M) 328 0 (vp_nar .char 111)) 328 1 (vp_nar .char 102)) 328 2 (vp_nar .char 116)) 328 3 (vp_nar .char 101)) 328 4 (vp_nar .char 110)) 277 74 328)) 329 0 (vp_nar .char 116)) 329 1 (vp_nar .char 111)) 329 2 (vp_nar .char 116)) 329 3 (vp_nar .char 97)) 329 4 (vp_nar .char 108)) 277 75 329
theorem un_X8_277_15 (M : pm) : mN (u_X8_277_15 M) = mN M + 2 := rfl
set_option maxRecDepth 4000 in
theorem k_X8_277_15 {M : pm} {Q : Option Value → pm → Prop} (hn : mN M = 325)  (h : PW mX8_init 10 350 1092 [.ref 277] [] (u_X8_277_15 M) Q) : PW mX8_init 10 350 1028 [.ref 277] [] M Q := by
  refine PW.aload_n (pc := 1028) dX8_init_1028 rfl ?_
  refine PW.iconst (pc := 1029) dX8_init_1029 (v := 5) (by decide) ?_
  refine PW.newaC (pc := 1030) dX8_init_1030 (a := 328) aw_char (by decide) (by decide +kernel) (by decide) (ltn (show mN M + 0 = 325 by omega) (by decide)) (eqn (show mN M + 0 = 325 by omega) rfl) ?_
  refine PW.dupR (pc := 1032) dX8_init_1032 ?_
  refine PW.iconst (pc := 1033) dX8_init_1033 (v := 0) (by decide) ?_
  refine PW.bipush (pc := 1034) dX8_init_1034 (v := 111) (by decide) ?_
  refine PW.cast (pc := 1036) dX8_init_1036 (arn (show mN M + 1 = 326 by omega) s_328 (by decide)) (vpl n_328 (vp_c (by decide))) ?_
  refine PW.dupR (pc := 1037) dX8_init_1037 ?_
  refine PW.iconst (pc := 1038) dX8_init_1038 (v := 1) (by decide) ?_
  refine PW.bipush (pc := 1039) dX8_init_1039 (v := 102) (by decide) ?_
  refine PW.cast (pc := 1041) dX8_init_1041 (arn (show mN M + 1 = 326 by omega) s_328 (by decide)) (vpl n_328 (vp_c (by decide))) ?_
  refine PW.dupR (pc := 1042) dX8_init_1042 ?_
  refine PW.iconst (pc := 1043) dX8_init_1043 (v := 2) (by decide) ?_
  refine PW.bipush (pc := 1044) dX8_init_1044 (v := 116) (by decide) ?_
  refine PW.cast (pc := 1046) dX8_init_1046 (arn (show mN M + 1 = 326 by omega) s_328 (by decide)) (vpl n_328 (vp_c (by decide))) ?_
  refine PW.dupR (pc := 1047) dX8_init_1047 ?_
  refine PW.iconst (pc := 1048) dX8_init_1048 (v := 3) (by decide) ?_
  refine PW.bipush (pc := 1049) dX8_init_1049 (v := 101) (by decide) ?_
  refine PW.cast (pc := 1051) dX8_init_1051 (arn (show mN M + 1 = 326 by omega) s_328 (by decide)) (vpl n_328 (vp_c (by decide))) ?_
  refine PW.dupR (pc := 1052) dX8_init_1052 ?_
  refine PW.iconst (pc := 1053) dX8_init_1053 (v := 4) (by decide) ?_
  refine PW.bipush (pc := 1054) dX8_init_1054 (v := 110) (by decide) ?_
  refine PW.cast (pc := 1056) dX8_init_1056 (arn (show mN M + 1 = 326 by omega) s_328 (by decide)) (vpl n_328 (vp_c (by decide))) ?_
  refine PW.putR (pc := 1057) dX8_init_1057 lf_X8_171 (obn (show mN M + 1 = 326 by omega) s_277 (by decide) (by decide)) fx_8_74 (Or.inr ⟨rfl, rfl, rfl⟩) (fun _ => rfl) (fun _ => rfl) (by decide) ?_
  refine PW.aload_n (pc := 1060) dX8_init_1060 rfl ?_
  refine PW.iconst (pc := 1061) dX8_init_1061 (v := 5) (by decide) ?_
  refine PW.newaC (pc := 1062) dX8_init_1062 (a := 329) aw_char (by decide) (by decide +kernel) (by decide) (ltn (show mN M + 1 = 326 by omega) (by decide)) (eqn (show mN M + 1 = 326 by omega) rfl) ?_
  refine PW.dupR (pc := 1064) dX8_init_1064 ?_
  refine PW.iconst (pc := 1065) dX8_init_1065 (v := 0) (by decide) ?_
  refine PW.bipush (pc := 1066) dX8_init_1066 (v := 116) (by decide) ?_
  refine PW.cast (pc := 1068) dX8_init_1068 (arn (show mN M + 2 = 327 by omega) s_329 (by decide)) (vpl n_329 (vp_c (by decide))) ?_
  refine PW.dupR (pc := 1069) dX8_init_1069 ?_
  refine PW.iconst (pc := 1070) dX8_init_1070 (v := 1) (by decide) ?_
  refine PW.bipush (pc := 1071) dX8_init_1071 (v := 111) (by decide) ?_
  refine PW.cast (pc := 1073) dX8_init_1073 (arn (show mN M + 2 = 327 by omega) s_329 (by decide)) (vpl n_329 (vp_c (by decide))) ?_
  refine PW.dupR (pc := 1074) dX8_init_1074 ?_
  refine PW.iconst (pc := 1075) dX8_init_1075 (v := 2) (by decide) ?_
  refine PW.bipush (pc := 1076) dX8_init_1076 (v := 116) (by decide) ?_
  refine PW.cast (pc := 1078) dX8_init_1078 (arn (show mN M + 2 = 327 by omega) s_329 (by decide)) (vpl n_329 (vp_c (by decide))) ?_
  refine PW.dupR (pc := 1079) dX8_init_1079 ?_
  refine PW.iconst (pc := 1080) dX8_init_1080 (v := 3) (by decide) ?_
  refine PW.bipush (pc := 1081) dX8_init_1081 (v := 97) (by decide) ?_
  refine PW.cast (pc := 1083) dX8_init_1083 (arn (show mN M + 2 = 327 by omega) s_329 (by decide)) (vpl n_329 (vp_c (by decide))) ?_
  refine PW.dupR (pc := 1084) dX8_init_1084 ?_
  refine PW.iconst (pc := 1085) dX8_init_1085 (v := 4) (by decide) ?_
  refine PW.bipush (pc := 1086) dX8_init_1086 (v := 108) (by decide) ?_
  refine PW.cast (pc := 1088) dX8_init_1088 (arn (show mN M + 2 = 327 by omega) s_329 (by decide)) (vpl n_329 (vp_c (by decide))) ?_
  refine PW.putR (pc := 1089) dX8_init_1089 lf_X8_174 (obn (show mN M + 2 = 327 by omega) s_277 (by decide) (by decide)) fx_8_75 (Or.inr ⟨rfl, rfl, rfl⟩) (fun _ => rfl) (fun _ => rfl) (by decide) ?_
  exact h
def u_X8_277_16 (M : pm) : pm := sR (sI (sI (sI (sI (sI (nw (sR (sI (sI (sI (sI (nw M) 330 0 (vp_nar .char 109)) 330 1 (vp_nar .char 111)) 330 2 (vp_nar .char 115)) 330 3 (vp_nar .char 116)) 277 76 330)) 331 0 (vp_nar .char 108)) 331 1 (vp_nar .char 101)) 331 2 (vp_nar .char 97)) 331 3 (vp_nar .char 115)) 331 4 (vp_nar .char 116)) 277 77 331
theorem un_X8_277_16 (M : pm) : mN (u_X8_277_16 M) = mN M + 2 := rfl
set_option maxRecDepth 4000 in
theorem k_X8_277_16 {M : pm} {Q : Option Value → pm → Prop} (hn : mN M = 327)  (h : PW mX8_init 10 350 1151 [.ref 277] [] (u_X8_277_16 M) Q) : PW mX8_init 10 350 1092 [.ref 277] [] M Q := by
  refine PW.aload_n (pc := 1092) dX8_init_1092 rfl ?_
  refine PW.iconst (pc := 1093) dX8_init_1093 (v := 4) (by decide) ?_
  refine PW.newaC (pc := 1094) dX8_init_1094 (a := 330) aw_char (by decide) (by decide +kernel) (by decide) (ltn (show mN M + 0 = 327 by omega) (by decide)) (eqn (show mN M + 0 = 327 by omega) rfl) ?_
  refine PW.dupR (pc := 1096) dX8_init_1096 ?_
  refine PW.iconst (pc := 1097) dX8_init_1097 (v := 0) (by decide) ?_
  refine PW.bipush (pc := 1098) dX8_init_1098 (v := 109) (by decide) ?_
  refine PW.cast (pc := 1100) dX8_init_1100 (arn (show mN M + 1 = 328 by omega) s_330 (by decide)) (vpl n_330 (vp_c (by decide))) ?_
  refine PW.dupR (pc := 1101) dX8_init_1101 ?_
  refine PW.iconst (pc := 1102) dX8_init_1102 (v := 1) (by decide) ?_
  refine PW.bipush (pc := 1103) dX8_init_1103 (v := 111) (by decide) ?_
  refine PW.cast (pc := 1105) dX8_init_1105 (arn (show mN M + 1 = 328 by omega) s_330 (by decide)) (vpl n_330 (vp_c (by decide))) ?_
  refine PW.dupR (pc := 1106) dX8_init_1106 ?_
  refine PW.iconst (pc := 1107) dX8_init_1107 (v := 2) (by decide) ?_
  refine PW.bipush (pc := 1108) dX8_init_1108 (v := 115) (by decide) ?_
  refine PW.cast (pc := 1110) dX8_init_1110 (arn (show mN M + 1 = 328 by omega) s_330 (by decide)) (vpl n_330 (vp_c (by decide))) ?_
  refine PW.dupR (pc := 1111) dX8_init_1111 ?_
  refine PW.iconst (pc := 1112) dX8_init_1112 (v := 3) (by decide) ?_
  refine PW.bipush (pc := 1113) dX8_init_1113 (v := 116) (by decide) ?_
  refine PW.cast (pc := 1115) dX8_init_1115 (arn (show mN M + 1 = 328 by omega) s_330 (by decide)) (vpl n_330 (vp_c (by decide))) ?_
  refine PW.putR (pc := 1116) dX8_init_1116 lf_X8_177 (obn (show mN M + 1 = 328 by omega) s_277 (by decide) (by decide)) fx_8_76 (Or.inr ⟨rfl, rfl, rfl⟩) (fun _ => rfl) (fun _ => rfl) (by decide) ?_
  refine PW.aload_n (pc := 1119) dX8_init_1119 rfl ?_
  refine PW.iconst (pc := 1120) dX8_init_1120 (v := 5) (by decide) ?_
  refine PW.newaC (pc := 1121) dX8_init_1121 (a := 331) aw_char (by decide) (by decide +kernel) (by decide) (ltn (show mN M + 1 = 328 by omega) (by decide)) (eqn (show mN M + 1 = 328 by omega) rfl) ?_
  refine PW.dupR (pc := 1123) dX8_init_1123 ?_
  refine PW.iconst (pc := 1124) dX8_init_1124 (v := 0) (by decide) ?_
  refine PW.bipush (pc := 1125) dX8_init_1125 (v := 108) (by decide) ?_
  refine PW.cast (pc := 1127) dX8_init_1127 (arn (show mN M + 2 = 329 by omega) s_331 (by decide)) (vpl n_331 (vp_c (by decide))) ?_
  refine PW.dupR (pc := 1128) dX8_init_1128 ?_
  refine PW.iconst (pc := 1129) dX8_init_1129 (v := 1) (by decide) ?_
  refine PW.bipush (pc := 1130) dX8_init_1130 (v := 101) (by decide) ?_
  refine PW.cast (pc := 1132) dX8_init_1132 (arn (show mN M + 2 = 329 by omega) s_331 (by decide)) (vpl n_331 (vp_c (by decide))) ?_
  refine PW.dupR (pc := 1133) dX8_init_1133 ?_
  refine PW.iconst (pc := 1134) dX8_init_1134 (v := 2) (by decide) ?_
  refine PW.bipush (pc := 1135) dX8_init_1135 (v := 97) (by decide) ?_
  refine PW.cast (pc := 1137) dX8_init_1137 (arn (show mN M + 2 = 329 by omega) s_331 (by decide)) (vpl n_331 (vp_c (by decide))) ?_
  refine PW.dupR (pc := 1138) dX8_init_1138 ?_
  refine PW.iconst (pc := 1139) dX8_init_1139 (v := 3) (by decide) ?_
  refine PW.bipush (pc := 1140) dX8_init_1140 (v := 115) (by decide) ?_
  refine PW.cast (pc := 1142) dX8_init_1142 (arn (show mN M + 2 = 329 by omega) s_331 (by decide)) (vpl n_331 (vp_c (by decide))) ?_
  refine PW.dupR (pc := 1143) dX8_init_1143 ?_
  refine PW.iconst (pc := 1144) dX8_init_1144 (v := 4) (by decide) ?_
  refine PW.bipush (pc := 1145) dX8_init_1145 (v := 116) (by decide) ?_
  refine PW.cast (pc := 1147) dX8_init_1147 (arn (show mN M + 2 = 329 by omega) s_331 (by decide)) (vpl n_331 (vp_c (by decide))) ?_
  refine PW.putR (pc := 1148) dX8_init_1148 lf_X8_180 (obn (show mN M + 2 = 329 by omega) s_277 (by decide) (by decide)) fx_8_77 (Or.inr ⟨rfl, rfl, rfl⟩) (fun _ => rfl) (fun _ => rfl) (by decide) ?_
  exact h
def u_X8_277_17 (M : pm) : pm := sR (sI (sI (nw (sR (sI (sI (sI (nw (sR (sI (sI (sI (nw M) 332 0 (vp_nar .char 110)) 332 1 (vp_nar .char 111)) 332 2 (vp_nar .char 116)) 277 78 332)) 333 0 (vp_nar .char 97)) 333 1 (vp_nar .char 110)) 333 2 (vp_nar .char 100)) 277 79 333)) 334 0 (vp_nar .char 111)) 334 1 (vp_nar .char 114)) 277 80 334
theorem un_X8_277_17 (M : pm) : mN (u_X8_277_17 M) = mN M + 3 := rfl
set_option maxRecDepth 4000 in
theorem k_X8_277_17 {M : pm} {Q : Option Value → pm → Prop} (hn : mN M = 329)  (h : PW mX8_init 10 350 1212 [.ref 277] [] (u_X8_277_17 M) Q) : PW mX8_init 10 350 1151 [.ref 277] [] M Q := by
  refine PW.aload_n (pc := 1151) dX8_init_1151 rfl ?_
  refine PW.iconst (pc := 1152) dX8_init_1152 (v := 3) (by decide) ?_
  refine PW.newaC (pc := 1153) dX8_init_1153 (a := 332) aw_char (by decide) (by decide +kernel) (by decide) (ltn (show mN M + 0 = 329 by omega) (by decide)) (eqn (show mN M + 0 = 329 by omega) rfl) ?_
  refine PW.dupR (pc := 1155) dX8_init_1155 ?_
  refine PW.iconst (pc := 1156) dX8_init_1156 (v := 0) (by decide) ?_
  refine PW.bipush (pc := 1157) dX8_init_1157 (v := 110) (by decide) ?_
  refine PW.cast (pc := 1159) dX8_init_1159 (arn (show mN M + 1 = 330 by omega) s_332 (by decide)) (vpl n_332 (vp_c (by decide))) ?_
  refine PW.dupR (pc := 1160) dX8_init_1160 ?_
  refine PW.iconst (pc := 1161) dX8_init_1161 (v := 1) (by decide) ?_
  refine PW.bipush (pc := 1162) dX8_init_1162 (v := 111) (by decide) ?_
  refine PW.cast (pc := 1164) dX8_init_1164 (arn (show mN M + 1 = 330 by omega) s_332 (by decide)) (vpl n_332 (vp_c (by decide))) ?_
  refine PW.dupR (pc := 1165) dX8_init_1165 ?_
  refine PW.iconst (pc := 1166) dX8_init_1166 (v := 2) (by decide) ?_
  refine PW.bipush (pc := 1167) dX8_init_1167 (v := 116) (by decide) ?_
  refine PW.cast (pc := 1169) dX8_init_1169 (arn (show mN M + 1 = 330 by omega) s_332 (by decide)) (vpl n_332 (vp_c (by decide))) ?_
  refine PW.putR (pc := 1170) dX8_init_1170 lf_X8_183 (obn (show mN M + 1 = 330 by omega) s_277 (by decide) (by decide)) fx_8_78 (Or.inr ⟨rfl, rfl, rfl⟩) (fun _ => rfl) (fun _ => rfl) (by decide) ?_
  refine PW.aload_n (pc := 1173) dX8_init_1173 rfl ?_
  refine PW.iconst (pc := 1174) dX8_init_1174 (v := 3) (by decide) ?_
  refine PW.newaC (pc := 1175) dX8_init_1175 (a := 333) aw_char (by decide) (by decide +kernel) (by decide) (ltn (show mN M + 1 = 330 by omega) (by decide)) (eqn (show mN M + 1 = 330 by omega) rfl) ?_
  refine PW.dupR (pc := 1177) dX8_init_1177 ?_
  refine PW.iconst (pc := 1178) dX8_init_1178 (v := 0) (by decide) ?_
  refine PW.bipush (pc := 1179) dX8_init_1179 (v := 97) (by decide) ?_
  refine PW.cast (pc := 1181) dX8_init_1181 (arn (show mN M + 2 = 331 by omega) s_333 (by decide)) (vpl n_333 (vp_c (by decide))) ?_
  refine PW.dupR (pc := 1182) dX8_init_1182 ?_
  refine PW.iconst (pc := 1183) dX8_init_1183 (v := 1) (by decide) ?_
  refine PW.bipush (pc := 1184) dX8_init_1184 (v := 110) (by decide) ?_
  refine PW.cast (pc := 1186) dX8_init_1186 (arn (show mN M + 2 = 331 by omega) s_333 (by decide)) (vpl n_333 (vp_c (by decide))) ?_
  refine PW.dupR (pc := 1187) dX8_init_1187 ?_
  refine PW.iconst (pc := 1188) dX8_init_1188 (v := 2) (by decide) ?_
  refine PW.bipush (pc := 1189) dX8_init_1189 (v := 100) (by decide) ?_
  refine PW.cast (pc := 1191) dX8_init_1191 (arn (show mN M + 2 = 331 by omega) s_333 (by decide)) (vpl n_333 (vp_c (by decide))) ?_
  refine PW.putR (pc := 1192) dX8_init_1192 lf_X8_186 (obn (show mN M + 2 = 331 by omega) s_277 (by decide) (by decide)) fx_8_79 (Or.inr ⟨rfl, rfl, rfl⟩) (fun _ => rfl) (fun _ => rfl) (by decide) ?_
  refine PW.aload_n (pc := 1195) dX8_init_1195 rfl ?_
  refine PW.iconst (pc := 1196) dX8_init_1196 (v := 2) (by decide) ?_
  refine PW.newaC (pc := 1197) dX8_init_1197 (a := 334) aw_char (by decide) (by decide +kernel) (by decide) (ltn (show mN M + 2 = 331 by omega) (by decide)) (eqn (show mN M + 2 = 331 by omega) rfl) ?_
  refine PW.dupR (pc := 1199) dX8_init_1199 ?_
  refine PW.iconst (pc := 1200) dX8_init_1200 (v := 0) (by decide) ?_
  refine PW.bipush (pc := 1201) dX8_init_1201 (v := 111) (by decide) ?_
  refine PW.cast (pc := 1203) dX8_init_1203 (arn (show mN M + 3 = 332 by omega) s_334 (by decide)) (vpl n_334 (vp_c (by decide))) ?_
  refine PW.dupR (pc := 1204) dX8_init_1204 ?_
  refine PW.iconst (pc := 1205) dX8_init_1205 (v := 1) (by decide) ?_
  refine PW.bipush (pc := 1206) dX8_init_1206 (v := 114) (by decide) ?_
  refine PW.cast (pc := 1208) dX8_init_1208 (arn (show mN M + 3 = 332 by omega) s_334 (by decide)) (vpl n_334 (vp_c (by decide))) ?_
  refine PW.putR (pc := 1209) dX8_init_1209 lf_X8_189 (obn (show mN M + 3 = 332 by omega) s_277 (by decide) (by decide)) fx_8_80 (Or.inr ⟨rfl, rfl, rfl⟩) (fun _ => rfl) (fun _ => rfl) (by decide) ?_
  exact h
def u_X8_277_18 (M : pm) : pm := sR (sI (sI (sI (nw (sR (sI (sI (sI (nw (sR (sI (sI (sI (nw M) 335 0 (vp_nar .char 97)) 335 1 (vp_nar .char 108)) 335 2 (vp_nar .char 108)) 277 81 335)) 336 0 (vp_nar .char 109)) 336 1 (vp_nar .char 105)) 336 2 (vp_nar .char 110)) 277 82 336)) 337 0 (vp_nar .char 109)) 337 1 (vp_nar .char 97)) 337 2 (vp_nar .char 120)) 277 83 337
theorem un_X8_277_18 (M : pm) : mN (u_X8_277_18 M) = mN M + 3 := rfl
set_option maxRecDepth 4000 in
theorem k_X8_277_18 {M : pm} {Q : Option Value → pm → Prop} (hn : mN M = 332)  (h : PW mX8_init 10 350 1278 [.ref 277] [] (u_X8_277_18 M) Q) : PW mX8_init 10 350 1212 [.ref 277] [] M Q := by
  refine PW.aload_n (pc := 1212) dX8_init_1212 rfl ?_
  refine PW.iconst (pc := 1213) dX8_init_1213 (v := 3) (by decide) ?_
  refine PW.newaC (pc := 1214) dX8_init_1214 (a := 335) aw_char (by decide) (by decide +kernel) (by decide) (ltn (show mN M + 0 = 332 by omega) (by decide)) (eqn (show mN M + 0 = 332 by omega) rfl) ?_
  refine PW.dupR (pc := 1216) dX8_init_1216 ?_
  refine PW.iconst (pc := 1217) dX8_init_1217 (v := 0) (by decide) ?_
  refine PW.bipush (pc := 1218) dX8_init_1218 (v := 97) (by decide) ?_
  refine PW.cast (pc := 1220) dX8_init_1220 (arn (show mN M + 1 = 333 by omega) s_335 (by decide)) (vpl n_335 (vp_c (by decide))) ?_
  refine PW.dupR (pc := 1221) dX8_init_1221 ?_
  refine PW.iconst (pc := 1222) dX8_init_1222 (v := 1) (by decide) ?_
  refine PW.bipush (pc := 1223) dX8_init_1223 (v := 108) (by decide) ?_
  refine PW.cast (pc := 1225) dX8_init_1225 (arn (show mN M + 1 = 333 by omega) s_335 (by decide)) (vpl n_335 (vp_c (by decide))) ?_
  refine PW.dupR (pc := 1226) dX8_init_1226 ?_
  refine PW.iconst (pc := 1227) dX8_init_1227 (v := 2) (by decide) ?_
  refine PW.bipush (pc := 1228) dX8_init_1228 (v := 108) (by decide) ?_
  refine PW.cast (pc := 1230) dX8_init_1230 (arn (show mN M + 1 = 333 by omega) s_335 (by decide)) (vpl n_335 (vp_c (by decide))) ?_
  refine PW.putR (pc := 1231) dX8_init_1231 lf_X8_192 (obn (show mN M + 1 = 333 by omega) s_277 (by decide) (by decide)) fx_8_81 (Or.inr ⟨rfl, rfl, rfl⟩) (fun _ => rfl) (fun _ => rfl) (by decide) ?_
  refine PW.aload_n (pc := 1234) dX8_init_1234 rfl ?_
  refine PW.iconst (pc := 1235) dX8_init_1235 (v := 3) (by decide) ?_
  refine PW.newaC (pc := 1236) dX8_init_1236 (a := 336) aw_char (by decide) (by decide +kernel) (by decide) (ltn (show mN M + 1 = 333 by omega) (by decide)) (eqn (show mN M + 1 = 333 by omega) rfl) ?_
  refine PW.dupR (pc := 1238) dX8_init_1238 ?_
  refine PW.iconst (pc := 1239) dX8_init_1239 (v := 0) (by decide) ?_
  refine PW.bipush (pc := 1240) dX8_init_1240 (v := 109) (by decide) ?_
  refine PW.cast (pc := 1242) dX8_init_1242 (arn (show mN M + 2 = 334 by omega) s_336 (by decide)) (vpl n_336 (vp_c (by decide))) ?_
  refine PW.dupR (pc := 1243) dX8_init_1243 ?_
  refine PW.iconst (pc := 1244) dX8_init_1244 (v := 1) (by decide) ?_
  refine PW.bipush (pc := 1245) dX8_init_1245 (v := 105) (by decide) ?_
  refine PW.cast (pc := 1247) dX8_init_1247 (arn (show mN M + 2 = 334 by omega) s_336 (by decide)) (vpl n_336 (vp_c (by decide))) ?_
  refine PW.dupR (pc := 1248) dX8_init_1248 ?_
  refine PW.iconst (pc := 1249) dX8_init_1249 (v := 2) (by decide) ?_
  refine PW.bipush (pc := 1250) dX8_init_1250 (v := 110) (by decide) ?_
  refine PW.cast (pc := 1252) dX8_init_1252 (arn (show mN M + 2 = 334 by omega) s_336 (by decide)) (vpl n_336 (vp_c (by decide))) ?_
  refine PW.putR (pc := 1253) dX8_init_1253 lf_X8_195 (obn (show mN M + 2 = 334 by omega) s_277 (by decide) (by decide)) fx_8_82 (Or.inr ⟨rfl, rfl, rfl⟩) (fun _ => rfl) (fun _ => rfl) (by decide) ?_
  refine PW.aload_n (pc := 1256) dX8_init_1256 rfl ?_
  refine PW.iconst (pc := 1257) dX8_init_1257 (v := 3) (by decide) ?_
  refine PW.newaC (pc := 1258) dX8_init_1258 (a := 337) aw_char (by decide) (by decide +kernel) (by decide) (ltn (show mN M + 2 = 334 by omega) (by decide)) (eqn (show mN M + 2 = 334 by omega) rfl) ?_
  refine PW.dupR (pc := 1260) dX8_init_1260 ?_
  refine PW.iconst (pc := 1261) dX8_init_1261 (v := 0) (by decide) ?_
  refine PW.bipush (pc := 1262) dX8_init_1262 (v := 109) (by decide) ?_
  refine PW.cast (pc := 1264) dX8_init_1264 (arn (show mN M + 3 = 335 by omega) s_337 (by decide)) (vpl n_337 (vp_c (by decide))) ?_
  refine PW.dupR (pc := 1265) dX8_init_1265 ?_
  refine PW.iconst (pc := 1266) dX8_init_1266 (v := 1) (by decide) ?_
  refine PW.bipush (pc := 1267) dX8_init_1267 (v := 97) (by decide) ?_
  refine PW.cast (pc := 1269) dX8_init_1269 (arn (show mN M + 3 = 335 by omega) s_337 (by decide)) (vpl n_337 (vp_c (by decide))) ?_
  refine PW.dupR (pc := 1270) dX8_init_1270 ?_
  refine PW.iconst (pc := 1271) dX8_init_1271 (v := 2) (by decide) ?_
  refine PW.bipush (pc := 1272) dX8_init_1272 (v := 120) (by decide) ?_
  refine PW.cast (pc := 1274) dX8_init_1274 (arn (show mN M + 3 = 335 by omega) s_337 (by decide)) (vpl n_337 (vp_c (by decide))) ?_
  refine PW.putR (pc := 1275) dX8_init_1275 lf_X8_198 (obn (show mN M + 3 = 335 by omega) s_277 (by decide) (by decide)) fx_8_83 (Or.inr ⟨rfl, rfl, rfl⟩) (fun _ => rfl) (fun _ => rfl) (by decide) ?_
  exact h
def u_X8_277_19 (M : pm) : pm := sR (sI (sI (sI (sI (sI (nw (sR (sI (sI (sI (nw (sR (sI (sI (sI (sI (sI (nw M) 338 0 (vp_nar .char 109)) 338 1 (vp_nar .char 105)) 338 2 (vp_nar .char 110)) 338 3 (vp_nar .char 100)) 338 4 (vp_nar .char 115)) 277 84 338)) 339 0 (vp_nar .char 97)) 339 1 (vp_nar .char 103)) 339 2 (vp_nar .char 101)) 277 85 339)) 340 0 (vp_nar .char 115)) 340 1 (vp_nar .char 105)) 340 2 (vp_nar .char 110)) 340 3 (vp_nar .char 99)) 340 4 (vp_nar .char 101)) 277 86 340
theorem un_X8_277_19 (M : pm) : mN (u_X8_277_19 M) = mN M + 3 := rfl
set_option maxRecDepth 4000 in
theorem k_X8_277_19 {M : pm} {Q : Option Value → pm → Prop} (hn : mN M = 335)  (h : PW mX8_init 10 350 1364 [.ref 277] [] (u_X8_277_19 M) Q) : PW mX8_init 10 350 1278 [.ref 277] [] M Q := by
  refine PW.aload_n (pc := 1278) dX8_init_1278 rfl ?_
  refine PW.iconst (pc := 1279) dX8_init_1279 (v := 5) (by decide) ?_
  refine PW.newaC (pc := 1280) dX8_init_1280 (a := 338) aw_char (by decide) (by decide +kernel) (by decide) (ltn (show mN M + 0 = 335 by omega) (by decide)) (eqn (show mN M + 0 = 335 by omega) rfl) ?_
  refine PW.dupR (pc := 1282) dX8_init_1282 ?_
  refine PW.iconst (pc := 1283) dX8_init_1283 (v := 0) (by decide) ?_
  refine PW.bipush (pc := 1284) dX8_init_1284 (v := 109) (by decide) ?_
  refine PW.cast (pc := 1286) dX8_init_1286 (arn (show mN M + 1 = 336 by omega) s_338 (by decide)) (vpl n_338 (vp_c (by decide))) ?_
  refine PW.dupR (pc := 1287) dX8_init_1287 ?_
  refine PW.iconst (pc := 1288) dX8_init_1288 (v := 1) (by decide) ?_
  refine PW.bipush (pc := 1289) dX8_init_1289 (v := 105) (by decide) ?_
  refine PW.cast (pc := 1291) dX8_init_1291 (arn (show mN M + 1 = 336 by omega) s_338 (by decide)) (vpl n_338 (vp_c (by decide))) ?_
  refine PW.dupR (pc := 1292) dX8_init_1292 ?_
  refine PW.iconst (pc := 1293) dX8_init_1293 (v := 2) (by decide) ?_
  refine PW.bipush (pc := 1294) dX8_init_1294 (v := 110) (by decide) ?_
  refine PW.cast (pc := 1296) dX8_init_1296 (arn (show mN M + 1 = 336 by omega) s_338 (by decide)) (vpl n_338 (vp_c (by decide))) ?_
  refine PW.dupR (pc := 1297) dX8_init_1297 ?_
  refine PW.iconst (pc := 1298) dX8_init_1298 (v := 3) (by decide) ?_
  refine PW.bipush (pc := 1299) dX8_init_1299 (v := 100) (by decide) ?_
  refine PW.cast (pc := 1301) dX8_init_1301 (arn (show mN M + 1 = 336 by omega) s_338 (by decide)) (vpl n_338 (vp_c (by decide))) ?_
  refine PW.dupR (pc := 1302) dX8_init_1302 ?_
  refine PW.iconst (pc := 1303) dX8_init_1303 (v := 4) (by decide) ?_
  refine PW.bipush (pc := 1304) dX8_init_1304 (v := 115) (by decide) ?_
  refine PW.cast (pc := 1306) dX8_init_1306 (arn (show mN M + 1 = 336 by omega) s_338 (by decide)) (vpl n_338 (vp_c (by decide))) ?_
  refine PW.putR (pc := 1307) dX8_init_1307 lf_X8_201 (obn (show mN M + 1 = 336 by omega) s_277 (by decide) (by decide)) fx_8_84 (Or.inr ⟨rfl, rfl, rfl⟩) (fun _ => rfl) (fun _ => rfl) (by decide) ?_
  refine PW.aload_n (pc := 1310) dX8_init_1310 rfl ?_
  refine PW.iconst (pc := 1311) dX8_init_1311 (v := 3) (by decide) ?_
  refine PW.newaC (pc := 1312) dX8_init_1312 (a := 339) aw_char (by decide) (by decide +kernel) (by decide) (ltn (show mN M + 1 = 336 by omega) (by decide)) (eqn (show mN M + 1 = 336 by omega) rfl) ?_
  refine PW.dupR (pc := 1314) dX8_init_1314 ?_
  refine PW.iconst (pc := 1315) dX8_init_1315 (v := 0) (by decide) ?_
  refine PW.bipush (pc := 1316) dX8_init_1316 (v := 97) (by decide) ?_
  refine PW.cast (pc := 1318) dX8_init_1318 (arn (show mN M + 2 = 337 by omega) s_339 (by decide)) (vpl n_339 (vp_c (by decide))) ?_
  refine PW.dupR (pc := 1319) dX8_init_1319 ?_
  refine PW.iconst (pc := 1320) dX8_init_1320 (v := 1) (by decide) ?_
  refine PW.bipush (pc := 1321) dX8_init_1321 (v := 103) (by decide) ?_
  refine PW.cast (pc := 1323) dX8_init_1323 (arn (show mN M + 2 = 337 by omega) s_339 (by decide)) (vpl n_339 (vp_c (by decide))) ?_
  refine PW.dupR (pc := 1324) dX8_init_1324 ?_
  refine PW.iconst (pc := 1325) dX8_init_1325 (v := 2) (by decide) ?_
  refine PW.bipush (pc := 1326) dX8_init_1326 (v := 101) (by decide) ?_
  refine PW.cast (pc := 1328) dX8_init_1328 (arn (show mN M + 2 = 337 by omega) s_339 (by decide)) (vpl n_339 (vp_c (by decide))) ?_
  refine PW.putR (pc := 1329) dX8_init_1329 lf_X8_204 (obn (show mN M + 2 = 337 by omega) s_277 (by decide) (by decide)) fx_8_85 (Or.inr ⟨rfl, rfl, rfl⟩) (fun _ => rfl) (fun _ => rfl) (by decide) ?_
  refine PW.aload_n (pc := 1332) dX8_init_1332 rfl ?_
  refine PW.iconst (pc := 1333) dX8_init_1333 (v := 5) (by decide) ?_
  refine PW.newaC (pc := 1334) dX8_init_1334 (a := 340) aw_char (by decide) (by decide +kernel) (by decide) (ltn (show mN M + 2 = 337 by omega) (by decide)) (eqn (show mN M + 2 = 337 by omega) rfl) ?_
  refine PW.dupR (pc := 1336) dX8_init_1336 ?_
  refine PW.iconst (pc := 1337) dX8_init_1337 (v := 0) (by decide) ?_
  refine PW.bipush (pc := 1338) dX8_init_1338 (v := 115) (by decide) ?_
  refine PW.cast (pc := 1340) dX8_init_1340 (arn (show mN M + 3 = 338 by omega) s_340 (by decide)) (vpl n_340 (vp_c (by decide))) ?_
  refine PW.dupR (pc := 1341) dX8_init_1341 ?_
  refine PW.iconst (pc := 1342) dX8_init_1342 (v := 1) (by decide) ?_
  refine PW.bipush (pc := 1343) dX8_init_1343 (v := 105) (by decide) ?_
  refine PW.cast (pc := 1345) dX8_init_1345 (arn (show mN M + 3 = 338 by omega) s_340 (by decide)) (vpl n_340 (vp_c (by decide))) ?_
  refine PW.dupR (pc := 1346) dX8_init_1346 ?_
  refine PW.iconst (pc := 1347) dX8_init_1347 (v := 2) (by decide) ?_
  refine PW.bipush (pc := 1348) dX8_init_1348 (v := 110) (by decide) ?_
  refine PW.cast (pc := 1350) dX8_init_1350 (arn (show mN M + 3 = 338 by omega) s_340 (by decide)) (vpl n_340 (vp_c (by decide))) ?_
  refine PW.dupR (pc := 1351) dX8_init_1351 ?_
  refine PW.iconst (pc := 1352) dX8_init_1352 (v := 3) (by decide) ?_
  refine PW.bipush (pc := 1353) dX8_init_1353 (v := 99) (by decide) ?_
  refine PW.cast (pc := 1355) dX8_init_1355 (arn (show mN M + 3 = 338 by omega) s_340 (by decide)) (vpl n_340 (vp_c (by decide))) ?_
  refine PW.dupR (pc := 1356) dX8_init_1356 ?_
  refine PW.iconst (pc := 1357) dX8_init_1357 (v := 4) (by decide) ?_
  refine PW.bipush (pc := 1358) dX8_init_1358 (v := 101) (by decide) ?_
  refine PW.cast (pc := 1360) dX8_init_1360 (arn (show mN M + 3 = 338 by omega) s_340 (by decide)) (vpl n_340 (vp_c (by decide))) ?_
  refine PW.putR (pc := 1361) dX8_init_1361 lf_X8_207 (obn (show mN M + 3 = 338 by omega) s_277 (by decide) (by decide)) fx_8_86 (Or.inr ⟨rfl, rfl, rfl⟩) (fun _ => rfl) (fun _ => rfl) (by decide) ?_
  exact h
def u_X8_277_20 (M : pm) : pm := sR (sI (sI (sI (nw (sR (sI (sI (sI (sI (sI (sI (nw M) 341 0 (vp_nar .char 112)) 341 1 (vp_nar .char 108)) 341 2 (vp_nar .char 97)) 341 3 (vp_nar .char 121)) 341 4 (vp_nar .char 101)) 341 5 (vp_nar .char 100)) 277 87 341)) 342 0 (vp_nar .char 100)) 342 1 (vp_nar .char 97)) 342 2 (vp_nar .char 121)) 277 88 342
theorem un_X8_277_20 (M : pm) : mN (u_X8_277_20 M) = mN M + 2 := rfl
set_option maxRecDepth 4000 in
theorem k_X8_277_20 {M : pm} {Q : Option Value → pm → Prop} (hn : mN M = 338)  (h : PW mX8_init 10 350 1424 [.ref 277] [] (u_X8_277_20 M) Q) : PW mX8_init 10 350 1364 [.ref 277] [] M Q := by
  refine PW.aload_n (pc := 1364) dX8_init_1364 rfl ?_
  refine PW.bipush (pc := 1365) dX8_init_1365 (v := 6) (by decide) ?_
  refine PW.newaC (pc := 1367) dX8_init_1367 (a := 341) aw_char (by decide) (by decide +kernel) (by decide) (ltn (show mN M + 0 = 338 by omega) (by decide)) (eqn (show mN M + 0 = 338 by omega) rfl) ?_
  refine PW.dupR (pc := 1369) dX8_init_1369 ?_
  refine PW.iconst (pc := 1370) dX8_init_1370 (v := 0) (by decide) ?_
  refine PW.bipush (pc := 1371) dX8_init_1371 (v := 112) (by decide) ?_
  refine PW.cast (pc := 1373) dX8_init_1373 (arn (show mN M + 1 = 339 by omega) s_341 (by decide)) (vpl n_341 (vp_c (by decide))) ?_
  refine PW.dupR (pc := 1374) dX8_init_1374 ?_
  refine PW.iconst (pc := 1375) dX8_init_1375 (v := 1) (by decide) ?_
  refine PW.bipush (pc := 1376) dX8_init_1376 (v := 108) (by decide) ?_
  refine PW.cast (pc := 1378) dX8_init_1378 (arn (show mN M + 1 = 339 by omega) s_341 (by decide)) (vpl n_341 (vp_c (by decide))) ?_
  refine PW.dupR (pc := 1379) dX8_init_1379 ?_
  refine PW.iconst (pc := 1380) dX8_init_1380 (v := 2) (by decide) ?_
  refine PW.bipush (pc := 1381) dX8_init_1381 (v := 97) (by decide) ?_
  refine PW.cast (pc := 1383) dX8_init_1383 (arn (show mN M + 1 = 339 by omega) s_341 (by decide)) (vpl n_341 (vp_c (by decide))) ?_
  refine PW.dupR (pc := 1384) dX8_init_1384 ?_
  refine PW.iconst (pc := 1385) dX8_init_1385 (v := 3) (by decide) ?_
  refine PW.bipush (pc := 1386) dX8_init_1386 (v := 121) (by decide) ?_
  refine PW.cast (pc := 1388) dX8_init_1388 (arn (show mN M + 1 = 339 by omega) s_341 (by decide)) (vpl n_341 (vp_c (by decide))) ?_
  refine PW.dupR (pc := 1389) dX8_init_1389 ?_
  refine PW.iconst (pc := 1390) dX8_init_1390 (v := 4) (by decide) ?_
  refine PW.bipush (pc := 1391) dX8_init_1391 (v := 101) (by decide) ?_
  refine PW.cast (pc := 1393) dX8_init_1393 (arn (show mN M + 1 = 339 by omega) s_341 (by decide)) (vpl n_341 (vp_c (by decide))) ?_
  refine PW.dupR (pc := 1394) dX8_init_1394 ?_
  refine PW.iconst (pc := 1395) dX8_init_1395 (v := 5) (by decide) ?_
  refine PW.bipush (pc := 1396) dX8_init_1396 (v := 100) (by decide) ?_
  refine PW.cast (pc := 1398) dX8_init_1398 (arn (show mN M + 1 = 339 by omega) s_341 (by decide)) (vpl n_341 (vp_c (by decide))) ?_
  refine PW.putR (pc := 1399) dX8_init_1399 lf_X8_210 (obn (show mN M + 1 = 339 by omega) s_277 (by decide) (by decide)) fx_8_87 (Or.inr ⟨rfl, rfl, rfl⟩) (fun _ => rfl) (fun _ => rfl) (by decide) ?_
  refine PW.aload_n (pc := 1402) dX8_init_1402 rfl ?_
  refine PW.iconst (pc := 1403) dX8_init_1403 (v := 3) (by decide) ?_
  refine PW.newaC (pc := 1404) dX8_init_1404 (a := 342) aw_char (by decide) (by decide +kernel) (by decide) (ltn (show mN M + 1 = 339 by omega) (by decide)) (eqn (show mN M + 1 = 339 by omega) rfl) ?_
  refine PW.dupR (pc := 1406) dX8_init_1406 ?_
  refine PW.iconst (pc := 1407) dX8_init_1407 (v := 0) (by decide) ?_
  refine PW.bipush (pc := 1408) dX8_init_1408 (v := 100) (by decide) ?_
  refine PW.cast (pc := 1410) dX8_init_1410 (arn (show mN M + 2 = 340 by omega) s_342 (by decide)) (vpl n_342 (vp_c (by decide))) ?_
  refine PW.dupR (pc := 1411) dX8_init_1411 ?_
  refine PW.iconst (pc := 1412) dX8_init_1412 (v := 1) (by decide) ?_
  refine PW.bipush (pc := 1413) dX8_init_1413 (v := 97) (by decide) ?_
  refine PW.cast (pc := 1415) dX8_init_1415 (arn (show mN M + 2 = 340 by omega) s_342 (by decide)) (vpl n_342 (vp_c (by decide))) ?_
  refine PW.dupR (pc := 1416) dX8_init_1416 ?_
  refine PW.iconst (pc := 1417) dX8_init_1417 (v := 2) (by decide) ?_
  refine PW.bipush (pc := 1418) dX8_init_1418 (v := 121) (by decide) ?_
  refine PW.cast (pc := 1420) dX8_init_1420 (arn (show mN M + 2 = 340 by omega) s_342 (by decide)) (vpl n_342 (vp_c (by decide))) ?_
  refine PW.putR (pc := 1421) dX8_init_1421 lf_X8_213 (obn (show mN M + 2 = 340 by omega) s_277 (by decide) (by decide)) fx_8_88 (Or.inr ⟨rfl, rfl, rfl⟩) (fun _ => rfl) (fun _ => rfl) (by decide) ?_
  exact h
def u_X8_277_21 (M : pm) : pm := sR (sI (sI (sI (sI (sI (nw (sR (sI (sI (sI (sI (nw M) 343 0 (vp_nar .char 108)) 343 1 (vp_nar .char 111)) 343 2 (vp_nar .char 110)) 343 3 (vp_nar .char 103)) 277 89 343)) 344 0 (vp_nar .char 115)) 344 1 (vp_nar .char 116)) 344 2 (vp_nar .char 121)) 344 3 (vp_nar .char 108)) 344 4 (vp_nar .char 101)) 277 90 344
theorem un_X8_277_21 (M : pm) : mN (u_X8_277_21 M) = mN M + 2 := rfl
set_option maxRecDepth 4000 in
theorem k_X8_277_21 {M : pm} {Q : Option Value → pm → Prop} (hn : mN M = 340)  (h : PW mX8_init 10 350 1483 [.ref 277] [] (u_X8_277_21 M) Q) : PW mX8_init 10 350 1424 [.ref 277] [] M Q := by
  refine PW.aload_n (pc := 1424) dX8_init_1424 rfl ?_
  refine PW.iconst (pc := 1425) dX8_init_1425 (v := 4) (by decide) ?_
  refine PW.newaC (pc := 1426) dX8_init_1426 (a := 343) aw_char (by decide) (by decide +kernel) (by decide) (ltn (show mN M + 0 = 340 by omega) (by decide)) (eqn (show mN M + 0 = 340 by omega) rfl) ?_
  refine PW.dupR (pc := 1428) dX8_init_1428 ?_
  refine PW.iconst (pc := 1429) dX8_init_1429 (v := 0) (by decide) ?_
  refine PW.bipush (pc := 1430) dX8_init_1430 (v := 108) (by decide) ?_
  refine PW.cast (pc := 1432) dX8_init_1432 (arn (show mN M + 1 = 341 by omega) s_343 (by decide)) (vpl n_343 (vp_c (by decide))) ?_
  refine PW.dupR (pc := 1433) dX8_init_1433 ?_
  refine PW.iconst (pc := 1434) dX8_init_1434 (v := 1) (by decide) ?_
  refine PW.bipush (pc := 1435) dX8_init_1435 (v := 111) (by decide) ?_
  refine PW.cast (pc := 1437) dX8_init_1437 (arn (show mN M + 1 = 341 by omega) s_343 (by decide)) (vpl n_343 (vp_c (by decide))) ?_
  refine PW.dupR (pc := 1438) dX8_init_1438 ?_
  refine PW.iconst (pc := 1439) dX8_init_1439 (v := 2) (by decide) ?_
  refine PW.bipush (pc := 1440) dX8_init_1440 (v := 110) (by decide) ?_
  refine PW.cast (pc := 1442) dX8_init_1442 (arn (show mN M + 1 = 341 by omega) s_343 (by decide)) (vpl n_343 (vp_c (by decide))) ?_
  refine PW.dupR (pc := 1443) dX8_init_1443 ?_
  refine PW.iconst (pc := 1444) dX8_init_1444 (v := 3) (by decide) ?_
  refine PW.bipush (pc := 1445) dX8_init_1445 (v := 103) (by decide) ?_
  refine PW.cast (pc := 1447) dX8_init_1447 (arn (show mN M + 1 = 341 by omega) s_343 (by decide)) (vpl n_343 (vp_c (by decide))) ?_
  refine PW.putR (pc := 1448) dX8_init_1448 lf_X8_216 (obn (show mN M + 1 = 341 by omega) s_277 (by decide) (by decide)) fx_8_89 (Or.inr ⟨rfl, rfl, rfl⟩) (fun _ => rfl) (fun _ => rfl) (by decide) ?_
  refine PW.aload_n (pc := 1451) dX8_init_1451 rfl ?_
  refine PW.iconst (pc := 1452) dX8_init_1452 (v := 5) (by decide) ?_
  refine PW.newaC (pc := 1453) dX8_init_1453 (a := 344) aw_char (by decide) (by decide +kernel) (by decide) (ltn (show mN M + 1 = 341 by omega) (by decide)) (eqn (show mN M + 1 = 341 by omega) rfl) ?_
  refine PW.dupR (pc := 1455) dX8_init_1455 ?_
  refine PW.iconst (pc := 1456) dX8_init_1456 (v := 0) (by decide) ?_
  refine PW.bipush (pc := 1457) dX8_init_1457 (v := 115) (by decide) ?_
  refine PW.cast (pc := 1459) dX8_init_1459 (arn (show mN M + 2 = 342 by omega) s_344 (by decide)) (vpl n_344 (vp_c (by decide))) ?_
  refine PW.dupR (pc := 1460) dX8_init_1460 ?_
  refine PW.iconst (pc := 1461) dX8_init_1461 (v := 1) (by decide) ?_
  refine PW.bipush (pc := 1462) dX8_init_1462 (v := 116) (by decide) ?_
  refine PW.cast (pc := 1464) dX8_init_1464 (arn (show mN M + 2 = 342 by omega) s_344 (by decide)) (vpl n_344 (vp_c (by decide))) ?_
  refine PW.dupR (pc := 1465) dX8_init_1465 ?_
  refine PW.iconst (pc := 1466) dX8_init_1466 (v := 2) (by decide) ?_
  refine PW.bipush (pc := 1467) dX8_init_1467 (v := 121) (by decide) ?_
  refine PW.cast (pc := 1469) dX8_init_1469 (arn (show mN M + 2 = 342 by omega) s_344 (by decide)) (vpl n_344 (vp_c (by decide))) ?_
  refine PW.dupR (pc := 1470) dX8_init_1470 ?_
  refine PW.iconst (pc := 1471) dX8_init_1471 (v := 3) (by decide) ?_
  refine PW.bipush (pc := 1472) dX8_init_1472 (v := 108) (by decide) ?_
  refine PW.cast (pc := 1474) dX8_init_1474 (arn (show mN M + 2 = 342 by omega) s_344 (by decide)) (vpl n_344 (vp_c (by decide))) ?_
  refine PW.dupR (pc := 1475) dX8_init_1475 ?_
  refine PW.iconst (pc := 1476) dX8_init_1476 (v := 4) (by decide) ?_
  refine PW.bipush (pc := 1477) dX8_init_1477 (v := 101) (by decide) ?_
  refine PW.cast (pc := 1479) dX8_init_1479 (arn (show mN M + 2 = 342 by omega) s_344 (by decide)) (vpl n_344 (vp_c (by decide))) ?_
  refine PW.putR (pc := 1480) dX8_init_1480 lf_X8_219 (obn (show mN M + 2 = 342 by omega) s_277 (by decide) (by decide)) fx_8_90 (Or.inr ⟨rfl, rfl, rfl⟩) (fun _ => rfl) (fun _ => rfl) (by decide) ?_
  exact h
def u_X8_277_22 (M : pm) : pm := sR (sI (sI (sI (sI (sI (nw (sR (sI (sI (sI (sI (sI (sI (nw M) 345 0 (vp_nar .char 110)) 345 1 (vp_nar .char 117)) 345 2 (vp_nar .char 109)) 345 3 (vp_nar .char 98)) 345 4 (vp_nar .char 101)) 345 5 (vp_nar .char 114)) 277 91 345)) 346 0 (vp_nar .char 97)) 346 1 (vp_nar .char 108)) 346 2 (vp_nar .char 105)) 346 3 (vp_nar .char 118)) 346 4 (vp_nar .char 101)) 277 92 346
theorem un_X8_277_22 (M : pm) : mN (u_X8_277_22 M) = mN M + 2 := rfl
set_option maxRecDepth 4000 in
theorem k_X8_277_22 {M : pm} {Q : Option Value → pm → Prop} (hn : mN M = 342)  (h : PW mX8_init 10 350 1553 [.ref 277] [] (u_X8_277_22 M) Q) : PW mX8_init 10 350 1483 [.ref 277] [] M Q := by
  refine PW.aload_n (pc := 1483) dX8_init_1483 rfl ?_
  refine PW.bipush (pc := 1484) dX8_init_1484 (v := 6) (by decide) ?_
  refine PW.newaC (pc := 1486) dX8_init_1486 (a := 345) aw_char (by decide) (by decide +kernel) (by decide) (ltn (show mN M + 0 = 342 by omega) (by decide)) (eqn (show mN M + 0 = 342 by omega) rfl) ?_
  refine PW.dupR (pc := 1488) dX8_init_1488 ?_
  refine PW.iconst (pc := 1489) dX8_init_1489 (v := 0) (by decide) ?_
  refine PW.bipush (pc := 1490) dX8_init_1490 (v := 110) (by decide) ?_
  refine PW.cast (pc := 1492) dX8_init_1492 (arn (show mN M + 1 = 343 by omega) s_345 (by decide)) (vpl n_345 (vp_c (by decide))) ?_
  refine PW.dupR (pc := 1493) dX8_init_1493 ?_
  refine PW.iconst (pc := 1494) dX8_init_1494 (v := 1) (by decide) ?_
  refine PW.bipush (pc := 1495) dX8_init_1495 (v := 117) (by decide) ?_
  refine PW.cast (pc := 1497) dX8_init_1497 (arn (show mN M + 1 = 343 by omega) s_345 (by decide)) (vpl n_345 (vp_c (by decide))) ?_
  refine PW.dupR (pc := 1498) dX8_init_1498 ?_
  refine PW.iconst (pc := 1499) dX8_init_1499 (v := 2) (by decide) ?_
  refine PW.bipush (pc := 1500) dX8_init_1500 (v := 109) (by decide) ?_
  refine PW.cast (pc := 1502) dX8_init_1502 (arn (show mN M + 1 = 343 by omega) s_345 (by decide)) (vpl n_345 (vp_c (by decide))) ?_
  refine PW.dupR (pc := 1503) dX8_init_1503 ?_
  refine PW.iconst (pc := 1504) dX8_init_1504 (v := 3) (by decide) ?_
  refine PW.bipush (pc := 1505) dX8_init_1505 (v := 98) (by decide) ?_
  refine PW.cast (pc := 1507) dX8_init_1507 (arn (show mN M + 1 = 343 by omega) s_345 (by decide)) (vpl n_345 (vp_c (by decide))) ?_
  refine PW.dupR (pc := 1508) dX8_init_1508 ?_
  refine PW.iconst (pc := 1509) dX8_init_1509 (v := 4) (by decide) ?_
  refine PW.bipush (pc := 1510) dX8_init_1510 (v := 101) (by decide) ?_
  refine PW.cast (pc := 1512) dX8_init_1512 (arn (show mN M + 1 = 343 by omega) s_345 (by decide)) (vpl n_345 (vp_c (by decide))) ?_
  refine PW.dupR (pc := 1513) dX8_init_1513 ?_
  refine PW.iconst (pc := 1514) dX8_init_1514 (v := 5) (by decide) ?_
  refine PW.bipush (pc := 1515) dX8_init_1515 (v := 114) (by decide) ?_
  refine PW.cast (pc := 1517) dX8_init_1517 (arn (show mN M + 1 = 343 by omega) s_345 (by decide)) (vpl n_345 (vp_c (by decide))) ?_
  refine PW.putR (pc := 1518) dX8_init_1518 lf_X8_222 (obn (show mN M + 1 = 343 by omega) s_277 (by decide) (by decide)) fx_8_91 (Or.inr ⟨rfl, rfl, rfl⟩) (fun _ => rfl) (fun _ => rfl) (by decide) ?_
  refine PW.aload_n (pc := 1521) dX8_init_1521 rfl ?_
  refine PW.iconst (pc := 1522) dX8_init_1522 (v := 5) (by decide) ?_
  refine PW.newaC (pc := 1523) dX8_init_1523 (a := 346) aw_char (by decide) (by decide +kernel) (by decide) (ltn (show mN M + 1 = 343 by omega) (by decide)) (eqn (show mN M + 1 = 343 by omega) rfl) ?_
  refine PW.dupR (pc := 1525) dX8_init_1525 ?_
  refine PW.iconst (pc := 1526) dX8_init_1526 (v := 0) (by decide) ?_
  refine PW.bipush (pc := 1527) dX8_init_1527 (v := 97) (by decide) ?_
  refine PW.cast (pc := 1529) dX8_init_1529 (arn (show mN M + 2 = 344 by omega) s_346 (by decide)) (vpl n_346 (vp_c (by decide))) ?_
  refine PW.dupR (pc := 1530) dX8_init_1530 ?_
  refine PW.iconst (pc := 1531) dX8_init_1531 (v := 1) (by decide) ?_
  refine PW.bipush (pc := 1532) dX8_init_1532 (v := 108) (by decide) ?_
  refine PW.cast (pc := 1534) dX8_init_1534 (arn (show mN M + 2 = 344 by omega) s_346 (by decide)) (vpl n_346 (vp_c (by decide))) ?_
  refine PW.dupR (pc := 1535) dX8_init_1535 ?_
  refine PW.iconst (pc := 1536) dX8_init_1536 (v := 2) (by decide) ?_
  refine PW.bipush (pc := 1537) dX8_init_1537 (v := 105) (by decide) ?_
  refine PW.cast (pc := 1539) dX8_init_1539 (arn (show mN M + 2 = 344 by omega) s_346 (by decide)) (vpl n_346 (vp_c (by decide))) ?_
  refine PW.dupR (pc := 1540) dX8_init_1540 ?_
  refine PW.iconst (pc := 1541) dX8_init_1541 (v := 3) (by decide) ?_
  refine PW.bipush (pc := 1542) dX8_init_1542 (v := 118) (by decide) ?_
  refine PW.cast (pc := 1544) dX8_init_1544 (arn (show mN M + 2 = 344 by omega) s_346 (by decide)) (vpl n_346 (vp_c (by decide))) ?_
  refine PW.dupR (pc := 1545) dX8_init_1545 ?_
  refine PW.iconst (pc := 1546) dX8_init_1546 (v := 4) (by decide) ?_
  refine PW.bipush (pc := 1547) dX8_init_1547 (v := 101) (by decide) ?_
  refine PW.cast (pc := 1549) dX8_init_1549 (arn (show mN M + 2 = 344 by omega) s_346 (by decide)) (vpl n_346 (vp_c (by decide))) ?_
  refine PW.putR (pc := 1550) dX8_init_1550 lf_X8_225 (obn (show mN M + 2 = 344 by omega) s_277 (by decide) (by decide)) fx_8_92 (Or.inr ⟨rfl, rfl, rfl⟩) (fun _ => rfl) (fun _ => rfl) (by decide) ?_
  exact h
def u_X8_277_23 (M : pm) : pm := sR (nw (sR (nw (sR (sI (sI (sI (sI (sI (nw (sR (sI (sI (nw M) 347 0 (vp_nar .char 111)) 347 1 (vp_nar .char 110)) 277 93 347)) 348 0 (vp_nar .char 119)) 348 1 (vp_nar .char 97)) 348 2 (vp_nar .char 110)) 348 3 (vp_nar .char 116)) 348 4 (vp_nar .char 115)) 277 94 348)) 277 95 349)) 277 97 350
theorem un_X8_277_23 (M : pm) : mN (u_X8_277_23 M) = mN M + 4 := rfl
set_option maxRecDepth 4000 in
theorem k_X8_277_23 {M : pm} {Q : Option Value → pm → Prop} (hn : mN M = 344)  (h : PW mX8_init 10 350 1620 [.ref 277] [] (u_X8_277_23 M) Q) : PW mX8_init 10 350 1553 [.ref 277] [] M Q := by
  refine PW.aload_n (pc := 1553) dX8_init_1553 rfl ?_
  refine PW.iconst (pc := 1554) dX8_init_1554 (v := 2) (by decide) ?_
  refine PW.newaC (pc := 1555) dX8_init_1555 (a := 347) aw_char (by decide) (by decide +kernel) (by decide) (ltn (show mN M + 0 = 344 by omega) (by decide)) (eqn (show mN M + 0 = 344 by omega) rfl) ?_
  refine PW.dupR (pc := 1557) dX8_init_1557 ?_
  refine PW.iconst (pc := 1558) dX8_init_1558 (v := 0) (by decide) ?_
  refine PW.bipush (pc := 1559) dX8_init_1559 (v := 111) (by decide) ?_
  refine PW.cast (pc := 1561) dX8_init_1561 (arn (show mN M + 1 = 345 by omega) s_347 (by decide)) (vpl n_347 (vp_c (by decide))) ?_
  refine PW.dupR (pc := 1562) dX8_init_1562 ?_
  refine PW.iconst (pc := 1563) dX8_init_1563 (v := 1) (by decide) ?_
  refine PW.bipush (pc := 1564) dX8_init_1564 (v := 110) (by decide) ?_
  refine PW.cast (pc := 1566) dX8_init_1566 (arn (show mN M + 1 = 345 by omega) s_347 (by decide)) (vpl n_347 (vp_c (by decide))) ?_
  refine PW.putR (pc := 1567) dX8_init_1567 lf_X8_228 (obn (show mN M + 1 = 345 by omega) s_277 (by decide) (by decide)) fx_8_93 (Or.inr ⟨rfl, rfl, rfl⟩) (fun _ => rfl) (fun _ => rfl) (by decide) ?_
  refine PW.aload_n (pc := 1570) dX8_init_1570 rfl ?_
  refine PW.iconst (pc := 1571) dX8_init_1571 (v := 5) (by decide) ?_
  refine PW.newaC (pc := 1572) dX8_init_1572 (a := 348) aw_char (by decide) (by decide +kernel) (by decide) (ltn (show mN M + 1 = 345 by omega) (by decide)) (eqn (show mN M + 1 = 345 by omega) rfl) ?_
  refine PW.dupR (pc := 1574) dX8_init_1574 ?_
  refine PW.iconst (pc := 1575) dX8_init_1575 (v := 0) (by decide) ?_
  refine PW.bipush (pc := 1576) dX8_init_1576 (v := 119) (by decide) ?_
  refine PW.cast (pc := 1578) dX8_init_1578 (arn (show mN M + 2 = 346 by omega) s_348 (by decide)) (vpl n_348 (vp_c (by decide))) ?_
  refine PW.dupR (pc := 1579) dX8_init_1579 ?_
  refine PW.iconst (pc := 1580) dX8_init_1580 (v := 1) (by decide) ?_
  refine PW.bipush (pc := 1581) dX8_init_1581 (v := 97) (by decide) ?_
  refine PW.cast (pc := 1583) dX8_init_1583 (arn (show mN M + 2 = 346 by omega) s_348 (by decide)) (vpl n_348 (vp_c (by decide))) ?_
  refine PW.dupR (pc := 1584) dX8_init_1584 ?_
  refine PW.iconst (pc := 1585) dX8_init_1585 (v := 2) (by decide) ?_
  refine PW.bipush (pc := 1586) dX8_init_1586 (v := 110) (by decide) ?_
  refine PW.cast (pc := 1588) dX8_init_1588 (arn (show mN M + 2 = 346 by omega) s_348 (by decide)) (vpl n_348 (vp_c (by decide))) ?_
  refine PW.dupR (pc := 1589) dX8_init_1589 ?_
  refine PW.iconst (pc := 1590) dX8_init_1590 (v := 3) (by decide) ?_
  refine PW.bipush (pc := 1591) dX8_init_1591 (v := 116) (by decide) ?_
  refine PW.cast (pc := 1593) dX8_init_1593 (arn (show mN M + 2 = 346 by omega) s_348 (by decide)) (vpl n_348 (vp_c (by decide))) ?_
  refine PW.dupR (pc := 1594) dX8_init_1594 ?_
  refine PW.iconst (pc := 1595) dX8_init_1595 (v := 4) (by decide) ?_
  refine PW.bipush (pc := 1596) dX8_init_1596 (v := 115) (by decide) ?_
  refine PW.cast (pc := 1598) dX8_init_1598 (arn (show mN M + 2 = 346 by omega) s_348 (by decide)) (vpl n_348 (vp_c (by decide))) ?_
  refine PW.putR (pc := 1599) dX8_init_1599 lf_X8_231 (obn (show mN M + 2 = 346 by omega) s_277 (by decide) (by decide)) fx_8_94 (Or.inr ⟨rfl, rfl, rfl⟩) (fun _ => rfl) (fun _ => rfl) (by decide) ?_
  refine PW.aload_n (pc := 1602) dX8_init_1602 rfl ?_
  refine PW.sipush (pc := 1603) dX8_init_1603 (v := 1700) (by decide) ?_
  refine PW.newaI (pc := 1606) dX8_init_1606 (a := 349) aw_int (by decide) (by decide +kernel) (by decide) (ltn (show mN M + 2 = 346 by omega) (by decide)) (eqn (show mN M + 2 = 346 by omega) rfl) ?_
  refine PW.putR (pc := 1608) dX8_init_1608 lf_X8_234 (obn (show mN M + 3 = 347 by omega) s_277 (by decide) (by decide)) fx_8_95 (Or.inr ⟨rfl, rfl, rfl⟩) (fun _ => rfl) (fun _ => rfl) (by decide) ?_
  refine PW.aload_n (pc := 1611) dX8_init_1611 rfl ?_
  refine PW.sipush (pc := 1612) dX8_init_1612 (v := 1700) (by decide) ?_
  refine PW.newaI (pc := 1615) dX8_init_1615 (a := 350) aw_int (by decide) (by decide +kernel) (by decide) (ltn (show mN M + 3 = 347 by omega) (by decide)) (eqn (show mN M + 3 = 347 by omega) rfl) ?_
  refine PW.putR (pc := 1617) dX8_init_1617 lf_X8_237 (obn (show mN M + 4 = 348 by omega) s_277 (by decide) (by decide)) fx_8_97 (Or.inr ⟨rfl, rfl, rfl⟩) (fun _ => rfl) (fun _ => rfl) (by decide) ?_
  exact h
def u_X8_277_24 (M : pm) : pm := sR (nw (sR (nw M) 277 101 351)) 277 105 352
theorem un_X8_277_24 (M : pm) : mN (u_X8_277_24 M) = mN M + 2 := rfl
set_option maxRecDepth 4000 in
theorem k_X8_277_24 {M : pm} {Q : Option Value → pm → Prop} (hn : mN M = 348)  (h : PW mX8_init 10 350 1637 [.ref 277] [] (u_X8_277_24 M) Q) : PW mX8_init 10 350 1620 [.ref 277] [] M Q := by
  refine PW.aload_n (pc := 1620) dX8_init_1620 rfl ?_
  refine PW.sipush (pc := 1621) dX8_init_1621 (v := 1700) (by decide) ?_
  refine PW.newaJ (pc := 1624) dX8_init_1624 (a := 351) aw_long (by decide) (by decide +kernel) (by decide) (ltn (show mN M + 0 = 348 by omega) (by decide)) (eqn (show mN M + 0 = 348 by omega) rfl) ?_
  refine PW.putR (pc := 1626) dX8_init_1626 lf_X8_240 (obn (show mN M + 1 = 349 by omega) s_277 (by decide) (by decide)) fx_8_101 (Or.inr ⟨rfl, rfl, rfl⟩) (fun _ => rfl) (fun _ => rfl) (by decide) ?_
  refine PW.aload_n (pc := 1629) dX8_init_1629 rfl ?_
  refine PW.bipush (pc := 1630) dX8_init_1630 (v := 69) (by decide) ?_
  refine PW.newaI (pc := 1632) dX8_init_1632 (a := 352) aw_int (by decide) (by decide +kernel) (by decide) (ltn (show mN M + 1 = 349 by omega) (by decide)) (eqn (show mN M + 1 = 349 by omega) rfl) ?_
  refine PW.putR (pc := 1634) dX8_init_1634 lf_X8_243 (obn (show mN M + 2 = 350 by omega) s_277 (by decide) (by decide)) fx_8_105 (Or.inr ⟨rfl, rfl, rfl⟩) (fun _ => rfl) (fun _ => rfl) (by decide) ?_
  exact h
def i_X8_277 (M : pm) : pm := u_X8_277_24 (u_X8_277_23 (u_X8_277_22 (u_X8_277_21 (u_X8_277_20 (u_X8_277_19 (u_X8_277_18 (u_X8_277_17 (u_X8_277_16 (u_X8_277_15 (u_X8_277_14 (u_X8_277_13 (u_X8_277_12 (u_X8_277_11 (u_X8_277_10 (u_X8_277_9 (u_X8_277_8 (u_X8_277_7 (u_X8_277_6 (u_X8_277_5 (u_X8_277_4 (u_X8_277_3 (u_X8_277_2 (u_X8_277_1 (u_X8_277_0 M))))))))))))))))))))))))
theorem in_X8_277 (M : pm) : mN (i_X8_277 M) = mN M + 75 := by
  unfold i_X8_277
  rw [un_X8_277_24, un_X8_277_23, un_X8_277_22, un_X8_277_21, un_X8_277_20, un_X8_277_19, un_X8_277_18, un_X8_277_17, un_X8_277_16, un_X8_277_15, un_X8_277_14, un_X8_277_13, un_X8_277_12, un_X8_277_11, un_X8_277_10, un_X8_277_9, un_X8_277_8, un_X8_277_7, un_X8_277_6, un_X8_277_5, un_X8_277_4, un_X8_277_3, un_X8_277_2, un_X8_277_1, un_X8_277_0] <;> omega
theorem c_X8_277 {M : pm} (hn : mN M = 275) : PW mX8_init 10 350 0 (pfr mX8_init.2.2.1 [.ref 277]) [] M (fun r M' => r = none ∧ M' = i_X8_277 M) := by
  show PW mX8_init 10 350 0 [.ref 277] [] M _
  refine k_X8_277_0 hn  ?_
  have hn1 : mN (u_X8_277_0 M) = 279 := by rw [un_X8_277_0, hn]
  refine k_X8_277_1 hn1  ?_
  have hn2 : mN (u_X8_277_1 (u_X8_277_0 M)) = 281 := by rw [un_X8_277_1, hn1]
  refine k_X8_277_2 hn2  ?_
  have hn3 : mN (u_X8_277_2 (u_X8_277_1 (u_X8_277_0 M))) = 283 := by rw [un_X8_277_2, hn2]
  refine k_X8_277_3 hn3  ?_
  have hn4 : mN (u_X8_277_3 (u_X8_277_2 (u_X8_277_1 (u_X8_277_0 M)))) = 285 := by rw [un_X8_277_3, hn3]
  refine k_X8_277_4 hn4  ?_
  have hn5 : mN (u_X8_277_4 (u_X8_277_3 (u_X8_277_2 (u_X8_277_1 (u_X8_277_0 M))))) = 288 := by rw [un_X8_277_4, hn4]
  refine k_X8_277_5 hn5  ?_
  have hn6 : mN (u_X8_277_5 (u_X8_277_4 (u_X8_277_3 (u_X8_277_2 (u_X8_277_1 (u_X8_277_0 M)))))) = 290 := by rw [un_X8_277_5, hn5]
  refine k_X8_277_6 hn6  ?_
  have hn7 : mN (u_X8_277_6 (u_X8_277_5 (u_X8_277_4 (u_X8_277_3 (u_X8_277_2 (u_X8_277_1 (u_X8_277_0 M))))))) = 293 := by rw [un_X8_277_6, hn6]
  refine k_X8_277_7 hn7  ?_
  have hn8 : mN (u_X8_277_7 (u_X8_277_6 (u_X8_277_5 (u_X8_277_4 (u_X8_277_3 (u_X8_277_2 (u_X8_277_1 (u_X8_277_0 M)))))))) = 295 := by rw [un_X8_277_7, hn7]
  refine k_X8_277_8 hn8  ?_
  have hn9 : mN (u_X8_277_8 (u_X8_277_7 (u_X8_277_6 (u_X8_277_5 (u_X8_277_4 (u_X8_277_3 (u_X8_277_2 (u_X8_277_1 (u_X8_277_0 M))))))))) = 297 := by rw [un_X8_277_8, hn8]
  refine k_X8_277_9 hn9  ?_
  have hn10 : mN (u_X8_277_9 (u_X8_277_8 (u_X8_277_7 (u_X8_277_6 (u_X8_277_5 (u_X8_277_4 (u_X8_277_3 (u_X8_277_2 (u_X8_277_1 (u_X8_277_0 M)))))))))) = 300 := by rw [un_X8_277_9, hn9]
  refine k_X8_277_10 hn10  ?_
  have hn11 : mN (u_X8_277_10 (u_X8_277_9 (u_X8_277_8 (u_X8_277_7 (u_X8_277_6 (u_X8_277_5 (u_X8_277_4 (u_X8_277_3 (u_X8_277_2 (u_X8_277_1 (u_X8_277_0 M))))))))))) = 303 := by rw [un_X8_277_10, hn10]
  refine k_X8_277_11 hn11  ?_
  have hn12 : mN (u_X8_277_11 (u_X8_277_10 (u_X8_277_9 (u_X8_277_8 (u_X8_277_7 (u_X8_277_6 (u_X8_277_5 (u_X8_277_4 (u_X8_277_3 (u_X8_277_2 (u_X8_277_1 (u_X8_277_0 M)))))))))))) = 308 := by rw [un_X8_277_11, hn11]
  refine k_X8_277_12 hn12  ?_
  have hn13 : mN (u_X8_277_12 (u_X8_277_11 (u_X8_277_10 (u_X8_277_9 (u_X8_277_8 (u_X8_277_7 (u_X8_277_6 (u_X8_277_5 (u_X8_277_4 (u_X8_277_3 (u_X8_277_2 (u_X8_277_1 (u_X8_277_0 M))))))))))))) = 313 := by rw [un_X8_277_12, hn12]
  refine k_X8_277_13 hn13  ?_
  have hn14 : mN (u_X8_277_13 (u_X8_277_12 (u_X8_277_11 (u_X8_277_10 (u_X8_277_9 (u_X8_277_8 (u_X8_277_7 (u_X8_277_6 (u_X8_277_5 (u_X8_277_4 (u_X8_277_3 (u_X8_277_2 (u_X8_277_1 (u_X8_277_0 M)))))))))))))) = 323 := by rw [un_X8_277_13, hn13]
  refine k_X8_277_14 hn14  ?_
  have hn15 : mN (u_X8_277_14 (u_X8_277_13 (u_X8_277_12 (u_X8_277_11 (u_X8_277_10 (u_X8_277_9 (u_X8_277_8 (u_X8_277_7 (u_X8_277_6 (u_X8_277_5 (u_X8_277_4 (u_X8_277_3 (u_X8_277_2 (u_X8_277_1 (u_X8_277_0 M))))))))))))))) = 325 := by rw [un_X8_277_14, hn14]
  refine k_X8_277_15 hn15  ?_
  have hn16 : mN (u_X8_277_15 (u_X8_277_14 (u_X8_277_13 (u_X8_277_12 (u_X8_277_11 (u_X8_277_10 (u_X8_277_9 (u_X8_277_8 (u_X8_277_7 (u_X8_277_6 (u_X8_277_5 (u_X8_277_4 (u_X8_277_3 (u_X8_277_2 (u_X8_277_1 (u_X8_277_0 M)))))))))))))))) = 327 := by rw [un_X8_277_15, hn15]
  refine k_X8_277_16 hn16  ?_
  have hn17 : mN (u_X8_277_16 (u_X8_277_15 (u_X8_277_14 (u_X8_277_13 (u_X8_277_12 (u_X8_277_11 (u_X8_277_10 (u_X8_277_9 (u_X8_277_8 (u_X8_277_7 (u_X8_277_6 (u_X8_277_5 (u_X8_277_4 (u_X8_277_3 (u_X8_277_2 (u_X8_277_1 (u_X8_277_0 M))))))))))))))))) = 329 := by rw [un_X8_277_16, hn16]
  refine k_X8_277_17 hn17  ?_
  have hn18 : mN (u_X8_277_17 (u_X8_277_16 (u_X8_277_15 (u_X8_277_14 (u_X8_277_13 (u_X8_277_12 (u_X8_277_11 (u_X8_277_10 (u_X8_277_9 (u_X8_277_8 (u_X8_277_7 (u_X8_277_6 (u_X8_277_5 (u_X8_277_4 (u_X8_277_3 (u_X8_277_2 (u_X8_277_1 (u_X8_277_0 M)))))))))))))))))) = 332 := by rw [un_X8_277_17, hn17]
  refine k_X8_277_18 hn18  ?_
  have hn19 : mN (u_X8_277_18 (u_X8_277_17 (u_X8_277_16 (u_X8_277_15 (u_X8_277_14 (u_X8_277_13 (u_X8_277_12 (u_X8_277_11 (u_X8_277_10 (u_X8_277_9 (u_X8_277_8 (u_X8_277_7 (u_X8_277_6 (u_X8_277_5 (u_X8_277_4 (u_X8_277_3 (u_X8_277_2 (u_X8_277_1 (u_X8_277_0 M))))))))))))))))))) = 335 := by rw [un_X8_277_18, hn18]
  refine k_X8_277_19 hn19  ?_
  have hn20 : mN (u_X8_277_19 (u_X8_277_18 (u_X8_277_17 (u_X8_277_16 (u_X8_277_15 (u_X8_277_14 (u_X8_277_13 (u_X8_277_12 (u_X8_277_11 (u_X8_277_10 (u_X8_277_9 (u_X8_277_8 (u_X8_277_7 (u_X8_277_6 (u_X8_277_5 (u_X8_277_4 (u_X8_277_3 (u_X8_277_2 (u_X8_277_1 (u_X8_277_0 M)))))))))))))))))))) = 338 := by rw [un_X8_277_19, hn19]
  refine k_X8_277_20 hn20  ?_
  have hn21 : mN (u_X8_277_20 (u_X8_277_19 (u_X8_277_18 (u_X8_277_17 (u_X8_277_16 (u_X8_277_15 (u_X8_277_14 (u_X8_277_13 (u_X8_277_12 (u_X8_277_11 (u_X8_277_10 (u_X8_277_9 (u_X8_277_8 (u_X8_277_7 (u_X8_277_6 (u_X8_277_5 (u_X8_277_4 (u_X8_277_3 (u_X8_277_2 (u_X8_277_1 (u_X8_277_0 M))))))))))))))))))))) = 340 := by rw [un_X8_277_20, hn20]
  refine k_X8_277_21 hn21  ?_
  have hn22 : mN (u_X8_277_21 (u_X8_277_20 (u_X8_277_19 (u_X8_277_18 (u_X8_277_17 (u_X8_277_16 (u_X8_277_15 (u_X8_277_14 (u_X8_277_13 (u_X8_277_12 (u_X8_277_11 (u_X8_277_10 (u_X8_277_9 (u_X8_277_8 (u_X8_277_7 (u_X8_277_6 (u_X8_277_5 (u_X8_277_4 (u_X8_277_3 (u_X8_277_2 (u_X8_277_1 (u_X8_277_0 M)))))))))))))))))))))) = 342 := by rw [un_X8_277_21, hn21]
  refine k_X8_277_22 hn22  ?_
  have hn23 : mN (u_X8_277_22 (u_X8_277_21 (u_X8_277_20 (u_X8_277_19 (u_X8_277_18 (u_X8_277_17 (u_X8_277_16 (u_X8_277_15 (u_X8_277_14 (u_X8_277_13 (u_X8_277_12 (u_X8_277_11 (u_X8_277_10 (u_X8_277_9 (u_X8_277_8 (u_X8_277_7 (u_X8_277_6 (u_X8_277_5 (u_X8_277_4 (u_X8_277_3 (u_X8_277_2 (u_X8_277_1 (u_X8_277_0 M))))))))))))))))))))))) = 344 := by rw [un_X8_277_22, hn22]
  refine k_X8_277_23 hn23  ?_
  have hn24 : mN (u_X8_277_23 (u_X8_277_22 (u_X8_277_21 (u_X8_277_20 (u_X8_277_19 (u_X8_277_18 (u_X8_277_17 (u_X8_277_16 (u_X8_277_15 (u_X8_277_14 (u_X8_277_13 (u_X8_277_12 (u_X8_277_11 (u_X8_277_10 (u_X8_277_9 (u_X8_277_8 (u_X8_277_7 (u_X8_277_6 (u_X8_277_5 (u_X8_277_4 (u_X8_277_3 (u_X8_277_2 (u_X8_277_1 (u_X8_277_0 M)))))))))))))))))))))))) = 348 := by rw [un_X8_277_23, hn23]
  refine k_X8_277_24 hn24  ?_
  have hn25 : mN (u_X8_277_24 (u_X8_277_23 (u_X8_277_22 (u_X8_277_21 (u_X8_277_20 (u_X8_277_19 (u_X8_277_18 (u_X8_277_17 (u_X8_277_16 (u_X8_277_15 (u_X8_277_14 (u_X8_277_13 (u_X8_277_12 (u_X8_277_11 (u_X8_277_10 (u_X8_277_9 (u_X8_277_8 (u_X8_277_7 (u_X8_277_6 (u_X8_277_5 (u_X8_277_4 (u_X8_277_3 (u_X8_277_2 (u_X8_277_1 (u_X8_277_0 M))))))))))))))))))))))))) = 350 := by rw [un_X8_277_24, hn24]
  exact PW.ret0 (pc := 1637) dX8_init_1637 hn25 rfl ⟨rfl, rfl⟩
def u_L_law_0 (M : pm) : pm := i_X7_3 (nw M)
theorem un_L_law_0 (M : pm) : mN (u_L_law_0 M) = mN M + 274 := by
  unfold u_L_law_0
  rw [in_X7_3]
  show mN M + 1 + 273 = mN M + 274
  omega
set_option maxRecDepth 4000 in
theorem k_L_law_0 {nm : String} {M : pm} {Q : Option Value → pm → Prop} (hn : mN M = 0)  (h : PW (mL_law nm) 400 350 7 [.ref 1, .null, .null, .null] [.ref 3] (u_L_law_0 M) Q) : PW (mL_law nm) 400 350 0 [.ref 1, .null, .null, .null] [] M Q := by
  refine PW.new (pc := 0) dL_law_0 (ci := 7) (a := 3) cl_L_7 in_7 iz_7 (by decide) (eqL (show mN M + 0 = 0 by omega) (by decide +kernel)) (ltn (show mN M + 0 = 0 by omega) (by decide)) (eqn (show mN M + 0 = 0 by omega) rfl) ?_
  refine PW.dupR (pc := 3) dL_law_3 ?_
  refine PW.ini (m' := mX7_init) (pc := 4) dL_law_4 lm_L_9 me_X7_init mj_X7_init rfl rfl (As := []) (a := 3) (st := [.ref 3]) rfl (Nat.le_of_ble_eq_true rfl) (Nat.le_of_ble_eq_true rfl) (len_ (show mN M + 1 = 1 by omega) (by decide)) (by decide) (PW.deep (by decide) (c_X7_3 (show mN M + 1 = 1 by omega))) ?_
  rintro _ _ ⟨rfl, rfl⟩
  exact h
def u_L_law_1 (M : pm) : pm := i_X8_277 (nw M)
theorem un_L_law_1 (M : pm) : mN (u_L_law_1 M) = mN M + 76 := by
  unfold u_L_law_1
  rw [in_X8_277]
  show mN M + 1 + 75 = mN M + 76
  omega
set_option maxRecDepth 4000 in
theorem k_L_law_1 {nm : String} {M : pm} {Q : Option Value → pm → Prop} (hn : mN M = 274)  (h : PW (mL_law nm) 400 350 15 [.ref 1, .ref 3, .null, .null] [.ref 277] (u_L_law_1 M) Q) : PW (mL_law nm) 400 350 7 [.ref 1, .null, .null, .null] [.ref 3] M Q := by
  refine PW.astore_n (pc := 7) dL_law_7 (ls' := [.ref 1, .ref 3, .null, .null]) (Nat.le_of_ble_eq_true rfl) rfl rfl ?_
  refine PW.new (pc := 8) dL_law_8 (ci := 8) (a := 277) cl_L_10 in_8 iz_8 (by decide) (eqL (show mN M + 0 = 274 by omega) (by decide +kernel)) (ltn (show mN M + 0 = 274 by omega) (by decide)) (eqn (show mN M + 0 = 274 by omega) rfl) ?_
  refine PW.dupR (pc := 11) dL_law_11 ?_
  refine PW.ini (m' := mX8_init) (pc := 12) dL_law_12 lm_L_12 me_X8_init mj_X8_init rfl rfl (As := []) (a := 277) (st := [.ref 277]) rfl (Nat.le_of_ble_eq_true rfl) (Nat.le_of_ble_eq_true rfl) (len_ (show mN M + 1 = 275 by omega) (by decide)) (by decide) (PW.deep (by decide) (c_X8_277 (show mN M + 1 = 275 by omega))) ?_
  rintro _ _ ⟨rfl, rfl⟩
  exact h
def u_L_law_2 (M : pm) : pm := M
theorem un_L_law_2 (M : pm) : mN (u_L_law_2 M) = mN M + 0 := rfl
set_option maxRecDepth 4000 in
theorem k_L_law_2 {nm : String} {M : pm} {Q : Option Value → pm → Prop} (hn : mN M = 350)  (h : PW (mL_law nm) 400 350 16 [.ref 1, .ref 3, .ref 277, .null] [] (u_L_law_2 M) Q) : PW (mL_law nm) 400 350 15 [.ref 1, .ref 3, .null, .null] [.ref 277] M Q := by
  refine PW.astore_n (pc := 15) dL_law_15 (ls' := [.ref 1, .ref 3, .ref 277, .null]) (Nat.le_of_ble_eq_true rfl) rfl rfl ?_
  exact h
def i_L_law (M : pm) : pm := u_L_law_2 (u_L_law_1 (u_L_law_0 M))
theorem c_L_law_a {nm : String} {M : pm} {Q : Option Value → pm → Prop} (hn : mN M = 0) (h : PW (mL_law nm) 400 350 16 [.ref 1, .ref 3, .ref 277, .null] [] (i_L_law M) Q) : PW (mL_law nm) 400 350 0 [.ref 1, .null, .null, .null] [] M Q := by
  refine k_L_law_0 hn  ?_
  have hn1 : mN (u_L_law_0 M) = 274 := by rw [un_L_law_0, hn]
  refine k_L_law_1 hn1  ?_
  have hn2 : mN (u_L_law_1 (u_L_law_0 M)) = 350 := by rw [un_L_law_1, hn1]
  refine k_L_law_2 hn2  ?_
  have hn3 : mN (u_L_law_2 (u_L_law_1 (u_L_law_0 M))) = 350 := by rw [un_L_law_2, hn2]
  exact h
