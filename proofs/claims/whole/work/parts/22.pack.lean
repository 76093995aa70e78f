/-! the text of the words, letter by letter; packWord -/
theorem fl_val : Cond.fieldLink RJ0 9 "java/lang/String" "value" "[B" ∈ pBig := pb 8 239 (by decide +kernel) rfl
theorem fl_cod : Cond.fieldLink RJ0 15 "java/lang/String" "coder" "B" ∈ pBig := pb 9 0 (by decide +kernel) rfl
theorem fl_cmp : Cond.fieldLink RJ0 38 "java/lang/String" "COMPACT_STRINGS" "Z" ∈ pBig := pb 1 49 (by decide +kernel) rfl
theorem fl_fmt : Cond.fieldLink RJ0 1053 "jdk/internal/util/Preconditions" "SIOOBE_FORMATTER" "Ljava/util/function/BiFunction;" ∈ pBig := pb 1 65 (by decide +kernel) rfl
theorem c_coder {M : pm} : PW mJ0_coder_7d493 1 (mN M) 0 (pfr mJ0_coder_7d493.2.2.1 [.ref 2]) [] M (fun r M' => r = some (.int 0) ∧ M' = M) := by
  show PW mJ0_coder_7d493 1 (mN M) 0 [.ref 2] [] M _
  refine PW.getsC (pc := 0) dJ0_coder_7d493_0 fl_cmp ?_
  refine PW.if_eq (pc := 3) dJ0_coder_7d493_3 (t := 13) (by decide) (fun hc => absurd hc (by decide)) (fun hc => ?_)
  refine PW.aload_n (pc := 6) dJ0_coder_7d493_6 rfl ?_
  refine PW.coder (pc := 7) dJ0_coder_7d493_7 fl_cod ?_
  refine PW.goto (pc := 10) dJ0_coder_7d493_10 (t := 14) (by decide) ?_
  exact PW.retI (pc := 14) dJ0_coder_7d493_14 rfl rfl rfl ⟨rfl, rfl⟩
theorem c_latin {M : pm} : PW mJ0_isLatin1_aae02 1 (mN M) 0 (pfr mJ0_isLatin1_aae02.2.2.1 [.ref 2]) [] M (fun r M' => r = some (.int 1) ∧ M' = M) := by
  show PW mJ0_isLatin1_aae02 1 (mN M) 0 [.ref 2] [] M _
  refine PW.getsC (pc := 0) dJ0_isLatin1_aae02_0 fl_cmp ?_
  refine PW.if_eq (pc := 3) dJ0_isLatin1_aae02_3 (t := 17) (by decide) (fun hc => absurd hc (by decide)) (fun hc => ?_)
  refine PW.aload_n (pc := 6) dJ0_isLatin1_aae02_6 rfl ?_
  refine PW.coder (pc := 7) dJ0_isLatin1_aae02_7 fl_cod ?_
  refine PW.if_ne (pc := 10) dJ0_isLatin1_aae02_10 (t := 17) (by decide) (fun hc => absurd rfl hc) (fun hc => ?_)
  refine PW.iconst (pc := 13) dJ0_isLatin1_aae02_13 (v := 1) (by decide) ?_
  refine PW.goto (pc := 14) dJ0_isLatin1_aae02_14 (t := 18) (by decide) ?_
  exact PW.retI (pc := 18) dJ0_isLatin1_aae02_18 rfl rfl rfl ⟨rfl, rfl⟩
theorem c_strlen {M : pm} : PW mJ0_length_8abf5 2 (mN M) 0 (pfr mJ0_length_8abf5.2.2.1 [.ref 2]) [] M (fun r M' => r = some (.int 204) ∧ M' = M) := by
  show PW mJ0_length_8abf5 2 (mN M) 0 [.ref 2] [] M _
  refine PW.aload_n (pc := 0) dJ0_length_8abf5_0 rfl ?_
  refine PW.value (pc := 1) dJ0_length_8abf5_1 fl_val ?_
  refine PW.blen (pc := 4) dJ0_length_8abf5_4 ?_
  refine PW.aload_n (pc := 5) dJ0_length_8abf5_5 rfl ?_
  refine PW.invS (m' := mJ0_coder_7d493) (pc := 6) dJ0_length_8abf5_6 lm_J0_335 me_J0_coder_7d493 mi_J0_coder_7d493 rfl (As := []) (st := [.int 204]) rfl (Nat.le_of_ble_eq_true rfl) (Nat.le_of_ble_eq_true rfl) (Nat.le_refl _) (Nat.le_refl _) c_coder ?_
  rintro _ M1 ⟨rfl, h9⟩
  rw [h9]
  refine PW.ishr (pc := 9) dJ0_length_8abf5_9 ?_
  exact PW.retI (pc := 10) dJ0_length_8abf5_10 rfl rfl rfl ⟨by decide, rfl⟩
theorem c_chkP {M : pm} {i n : Int32} (h1 : ¬ i < 0) (h2 : i < n) : PW mJ3_checkIndex_8e157 1 (mN M) 0 (pfr mJ3_checkIndex_8e157.2.2.1 [.int i, .int n, .retAddr 0]) [] M (fun r M' => r = some (.int i) ∧ M' = M) := by
  show PW mJ3_checkIndex_8e157 1 (mN M) 0 [.int i, .int n, .retAddr 0] [] M _
  refine PW.iload_n (pc := 0) dJ3_checkIndex_8e157_0 rfl ?_
  refine PW.if_lt (pc := 1) dJ3_checkIndex_8e157_1 (t := 9) (by decide) (fun hc => absurd hc h1) (fun hc => ?_)
  refine PW.iload_n (pc := 4) dJ3_checkIndex_8e157_4 rfl ?_
  refine PW.iload_n (pc := 5) dJ3_checkIndex_8e157_5 rfl ?_
  refine PW.icmp_lt (pc := 6) dJ3_checkIndex_8e157_6 (t := 16) (by decide) (fun hc => ?_) (fun hc => absurd h2 hc)
  refine PW.iload_n (pc := 16) dJ3_checkIndex_8e157_16 rfl ?_
  exact PW.retI (pc := 17) dJ3_checkIndex_8e157_17 rfl rfl rfl ⟨rfl, rfl⟩
theorem c_chkS {M : pm} {i n : Int32} (h1 : ¬ i < 0) (h2 : i < n) : PW mJ0_checkIndex_df160 2 (mN M) 0 (pfr mJ0_checkIndex_df160.2.2.1 [.int i, .int n]) [] M (fun r M' => r = none ∧ M' = M) := by
  show PW mJ0_checkIndex_df160 2 (mN M) 0 [.int i, .int n] [] M _
  refine PW.iload_n (pc := 0) dJ0_checkIndex_df160_0 rfl ?_
  refine PW.iload_n (pc := 1) dJ0_checkIndex_df160_1 rfl ?_
  refine PW.getsF (pc := 2) dJ0_checkIndex_df160_2 fl_fmt ?_
  refine PW.ins (m' := mJ3_checkIndex_8e157) (pc := 5) dJ0_checkIndex_df160_5 lm_J0_1059 me_J3_checkIndex_8e157 ms_J3_checkIndex_8e157 (As := [.int i, .int n, .retAddr 0]) (st := []) rfl (Nat.le_of_ble_eq_true rfl) (Nat.le_of_ble_eq_true rfl) (Nat.le_refl _) (Nat.le_refl _) (c_chkP h1 h2) ?_
  rintro _ M1 ⟨rfl, h9⟩
  rw [h9]
  refine PW.popI (pc := 8) dJ0_checkIndex_df160_8 ?_
  exact PW.ret0 (pc := 9) dJ0_checkIndex_df160_9 rfl rfl ⟨rfl, rfl⟩
/-- the letter at a place of the words -/
def chW (i : Nat) : Int32 := (((pBytes.getD i 0) &&& 255).toUInt32 % 65536).toInt32
theorem c_lat1 {M : pm} {i : Int32} (h1 : ¬ i < 0) (h2 : i < 204) : PW mJ1_charAt_3b067 3 (mN M) 0 (pfr mJ1_charAt_3b067.2.2.1 [.ref 0, .int i]) [] M (fun r M' => r = some (.int (chW i.toNatClampNeg)) ∧ M' = M) := by
  show PW mJ1_charAt_3b067 3 (mN M) 0 [.ref 0, .int i] [] M _
  refine PW.iload_n (pc := 0) dJ1_charAt_3b067_0 rfl ?_
  refine PW.aload_n (pc := 1) dJ1_charAt_3b067_1 rfl ?_
  refine PW.blen (pc := 2) dJ1_charAt_3b067_2 ?_
  refine PW.ins (m' := mJ0_checkIndex_df160) (pc := 3) dJ1_charAt_3b067_3 lm_J1_9 me_J0_checkIndex_df160 ms_J0_checkIndex_df160 (As := [.int i, .int 204]) (st := []) rfl (Nat.le_of_ble_eq_true rfl) (Nat.le_of_ble_eq_true rfl) (Nat.le_refl _) (Nat.le_refl _) (c_chkS h1 h2) ?_
  rintro _ M1 ⟨rfl, h9⟩
  rw [h9]
  refine PW.aload_n (pc := 6) dJ1_charAt_3b067_6 rfl ?_
  refine PW.iload_n (pc := 7) dJ1_charAt_3b067_7 rfl ?_
  have hi : vp_in i 204 := by
    have e1 : ¬ i.toInt < 0 := fun q => h1 (Int32.lt_iff_toInt_lt.mpr (by simpa using q))
    have e2 : i.toInt < 204 := by simpa using Int32.lt_iff_toInt_lt.mp h2
    rw [vp_in_iff]
    omega
  refine PW.tbald (pc := 8) dJ1_charAt_3b067_8 hi ?_
  generalize hb : pBytes.getD i.toNatClampNeg 0 = b
  refine PW.sipush (pc := 9) dJ1_charAt_3b067_9 (v := 255) (by decide) ?_
  refine PW.iand (pc := 12) dJ1_charAt_3b067_12 ?_
  refine PW.i2c (pc := 13) dJ1_charAt_3b067_13 ?_
  exact PW.retI (pc := 14) dJ1_charAt_3b067_14 rfl rfl (pk_nc _) ⟨by unfold chW; rw [hb], rfl⟩
theorem c_charAt {M : pm} {i : Int32} (h1 : ¬ i < 0) (h2 : i < 204) : PW mJ0_charAt_5068e 4 (mN M) 0 (pfr mJ0_charAt_5068e.2.2.1 [.ref 2, .int i]) [] M (fun r M' => r = some (.int (chW i.toNatClampNeg)) ∧ M' = M) := by
  show PW mJ0_charAt_5068e 4 (mN M) 0 [.ref 2, .int i] [] M _
  refine PW.aload_n (pc := 0) dJ0_charAt_5068e_0 rfl ?_
  refine PW.invS (m' := mJ0_isLatin1_aae02) (pc := 1) dJ0_charAt_5068e_1 lm_J0_492 me_J0_isLatin1_aae02 mi_J0_isLatin1_aae02 rfl (As := []) (st := []) rfl (Nat.le_of_ble_eq_true rfl) (Nat.le_of_ble_eq_true rfl) (Nat.le_refl _) (Nat.le_refl _) (PW.deep (by decide) c_latin) ?_
  rintro _ M1 ⟨rfl, h9⟩
  rw [h9]
  refine PW.if_eq (pc := 4) dJ0_charAt_5068e_4 (t := 16) (by decide) (fun hc => absurd hc (by decide)) (fun hc => ?_)
  refine PW.aload_n (pc := 7) dJ0_charAt_5068e_7 rfl ?_
  refine PW.value (pc := 8) dJ0_charAt_5068e_8 fl_val ?_
  refine PW.iload_n (pc := 11) dJ0_charAt_5068e_11 rfl ?_
  refine PW.ins (m' := mJ1_charAt_3b067) (pc := 12) dJ0_charAt_5068e_12 lm_J0_495 me_J1_charAt_3b067 ms_J1_charAt_3b067 (As := [.ref 0, .int i]) (st := []) rfl (Nat.le_of_ble_eq_true rfl) (Nat.le_of_ble_eq_true rfl) (Nat.le_refl _) (Nat.le_refl _) (c_lat1 h1 h2) ?_
  rintro _ M1 ⟨rfl, h9⟩
  rw [h9]
  exact PW.retI (pc := 15) dJ0_charAt_5068e_15 rfl rfl (pk_nc _) ⟨rfl, rfl⟩
def pkL (w : Nat) : Nat → Int32
  | 0 => 0
  | k + 1 => if chW (6 * w + k) = 32 then pkL w k else pkL w k ||| ((chW (6 * w + k) - 97 + 1) <<< ((5 * nI k) &&& 31))
def pkW (w : Nat) : Int32 := pkL w 6
theorem c_pkwL {M : pm} (w : Nat) (hw : w < 34) : ∀ (j k : Nat) (v : Value), k + j = 6 → PW mX6_packWord 5 (mN M) 4 [.int (nI w), .int (pkL w k), .int (nI k), v] [] M (fun r M' => r = some (.int (pkW w)) ∧ M' = M) := by
  intro j
  induction j with
  | zero =>
    intro k v hk
    have hk6 : k = 6 := by omega
    subst hk6
    refine PW.iload_n (pc := 4) dX6_packWord_4 rfl ?_
    refine PW.bipush (pc := 5) dX6_packWord_5 (v := 6) (by decide) ?_
    refine PW.icmp_ge (pc := 7) dX6_packWord_7 (t := 65) (by decide) (fun hc => ?_) (fun hc => absurd (by decide) hc)
    refine PW.iload_n (pc := 65) dX6_packWord_65 rfl ?_
    exact PW.retI (pc := 66) dX6_packWord_66 rfl rfl rfl ⟨rfl, rfl⟩
  | succ j ih =>
    intro k v hk
    have e0 : nI w * 6 + nI k = nI (6 * w + k) := by
      rw [show (6 : Int32) = nI 6 from rfl, pk_mul, nI_add, Nat.mul_comm]
    have hlt : 6 * w + k < 204 := by omega
    have h1 : ¬ nI (6 * w + k) < 0 := nI_pos (by omega)
    have h2 : nI (6 * w + k) < 204 := nI_lt hlt (by decide)
    refine PW.iload_n (pc := 4) dX6_packWord_4 rfl ?_
    refine PW.bipush (pc := 5) dX6_packWord_5 (v := 6) (by decide) ?_
    refine PW.icmp_ge (pc := 7) dX6_packWord_7 (t := 65) (by decide) (fun hc => absurd hc (nI_ge (b := 6) (by omega) (by decide))) (fun hc => ?_)
    refine PW.iload_n (pc := 10) dX6_packWord_10 rfl ?_
    refine PW.bipush (pc := 11) dX6_packWord_11 (v := 6) (by decide) ?_
    refine PW.imul (pc := 13) dX6_packWord_13 ?_
    refine PW.iload_n (pc := 14) dX6_packWord_14 rfl ?_
    refine PW.iadd (pc := 15) dX6_packWord_15 ?_
    rw [e0]
    refine PW.istore_n (pc := 16) dX6_packWord_16 (ls' := [.int (nI w), .int (pkL w k), .int (nI k), .int (nI (6 * w + k))]) (by decide) rfl rfl ?_
    refine PW.iload_n (pc := 17) dX6_packWord_17 rfl ?_
    refine PW.if_lt (pc := 18) dX6_packWord_18 (t := 59) (by decide) (fun hc => absurd hc h1) (fun hc => ?_)
    refine PW.iload_n (pc := 21) dX6_packWord_21 rfl ?_
    refine PW.ldcS (pc := 22) dX6_packWord_22 rfl ?_
    refine PW.invS (m' := mJ0_length_8abf5) (pc := 24) dX6_packWord_24 lm_X6_47 me_J0_length_8abf5 mi_J0_length_8abf5 rfl (As := []) (st := [.int (nI (6 * w + k))]) rfl (Nat.le_of_ble_eq_true rfl) (Nat.le_of_ble_eq_true rfl) (Nat.le_refl _) (Nat.le_refl _) (PW.deep (by decide) c_strlen) ?_
    rintro _ M1 ⟨rfl, h9⟩
    rw [h9]
    refine PW.icmp_ge (pc := 27) dX6_packWord_27 (t := 59) (by decide) (fun hc => absurd hc (nI_ge (b := 204) hlt (by decide))) (fun hc => ?_)
    refine PW.ldcS (pc := 30) dX6_packWord_30 rfl ?_
    refine PW.iload_n (pc := 32) dX6_packWord_32 rfl ?_
    refine PW.invS (m' := mJ0_charAt_5068e) (pc := 33) dX6_packWord_33 lm_X6_52 me_J0_charAt_5068e mi_J0_charAt_5068e rfl (As := [.int (nI (6 * w + k))]) (st := []) rfl (Nat.le_of_ble_eq_true rfl) (Nat.le_of_ble_eq_true rfl) (Nat.le_refl _) (Nat.le_refl _) (c_charAt h1 h2) ?_
    rintro _ M1 ⟨rfl, h9⟩
    rw [h9]
    rw [nI_clamp (show 6 * w + k < 2 ^ 31 by omega)]
    refine PW.bipush (pc := 36) dX6_packWord_36 (v := 32) (by decide) ?_
    have back : ∀ v9 : Value, PW mX6_packWord 5 (mN M) 59 [.int (nI w), .int (pkL w (k + 1)), .int (nI k), v9] [] M (fun r M' => r = some (.int (pkW w)) ∧ M' = M) := by
      intro v9
      refine PW.iinc (pc := 59) dX6_packWord_59 (v := nI (k + 1)) (ls' := [.int (nI w), .int (pkL w (k + 1)), .int (nI (k + 1)), v9]) rfl (nI_succ k).symm (by decide) rfl rfl ?_
      refine PW.goto (pc := 62) dX6_packWord_62 (t := 4) (by decide) ?_
      exact ih (k + 1) v9 (by omega)
    refine PW.icmp_eq (pc := 38) dX6_packWord_38 (t := 59) (by decide) (fun hc => ?_) (fun hc => ?_)
    · have e1 : pkL w (k + 1) = pkL w k := by
        show (if chW (6 * w + k) = 32 then _ else _) = _
        rw [if_pos hc]
      rw [← e1]
      exact back _
    · have e1 : pkL w (k + 1) = pkL w k ||| ((chW (6 * w + k) - 97 + 1) <<< ((5 * nI k) &&& 31)) := by
        show (if chW (6 * w + k) = 32 then _ else _) = _
        rw [if_neg hc]
      refine PW.iload_n (pc := 41) dX6_packWord_41 rfl ?_
      refine PW.ldcS (pc := 42) dX6_packWord_42 rfl ?_
      refine PW.iload_n (pc := 44) dX6_packWord_44 rfl ?_
      refine PW.invS (m' := mJ0_charAt_5068e) (pc := 45) dX6_packWord_45 lm_X6_52 me_J0_charAt_5068e mi_J0_charAt_5068e rfl (As := [.int (nI (6 * w + k))]) (st := [.int (pkL w k)]) rfl (Nat.le_of_ble_eq_true rfl) (Nat.le_of_ble_eq_true rfl) (Nat.le_refl _) (Nat.le_refl _) (c_charAt h1 h2) ?_
      rintro _ M1 ⟨rfl, h9⟩
      rw [h9]
      rw [nI_clamp (show 6 * w + k < 2 ^ 31 by omega)]
      refine PW.bipush (pc := 48) dX6_packWord_48 (v := 97) (by decide) ?_
      refine PW.isub (pc := 50) dX6_packWord_50 ?_
      refine PW.iconst (pc := 51) dX6_packWord_51 (v := 1) (by decide) ?_
      refine PW.iadd (pc := 52) dX6_packWord_52 ?_
      refine PW.iconst (pc := 53) dX6_packWord_53 (v := 5) (by decide) ?_
      refine PW.iload_n (pc := 54) dX6_packWord_54 rfl ?_
      refine PW.imul (pc := 55) dX6_packWord_55 ?_
      refine PW.ishl (pc := 56) dX6_packWord_56 ?_
      refine PW.ior (pc := 57) dX6_packWord_57 ?_
      refine PW.istore_n (pc := 58) dX6_packWord_58 (ls' := [.int (nI w), .int (pkL w (k + 1)), .int (nI k), .int (nI (6 * w + k))]) (by decide) rfl (by rw [e1]; rfl) ?_
      exact back _
theorem c_pkw {M : pm} (w : Nat) (hw : w < 34) : PW mX6_packWord 5 (mN M) 0 (pfr mX6_packWord.2.2.1 [.int (nI w)]) [] M (fun r M' => r = some (.int (pkW w)) ∧ M' = M) := by
  show PW mX6_packWord 5 (mN M) 0 [.int (nI w), .null, .null, .null] [] M _
  refine PW.iconst (pc := 0) dX6_packWord_0 (v := 0) (by decide) ?_
  refine PW.istore_n (pc := 1) dX6_packWord_1 (ls' := [.int (nI w), .int 0, .null, .null]) (by decide) rfl rfl ?_
  refine PW.iconst (pc := 2) dX6_packWord_2 (v := 0) (by decide) ?_
  refine PW.istore_n (pc := 3) dX6_packWord_3 (ls' := [.int (nI w), .int 0, .int 0, .null]) (by decide) rfl rfl ?_
  exact c_pkwL w hw 6 0 .null rfl
