/-! methods, walked by program: w_ what must hold before, c_ its proof -/
def w_X8_laysCan_7 : Nat → Int32 → pm → (pm → Prop) → Prop
  | 0, _, _, _ => False
  | n + 1, x1, M, Q => w_X8_askerMany  M (fun y2 M1 => ((y2 ≤ x1 → (Q M1)) ∧ (¬ y2 ≤ x1 → (w_X8_canPlay x1 M1 (fun y5 M4 => ((y5 = 0 → (w_X8_laysCan_7 n (x1 + 1) M4 Q)) ∧ (¬ y5 = 0 → (w_X8_worthOf x1 (sI M4 277 54 ((mI M4 277 54) ||| (1 <<< (x1 &&& 31)))) (fun y9 M8 => vp_in x1 8 ∧ (w_X8_laysCan_7 n (x1 + 1) (sJ M8 319 x1.toNatClampNeg y9) Q))))))))))
set_option maxRecDepth 4000 in
theorem c_X8_laysCan_7  {Q : pm → Prop}  : ∀ (n : Nat) (x1 : Int32) (M : pm), pG M → w_X8_laysCan_7 n x1 M  Q → PW mX8_laysCan 7 350 7 [.ref 277, .int x1] [] M (qV Q) := by
  intro n
  induction n with
  | zero => intro x1 M hM h; exact h.elim
  | succ n ih =>
    intro x1 M hM h
    unfold w_X8_laysCan_7 at h
    refine PW.iload_n (pc := 7) dX8_laysCan_7 rfl ?_
    refine PW.aload_n (pc := 8) dX8_laysCan_8 rfl ?_
    refine PW.inv (m' := mX8_askerMany) (pc := 9) dX8_laysCan_9 lm_X8_395 me_X8_askerMany mi_X8_askerMany (ob hM.1 s_277 (by decide)) rfl (As := []) (st := [.int x1]) rfl (Nat.le_of_ble_eq_true rfl) (Nat.le_of_ble_eq_true rfl) (Nat.le_of_eq hM.1) (Nat.le_refl _) (PW.deep (by decide) (c_X8_askerMany  hM h)) ?_
    rintro _ M1 ⟨hM3, y2, rfl, h⟩
    refine PW.icmp_ge (pc := 12) dX8_laysCan_12 (t := 52) (by decide) (fun hc => ?_) (fun hc => ?_)
    · have h := h.1 hc
      exact PW.ret0 (pc := 52) dX8_laysCan_52 hM3.1 rfl ⟨hM3, rfl, h⟩
    · have h := h.2 hc
      refine PW.aload_n (pc := 15) dX8_laysCan_15 rfl ?_
      refine PW.iload_n (pc := 16) dX8_laysCan_16 rfl ?_
      refine PW.inv (m' := mX8_canPlay) (pc := 17) dX8_laysCan_17 lm_X8_436 me_X8_canPlay mi_X8_canPlay (ob hM3.1 s_277 (by decide)) rfl (As := [.int x1]) (st := []) rfl (Nat.le_of_ble_eq_true rfl) (Nat.le_of_ble_eq_true rfl) (Nat.le_of_eq hM3.1) (Nat.le_refl _) (PW.deep (by decide) (c_X8_canPlay  hM3 h)) ?_
      rintro _ M4 ⟨hM6, y5, rfl, z7, h⟩
      refine PW.if_eq (pc := 20) dX8_laysCan_20 (t := 46) (by decide) (fun hc => ?_) (fun hc => ?_)
      · have h := h.1 hc
        refine PW.iinc (pc := 46) dX8_laysCan_46 (v := (x1 + 1)) (ls' := [.ref 277, .int (x1 + 1)]) rfl rfl (by decide) rfl rfl ?_
        refine PW.goto (pc := 49) dX8_laysCan_49 (t := 7) (by decide) ?_
        exact PW.drop (ih _ _ hM6 h) ⟨rfl, rfl, trivial⟩
      · have h := h.2 hc
        refine PW.aload_n (pc := 23) dX8_laysCan_23 rfl ?_
        refine PW.dupR (pc := 24) dX8_laysCan_24 ?_
        refine PW.getI (pc := 25) dX8_laysCan_25 lf_X8_433 (ob hM6.1 s_277 (by decide)) fx_8_54 ?_
        refine PW.iconst (pc := 28) dX8_laysCan_28 (v := 1) (by decide) ?_
        refine PW.iload_n (pc := 29) dX8_laysCan_29 rfl ?_
        refine PW.ishl (pc := 30) dX8_laysCan_30 ?_
        refine PW.ior (pc := 31) dX8_laysCan_31 ?_
        refine PW.putI (pc := 32) dX8_laysCan_32 lf_X8_433 (ob hM6.1 s_277 (by decide)) fx_8_54 fw_8_54 rfl rfl ?_
        refine PW.aload_n (pc := 35) dX8_laysCan_35 rfl ?_
        refine PW.getR (pc := 36) dX8_laysCan_36 (r := 319) lf_X8_139 (ob hM6.1 s_277 (by decide)) fx_8_55 (oR_8_55 (hM6.same rfl rfl) s_277) (pS_ne s_319) ?_
        refine PW.iload_n (pc := 39) dX8_laysCan_39 rfl ?_
        refine PW.aload_n (pc := 40) dX8_laysCan_40 rfl ?_
        refine PW.iload_n (pc := 41) dX8_laysCan_41 rfl ?_
        refine PW.inv (m' := mX8_worthOf) (pc := 42) dX8_laysCan_42 lm_X8_439 me_X8_worthOf mi_X8_worthOf (ob hM6.1 s_277 (by decide)) rfl (As := [.int x1]) (st := [.int x1, .ref 319]) rfl (Nat.le_of_ble_eq_true rfl) (Nat.le_of_ble_eq_true rfl) (Nat.le_of_eq hM6.1) (Nat.le_refl _) (PW.deep (by decide) (c_X8_worthOf  (hM6.same rfl rfl) h)) ?_
        rintro _ M8 ⟨hM10, y9, rfl, h⟩
        obtain ⟨v11, h⟩ := h
        refine PW.last (pc := 45) dX8_laysCan_45 (ar hM10.1 s_319) (vpl n_319 v11) ?_
        refine PW.iinc (pc := 46) dX8_laysCan_46 (v := (x1 + 1)) (ls' := [.ref 277, .int (x1 + 1)]) rfl rfl (by decide) rfl rfl ?_
        refine PW.goto (pc := 49) dX8_laysCan_49 (t := 7) (by decide) ?_
        exact PW.drop (ih _ _ (hM10.same rfl rfl) h) ⟨rfl, rfl, trivial⟩
def w_X8_laysCan  (M : pm) (Q : pm → Prop) : Prop := ∃ n12, w_X8_laysCan_7 n12 0 (sI M 277 54 0)  Q
set_option maxRecDepth 4000 in
theorem c_X8_laysCan  {M : pm} {Q : pm → Prop}  (hM : pG M) (h : w_X8_laysCan  M Q) : PW mX8_laysCan 7 350 0 (pfr mX8_laysCan.2.2.1 [.ref 277]) [] M (qV Q) := by
  unfold w_X8_laysCan at h
  show PW mX8_laysCan 7 350 0 [.ref 277, .null] [] M (qV Q)
  refine PW.aload_n (pc := 0) dX8_laysCan_0 rfl ?_
  refine PW.iconst (pc := 1) dX8_laysCan_1 (v := 0) (by decide) ?_
  refine PW.putI (pc := 2) dX8_laysCan_2 lf_X8_433 (ob hM.1 s_277 (by decide)) fx_8_54 fw_8_54 rfl rfl ?_
  refine PW.iconst (pc := 5) dX8_laysCan_5 (v := 0) (by decide) ?_
  refine PW.istore_n (pc := 6) dX8_laysCan_6 (ls' := [.ref 277, .int 0]) (by decide) rfl rfl ?_
  obtain ⟨n12, h⟩ := h
  refine PW.drop (c_X8_laysCan_7  n12 _ _ (hM.same rfl rfl) h) ⟨rfl, rfl, trivial⟩
def w_X8_minutesOf_4 : Nat → Int32 → Int32 → Int32 → pm → (Int32 → pm → Prop) → Prop
  | 0, _, _, _, _, _ => False
  | n + 1, x1, x2, x3, M, Q => w_X8_askerMany  M (fun y2 M1 => ((y2 ≤ x3 → (Q x2 M1)) ∧ (¬ y2 ≤ x3 → ((¬ ((x1 >>> (x3 &&& 31)) &&& 1) = 1 → (w_X8_minutesOf_4 n x1 x2 (x3 + 1) M1 Q)) ∧ (((x1 >>> (x3 &&& 31)) &&& 1) = 1 → (w_X8_longOf x3 M1 (fun y5 M4 => w_X8_minutesOf_4 n x1 (x2 + y5) (x3 + 1) M4 Q)))))))
set_option maxRecDepth 4000 in
theorem c_X8_minutesOf_4  {Q : Int32 → pm → Prop}  : ∀ (n : Nat) (x1 : Int32) (x2 : Int32) (x3 : Int32) (M : pm), pG M → w_X8_minutesOf_4 n x1 x2 x3 M  Q → PW mX8_minutesOf 3 350 4 [.ref 277, .int x1, .int x2, .int x3] [] M (qI Q) := by
  intro n
  induction n with
  | zero => intro x1 x2 x3 M hM h; exact h.elim
  | succ n ih =>
    intro x1 x2 x3 M hM h
    unfold w_X8_minutesOf_4 at h
    refine PW.iload_n (pc := 4) dX8_minutesOf_4 rfl ?_
    refine PW.aload_n (pc := 5) dX8_minutesOf_5 rfl ?_
    refine PW.inv (m' := mX8_askerMany) (pc := 6) dX8_minutesOf_6 lm_X8_395 me_X8_askerMany mi_X8_askerMany (ob hM.1 s_277 (by decide)) rfl (As := []) (st := [.int x3]) rfl (Nat.le_of_ble_eq_true rfl) (Nat.le_of_ble_eq_true rfl) (Nat.le_of_eq hM.1) (Nat.le_refl _) (PW.deep (by decide) (c_X8_askerMany  hM h)) ?_
    rintro _ M1 ⟨hM3, y2, rfl, h⟩
    refine PW.icmp_ge (pc := 9) dX8_minutesOf_9 (t := 35) (by decide) (fun hc => ?_) (fun hc => ?_)
    · have h := h.1 hc
      refine PW.iload_n (pc := 35) dX8_minutesOf_35 rfl ?_
      exact PW.retI (pc := 36) dX8_minutesOf_36 hM3.1 rfl rfl ⟨hM3, _, rfl, h⟩
    · have h := h.2 hc
      refine PW.iload_n (pc := 12) dX8_minutesOf_12 rfl ?_
      refine PW.iload_n (pc := 13) dX8_minutesOf_13 rfl ?_
      refine PW.ishr (pc := 14) dX8_minutesOf_14 ?_
      refine PW.iconst (pc := 15) dX8_minutesOf_15 (v := 1) (by decide) ?_
      refine PW.iand (pc := 16) dX8_minutesOf_16 ?_
      refine PW.iconst (pc := 17) dX8_minutesOf_17 (v := 1) (by decide) ?_
      refine PW.icmp_ne (pc := 18) dX8_minutesOf_18 (t := 29) (by decide) (fun hc => ?_) (fun hc => ?_)
      · have h := h.1 hc
        refine PW.iinc (pc := 29) dX8_minutesOf_29 (v := (x3 + 1)) (ls' := [.ref 277, .int x1, .int x2, .int (x3 + 1)]) rfl rfl (by decide) rfl rfl ?_
        refine PW.goto (pc := 32) dX8_minutesOf_32 (t := 4) (by decide) ?_
        exact PW.drop (ih _ _ _ _ hM3 h) ⟨rfl, rfl, rfl, rfl, trivial⟩
      · have h := h.2 hc
        refine PW.iload_n (pc := 21) dX8_minutesOf_21 rfl ?_
        refine PW.aload_n (pc := 22) dX8_minutesOf_22 rfl ?_
        refine PW.iload_n (pc := 23) dX8_minutesOf_23 rfl ?_
        refine PW.inv (m' := mX8_longOf) (pc := 24) dX8_minutesOf_24 lm_X8_443 me_X8_longOf mi_X8_longOf (ob hM3.1 s_277 (by decide)) rfl (As := [.int x3]) (st := [.int x2]) rfl (Nat.le_of_ble_eq_true rfl) (Nat.le_of_ble_eq_true rfl) (Nat.le_of_eq hM3.1) (Nat.le_refl _) (PW.deep (by decide) (c_X8_longOf  hM3 h)) ?_
        rintro _ M4 ⟨hM6, y5, rfl, h⟩
        refine PW.iadd (pc := 27) dX8_minutesOf_27 ?_
        refine PW.istore_n (pc := 28) dX8_minutesOf_28 (ls' := [.ref 277, .int x1, .int (x2 + y5), .int x3]) (by decide) rfl rfl ?_
        refine PW.iinc (pc := 29) dX8_minutesOf_29 (v := (x3 + 1)) (ls' := [.ref 277, .int x1, .int (x2 + y5), .int (x3 + 1)]) rfl rfl (by decide) rfl rfl ?_
        refine PW.goto (pc := 32) dX8_minutesOf_32 (t := 4) (by decide) ?_
        exact PW.drop (ih _ _ _ _ hM6 h) ⟨rfl, rfl, rfl, rfl, trivial⟩
def w_X8_minutesOf (x1 : Int32) (M : pm) (Q : Int32 → pm → Prop) : Prop := ∃ n7, w_X8_minutesOf_4 n7 x1 0 0 M  Q
set_option maxRecDepth 4000 in
theorem c_X8_minutesOf {x1 : Int32} {M : pm} {Q : Int32 → pm → Prop}  (hM : pG M) (h : w_X8_minutesOf x1 M Q) : PW mX8_minutesOf 3 350 0 (pfr mX8_minutesOf.2.2.1 [.ref 277, .int x1]) [] M (qI Q) := by
  unfold w_X8_minutesOf at h
  show PW mX8_minutesOf 3 350 0 [.ref 277, .int x1, .null, .null] [] M (qI Q)
  refine PW.iconst (pc := 0) dX8_minutesOf_0 (v := 0) (by decide) ?_
  refine PW.istore_n (pc := 1) dX8_minutesOf_1 (ls' := [.ref 277, .int x1, .int 0, .null]) (by decide) rfl rfl ?_
  refine PW.iconst (pc := 2) dX8_minutesOf_2 (v := 0) (by decide) ?_
  refine PW.istore_n (pc := 3) dX8_minutesOf_3 (ls' := [.ref 277, .int x1, .int 0, .int 0]) (by decide) rfl rfl ?_
  obtain ⟨n7, h⟩ := h
  refine PW.drop (c_X8_minutesOf_4  n7 _ _ _ _ hM h) ⟨rfl, rfl, rfl, rfl, trivial⟩
def w_X8_worthBy_5 : Nat → Int32 → Int64 → Int32 → pm → (Int64 → pm → Prop) → Prop
  | 0, _, _, _, _, _ => False
  | n + 1, x1, x2, x4, M, Q => w_X8_askerMany  M (fun y2 M1 => ((y2 ≤ x4 → (Q x2 M1)) ∧ (¬ y2 ≤ x4 → ((¬ ((x1 >>> (x4 &&& 31)) &&& 1) = 1 → (w_X8_worthBy_5 n x1 x2 (x4 + 1) M1 Q)) ∧ (((x1 >>> (x4 &&& 31)) &&& 1) = 1 → (vp_in x4 8 ∧ (w_X8_worthBy_5 n x1 (x2 + (mJ M1 319 x4.toNatClampNeg)) (x4 + 1) M1 Q)))))))
set_option maxRecDepth 4000 in
theorem c_X8_worthBy_5  {Q : Int64 → pm → Prop}  : ∀ (n : Nat) (x1 : Int32) (x2 : Int64) (x4 : Int32) (M : pm), pG M → w_X8_worthBy_5 n x1 x2 x4 M  Q → PW mX8_worthBy 2 350 5 [.ref 277, .int x1, .long x2, .null, .int x4] [] M (qJ Q) := by
  intro n
  induction n with
  | zero => intro x1 x2 x4 M hM h; exact h.elim
  | succ n ih =>
    intro x1 x2 x4 M hM h
    unfold w_X8_worthBy_5 at h
    refine PW.iload (pc := 5) dX8_worthBy_5 rfl ?_
    refine PW.aload_n (pc := 7) dX8_worthBy_7 rfl ?_
    refine PW.inv (m' := mX8_askerMany) (pc := 8) dX8_worthBy_8 lm_X8_395 me_X8_askerMany mi_X8_askerMany (ob hM.1 s_277 (by decide)) rfl (As := []) (st := [.int x4]) rfl (Nat.le_of_ble_eq_true rfl) (Nat.le_of_ble_eq_true rfl) (Nat.le_of_eq hM.1) (Nat.le_refl _) (PW.deep (by decide) (c_X8_askerMany  hM h)) ?_
    rintro _ M1 ⟨hM3, y2, rfl, h⟩
    refine PW.icmp_ge (pc := 11) dX8_worthBy_11 (t := 40) (by decide) (fun hc => ?_) (fun hc => ?_)
    · have h := h.1 hc
      refine PW.lload_n (pc := 40) dX8_worthBy_40 rfl ?_
      exact PW.retJ (pc := 41) dX8_worthBy_41 hM3.1 rfl ⟨hM3, _, rfl, h⟩
    · have h := h.2 hc
      refine PW.iload_n (pc := 14) dX8_worthBy_14 rfl ?_
      refine PW.iload (pc := 15) dX8_worthBy_15 rfl ?_
      refine PW.ishr (pc := 17) dX8_worthBy_17 ?_
      refine PW.iconst (pc := 18) dX8_worthBy_18 (v := 1) (by decide) ?_
      refine PW.iand (pc := 19) dX8_worthBy_19 ?_
      refine PW.iconst (pc := 20) dX8_worthBy_20 (v := 1) (by decide) ?_
      refine PW.icmp_ne (pc := 21) dX8_worthBy_21 (t := 34) (by decide) (fun hc => ?_) (fun hc => ?_)
      · have h := h.1 hc
        refine PW.iinc (pc := 34) dX8_worthBy_34 (v := (x4 + 1)) (ls' := [.ref 277, .int x1, .long x2, .null, .int (x4 + 1)]) rfl rfl (by decide) rfl rfl ?_
        refine PW.goto (pc := 37) dX8_worthBy_37 (t := 5) (by decide) ?_
        exact PW.drop (ih _ _ _ _ hM3 h) ⟨rfl, rfl, rfl, rfl, trivial⟩
      · have h := h.2 hc
        refine PW.lload_n (pc := 24) dX8_worthBy_24 rfl ?_
        refine PW.aload_n (pc := 25) dX8_worthBy_25 rfl ?_
        refine PW.getR (pc := 26) dX8_worthBy_26 (r := 319) lf_X8_139 (ob hM3.1 s_277 (by decide)) fx_8_55 (oR_8_55 hM3 s_277) (pS_ne s_319) ?_
        refine PW.iload (pc := 29) dX8_worthBy_29 rfl ?_
        obtain ⟨v4, h⟩ := h
        refine PW.lald (pc := 31) dX8_worthBy_31 (ar hM3.1 s_319) (vpl n_319 v4) ?_
        refine PW.ladd (pc := 32) dX8_worthBy_32 ?_
        refine PW.lstore_n (pc := 33) dX8_worthBy_33 (ls' := [.ref 277, .int x1, .long (x2 + (mJ M1 319 x4.toNatClampNeg)), .null, .int x4]) (by decide) rfl rfl ?_
        refine PW.iinc (pc := 34) dX8_worthBy_34 (v := (x4 + 1)) (ls' := [.ref 277, .int x1, .long (x2 + (mJ M1 319 x4.toNatClampNeg)), .null, .int (x4 + 1)]) rfl rfl (by decide) rfl rfl ?_
        refine PW.goto (pc := 37) dX8_worthBy_37 (t := 5) (by decide) ?_
        exact PW.drop (ih _ _ _ _ hM3 h) ⟨rfl, rfl, rfl, rfl, trivial⟩
def w_X8_worthBy (x1 : Int32) (M : pm) (Q : Int64 → pm → Prop) : Prop := ∃ n5, w_X8_worthBy_5 n5 x1 (0 : Int64) 0 M  Q
set_option maxRecDepth 4000 in
theorem c_X8_worthBy {x1 : Int32} {M : pm} {Q : Int64 → pm → Prop}  (hM : pG M) (h : w_X8_worthBy x1 M Q) : PW mX8_worthBy 2 350 0 (pfr mX8_worthBy.2.2.1 [.ref 277, .int x1]) [] M (qJ Q) := by
  unfold w_X8_worthBy at h
  show PW mX8_worthBy 2 350 0 [.ref 277, .int x1, .null, .null, .null] [] M (qJ Q)
  refine PW.lconst (pc := 0) dX8_worthBy_0 (v := 0) (by decide) ?_
  refine PW.lstore_n (pc := 1) dX8_worthBy_1 (ls' := [.ref 277, .int x1, .long (0 : Int64), .null, .null]) (by decide) rfl rfl ?_
  refine PW.iconst (pc := 2) dX8_worthBy_2 (v := 0) (by decide) ?_
  refine PW.istore (pc := 3) dX8_worthBy_3 (ls' := [.ref 277, .int x1, .long (0 : Int64), .null, .int 0]) (by decide) rfl rfl ?_
  obtain ⟨n5, h⟩ := h
  refine PW.drop (c_X8_worthBy_5  n5 _ _ _ _ hM h) ⟨rfl, rfl, rfl, rfl, trivial⟩
def w_X8_laysBest_18 : Nat → Int64 → Int32 → pm → (pm → Prop) → Prop
  | 0, _, _, _, _ => False
  | n + 1, x1, x3, M, Q => w_X8_askerMany  M (fun y5 M4 => (((1 <<< (y5 &&& 31)) ≤ x3 → (Q M4)) ∧ (¬ (1 <<< (y5 &&& 31)) ≤ x3 → (((x3 &&& ((mI M4 277 54) ^^^ (-1))) = 0 → (w_X8_minutesOf x3 M4 (fun y8 M7 => ((y8 ≤ (mI M7 308 3) → (w_X8_worthBy x3 M7 (fun y11 M10 => ((y11 < x1 → (w_X8_laysBest_18 n x1 (x3 + 1) M10 Q)) ∧ (¬ y11 < x1 → ((¬ y11 = x1 → (w_X8_laysBest_18 n y11 (x3 + 1) (sI (sI M10 277 56 x3) 277 57 y8) Q)) ∧ (y11 = x1 → ((y8 < (mI M10 277 57) → (w_X8_laysBest_18 n y11 (x3 + 1) (sI (sI M10 277 56 x3) 277 57 y8) Q)) ∧ (¬ y8 < (mI M10 277 57) → (w_X8_laysBest_18 n x1 (x3 + 1) M10 Q)))))))))) ∧ (¬ y8 ≤ (mI M7 308 3) → (w_X8_laysBest_18 n x1 (x3 + 1) M7 Q)))))) ∧ (¬ (x3 &&& ((mI M4 277 54) ^^^ (-1))) = 0 → (w_X8_laysBest_18 n x1 (x3 + 1) M4 Q))))))
set_option maxRecDepth 4000 in
theorem c_X8_laysBest_18  {Q : pm → Prop}  : ∀ (n : Nat) (x1 : Int64) (x3 : Int32) (M : pm), pG M → w_X8_laysBest_18 n x1 x3 M  Q → PW mX8_laysBest 8 350 18 [.ref 277, .long x1, .null, .int x3, .null, .null, .null] [] M (qV Q) := by
  intro n
  induction n with
  | zero => intro x1 x3 M hM h; exact h.elim
  | succ n ih =>
    intro x1 x3 M hM h
    unfold w_X8_laysBest_18 at h
    refine PW.iload_n (pc := 18) dX8_laysBest_18 rfl ?_
    refine PW.iconst (pc := 19) dX8_laysBest_19 (v := 1) (by decide) ?_
    refine PW.aload_n (pc := 20) dX8_laysBest_20 rfl ?_
    refine PW.inv (m' := mX8_askerMany) (pc := 21) dX8_laysBest_21 lm_X8_395 me_X8_askerMany mi_X8_askerMany (ob hM.1 s_277 (by decide)) rfl (As := []) (st := [.int 1, .int x3]) rfl (Nat.le_of_ble_eq_true rfl) (Nat.le_of_ble_eq_true rfl) (Nat.le_of_eq hM.1) (Nat.le_refl _) (PW.deep (by decide) (c_X8_askerMany  hM h)) ?_
    rintro _ M4 ⟨hM6, y5, rfl, h⟩
    refine PW.ishl (pc := 24) dX8_laysBest_24 ?_
    refine PW.icmp_ge (pc := 25) dX8_laysBest_25 (t := 116) (by decide) (fun hc => ?_) (fun hc => ?_)
    · have h := h.1 hc
      exact PW.ret0 (pc := 116) dX8_laysBest_116 hM6.1 rfl ⟨hM6, rfl, h⟩
    · have h := h.2 hc
      refine PW.iload_n (pc := 28) dX8_laysBest_28 rfl ?_
      refine PW.aload_n (pc := 29) dX8_laysBest_29 rfl ?_
      refine PW.getI (pc := 30) dX8_laysBest_30 lf_X8_433 (ob hM6.1 s_277 (by decide)) fx_8_54 ?_
      refine PW.iconst (pc := 33) dX8_laysBest_33 (v := (-1)) (by decide) ?_
      refine PW.ixor (pc := 34) dX8_laysBest_34 ?_
      refine PW.iand (pc := 35) dX8_laysBest_35 ?_
      refine PW.if_eq (pc := 36) dX8_laysBest_36 (t := 42) (by decide) (fun hc => ?_) (fun hc => ?_)
      · have h := h.1 hc
        refine PW.aload_n (pc := 42) dX8_laysBest_42 rfl ?_
        refine PW.iload_n (pc := 43) dX8_laysBest_43 rfl ?_
        refine PW.inv (m' := mX8_minutesOf) (pc := 44) dX8_laysBest_44 lm_X8_455 me_X8_minutesOf mi_X8_minutesOf (ob hM6.1 s_277 (by decide)) rfl (As := [.int x3]) (st := []) rfl (Nat.le_of_ble_eq_true rfl) (Nat.le_of_ble_eq_true rfl) (Nat.le_of_eq hM6.1) (Nat.le_refl _) (PW.deep (by decide) (c_X8_minutesOf  hM6 h)) ?_
        rintro _ M7 ⟨hM9, y8, rfl, h⟩
        refine PW.istore (pc := 47) dX8_laysBest_47 (ls' := [.ref 277, .long x1, .null, .int x3, .int y8, .null, .null]) (by decide) rfl rfl ?_
        refine PW.iload (pc := 49) dX8_laysBest_49 rfl ?_
        refine PW.aload_n (pc := 51) dX8_laysBest_51 rfl ?_
        refine PW.getR (pc := 52) dX8_laysBest_52 (r := 308) lf_X8_105 (ob hM9.1 s_277 (by decide)) fx_8_39 (oR_8_39 hM9 s_277) (pS_ne s_308) ?_
        refine PW.iconst (pc := 55) dX8_laysBest_55 (v := 3) (by decide) ?_
        refine PW.iald (pc := 56) dX8_laysBest_56 (ar hM9.1 s_308) (vpl n_308 (vp_c (i := 3) (n := 6) (by decide))) ?_
        refine PW.icmp_le (pc := 57) dX8_laysBest_57 (t := 63) (by decide) (fun hc => ?_) (fun hc => ?_)
        · have h := h.1 hc
          refine PW.aload_n (pc := 63) dX8_laysBest_63 rfl ?_
          refine PW.iload_n (pc := 64) dX8_laysBest_64 rfl ?_
          refine PW.inv (m' := mX8_worthBy) (pc := 65) dX8_laysBest_65 lm_X8_458 me_X8_worthBy mi_X8_worthBy (ob hM9.1 s_277 (by decide)) rfl (As := [.int x3]) (st := []) rfl (Nat.le_of_ble_eq_true rfl) (Nat.le_of_ble_eq_true rfl) (Nat.le_of_eq hM9.1) (Nat.le_refl _) (PW.deep (by decide) (c_X8_worthBy  hM9 h)) ?_
          rintro _ M10 ⟨hM12, y11, rfl, h⟩
          refine PW.lstore (pc := 68) dX8_laysBest_68 (ls' := [.ref 277, .long x1, .null, .int x3, .int y8, .long y11, .null]) (by decide) rfl rfl ?_
          refine PW.lload (pc := 70) dX8_laysBest_70 rfl ?_
          refine PW.lload_n (pc := 72) dX8_laysBest_72 rfl ?_
          refine PW.lcmp (pc := 73) dX8_laysBest_73 ?_
          refine PW.if_lt (pc := 74) dX8_laysBest_74 (t := 110) (by decide) (fun hc => ?_) (fun hc => ?_)
          · have h := h.1 ((lg_cmp_lt _ _).mp hc)
            refine PW.iinc (pc := 110) dX8_laysBest_110 (v := (x3 + 1)) (ls' := [.ref 277, .long x1, .null, .int (x3 + 1), .int y8, .long y11, .null]) rfl rfl (by decide) rfl rfl ?_
            refine PW.goto (pc := 113) dX8_laysBest_113 (t := 18) (by decide) ?_
            exact PW.drop (ih _ _ _ hM12 h) ⟨rfl, rfl, rfl, trivial⟩
          · have h := h.2 (fun q => hc ((lg_cmp_lt _ _).mpr q))
            refine PW.lload (pc := 77) dX8_laysBest_77 rfl ?_
            refine PW.lload_n (pc := 79) dX8_laysBest_79 rfl ?_
            refine PW.lcmp (pc := 80) dX8_laysBest_80 ?_
            refine PW.if_ne (pc := 81) dX8_laysBest_81 (t := 96) (by decide) (fun hc => ?_) (fun hc => ?_)
            · have h := h.1 (fun q => hc ((lg_cmp_eq _ _).mpr q))
              refine PW.aload_n (pc := 96) dX8_laysBest_96 rfl ?_
              refine PW.iload_n (pc := 97) dX8_laysBest_97 rfl ?_
              refine PW.putI (pc := 98) dX8_laysBest_98 lf_X8_449 (ob hM12.1 s_277 (by decide)) fx_8_56 fw_8_56 rfl rfl ?_
              refine PW.aload_n (pc := 101) dX8_laysBest_101 rfl ?_
              refine PW.iload (pc := 102) dX8_laysBest_102 rfl ?_
              refine PW.putI (pc := 104) dX8_laysBest_104 lf_X8_452 (ob hM12.1 s_277 (by decide)) fx_8_57 fw_8_57 rfl rfl ?_
              refine PW.lload (pc := 107) dX8_laysBest_107 rfl ?_
              refine PW.lstore_n (pc := 109) dX8_laysBest_109 (ls' := [.ref 277, .long y11, .null, .int x3, .int y8, .long y11, .null]) (by decide) rfl rfl ?_
              refine PW.iinc (pc := 110) dX8_laysBest_110 (v := (x3 + 1)) (ls' := [.ref 277, .long y11, .null, .int (x3 + 1), .int y8, .long y11, .null]) rfl rfl (by decide) rfl rfl ?_
              refine PW.goto (pc := 113) dX8_laysBest_113 (t := 18) (by decide) ?_
              exact PW.drop (ih _ _ _ (hM12.same rfl rfl) h) ⟨rfl, rfl, rfl, trivial⟩
            · have h := h.2 ((lg_cmp_eq _ _).mp hc)
              refine PW.iload (pc := 84) dX8_laysBest_84 rfl ?_
              refine PW.aload_n (pc := 86) dX8_laysBest_86 rfl ?_
              refine PW.getI (pc := 87) dX8_laysBest_87 lf_X8_452 (ob hM12.1 s_277 (by decide)) fx_8_57 ?_
              refine PW.icmp_lt (pc := 90) dX8_laysBest_90 (t := 96) (by decide) (fun hc => ?_) (fun hc => ?_)
              · have h := h.1 hc
                refine PW.aload_n (pc := 96) dX8_laysBest_96 rfl ?_
                refine PW.iload_n (pc := 97) dX8_laysBest_97 rfl ?_
                refine PW.putI (pc := 98) dX8_laysBest_98 lf_X8_449 (ob hM12.1 s_277 (by decide)) fx_8_56 fw_8_56 rfl rfl ?_
                refine PW.aload_n (pc := 101) dX8_laysBest_101 rfl ?_
                refine PW.iload (pc := 102) dX8_laysBest_102 rfl ?_
                refine PW.putI (pc := 104) dX8_laysBest_104 lf_X8_452 (ob hM12.1 s_277 (by decide)) fx_8_57 fw_8_57 rfl rfl ?_
                refine PW.lload (pc := 107) dX8_laysBest_107 rfl ?_
                refine PW.lstore_n (pc := 109) dX8_laysBest_109 (ls' := [.ref 277, .long y11, .null, .int x3, .int y8, .long y11, .null]) (by decide) rfl rfl ?_
                refine PW.iinc (pc := 110) dX8_laysBest_110 (v := (x3 + 1)) (ls' := [.ref 277, .long y11, .null, .int (x3 + 1), .int y8, .long y11, .null]) rfl rfl (by decide) rfl rfl ?_
                refine PW.goto (pc := 113) dX8_laysBest_113 (t := 18) (by decide) ?_
                exact PW.drop (ih _ _ _ (hM12.same rfl rfl) h) ⟨rfl, rfl, rfl, trivial⟩
              · have h := h.2 hc
                refine PW.goto (pc := 93) dX8_laysBest_93 (t := 110) (by decide) ?_
                refine PW.iinc (pc := 110) dX8_laysBest_110 (v := (x3 + 1)) (ls' := [.ref 277, .long x1, .null, .int (x3 + 1), .int y8, .long y11, .null]) rfl rfl (by decide) rfl rfl ?_
                refine PW.goto (pc := 113) dX8_laysBest_113 (t := 18) (by decide) ?_
                exact PW.drop (ih _ _ _ hM12 h) ⟨rfl, rfl, rfl, trivial⟩
        · have h := h.2 hc
          refine PW.goto (pc := 60) dX8_laysBest_60 (t := 110) (by decide) ?_
          refine PW.iinc (pc := 110) dX8_laysBest_110 (v := (x3 + 1)) (ls' := [.ref 277, .long x1, .null, .int (x3 + 1), .int y8, .null, .null]) rfl rfl (by decide) rfl rfl ?_
          refine PW.goto (pc := 113) dX8_laysBest_113 (t := 18) (by decide) ?_
          exact PW.drop (ih _ _ _ hM9 h) ⟨rfl, rfl, rfl, trivial⟩
      · have h := h.2 hc
        refine PW.goto (pc := 39) dX8_laysBest_39 (t := 110) (by decide) ?_
        refine PW.iinc (pc := 110) dX8_laysBest_110 (v := (x3 + 1)) (ls' := [.ref 277, .long x1, .null, .int (x3 + 1), .null, .null, .null]) rfl rfl (by decide) rfl rfl ?_
        refine PW.goto (pc := 113) dX8_laysBest_113 (t := 18) (by decide) ?_
        exact PW.drop (ih _ _ _ hM6 h) ⟨rfl, rfl, rfl, trivial⟩
def w_X8_laysBest  (M : pm) (Q : pm → Prop) : Prop := w_X8_laysCan  M (fun M1 => ∃ n13, w_X8_laysBest_18 n13 (0 : Int64) 1 (sI (sI M1 277 56 0) 277 57 0)  Q)
set_option maxRecDepth 4000 in
theorem c_X8_laysBest  {M : pm} {Q : pm → Prop}  (hM : pG M) (h : w_X8_laysBest  M Q) : PW mX8_laysBest 8 350 0 (pfr mX8_laysBest.2.2.1 [.ref 277]) [] M (qV Q) := by
  unfold w_X8_laysBest at h
  show PW mX8_laysBest 8 350 0 [.ref 277, .null, .null, .null, .null, .null, .null] [] M (qV Q)
  refine PW.aload_n (pc := 0) dX8_laysBest_0 rfl ?_
  refine PW.inv (m' := mX8_laysCan) (pc := 1) dX8_laysBest_1 lm_X8_446 me_X8_laysCan mi_X8_laysCan (ob hM.1 s_277 (by decide)) rfl (As := []) (st := []) rfl (Nat.le_of_ble_eq_true rfl) (Nat.le_of_ble_eq_true rfl) (Nat.le_of_eq hM.1) (Nat.le_refl _) (PW.deep (by decide) (c_X8_laysCan  hM h)) ?_
  rintro _ M1 ⟨hM3, rfl, h⟩
  refine PW.aload_n (pc := 4) dX8_laysBest_4 rfl ?_
  refine PW.iconst (pc := 5) dX8_laysBest_5 (v := 0) (by decide) ?_
  refine PW.putI (pc := 6) dX8_laysBest_6 lf_X8_449 (ob hM3.1 s_277 (by decide)) fx_8_56 fw_8_56 rfl rfl ?_
  refine PW.aload_n (pc := 9) dX8_laysBest_9 rfl ?_
  refine PW.iconst (pc := 10) dX8_laysBest_10 (v := 0) (by decide) ?_
  refine PW.putI (pc := 11) dX8_laysBest_11 lf_X8_452 (ob hM3.1 s_277 (by decide)) fx_8_57 fw_8_57 rfl rfl ?_
  refine PW.lconst (pc := 14) dX8_laysBest_14 (v := 0) (by decide) ?_
  refine PW.lstore_n (pc := 15) dX8_laysBest_15 (ls' := [.ref 277, .long (0 : Int64), .null, .null, .null, .null, .null]) (by decide) rfl rfl ?_
  refine PW.iconst (pc := 16) dX8_laysBest_16 (v := 1) (by decide) ?_
  refine PW.istore_n (pc := 17) dX8_laysBest_17 (ls' := [.ref 277, .long (0 : Int64), .null, .int 1, .null, .null, .null]) (by decide) rfl rfl ?_
  obtain ⟨n13, h⟩ := h
  refine PW.drop (c_X8_laysBest_18  n13 _ _ _ (hM3.same rfl rfl) h) ⟨rfl, rfl, rfl, trivial⟩
def w_X8_bits_4 : Nat → Int32 → Int32 → pm → (Int32 → pm → Prop) → Prop
  | 0, _, _, _, _ => False
  | n + 1, x1, x2, M, Q => ((x2 = 0 → (Q x1 M)) ∧ (¬ x2 = 0 → (w_X8_bits_4 n (x1 + 1) (x2 &&& (x2 - 1)) M Q)))
set_option maxRecDepth 4000 in
theorem c_X8_bits_4  {Q : Int32 → pm → Prop}  : ∀ (n : Nat) (x1 : Int32) (x2 : Int32) (M : pm), pG M → w_X8_bits_4 n x1 x2 M  Q → PW mX8_bits 1 350 4 [.null, .int x1, .int x2] [] M (qI Q) := by
  intro n
  induction n with
  | zero => intro x1 x2 M hM h; exact h.elim
  | succ n ih =>
    intro x1 x2 M hM h
    unfold w_X8_bits_4 at h
    refine PW.iload_n (pc := 4) dX8_bits_4 rfl ?_
    refine PW.if_eq (pc := 5) dX8_bits_5 (t := 20) (by decide) (fun hc => ?_) (fun hc => ?_)
    · have h := h.1 hc
      refine PW.iload_n (pc := 20) dX8_bits_20 rfl ?_
      exact PW.retI (pc := 21) dX8_bits_21 hM.1 rfl rfl ⟨hM, _, rfl, h⟩
    · have h := h.2 hc
      refine PW.iinc (pc := 8) dX8_bits_8 (v := (x1 + 1)) (ls' := [.null, .int (x1 + 1), .int x2]) rfl rfl (by decide) rfl rfl ?_
      refine PW.iload_n (pc := 11) dX8_bits_11 rfl ?_
      refine PW.iload_n (pc := 12) dX8_bits_12 rfl ?_
      refine PW.iconst (pc := 13) dX8_bits_13 (v := 1) (by decide) ?_
      refine PW.isub (pc := 14) dX8_bits_14 ?_
      refine PW.iand (pc := 15) dX8_bits_15 ?_
      refine PW.istore_n (pc := 16) dX8_bits_16 (ls' := [.null, .int (x1 + 1), .int (x2 &&& (x2 - 1))]) (by decide) rfl rfl ?_
      refine PW.goto (pc := 17) dX8_bits_17 (t := 4) (by decide) ?_
      exact PW.drop (ih _ _ _ hM h) ⟨rfl, rfl, trivial⟩
def w_X8_bits (x0 : Int32) (M : pm) (Q : Int32 → pm → Prop) : Prop := ∃ n1, w_X8_bits_4 n1 0 x0 M  Q
set_option maxRecDepth 4000 in
theorem c_X8_bits {x0 : Int32} {M : pm} {Q : Int32 → pm → Prop}  (hM : pG M) (h : w_X8_bits x0 M Q) : PW mX8_bits 1 350 0 (pfr mX8_bits.2.2.1 [.int x0]) [] M (qI Q) := by
  unfold w_X8_bits at h
  show PW mX8_bits 1 350 0 [.int x0, .null, .null] [] M (qI Q)
  refine PW.iconst (pc := 0) dX8_bits_0 (v := 0) (by decide) ?_
  refine PW.istore_n (pc := 1) dX8_bits_1 (ls' := [.int x0, .int 0, .null]) (by decide) rfl rfl ?_
  refine PW.iload_n (pc := 2) dX8_bits_2 rfl ?_
  refine PW.istore_n (pc := 3) dX8_bits_3 (ls' := [.int x0, .int 0, .int x0]) (by decide) rfl rfl ?_
  obtain ⟨n1, h⟩ := h
  refine PW.drop (c_X8_bits_4  n1 _ _ _ hM h) ⟨rfl, rfl, trivial⟩
def w_X8_isKept_64  (x1 : Int32) (x2 : Int32) (M : pm)  (Q : pm → Prop) : Prop := vp_in ((43 + (3 * (mI M 317 42))) - 3) 163 ∧ (vp_in (((43 + (3 * (mI M 317 42))) - 3) + 1) 163 ∧ (vp_in (((43 + (3 * (mI M 317 42))) - 3) + 2) 163 ∧ (Q (sI (sI (sI M 317 (((43 + (3 * (mI M 317 42))) - 3).toNatClampNeg) (mI M 317 0)) 317 ((((43 + (3 * (mI M 317 42))) - 3) + 1).toNatClampNeg) x1) 317 ((((43 + (3 * (mI M 317 42))) - 3) + 2).toNatClampNeg) x2))))
set_option maxRecDepth 4000 in
theorem c_X8_isKept_64  {Q : pm → Prop}  : ∀ (x1 : Int32) (x2 : Int32) (M : pm), pG M → w_X8_isKept_64 x1 x2 M  Q → PW mX8_isKept 1 350 64 [.ref 277, .int x1, .int x2, .null] [] M (qV Q) := by
  intro x1 x2 M hM h
  unfold w_X8_isKept_64 at h
  refine PW.bipush (pc := 64) dX8_isKept_64 (v := 43) (by decide) ?_
  refine PW.iconst (pc := 66) dX8_isKept_66 (v := 3) (by decide) ?_
  refine PW.aload_n (pc := 67) dX8_isKept_67 rfl ?_
  refine PW.getR (pc := 68) dX8_isKept_68 (r := 317) lf_X8_133 (ob hM.1 s_277 (by decide)) fx_8_52 (oR_8_52 hM s_277) (pS_ne s_317) ?_
  refine PW.bipush (pc := 71) dX8_isKept_71 (v := 42) (by decide) ?_
  refine PW.iald (pc := 73) dX8_isKept_73 (ar hM.1 s_317) (vpl n_317 (vp_c (i := 42) (n := 163) (by decide))) ?_
  refine PW.imul (pc := 74) dX8_isKept_74 ?_
  refine PW.iadd (pc := 75) dX8_isKept_75 ?_
  refine PW.iconst (pc := 76) dX8_isKept_76 (v := 3) (by decide) ?_
  refine PW.isub (pc := 77) dX8_isKept_77 ?_
  refine PW.istore_n (pc := 78) dX8_isKept_78 (ls' := [.ref 277, .int x1, .int x2, .int ((43 + (3 * (mI M 317 42))) - 3)]) (by decide) rfl rfl ?_
  refine PW.aload_n (pc := 79) dX8_isKept_79 rfl ?_
  refine PW.getR (pc := 80) dX8_isKept_80 (r := 317) lf_X8_133 (ob hM.1 s_277 (by decide)) fx_8_52 (oR_8_52 hM s_277) (pS_ne s_317) ?_
  refine PW.iload_n (pc := 83) dX8_isKept_83 rfl ?_
  refine PW.aload_n (pc := 84) dX8_isKept_84 rfl ?_
  refine PW.getR (pc := 85) dX8_isKept_85 (r := 317) lf_X8_133 (ob hM.1 s_277 (by decide)) fx_8_52 (oR_8_52 hM s_277) (pS_ne s_317) ?_
  refine PW.iconst (pc := 88) dX8_isKept_88 (v := 0) (by decide) ?_
  refine PW.iald (pc := 89) dX8_isKept_89 (ar hM.1 s_317) (vpl n_317 (vp_c (i := 0) (n := 163) (by decide))) ?_
  obtain ⟨v1, h⟩ := h
  refine PW.iast (pc := 90) dX8_isKept_90 (ar hM.1 s_317) (vpl n_317 v1) ?_
  refine PW.aload_n (pc := 91) dX8_isKept_91 rfl ?_
  refine PW.getR (pc := 92) dX8_isKept_92 (r := 317) lf_X8_133 (ob hM.1 s_277 (by decide)) fx_8_52 (oR_8_52 (hM.same rfl rfl) s_277) (pS_ne s_317) ?_
  refine PW.iload_n (pc := 95) dX8_isKept_95 rfl ?_
  refine PW.iconst (pc := 96) dX8_isKept_96 (v := 1) (by decide) ?_
  refine PW.iadd (pc := 97) dX8_isKept_97 ?_
  refine PW.iload_n (pc := 98) dX8_isKept_98 rfl ?_
  obtain ⟨v2, h⟩ := h
  refine PW.iast (pc := 99) dX8_isKept_99 (ar hM.1 s_317) (vpl n_317 v2) ?_
  refine PW.aload_n (pc := 100) dX8_isKept_100 rfl ?_
  refine PW.getR (pc := 101) dX8_isKept_101 (r := 317) lf_X8_133 (ob hM.1 s_277 (by decide)) fx_8_52 (oR_8_52 (hM.same rfl rfl) s_277) (pS_ne s_317) ?_
  refine PW.iload_n (pc := 104) dX8_isKept_104 rfl ?_
  refine PW.iconst (pc := 105) dX8_isKept_105 (v := 2) (by decide) ?_
  refine PW.iadd (pc := 106) dX8_isKept_106 ?_
  refine PW.iload_n (pc := 107) dX8_isKept_107 rfl ?_
  obtain ⟨v3, h⟩ := h
  refine PW.iast (pc := 108) dX8_isKept_108 (ar hM.1 s_317) (vpl n_317 v3) ?_
  exact PW.ret0 (pc := 109) dX8_isKept_109 hM.1 rfl ⟨(hM.same rfl rfl), rfl, h⟩
def w_X8_isKept_23 : Nat → Int32 → Int32 → Int32 → pm → (Int32 → Int32 → pm → Prop) → (pm → Prop) → Prop
  | 0, _, _, _, _, _, _ => False
  | n + 1, x1, x2, x3, M, k50, Q => ((160 ≤ x3 → (k50 x1 x2 M)) ∧ (¬ 160 ≤ x3 → (vp_in (x3 + 3) 163 ∧ (vp_in x3 163 ∧ (w_X8_isKept_23 n x1 x2 (x3 + 1) (sI M 317 x3.toNatClampNeg (mI M 317 ((x3 + 3).toNatClampNeg))) k50 Q)))))
set_option maxRecDepth 4000 in
theorem c_X8_isKept_23 {k50 : Int32 → Int32 → pm → Prop} {Q : pm → Prop} (hk50 : ∀ (x1 : Int32) (x2 : Int32) (M : pm), pG M → k50 x1 x2 M → PW mX8_isKept 1 350 50 [.ref 277, .int x1, .int x2, .null] [] M (qV Q)) : ∀ (n : Nat) (x1 : Int32) (x2 : Int32) (x3 : Int32) (M : pm), pG M → w_X8_isKept_23 n x1 x2 x3 M k50 Q → PW mX8_isKept 1 350 23 [.ref 277, .int x1, .int x2, .int x3] [] M (qV Q) := by
  intro n
  induction n with
  | zero => intro x1 x2 x3 M hM h; exact h.elim
  | succ n ih =>
    intro x1 x2 x3 M hM h
    unfold w_X8_isKept_23 at h
    refine PW.iload_n (pc := 23) dX8_isKept_23 rfl ?_
    refine PW.sipush (pc := 24) dX8_isKept_24 (v := 160) (by decide) ?_
    refine PW.icmp_ge (pc := 27) dX8_isKept_27 (t := 50) (by decide) (fun hc => ?_) (fun hc => ?_)
    · have h := h.1 hc
      exact PW.drop (hk50 _ _ _ hM h) ⟨rfl, rfl, rfl, trivial⟩
    · have h := h.2 hc
      refine PW.aload_n (pc := 30) dX8_isKept_30 rfl ?_
      refine PW.getR (pc := 31) dX8_isKept_31 (r := 317) lf_X8_133 (ob hM.1 s_277 (by decide)) fx_8_52 (oR_8_52 hM s_277) (pS_ne s_317) ?_
      refine PW.iload_n (pc := 34) dX8_isKept_34 rfl ?_
      refine PW.aload_n (pc := 35) dX8_isKept_35 rfl ?_
      refine PW.getR (pc := 36) dX8_isKept_36 (r := 317) lf_X8_133 (ob hM.1 s_277 (by decide)) fx_8_52 (oR_8_52 hM s_277) (pS_ne s_317) ?_
      refine PW.iload_n (pc := 39) dX8_isKept_39 rfl ?_
      refine PW.iconst (pc := 40) dX8_isKept_40 (v := 3) (by decide) ?_
      refine PW.iadd (pc := 41) dX8_isKept_41 ?_
      obtain ⟨v4, h⟩ := h
      refine PW.iald (pc := 42) dX8_isKept_42 (ar hM.1 s_317) (vpl n_317 v4) ?_
      obtain ⟨v5, h⟩ := h
      refine PW.iast (pc := 43) dX8_isKept_43 (ar hM.1 s_317) (vpl n_317 v5) ?_
      refine PW.iinc (pc := 44) dX8_isKept_44 (v := (x3 + 1)) (ls' := [.ref 277, .int x1, .int x2, .int (x3 + 1)]) rfl rfl (by decide) rfl rfl ?_
      refine PW.goto (pc := 47) dX8_isKept_47 (t := 23) (by decide) ?_
      exact PW.drop (ih _ _ _ _ (hM.same rfl rfl) h) ⟨rfl, rfl, rfl, rfl, trivial⟩
def w_X8_isKept (x1 : Int32) (x2 : Int32) (M : pm) (Q : pm → Prop) : Prop := (((mI M 277 58) = 0 → ((¬ (mI M 317 42) = 40 → (w_X8_isKept_64 x1 x2 (sI M 317 42 ((mI M 317 42) + 1))  Q)) ∧ ((mI M 317 42) = 40 → (∃ n6, w_X8_isKept_23 n6 x1 x2 43 M (fun x1 x2 M7 => w_X8_isKept_64 x1 x2 M7  Q) Q)))) ∧ (¬ (mI M 277 58) = 0 → (Q M)))
set_option maxRecDepth 4000 in
theorem c_X8_isKept {x1 : Int32} {x2 : Int32} {M : pm} {Q : pm → Prop}  (hM : pG M) (h : w_X8_isKept x1 x2 M Q) : PW mX8_isKept 1 350 0 (pfr mX8_isKept.2.2.1 [.ref 277, .int x1, .int x2]) [] M (qV Q) := by
  unfold w_X8_isKept at h
  show PW mX8_isKept 1 350 0 [.ref 277, .int x1, .int x2, .null] [] M (qV Q)
  refine PW.aload_n (pc := 0) dX8_isKept_0 rfl ?_
  refine PW.getI (pc := 1) dX8_isKept_1 lf_X8_461 (ob hM.1 s_277 (by decide)) fx_8_58 ?_
  refine PW.if_eq (pc := 4) dX8_isKept_4 (t := 8) (by decide) (fun hc => ?_) (fun hc => ?_)
  · have h := h.1 hc
    refine PW.aload_n (pc := 8) dX8_isKept_8 rfl ?_
    refine PW.getR (pc := 9) dX8_isKept_9 (r := 317) lf_X8_133 (ob hM.1 s_277 (by decide)) fx_8_52 (oR_8_52 hM s_277) (pS_ne s_317) ?_
    refine PW.bipush (pc := 12) dX8_isKept_12 (v := 42) (by decide) ?_
    refine PW.iald (pc := 14) dX8_isKept_14 (ar hM.1 s_317) (vpl n_317 (vp_c (i := 42) (n := 163) (by decide))) ?_
    refine PW.bipush (pc := 15) dX8_isKept_15 (v := 40) (by decide) ?_
    refine PW.icmp_ne (pc := 17) dX8_isKept_17 (t := 53) (by decide) (fun hc => ?_) (fun hc => ?_)
    · have h := h.1 hc
      refine PW.aload_n (pc := 53) dX8_isKept_53 rfl ?_
      refine PW.getR (pc := 54) dX8_isKept_54 (r := 317) lf_X8_133 (ob hM.1 s_277 (by decide)) fx_8_52 (oR_8_52 hM s_277) (pS_ne s_317) ?_
      refine PW.bipush (pc := 57) dX8_isKept_57 (v := 42) (by decide) ?_
      refine PW.dup2IR (pc := 59) dX8_isKept_59 ?_
      refine PW.iald (pc := 60) dX8_isKept_60 (ar hM.1 s_317) (vpl n_317 (vp_c (i := 42) (n := 163) (by decide))) ?_
      refine PW.iconst (pc := 61) dX8_isKept_61 (v := 1) (by decide) ?_
      refine PW.iadd (pc := 62) dX8_isKept_62 ?_
      refine PW.iast (pc := 63) dX8_isKept_63 (ar hM.1 s_317) (vpl n_317 (vp_c (i := 42) (n := 163) (by decide))) ?_
      exact PW.drop (c_X8_isKept_64  _ _ _ (hM.same rfl rfl) h) ⟨rfl, rfl, rfl, trivial⟩
    · have h := h.2 hc
      refine PW.bipush (pc := 20) dX8_isKept_20 (v := 43) (by decide) ?_
      refine PW.istore_n (pc := 22) dX8_isKept_22 (ls' := [.ref 277, .int x1, .int x2, .int 43]) (by decide) rfl rfl ?_
      obtain ⟨n6, h⟩ := h
      refine PW.drop (c_X8_isKept_23 ?_ n6 _ _ _ _ hM h) ⟨rfl, rfl, rfl, rfl, trivial⟩
      · intro x1 x2 M7 hM h
        refine PW.goto (pc := 50) dX8_isKept_50 (t := 64) (by decide) ?_
        exact PW.drop (c_X8_isKept_64  _ _ _ hM h) ⟨rfl, rfl, rfl, trivial⟩
  · have h := h.2 hc
    exact PW.ret0 (pc := 7) dX8_isKept_7 hM.1 rfl ⟨hM, rfl, h⟩
def w_X8_dayBy_2 : Nat → Int32 → Int32 → pm → (Int32 → pm → Prop) → (pm → Prop) → Prop
  | 0, _, _, _, _, _ => False
  | n + 1, x1, x2, M, k71, Q => w_X8_askerMany  M (fun y2 M1 => ((y2 ≤ x2 → (k71 x1 M1)) ∧ (¬ y2 ≤ x2 → ((¬ ((x1 >>> (x2 &&& 31)) &&& 1) = 0 → (vp_in (5 + (5 * x2)) 163 ∧ (w_X8_playedOf x2 (sI M1 317 ((5 + (5 * x2)).toNatClampNeg) ((mI M1 317 0) + 1)) (fun y6 M5 => ((999 ≤ y6 → (w_X8_dayBy_2 n x1 (x2 + 1) M5 k71 Q)) ∧ (¬ 999 ≤ y6 → (vp_in (6 + (5 * x2)) 163 ∧ (vp_in (6 + (5 * x2)) 163 ∧ (w_X8_dayBy_2 n x1 (x2 + 1) (sI M5 317 ((6 + (5 * x2)).toNatClampNeg) ((mI M5 317 ((6 + (5 * x2)).toNatClampNeg)) + 1)) k71 Q))))))))) ∧ (((x1 >>> (x2 &&& 31)) &&& 1) = 0 → (w_X8_dayBy_2 n x1 (x2 + 1) M1 k71 Q))))))
set_option maxRecDepth 4000 in
theorem c_X8_dayBy_2 {k71 : Int32 → pm → Prop} {Q : pm → Prop} (hk71 : ∀ (x1 : Int32) (M : pm), pG M → k71 x1 M → PW mX8_dayBy 7 350 71 [.ref 277, .int x1, .null, .null, .null] [] M (qV Q)) : ∀ (n : Nat) (x1 : Int32) (x2 : Int32) (M : pm), pG M → w_X8_dayBy_2 n x1 x2 M k71 Q → PW mX8_dayBy 7 350 2 [.ref 277, .int x1, .int x2, .null, .null] [] M (qV Q) := by
  intro n
  induction n with
  | zero => intro x1 x2 M hM h; exact h.elim
  | succ n ih =>
    intro x1 x2 M hM h
    unfold w_X8_dayBy_2 at h
    refine PW.iload_n (pc := 2) dX8_dayBy_2 rfl ?_
    refine PW.aload_n (pc := 3) dX8_dayBy_3 rfl ?_
    refine PW.inv (m' := mX8_askerMany) (pc := 4) dX8_dayBy_4 lm_X8_395 me_X8_askerMany mi_X8_askerMany (ob hM.1 s_277 (by decide)) rfl (As := []) (st := [.int x2]) rfl (Nat.le_of_ble_eq_true rfl) (Nat.le_of_ble_eq_true rfl) (Nat.le_of_eq hM.1) (Nat.le_refl _) (PW.deep (by decide) (c_X8_askerMany  hM h)) ?_
    rintro _ M1 ⟨hM3, y2, rfl, h⟩
    refine PW.icmp_ge (pc := 7) dX8_dayBy_7 (t := 71) (by decide) (fun hc => ?_) (fun hc => ?_)
    · have h := h.1 hc
      exact PW.drop (hk71 _ _ hM3 h) ⟨rfl, rfl, trivial⟩
    · have h := h.2 hc
      refine PW.iload_n (pc := 10) dX8_dayBy_10 rfl ?_
      refine PW.iload_n (pc := 11) dX8_dayBy_11 rfl ?_
      refine PW.ishr (pc := 12) dX8_dayBy_12 ?_
      refine PW.iconst (pc := 13) dX8_dayBy_13 (v := 1) (by decide) ?_
      refine PW.iand (pc := 14) dX8_dayBy_14 ?_
      refine PW.if_ne (pc := 15) dX8_dayBy_15 (t := 21) (by decide) (fun hc => ?_) (fun hc => ?_)
      · have h := h.1 hc
        refine PW.aload_n (pc := 21) dX8_dayBy_21 rfl ?_
        refine PW.getR (pc := 22) dX8_dayBy_22 (r := 317) lf_X8_133 (ob hM3.1 s_277 (by decide)) fx_8_52 (oR_8_52 hM3 s_277) (pS_ne s_317) ?_
        refine PW.iconst (pc := 25) dX8_dayBy_25 (v := 5) (by decide) ?_
        refine PW.iconst (pc := 26) dX8_dayBy_26 (v := 5) (by decide) ?_
        refine PW.iload_n (pc := 27) dX8_dayBy_27 rfl ?_
        refine PW.imul (pc := 28) dX8_dayBy_28 ?_
        refine PW.iadd (pc := 29) dX8_dayBy_29 ?_
        refine PW.aload_n (pc := 30) dX8_dayBy_30 rfl ?_
        refine PW.getR (pc := 31) dX8_dayBy_31 (r := 317) lf_X8_133 (ob hM3.1 s_277 (by decide)) fx_8_52 (oR_8_52 hM3 s_277) (pS_ne s_317) ?_
        refine PW.iconst (pc := 34) dX8_dayBy_34 (v := 0) (by decide) ?_
        refine PW.iald (pc := 35) dX8_dayBy_35 (ar hM3.1 s_317) (vpl n_317 (vp_c (i := 0) (n := 163) (by decide))) ?_
        refine PW.iconst (pc := 36) dX8_dayBy_36 (v := 1) (by decide) ?_
        refine PW.iadd (pc := 37) dX8_dayBy_37 ?_
        obtain ⟨v4, h⟩ := h
        refine PW.iast (pc := 38) dX8_dayBy_38 (ar hM3.1 s_317) (vpl n_317 v4) ?_
        refine PW.aload_n (pc := 39) dX8_dayBy_39 rfl ?_
        refine PW.iload_n (pc := 40) dX8_dayBy_40 rfl ?_
        refine PW.inv (m' := mX8_playedOf) (pc := 41) dX8_dayBy_41 lm_X8_464 me_X8_playedOf mi_X8_playedOf (ob hM3.1 s_277 (by decide)) rfl (As := [.int x2]) (st := []) rfl (Nat.le_of_ble_eq_true rfl) (Nat.le_of_ble_eq_true rfl) (Nat.le_of_eq hM3.1) (Nat.le_refl _) (PW.deep (by decide) (c_X8_playedOf  (hM3.same rfl rfl) h)) ?_
        rintro _ M5 ⟨hM7, y6, rfl, h⟩
        refine PW.sipush (pc := 44) dX8_dayBy_44 (v := 999) (by decide) ?_
        refine PW.icmp_ge (pc := 47) dX8_dayBy_47 (t := 65) (by decide) (fun hc => ?_) (fun hc => ?_)
        · have h := h.1 hc
          refine PW.iinc (pc := 65) dX8_dayBy_65 (v := (x2 + 1)) (ls' := [.ref 277, .int x1, .int (x2 + 1), .null, .null]) rfl rfl (by decide) rfl rfl ?_
          refine PW.goto (pc := 68) dX8_dayBy_68 (t := 2) (by decide) ?_
          exact PW.drop (ih _ _ _ hM7 h) ⟨rfl, rfl, rfl, trivial⟩
        · have h := h.2 hc
          refine PW.aload_n (pc := 50) dX8_dayBy_50 rfl ?_
          refine PW.getR (pc := 51) dX8_dayBy_51 (r := 317) lf_X8_133 (ob hM7.1 s_277 (by decide)) fx_8_52 (oR_8_52 hM7 s_277) (pS_ne s_317) ?_
          refine PW.bipush (pc := 54) dX8_dayBy_54 (v := 6) (by decide) ?_
          refine PW.iconst (pc := 56) dX8_dayBy_56 (v := 5) (by decide) ?_
          refine PW.iload_n (pc := 57) dX8_dayBy_57 rfl ?_
          refine PW.imul (pc := 58) dX8_dayBy_58 ?_
          refine PW.iadd (pc := 59) dX8_dayBy_59 ?_
          refine PW.dup2IR (pc := 60) dX8_dayBy_60 ?_
          obtain ⟨v8, h⟩ := h
          refine PW.iald (pc := 61) dX8_dayBy_61 (ar hM7.1 s_317) (vpl n_317 v8) ?_
          refine PW.iconst (pc := 62) dX8_dayBy_62 (v := 1) (by decide) ?_
          refine PW.iadd (pc := 63) dX8_dayBy_63 ?_
          obtain ⟨v9, h⟩ := h
          refine PW.iast (pc := 64) dX8_dayBy_64 (ar hM7.1 s_317) (vpl n_317 v9) ?_
          refine PW.iinc (pc := 65) dX8_dayBy_65 (v := (x2 + 1)) (ls' := [.ref 277, .int x1, .int (x2 + 1), .null, .null]) rfl rfl (by decide) rfl rfl ?_
          refine PW.goto (pc := 68) dX8_dayBy_68 (t := 2) (by decide) ?_
          exact PW.drop (ih _ _ _ (hM7.same rfl rfl) h) ⟨rfl, rfl, rfl, trivial⟩
      · have h := h.2 hc
        refine PW.goto (pc := 18) dX8_dayBy_18 (t := 65) (by decide) ?_
        refine PW.iinc (pc := 65) dX8_dayBy_65 (v := (x2 + 1)) (ls' := [.ref 277, .int x1, .int (x2 + 1), .null, .null]) rfl rfl (by decide) rfl rfl ?_
        refine PW.goto (pc := 68) dX8_dayBy_68 (t := 2) (by decide) ?_
        exact PW.drop (ih _ _ _ hM3 h) ⟨rfl, rfl, rfl, trivial⟩
def w_X8_dayBy_118 : Nat → Int32 → Int32 → Int32 → pm → (Int32 → Int32 → pm → Prop) → (pm → Prop) → Prop
  | 0, _, _, _, _, _, _ => False
  | n + 1, x1, x3, x4, M, k159, Q => w_X8_askerMany  M (fun y16 M15 => ((y16 ≤ x4 → (k159 x1 x3 M15)) ∧ (¬ y16 ≤ x4 → (w_X8_isDead x4 M15 (fun y19 M18 => ((y19 = 0 → (w_X8_dayBy_118 n x1 x3 (x4 + 1) M18 k159 Q)) ∧ (¬ y19 = 0 → (w_X8_fadedOf x4 M18 (fun y23 M22 => vp_in (4 + (5 * x4)) 163 ∧ (w_X8_dayBy_118 n x1 x3 (x4 + 1) (sI M22 317 ((4 + (5 * x4)).toNatClampNeg) y23) k159 Q))))))))))
set_option maxRecDepth 4000 in
theorem c_X8_dayBy_118 {k159 : Int32 → Int32 → pm → Prop} {Q : pm → Prop} (hk159 : ∀ (x1 : Int32) (x3 : Int32) (M : pm), pG M → k159 x1 x3 M → PW mX8_dayBy 7 350 159 [.ref 277, .int x1, .null, .int x3, .null] [] M (qV Q)) : ∀ (n : Nat) (x1 : Int32) (x3 : Int32) (x4 : Int32) (M : pm), pG M → w_X8_dayBy_118 n x1 x3 x4 M k159 Q → PW mX8_dayBy 7 350 118 [.ref 277, .int x1, .null, .int x3, .int x4] [] M (qV Q) := by
  intro n
  induction n with
  | zero => intro x1 x3 x4 M hM h; exact h.elim
  | succ n ih =>
    intro x1 x3 x4 M hM h
    unfold w_X8_dayBy_118 at h
    refine PW.iload (pc := 118) dX8_dayBy_118 rfl ?_
    refine PW.aload_n (pc := 120) dX8_dayBy_120 rfl ?_
    refine PW.inv (m' := mX8_askerMany) (pc := 121) dX8_dayBy_121 lm_X8_395 me_X8_askerMany mi_X8_askerMany (ob hM.1 s_277 (by decide)) rfl (As := []) (st := [.int x4]) rfl (Nat.le_of_ble_eq_true rfl) (Nat.le_of_ble_eq_true rfl) (Nat.le_of_eq hM.1) (Nat.le_refl _) (PW.deep (by decide) (c_X8_askerMany  hM h)) ?_
    rintro _ M15 ⟨hM17, y16, rfl, h⟩
    refine PW.icmp_ge (pc := 124) dX8_dayBy_124 (t := 159) (by decide) (fun hc => ?_) (fun hc => ?_)
    · have h := h.1 hc
      exact PW.drop (hk159 _ _ _ hM17 h) ⟨rfl, rfl, rfl, trivial⟩
    · have h := h.2 hc
      refine PW.aload_n (pc := 127) dX8_dayBy_127 rfl ?_
      refine PW.iload (pc := 128) dX8_dayBy_128 rfl ?_
      refine PW.inv (m' := mX8_isDead) (pc := 130) dX8_dayBy_130 lm_X8_405 me_X8_isDead mi_X8_isDead (ob hM17.1 s_277 (by decide)) rfl (As := [.int x4]) (st := []) rfl (Nat.le_of_ble_eq_true rfl) (Nat.le_of_ble_eq_true rfl) (Nat.le_of_eq hM17.1) (Nat.le_refl _) (PW.deep (by decide) (c_X8_isDead  hM17 h)) ?_
      rintro _ M18 ⟨hM20, y19, rfl, z21, h⟩
      refine PW.if_eq (pc := 133) dX8_dayBy_133 (t := 153) (by decide) (fun hc => ?_) (fun hc => ?_)
      · have h := h.1 hc
        refine PW.iinc (pc := 153) dX8_dayBy_153 (v := (x4 + 1)) (ls' := [.ref 277, .int x1, .null, .int x3, .int (x4 + 1)]) rfl rfl (by decide) rfl rfl ?_
        refine PW.goto (pc := 156) dX8_dayBy_156 (t := 118) (by decide) ?_
        exact PW.drop (ih _ _ _ _ hM20 h) ⟨rfl, rfl, rfl, rfl, trivial⟩
      · have h := h.2 hc
        refine PW.aload_n (pc := 136) dX8_dayBy_136 rfl ?_
        refine PW.getR (pc := 137) dX8_dayBy_137 (r := 317) lf_X8_133 (ob hM20.1 s_277 (by decide)) fx_8_52 (oR_8_52 hM20 s_277) (pS_ne s_317) ?_
        refine PW.iconst (pc := 140) dX8_dayBy_140 (v := 4) (by decide) ?_
        refine PW.iconst (pc := 141) dX8_dayBy_141 (v := 5) (by decide) ?_
        refine PW.iload (pc := 142) dX8_dayBy_142 rfl ?_
        refine PW.imul (pc := 144) dX8_dayBy_144 ?_
        refine PW.iadd (pc := 145) dX8_dayBy_145 ?_
        refine PW.aload_n (pc := 146) dX8_dayBy_146 rfl ?_
        refine PW.iload (pc := 147) dX8_dayBy_147 rfl ?_
        refine PW.inv (m' := mX8_fadedOf) (pc := 149) dX8_dayBy_149 lm_X8_467 me_X8_fadedOf mi_X8_fadedOf (ob hM20.1 s_277 (by decide)) rfl (As := [.int x4]) (st := [.int (4 + (5 * x4)), .ref 317]) rfl (Nat.le_of_ble_eq_true rfl) (Nat.le_of_ble_eq_true rfl) (Nat.le_of_eq hM20.1) (Nat.le_refl _) (PW.deep (by decide) (c_X8_fadedOf  hM20 h)) ?_
        rintro _ M22 ⟨hM24, y23, rfl, h⟩
        obtain ⟨v25, h⟩ := h
        refine PW.iast (pc := 152) dX8_dayBy_152 (ar hM24.1 s_317) (vpl n_317 v25) ?_
        refine PW.iinc (pc := 153) dX8_dayBy_153 (v := (x4 + 1)) (ls' := [.ref 277, .int x1, .null, .int x3, .int (x4 + 1)]) rfl rfl (by decide) rfl rfl ?_
        refine PW.goto (pc := 156) dX8_dayBy_156 (t := 118) (by decide) ?_
        exact PW.drop (ih _ _ _ _ (hM24.same rfl rfl) h) ⟨rfl, rfl, rfl, rfl, trivial⟩
def w_X8_dayBy (x1 : Int32) (M : pm) (Q : pm → Prop) : Prop := ∃ n10, w_X8_dayBy_2 n10 x1 0 M (fun x1 M11 => w_X8_minutesOf x1 M11 (fun y13 M12 => (((mI M12 317 1) ≤ ((mI M11 308 3) - y13) → (∃ n26, w_X8_dayBy_118 n26 x1 (mI M12 317 1) 0 (sI M12 317 1 ((mI M12 317 1) - (mI M12 317 1))) (fun x1 x3 M27 => w_X8_bits x1 M27 (fun y29 M28 => w_X8_isKept x1 x3 (sI M28 277 59 ((mI M27 277 59) + y29)) (fun M31 => Q (sI M31 317 0 ((mI M31 317 0) + 1))))) Q)) ∧ (¬ (mI M12 317 1) ≤ ((mI M11 308 3) - y13) → (∃ n34, w_X8_dayBy_118 n34 x1 ((mI M11 308 3) - y13) 0 (sI M12 317 1 ((mI M12 317 1) - ((mI M11 308 3) - y13))) (fun x1 x3 M35 => w_X8_bits x1 M35 (fun y37 M36 => w_X8_isKept x1 x3 (sI M36 277 59 ((mI M35 277 59) + y37)) (fun M39 => Q (sI M39 317 0 ((mI M39 317 0) + 1))))) Q))))) Q
set_option maxRecDepth 4000 in
theorem c_X8_dayBy {x1 : Int32} {M : pm} {Q : pm → Prop}  (hM : pG M) (h : w_X8_dayBy x1 M Q) : PW mX8_dayBy 7 350 0 (pfr mX8_dayBy.2.2.1 [.ref 277, .int x1]) [] M (qV Q) := by
  unfold w_X8_dayBy at h
  show PW mX8_dayBy 7 350 0 [.ref 277, .int x1, .null, .null, .null] [] M (qV Q)
  refine PW.iconst (pc := 0) dX8_dayBy_0 (v := 0) (by decide) ?_
  refine PW.istore_n (pc := 1) dX8_dayBy_1 (ls' := [.ref 277, .int x1, .int 0, .null, .null]) (by decide) rfl rfl ?_
  obtain ⟨n10, h⟩ := h
  refine PW.drop (c_X8_dayBy_2 ?_ n10 _ _ _ hM h) ⟨rfl, rfl, rfl, trivial⟩
  · intro x1 M11 hM h
    refine PW.aload_n (pc := 71) dX8_dayBy_71 rfl ?_
    refine PW.getR (pc := 72) dX8_dayBy_72 (r := 308) lf_X8_105 (ob hM.1 s_277 (by decide)) fx_8_39 (oR_8_39 hM s_277) (pS_ne s_308) ?_
    refine PW.iconst (pc := 75) dX8_dayBy_75 (v := 3) (by decide) ?_
    refine PW.iald (pc := 76) dX8_dayBy_76 (ar hM.1 s_308) (vpl n_308 (vp_c (i := 3) (n := 6) (by decide))) ?_
    refine PW.aload_n (pc := 77) dX8_dayBy_77 rfl ?_
    refine PW.iload_n (pc := 78) dX8_dayBy_78 rfl ?_
    refine PW.inv (m' := mX8_minutesOf) (pc := 79) dX8_dayBy_79 lm_X8_455 me_X8_minutesOf mi_X8_minutesOf (ob hM.1 s_277 (by decide)) rfl (As := [.int x1]) (st := [.int (mI M11 308 3)]) rfl (Nat.le_of_ble_eq_true rfl) (Nat.le_of_ble_eq_true rfl) (Nat.le_of_eq hM.1) (Nat.le_refl _) (PW.deep (by decide) (c_X8_minutesOf  hM h)) ?_
    rintro _ M12 ⟨hM14, y13, rfl, h⟩
    refine PW.isub (pc := 82) dX8_dayBy_82 ?_
    refine PW.istore_n (pc := 83) dX8_dayBy_83 (ls' := [.ref 277, .int x1, .int ((mI M11 308 3) - y13), .null, .null]) (by decide) rfl rfl ?_
    refine PW.iload_n (pc := 84) dX8_dayBy_84 rfl ?_
    refine PW.aload_n (pc := 85) dX8_dayBy_85 rfl ?_
    refine PW.getR (pc := 86) dX8_dayBy_86 (r := 317) lf_X8_133 (ob hM14.1 s_277 (by decide)) fx_8_52 (oR_8_52 hM14 s_277) (pS_ne s_317) ?_
    refine PW.iconst (pc := 89) dX8_dayBy_89 (v := 1) (by decide) ?_
    refine PW.iald (pc := 90) dX8_dayBy_90 (ar hM14.1 s_317) (vpl n_317 (vp_c (i := 1) (n := 163) (by decide))) ?_
    refine PW.icmp_ge (pc := 91) dX8_dayBy_91 (t := 98) (by decide) (fun hc => ?_) (fun hc => ?_)
    · have h := h.1 hc
      refine PW.aload_n (pc := 98) dX8_dayBy_98 rfl ?_
      refine PW.getR (pc := 99) dX8_dayBy_99 (r := 317) lf_X8_133 (ob hM14.1 s_277 (by decide)) fx_8_52 (oR_8_52 hM14 s_277) (pS_ne s_317) ?_
      refine PW.iconst (pc := 102) dX8_dayBy_102 (v := 1) (by decide) ?_
      refine PW.iald (pc := 103) dX8_dayBy_103 (ar hM14.1 s_317) (vpl n_317 (vp_c (i := 1) (n := 163) (by decide))) ?_
      refine PW.istore_n (pc := 104) dX8_dayBy_104 (ls' := [.ref 277, .int x1, .int ((mI M11 308 3) - y13), .int (mI M12 317 1), .null]) (by decide) rfl rfl ?_
      refine PW.aload_n (pc := 105) dX8_dayBy_105 rfl ?_
      refine PW.getR (pc := 106) dX8_dayBy_106 (r := 317) lf_X8_133 (ob hM14.1 s_277 (by decide)) fx_8_52 (oR_8_52 hM14 s_277) (pS_ne s_317) ?_
      refine PW.iconst (pc := 109) dX8_dayBy_109 (v := 1) (by decide) ?_
      refine PW.dup2IR (pc := 110) dX8_dayBy_110 ?_
      refine PW.iald (pc := 111) dX8_dayBy_111 (ar hM14.1 s_317) (vpl n_317 (vp_c (i := 1) (n := 163) (by decide))) ?_
      refine PW.iload_n (pc := 112) dX8_dayBy_112 rfl ?_
      refine PW.isub (pc := 113) dX8_dayBy_113 ?_
      refine PW.iast (pc := 114) dX8_dayBy_114 (ar hM14.1 s_317) (vpl n_317 (vp_c (i := 1) (n := 163) (by decide))) ?_
      refine PW.iconst (pc := 115) dX8_dayBy_115 (v := 0) (by decide) ?_
      refine PW.istore (pc := 116) dX8_dayBy_116 (ls' := [.ref 277, .int x1, .int ((mI M11 308 3) - y13), .int (mI M12 317 1), .int 0]) (by decide) rfl rfl ?_
      obtain ⟨n26, h⟩ := h
      refine PW.drop (c_X8_dayBy_118 ?_ n26 _ _ _ _ (hM14.same rfl rfl) h) ⟨rfl, rfl, rfl, rfl, trivial⟩
      · intro x1 x3 M27 hM h
        refine PW.aload_n (pc := 159) dX8_dayBy_159 rfl ?_
        refine PW.dupR (pc := 160) dX8_dayBy_160 ?_
        refine PW.getI (pc := 161) dX8_dayBy_161 lf_X8_470 (ob hM.1 s_277 (by decide)) fx_8_59 ?_
        refine PW.iload_n (pc := 164) dX8_dayBy_164 rfl ?_
        refine PW.ins (m' := mX8_bits) (pc := 165) dX8_dayBy_165 lm_X8_473 me_X8_bits ms_X8_bits (As := [.int x1]) (st := [.int (mI M27 277 59), .ref 277]) rfl (Nat.le_of_ble_eq_true rfl) (Nat.le_of_ble_eq_true rfl) (Nat.le_of_eq hM.1) (Nat.le_refl _) (PW.deep (by decide) (c_X8_bits  hM h)) ?_
        rintro _ M28 ⟨hM30, y29, rfl, h⟩
        refine PW.iadd (pc := 168) dX8_dayBy_168 ?_
        refine PW.putI (pc := 169) dX8_dayBy_169 lf_X8_470 (ob hM30.1 s_277 (by decide)) fx_8_59 fw_8_59 rfl rfl ?_
        refine PW.aload_n (pc := 172) dX8_dayBy_172 rfl ?_
        refine PW.iload_n (pc := 173) dX8_dayBy_173 rfl ?_
        refine PW.iload_n (pc := 174) dX8_dayBy_174 rfl ?_
        refine PW.inv (m' := mX8_isKept) (pc := 175) dX8_dayBy_175 lm_X8_476 me_X8_isKept mi_X8_isKept (ob hM30.1 s_277 (by decide)) rfl (As := [.int x1, .int x3]) (st := []) rfl (Nat.le_of_ble_eq_true rfl) (Nat.le_of_ble_eq_true rfl) (Nat.le_of_eq hM30.1) (Nat.le_refl _) (PW.deep (by decide) (c_X8_isKept  (hM30.same rfl rfl) h)) ?_
        rintro _ M31 ⟨hM33, rfl, h⟩
        refine PW.aload_n (pc := 178) dX8_dayBy_178 rfl ?_
        refine PW.getR (pc := 179) dX8_dayBy_179 (r := 317) lf_X8_133 (ob hM33.1 s_277 (by decide)) fx_8_52 (oR_8_52 hM33 s_277) (pS_ne s_317) ?_
        refine PW.iconst (pc := 182) dX8_dayBy_182 (v := 0) (by decide) ?_
        refine PW.dup2IR (pc := 183) dX8_dayBy_183 ?_
        refine PW.iald (pc := 184) dX8_dayBy_184 (ar hM33.1 s_317) (vpl n_317 (vp_c (i := 0) (n := 163) (by decide))) ?_
        refine PW.iconst (pc := 185) dX8_dayBy_185 (v := 1) (by decide) ?_
        refine PW.iadd (pc := 186) dX8_dayBy_186 ?_
        refine PW.iast (pc := 187) dX8_dayBy_187 (ar hM33.1 s_317) (vpl n_317 (vp_c (i := 0) (n := 163) (by decide))) ?_
        exact PW.ret0 (pc := 188) dX8_dayBy_188 hM33.1 rfl ⟨(hM33.same rfl rfl), rfl, h⟩
    · have h := h.2 hc
      refine PW.iload_n (pc := 94) dX8_dayBy_94 rfl ?_
      refine PW.goto (pc := 95) dX8_dayBy_95 (t := 104) (by decide) ?_
      refine PW.istore_n (pc := 104) dX8_dayBy_104 (ls' := [.ref 277, .int x1, .int ((mI M11 308 3) - y13), .int ((mI M11 308 3) - y13), .null]) (by decide) rfl rfl ?_
      refine PW.aload_n (pc := 105) dX8_dayBy_105 rfl ?_
      refine PW.getR (pc := 106) dX8_dayBy_106 (r := 317) lf_X8_133 (ob hM14.1 s_277 (by decide)) fx_8_52 (oR_8_52 hM14 s_277) (pS_ne s_317) ?_
      refine PW.iconst (pc := 109) dX8_dayBy_109 (v := 1) (by decide) ?_
      refine PW.dup2IR (pc := 110) dX8_dayBy_110 ?_
      refine PW.iald (pc := 111) dX8_dayBy_111 (ar hM14.1 s_317) (vpl n_317 (vp_c (i := 1) (n := 163) (by decide))) ?_
      refine PW.iload_n (pc := 112) dX8_dayBy_112 rfl ?_
      refine PW.isub (pc := 113) dX8_dayBy_113 ?_
      refine PW.iast (pc := 114) dX8_dayBy_114 (ar hM14.1 s_317) (vpl n_317 (vp_c (i := 1) (n := 163) (by decide))) ?_
      refine PW.iconst (pc := 115) dX8_dayBy_115 (v := 0) (by decide) ?_
      refine PW.istore (pc := 116) dX8_dayBy_116 (ls' := [.ref 277, .int x1, .int ((mI M11 308 3) - y13), .int ((mI M11 308 3) - y13), .int 0]) (by decide) rfl rfl ?_
      obtain ⟨n34, h⟩ := h
      refine PW.drop (c_X8_dayBy_118 ?_ n34 _ _ _ _ (hM14.same rfl rfl) h) ⟨rfl, rfl, rfl, rfl, trivial⟩
      · intro x1 x3 M35 hM h
        refine PW.aload_n (pc := 159) dX8_dayBy_159 rfl ?_
        refine PW.dupR (pc := 160) dX8_dayBy_160 ?_
        refine PW.getI (pc := 161) dX8_dayBy_161 lf_X8_470 (ob hM.1 s_277 (by decide)) fx_8_59 ?_
        refine PW.iload_n (pc := 164) dX8_dayBy_164 rfl ?_
        refine PW.ins (m' := mX8_bits) (pc := 165) dX8_dayBy_165 lm_X8_473 me_X8_bits ms_X8_bits (As := [.int x1]) (st := [.int (mI M35 277 59), .ref 277]) rfl (Nat.le_of_ble_eq_true rfl) (Nat.le_of_ble_eq_true rfl) (Nat.le_of_eq hM.1) (Nat.le_refl _) (PW.deep (by decide) (c_X8_bits  hM h)) ?_
        rintro _ M36 ⟨hM38, y37, rfl, h⟩
        refine PW.iadd (pc := 168) dX8_dayBy_168 ?_
        refine PW.putI (pc := 169) dX8_dayBy_169 lf_X8_470 (ob hM38.1 s_277 (by decide)) fx_8_59 fw_8_59 rfl rfl ?_
        refine PW.aload_n (pc := 172) dX8_dayBy_172 rfl ?_
        refine PW.iload_n (pc := 173) dX8_dayBy_173 rfl ?_
        refine PW.iload_n (pc := 174) dX8_dayBy_174 rfl ?_
        refine PW.inv (m' := mX8_isKept) (pc := 175) dX8_dayBy_175 lm_X8_476 me_X8_isKept mi_X8_isKept (ob hM38.1 s_277 (by decide)) rfl (As := [.int x1, .int x3]) (st := []) rfl (Nat.le_of_ble_eq_true rfl) (Nat.le_of_ble_eq_true rfl) (Nat.le_of_eq hM38.1) (Nat.le_refl _) (PW.deep (by decide) (c_X8_isKept  (hM38.same rfl rfl) h)) ?_
        rintro _ M39 ⟨hM41, rfl, h⟩
        refine PW.aload_n (pc := 178) dX8_dayBy_178 rfl ?_
        refine PW.getR (pc := 179) dX8_dayBy_179 (r := 317) lf_X8_133 (ob hM41.1 s_277 (by decide)) fx_8_52 (oR_8_52 hM41 s_277) (pS_ne s_317) ?_
        refine PW.iconst (pc := 182) dX8_dayBy_182 (v := 0) (by decide) ?_
        refine PW.dup2IR (pc := 183) dX8_dayBy_183 ?_
        refine PW.iald (pc := 184) dX8_dayBy_184 (ar hM41.1 s_317) (vpl n_317 (vp_c (i := 0) (n := 163) (by decide))) ?_
        refine PW.iconst (pc := 185) dX8_dayBy_185 (v := 1) (by decide) ?_
        refine PW.iadd (pc := 186) dX8_dayBy_186 ?_
        refine PW.iast (pc := 187) dX8_dayBy_187 (ar hM41.1 s_317) (vpl n_317 (vp_c (i := 0) (n := 163) (by decide))) ?_
        exact PW.ret0 (pc := 188) dX8_dayBy_188 hM41.1 rfl ⟨(hM41.same rfl rfl), rfl, h⟩
def w_X8_dayGoes  (M : pm) (Q : pm → Prop) : Prop := w_X8_laysBest  M (fun M1 => w_X8_dayBy (mI M1 277 56) M1 (fun M4 => Q M4))
set_option maxRecDepth 4000 in
theorem c_X8_dayGoes  {M : pm} {Q : pm → Prop}  (hM : pG M) (h : w_X8_dayGoes  M Q) : PW mX8_dayGoes 9 350 0 (pfr mX8_dayGoes.2.2.1 [.ref 277]) [] M (qV Q) := by
  unfold w_X8_dayGoes at h
  show PW mX8_dayGoes 9 350 0 [.ref 277] [] M (qV Q)
  refine PW.aload_n (pc := 0) dX8_dayGoes_0 rfl ?_
  refine PW.inv (m' := mX8_laysBest) (pc := 1) dX8_dayGoes_1 lm_X8_479 me_X8_laysBest mi_X8_laysBest (ob hM.1 s_277 (by decide)) rfl (As := []) (st := []) rfl (Nat.le_of_ble_eq_true rfl) (Nat.le_of_ble_eq_true rfl) (Nat.le_of_eq hM.1) (Nat.le_refl _) (PW.deep (by decide) (c_X8_laysBest  hM h)) ?_
  rintro _ M1 ⟨hM3, rfl, h⟩
  refine PW.aload_n (pc := 4) dX8_dayGoes_4 rfl ?_
  refine PW.aload_n (pc := 5) dX8_dayGoes_5 rfl ?_
  refine PW.getI (pc := 6) dX8_dayGoes_6 lf_X8_449 (ob hM3.1 s_277 (by decide)) fx_8_56 ?_
  refine PW.inv (m' := mX8_dayBy) (pc := 9) dX8_dayGoes_9 lm_X8_482 me_X8_dayBy mi_X8_dayBy (ob hM3.1 s_277 (by decide)) rfl (As := [.int (mI M1 277 56)]) (st := []) rfl (Nat.le_of_ble_eq_true rfl) (Nat.le_of_ble_eq_true rfl) (Nat.le_of_eq hM3.1) (Nat.le_refl _) (PW.deep (by decide) (c_X8_dayBy  hM3 h)) ?_
  rintro _ M4 ⟨hM6, rfl, h⟩
  exact PW.ret0 (pc := 12) dX8_dayGoes_12 hM6.1 rfl ⟨hM6, rfl, h⟩
def w_X8_daysGo_2 : Nat → Int32 → Int32 → pm → (pm → Prop) → Prop
  | 0, _, _, _, _ => False
  | n + 1, x1, x2, M, Q => ((x1 ≤ x2 → (Q M)) ∧ (¬ x1 ≤ x2 → (w_X8_dayGoes  M (fun M1 => w_X8_daysGo_2 n x1 (x2 + 1) M1 Q))))
set_option maxRecDepth 4000 in
theorem c_X8_daysGo_2  {Q : pm → Prop}  : ∀ (n : Nat) (x1 : Int32) (x2 : Int32) (M : pm), pG M → w_X8_daysGo_2 n x1 x2 M  Q → PW mX8_daysGo 10 350 2 [.ref 277, .int x1, .int x2] [] M (qV Q) := by
  intro n
  induction n with
  | zero => intro x1 x2 M hM h; exact h.elim
  | succ n ih =>
    intro x1 x2 M hM h
    unfold w_X8_daysGo_2 at h
    refine PW.iload_n (pc := 2) dX8_daysGo_2 rfl ?_
    refine PW.iload_n (pc := 3) dX8_daysGo_3 rfl ?_
    refine PW.icmp_ge (pc := 4) dX8_daysGo_4 (t := 17) (by decide) (fun hc => ?_) (fun hc => ?_)
    · have h := h.1 hc
      exact PW.ret0 (pc := 17) dX8_daysGo_17 hM.1 rfl ⟨hM, rfl, h⟩
    · have h := h.2 hc
      refine PW.aload_n (pc := 7) dX8_daysGo_7 rfl ?_
      refine PW.inv (m' := mX8_dayGoes) (pc := 8) dX8_daysGo_8 lm_X8_485 me_X8_dayGoes mi_X8_dayGoes (ob hM.1 s_277 (by decide)) rfl (As := []) (st := []) rfl (Nat.le_of_ble_eq_true rfl) (Nat.le_of_ble_eq_true rfl) (Nat.le_of_eq hM.1) (Nat.le_refl _) (PW.deep (by decide) (c_X8_dayGoes  hM h)) ?_
      rintro _ M1 ⟨hM3, rfl, h⟩
      refine PW.iinc (pc := 11) dX8_daysGo_11 (v := (x2 + 1)) (ls' := [.ref 277, .int x1, .int (x2 + 1)]) rfl rfl (by decide) rfl rfl ?_
      refine PW.goto (pc := 14) dX8_daysGo_14 (t := 2) (by decide) ?_
      exact PW.drop (ih _ _ _ hM3 h) ⟨rfl, rfl, rfl, trivial⟩
def w_X8_daysGo (x1 : Int32) (M : pm) (Q : pm → Prop) : Prop := ∃ n4, w_X8_daysGo_2 n4 x1 0 M  Q
set_option maxRecDepth 4000 in
theorem c_X8_daysGo {x1 : Int32} {M : pm} {Q : pm → Prop}  (hM : pG M) (h : w_X8_daysGo x1 M Q) : PW mX8_daysGo 10 350 0 (pfr mX8_daysGo.2.2.1 [.ref 277, .int x1]) [] M (qV Q) := by
  unfold w_X8_daysGo at h
  show PW mX8_daysGo 10 350 0 [.ref 277, .int x1, .null] [] M (qV Q)
  refine PW.iconst (pc := 0) dX8_daysGo_0 (v := 0) (by decide) ?_
  refine PW.istore_n (pc := 1) dX8_daysGo_1 (ls' := [.ref 277, .int x1, .int 0]) (by decide) rfl rfl ?_
  obtain ⟨n4, h⟩ := h
  refine PW.drop (c_X8_daysGo_2  n4 _ _ _ hM h) ⟨rfl, rfl, rfl, trivial⟩
def w_X8_putsAside_7 : Nat → Int32 → pm → (pm → Prop) → Prop
  | 0, _, _, _ => False
  | n + 1, x1, M, Q => ((42 ≤ x1 → (Q M)) ∧ (¬ 42 ≤ x1 → (vp_in x1 163 ∧ (vp_in x1 42 ∧ (w_X8_putsAside_7 n (x1 + 1) (sI M 318 x1.toNatClampNeg (mI M 317 x1.toNatClampNeg)) Q)))))
set_option maxRecDepth 4000 in
theorem c_X8_putsAside_7  {Q : pm → Prop}  : ∀ (n : Nat) (x1 : Int32) (M : pm), pG M → w_X8_putsAside_7 n x1 M  Q → PW mX8_putsAside 1 350 7 [.ref 277, .int x1] [] M (qV Q) := by
  intro n
  induction n with
  | zero => intro x1 M hM h; exact h.elim
  | succ n ih =>
    intro x1 M hM h
    unfold w_X8_putsAside_7 at h
    refine PW.iload_n (pc := 7) dX8_putsAside_7 rfl ?_
    refine PW.bipush (pc := 8) dX8_putsAside_8 (v := 42) (by decide) ?_
    refine PW.icmp_ge (pc := 10) dX8_putsAside_10 (t := 31) (by decide) (fun hc => ?_) (fun hc => ?_)
    · have h := h.1 hc
      exact PW.ret0 (pc := 31) dX8_putsAside_31 hM.1 rfl ⟨hM, rfl, h⟩
    · have h := h.2 hc
      refine PW.aload_n (pc := 13) dX8_putsAside_13 rfl ?_
      refine PW.getR (pc := 14) dX8_putsAside_14 (r := 318) lf_X8_136 (ob hM.1 s_277 (by decide)) fx_8_53 (oR_8_53 hM s_277) (pS_ne s_318) ?_
      refine PW.iload_n (pc := 17) dX8_putsAside_17 rfl ?_
      refine PW.aload_n (pc := 18) dX8_putsAside_18 rfl ?_
      refine PW.getR (pc := 19) dX8_putsAside_19 (r := 317) lf_X8_133 (ob hM.1 s_277 (by decide)) fx_8_52 (oR_8_52 hM s_277) (pS_ne s_317) ?_
      refine PW.iload_n (pc := 22) dX8_putsAside_22 rfl ?_
      obtain ⟨v1, h⟩ := h
      refine PW.iald (pc := 23) dX8_putsAside_23 (ar hM.1 s_317) (vpl n_317 v1) ?_
      obtain ⟨v2, h⟩ := h
      refine PW.iast (pc := 24) dX8_putsAside_24 (ar hM.1 s_318) (vpl n_318 v2) ?_
      refine PW.iinc (pc := 25) dX8_putsAside_25 (v := (x1 + 1)) (ls' := [.ref 277, .int (x1 + 1)]) rfl rfl (by decide) rfl rfl ?_
      refine PW.goto (pc := 28) dX8_putsAside_28 (t := 7) (by decide) ?_
      exact PW.drop (ih _ _ (hM.same rfl rfl) h) ⟨rfl, rfl, trivial⟩
def w_X8_putsAside  (M : pm) (Q : pm → Prop) : Prop := ∃ n3, w_X8_putsAside_7 n3 0 (sI M 277 58 1)  Q
set_option maxRecDepth 4000 in
theorem c_X8_putsAside  {M : pm} {Q : pm → Prop}  (hM : pG M) (h : w_X8_putsAside  M Q) : PW mX8_putsAside 1 350 0 (pfr mX8_putsAside.2.2.1 [.ref 277]) [] M (qV Q) := by
  unfold w_X8_putsAside at h
  show PW mX8_putsAside 1 350 0 [.ref 277, .null] [] M (qV Q)
  refine PW.aload_n (pc := 0) dX8_putsAside_0 rfl ?_
  refine PW.iconst (pc := 1) dX8_putsAside_1 (v := 1) (by decide) ?_
  refine PW.putI (pc := 2) dX8_putsAside_2 lf_X8_461 (ob hM.1 s_277 (by decide)) fx_8_58 fw_8_58 (bz_n bz1) (bz_f bz1) ?_
  refine PW.iconst (pc := 5) dX8_putsAside_5 (v := 0) (by decide) ?_
  refine PW.istore_n (pc := 6) dX8_putsAside_6 (ls' := [.ref 277, .int 0]) (by decide) rfl rfl ?_
  obtain ⟨n3, h⟩ := h
  refine PW.drop (c_X8_putsAside_7  n3 _ _ (hM.same rfl rfl) h) ⟨rfl, rfl, trivial⟩
def w_X8_triesAnew_2 : Nat → Int32 → pm → (pm → Prop) → Prop
  | 0, _, _, _ => False
  | n + 1, x1, M, Q => ((42 ≤ x1 → (Q M)) ∧ (¬ 42 ≤ x1 → (vp_in x1 42 ∧ (vp_in x1 163 ∧ (w_X8_triesAnew_2 n (x1 + 1) (sI M 317 x1.toNatClampNeg (mI M 318 x1.toNatClampNeg)) Q)))))
set_option maxRecDepth 4000 in
theorem c_X8_triesAnew_2  {Q : pm → Prop}  : ∀ (n : Nat) (x1 : Int32) (M : pm), pG M → w_X8_triesAnew_2 n x1 M  Q → PW mX8_triesAnew 1 350 2 [.ref 277, .int x1] [] M (qV Q) := by
  intro n
  induction n with
  | zero => intro x1 M hM h; exact h.elim
  | succ n ih =>
    intro x1 M hM h
    unfold w_X8_triesAnew_2 at h
    refine PW.iload_n (pc := 2) dX8_triesAnew_2 rfl ?_
    refine PW.bipush (pc := 3) dX8_triesAnew_3 (v := 42) (by decide) ?_
    refine PW.icmp_ge (pc := 5) dX8_triesAnew_5 (t := 26) (by decide) (fun hc => ?_) (fun hc => ?_)
    · have h := h.1 hc
      exact PW.ret0 (pc := 26) dX8_triesAnew_26 hM.1 rfl ⟨hM, rfl, h⟩
    · have h := h.2 hc
      refine PW.aload_n (pc := 8) dX8_triesAnew_8 rfl ?_
      refine PW.getR (pc := 9) dX8_triesAnew_9 (r := 317) lf_X8_133 (ob hM.1 s_277 (by decide)) fx_8_52 (oR_8_52 hM s_277) (pS_ne s_317) ?_
      refine PW.iload_n (pc := 12) dX8_triesAnew_12 rfl ?_
      refine PW.aload_n (pc := 13) dX8_triesAnew_13 rfl ?_
      refine PW.getR (pc := 14) dX8_triesAnew_14 (r := 318) lf_X8_136 (ob hM.1 s_277 (by decide)) fx_8_53 (oR_8_53 hM s_277) (pS_ne s_318) ?_
      refine PW.iload_n (pc := 17) dX8_triesAnew_17 rfl ?_
      obtain ⟨v1, h⟩ := h
      refine PW.iald (pc := 18) dX8_triesAnew_18 (ar hM.1 s_318) (vpl n_318 v1) ?_
      obtain ⟨v2, h⟩ := h
      refine PW.iast (pc := 19) dX8_triesAnew_19 (ar hM.1 s_317) (vpl n_317 v2) ?_
      refine PW.iinc (pc := 20) dX8_triesAnew_20 (v := (x1 + 1)) (ls' := [.ref 277, .int (x1 + 1)]) rfl rfl (by decide) rfl rfl ?_
      refine PW.goto (pc := 23) dX8_triesAnew_23 (t := 2) (by decide) ?_
      exact PW.drop (ih _ _ (hM.same rfl rfl) h) ⟨rfl, rfl, trivial⟩
def w_X8_triesAnew  (M : pm) (Q : pm → Prop) : Prop := ∃ n3, w_X8_triesAnew_2 n3 0 M  Q
set_option maxRecDepth 4000 in
theorem c_X8_triesAnew  {M : pm} {Q : pm → Prop}  (hM : pG M) (h : w_X8_triesAnew  M Q) : PW mX8_triesAnew 1 350 0 (pfr mX8_triesAnew.2.2.1 [.ref 277]) [] M (qV Q) := by
  unfold w_X8_triesAnew at h
  show PW mX8_triesAnew 1 350 0 [.ref 277, .null] [] M (qV Q)
  refine PW.iconst (pc := 0) dX8_triesAnew_0 (v := 0) (by decide) ?_
  refine PW.istore_n (pc := 1) dX8_triesAnew_1 (ls' := [.ref 277, .int 0]) (by decide) rfl rfl ?_
  obtain ⟨n3, h⟩ := h
  refine PW.drop (c_X8_triesAnew_2  n3 _ _ hM h) ⟨rfl, rfl, trivial⟩
def w_X8_takesBack  (M : pm) (Q : pm → Prop) : Prop := w_X8_triesAnew  M (fun M1 => Q (sI M1 277 58 0))
set_option maxRecDepth 4000 in
theorem c_X8_takesBack  {M : pm} {Q : pm → Prop}  (hM : pG M) (h : w_X8_takesBack  M Q) : PW mX8_takesBack 2 350 0 (pfr mX8_takesBack.2.2.1 [.ref 277]) [] M (qV Q) := by
  unfold w_X8_takesBack at h
  show PW mX8_takesBack 2 350 0 [.ref 277] [] M (qV Q)
  refine PW.aload_n (pc := 0) dX8_takesBack_0 rfl ?_
  refine PW.inv (m' := mX8_triesAnew) (pc := 1) dX8_takesBack_1 lm_X8_488 me_X8_triesAnew mi_X8_triesAnew (ob hM.1 s_277 (by decide)) rfl (As := []) (st := []) rfl (Nat.le_of_ble_eq_true rfl) (Nat.le_of_ble_eq_true rfl) (Nat.le_of_eq hM.1) (Nat.le_refl _) (PW.deep (by decide) (c_X8_triesAnew  hM h)) ?_
  rintro _ M1 ⟨hM3, rfl, h⟩
  refine PW.aload_n (pc := 4) dX8_takesBack_4 rfl ?_
  refine PW.iconst (pc := 5) dX8_takesBack_5 (v := 0) (by decide) ?_
  refine PW.putI (pc := 6) dX8_takesBack_6 lf_X8_461 (ob hM3.1 s_277 (by decide)) fx_8_58 fw_8_58 (bz_n bz0) (bz_f bz0) ?_
  exact PW.ret0 (pc := 9) dX8_takesBack_9 hM3.1 rfl ⟨(hM3.same rfl rfl), rfl, h⟩
def w_X8_isAhead (x1 : Int32) (x2 : Int32) (x3 : Int32) (M : pm) (Q : Int32 → pm → Prop) : Prop := (((mI M 277 50) = 0 → (Q 0 M)) ∧ (¬ (mI M 277 50) = 0 → (w_X8_isIn (Int32.toInt64 x1) (Int32.toInt64 x2) (Int32.toInt64 x3) M (fun y2 M1 => ((y2 = 0 → (Q 0 M1)) ∧ (¬ y2 = 0 → ((999 < ((mI M1 317 0) + x1) → (Q 0 M1)) ∧ (¬ 999 < ((mI M1 317 0) + x1) → (Q 1 M1)))))))))
set_option maxRecDepth 4000 in
theorem c_X8_isAhead {x1 : Int32} {x2 : Int32} {x3 : Int32} {M : pm} {Q : Int32 → pm → Prop}  (hM : pG M) (h : w_X8_isAhead x1 x2 x3 M Q) : PW mX8_isAhead 2 350 0 (pfr mX8_isAhead.2.2.1 [.ref 277, .int x1, .int x2, .int x3]) [] M (qZ Q) := by
  unfold w_X8_isAhead at h
  show PW mX8_isAhead 2 350 0 [.ref 277, .int x1, .int x2, .int x3] [] M (qZ Q)
  refine PW.aload_n (pc := 0) dX8_isAhead_0 rfl ?_
  refine PW.getI (pc := 1) dX8_isAhead_1 lf_X8_385 (ob hM.1 s_277 (by decide)) fx_8_50 ?_
  refine PW.if_eq (pc := 4) dX8_isAhead_4 (t := 37) (by decide) (fun hc => ?_) (fun hc => ?_)
  · have h := h.1 hc
    refine PW.iconst (pc := 37) dX8_isAhead_37 (v := 0) (by decide) ?_
    exact PW.retI (pc := 38) dX8_isAhead_38 hM.1 rfl (bz_n bz0) ⟨hM, _, rfl, bz0, h⟩
  · have h := h.2 hc
    refine PW.iload_n (pc := 7) dX8_isAhead_7 rfl ?_
    refine PW.i2l (pc := 8) dX8_isAhead_8 ?_
    refine PW.iload_n (pc := 9) dX8_isAhead_9 rfl ?_
    refine PW.i2l (pc := 10) dX8_isAhead_10 ?_
    refine PW.iload_n (pc := 11) dX8_isAhead_11 rfl ?_
    refine PW.i2l (pc := 12) dX8_isAhead_12 ?_
    refine PW.ins (m' := mX8_isIn) (pc := 13) dX8_isAhead_13 lm_X8_289 me_X8_isIn ms_X8_isIn (As := [.long (Int32.toInt64 x1), .long (Int32.toInt64 x2), .long (Int32.toInt64 x3)]) (st := []) rfl (Nat.le_of_ble_eq_true rfl) (Nat.le_of_ble_eq_true rfl) (Nat.le_of_eq hM.1) (Nat.le_refl _) (PW.deep (by decide) (c_X8_isIn  hM h)) ?_
    rintro _ M1 ⟨hM3, y2, rfl, z4, h⟩
    refine PW.if_eq (pc := 16) dX8_isAhead_16 (t := 37) (by decide) (fun hc => ?_) (fun hc => ?_)
    · have h := h.1 hc
      refine PW.iconst (pc := 37) dX8_isAhead_37 (v := 0) (by decide) ?_
      exact PW.retI (pc := 38) dX8_isAhead_38 hM3.1 rfl (bz_n bz0) ⟨hM3, _, rfl, bz0, h⟩
    · have h := h.2 hc
      refine PW.aload_n (pc := 19) dX8_isAhead_19 rfl ?_
      refine PW.getR (pc := 20) dX8_isAhead_20 (r := 317) lf_X8_133 (ob hM3.1 s_277 (by decide)) fx_8_52 (oR_8_52 hM3 s_277) (pS_ne s_317) ?_
      refine PW.iconst (pc := 23) dX8_isAhead_23 (v := 0) (by decide) ?_
      refine PW.iald (pc := 24) dX8_isAhead_24 (ar hM3.1 s_317) (vpl n_317 (vp_c (i := 0) (n := 163) (by decide))) ?_
      refine PW.iload_n (pc := 25) dX8_isAhead_25 rfl ?_
      refine PW.iadd (pc := 26) dX8_isAhead_26 ?_
      refine PW.sipush (pc := 27) dX8_isAhead_27 (v := 999) (by decide) ?_
      refine PW.icmp_gt (pc := 30) dX8_isAhead_30 (t := 37) (by decide) (fun hc => ?_) (fun hc => ?_)
      · have h := h.1 hc
        refine PW.iconst (pc := 37) dX8_isAhead_37 (v := 0) (by decide) ?_
        exact PW.retI (pc := 38) dX8_isAhead_38 hM3.1 rfl (bz_n bz0) ⟨hM3, _, rfl, bz0, h⟩
      · have h := h.2 hc
        refine PW.iconst (pc := 33) dX8_isAhead_33 (v := 1) (by decide) ?_
        refine PW.goto (pc := 34) dX8_isAhead_34 (t := 38) (by decide) ?_
        exact PW.retI (pc := 38) dX8_isAhead_38 hM3.1 rfl (bz_n bz1) ⟨hM3, _, rfl, bz1, h⟩
def w_X8_deadMany_4 : Nat → Int32 → Int32 → pm → (Int32 → pm → Prop) → Prop
  | 0, _, _, _, _ => False
  | n + 1, x1, x2, M, Q => w_X8_askerMany  M (fun y2 M1 => ((y2 ≤ x2 → (Q x1 M1)) ∧ (¬ y2 ≤ x2 → (w_X8_isDead x2 M1 (fun y5 M4 => ((y5 = 0 → (w_X8_deadMany_4 n x1 (x2 + 1) M4 Q)) ∧ (¬ y5 = 0 → (w_X8_deadMany_4 n (x1 + 1) (x2 + 1) M4 Q))))))))
set_option maxRecDepth 4000 in
theorem c_X8_deadMany_4  {Q : Int32 → pm → Prop}  : ∀ (n : Nat) (x1 : Int32) (x2 : Int32) (M : pm), pG M → w_X8_deadMany_4 n x1 x2 M  Q → PW mX8_deadMany 3 350 4 [.ref 277, .int x1, .int x2] [] M (qI Q) := by
  intro n
  induction n with
  | zero => intro x1 x2 M hM h; exact h.elim
  | succ n ih =>
    intro x1 x2 M hM h
    unfold w_X8_deadMany_4 at h
    refine PW.iload_n (pc := 4) dX8_deadMany_4 rfl ?_
    refine PW.aload_n (pc := 5) dX8_deadMany_5 rfl ?_
    refine PW.inv (m' := mX8_askerMany) (pc := 6) dX8_deadMany_6 lm_X8_395 me_X8_askerMany mi_X8_askerMany (ob hM.1 s_277 (by decide)) rfl (As := []) (st := [.int x2]) rfl (Nat.le_of_ble_eq_true rfl) (Nat.le_of_ble_eq_true rfl) (Nat.le_of_eq hM.1) (Nat.le_refl _) (PW.deep (by decide) (c_X8_askerMany  hM h)) ?_
    rintro _ M1 ⟨hM3, y2, rfl, h⟩
    refine PW.icmp_ge (pc := 9) dX8_deadMany_9 (t := 29) (by decide) (fun hc => ?_) (fun hc => ?_)
    · have h := h.1 hc
      refine PW.iload_n (pc := 29) dX8_deadMany_29 rfl ?_
      exact PW.retI (pc := 30) dX8_deadMany_30 hM3.1 rfl rfl ⟨hM3, _, rfl, h⟩
    · have h := h.2 hc
      refine PW.aload_n (pc := 12) dX8_deadMany_12 rfl ?_
      refine PW.iload_n (pc := 13) dX8_deadMany_13 rfl ?_
      refine PW.inv (m' := mX8_isDead) (pc := 14) dX8_deadMany_14 lm_X8_405 me_X8_isDead mi_X8_isDead (ob hM3.1 s_277 (by decide)) rfl (As := [.int x2]) (st := []) rfl (Nat.le_of_ble_eq_true rfl) (Nat.le_of_ble_eq_true rfl) (Nat.le_of_eq hM3.1) (Nat.le_refl _) (PW.deep (by decide) (c_X8_isDead  hM3 h)) ?_
      rintro _ M4 ⟨hM6, y5, rfl, z7, h⟩
      refine PW.if_eq (pc := 17) dX8_deadMany_17 (t := 23) (by decide) (fun hc => ?_) (fun hc => ?_)
      · have h := h.1 hc
        refine PW.iinc (pc := 23) dX8_deadMany_23 (v := (x2 + 1)) (ls' := [.ref 277, .int x1, .int (x2 + 1)]) rfl rfl (by decide) rfl rfl ?_
        refine PW.goto (pc := 26) dX8_deadMany_26 (t := 4) (by decide) ?_
        exact PW.drop (ih _ _ _ hM6 h) ⟨rfl, rfl, rfl, trivial⟩
      · have h := h.2 hc
        refine PW.iinc (pc := 20) dX8_deadMany_20 (v := (x1 + 1)) (ls' := [.ref 277, .int (x1 + 1), .int x2]) rfl rfl (by decide) rfl rfl ?_
        refine PW.iinc (pc := 23) dX8_deadMany_23 (v := (x2 + 1)) (ls' := [.ref 277, .int (x1 + 1), .int (x2 + 1)]) rfl rfl (by decide) rfl rfl ?_
        refine PW.goto (pc := 26) dX8_deadMany_26 (t := 4) (by decide) ?_
        exact PW.drop (ih _ _ _ hM6 h) ⟨rfl, rfl, rfl, trivial⟩
def w_X8_deadMany  (M : pm) (Q : Int32 → pm → Prop) : Prop := ∃ n8, w_X8_deadMany_4 n8 0 0 M  Q
set_option maxRecDepth 4000 in
theorem c_X8_deadMany  {M : pm} {Q : Int32 → pm → Prop}  (hM : pG M) (h : w_X8_deadMany  M Q) : PW mX8_deadMany 3 350 0 (pfr mX8_deadMany.2.2.1 [.ref 277]) [] M (qI Q) := by
  unfold w_X8_deadMany at h
  show PW mX8_deadMany 3 350 0 [.ref 277, .null, .null] [] M (qI Q)
  refine PW.iconst (pc := 0) dX8_deadMany_0 (v := 0) (by decide) ?_
  refine PW.istore_n (pc := 1) dX8_deadMany_1 (ls' := [.ref 277, .int 0, .null]) (by decide) rfl rfl ?_
  refine PW.iconst (pc := 2) dX8_deadMany_2 (v := 0) (by decide) ?_
  refine PW.istore_n (pc := 3) dX8_deadMany_3 (ls' := [.ref 277, .int 0, .int 0]) (by decide) rfl rfl ?_
  obtain ⟨n8, h⟩ := h
  refine PW.drop (c_X8_deadMany_4  n8 _ _ _ hM h) ⟨rfl, rfl, rfl, trivial⟩
def w_X8_forgottenMany_4 : Nat → Int32 → Int32 → pm → (Int32 → pm → Prop) → Prop
  | 0, _, _, _, _ => False
  | n + 1, x1, x2, M, Q => w_X8_askerMany  M (fun y2 M1 => ((y2 ≤ x2 → (Q x1 M1)) ∧ (¬ y2 ≤ x2 → (w_X8_mindsOf x2 M1 (fun y5 M4 => ((¬ y5 = 0 → (w_X8_forgottenMany_4 n x1 (x2 + 1) M4 Q)) ∧ (y5 = 0 → (w_X8_forgottenMany_4 n (x1 + 1) (x2 + 1) M4 Q))))))))
set_option maxRecDepth 4000 in
theorem c_X8_forgottenMany_4  {Q : Int32 → pm → Prop}  : ∀ (n : Nat) (x1 : Int32) (x2 : Int32) (M : pm), pG M → w_X8_forgottenMany_4 n x1 x2 M  Q → PW mX8_forgottenMany 2 350 4 [.ref 277, .int x1, .int x2] [] M (qI Q) := by
  intro n
  induction n with
  | zero => intro x1 x2 M hM h; exact h.elim
  | succ n ih =>
    intro x1 x2 M hM h
    unfold w_X8_forgottenMany_4 at h
    refine PW.iload_n (pc := 4) dX8_forgottenMany_4 rfl ?_
    refine PW.aload_n (pc := 5) dX8_forgottenMany_5 rfl ?_
    refine PW.inv (m' := mX8_askerMany) (pc := 6) dX8_forgottenMany_6 lm_X8_395 me_X8_askerMany mi_X8_askerMany (ob hM.1 s_277 (by decide)) rfl (As := []) (st := [.int x2]) rfl (Nat.le_of_ble_eq_true rfl) (Nat.le_of_ble_eq_true rfl) (Nat.le_of_eq hM.1) (Nat.le_refl _) (PW.deep (by decide) (c_X8_askerMany  hM h)) ?_
    rintro _ M1 ⟨hM3, y2, rfl, h⟩
    refine PW.icmp_ge (pc := 9) dX8_forgottenMany_9 (t := 29) (by decide) (fun hc => ?_) (fun hc => ?_)
    · have h := h.1 hc
      refine PW.iload_n (pc := 29) dX8_forgottenMany_29 rfl ?_
      exact PW.retI (pc := 30) dX8_forgottenMany_30 hM3.1 rfl rfl ⟨hM3, _, rfl, h⟩
    · have h := h.2 hc
      refine PW.aload_n (pc := 12) dX8_forgottenMany_12 rfl ?_
      refine PW.iload_n (pc := 13) dX8_forgottenMany_13 rfl ?_
      refine PW.inv (m' := mX8_mindsOf) (pc := 14) dX8_forgottenMany_14 lm_X8_425 me_X8_mindsOf mi_X8_mindsOf (ob hM3.1 s_277 (by decide)) rfl (As := [.int x2]) (st := []) rfl (Nat.le_of_ble_eq_true rfl) (Nat.le_of_ble_eq_true rfl) (Nat.le_of_eq hM3.1) (Nat.le_refl _) (PW.deep (by decide) (c_X8_mindsOf  hM3 h)) ?_
      rintro _ M4 ⟨hM6, y5, rfl, h⟩
      refine PW.if_ne (pc := 17) dX8_forgottenMany_17 (t := 23) (by decide) (fun hc => ?_) (fun hc => ?_)
      · have h := h.1 hc
        refine PW.iinc (pc := 23) dX8_forgottenMany_23 (v := (x2 + 1)) (ls' := [.ref 277, .int x1, .int (x2 + 1)]) rfl rfl (by decide) rfl rfl ?_
        refine PW.goto (pc := 26) dX8_forgottenMany_26 (t := 4) (by decide) ?_
        exact PW.drop (ih _ _ _ hM6 h) ⟨rfl, rfl, rfl, trivial⟩
      · have h := h.2 hc
        refine PW.iinc (pc := 20) dX8_forgottenMany_20 (v := (x1 + 1)) (ls' := [.ref 277, .int (x1 + 1), .int x2]) rfl rfl (by decide) rfl rfl ?_
        refine PW.iinc (pc := 23) dX8_forgottenMany_23 (v := (x2 + 1)) (ls' := [.ref 277, .int (x1 + 1), .int (x2 + 1)]) rfl rfl (by decide) rfl rfl ?_
        refine PW.goto (pc := 26) dX8_forgottenMany_26 (t := 4) (by decide) ?_
        exact PW.drop (ih _ _ _ hM6 h) ⟨rfl, rfl, rfl, trivial⟩
def w_X8_forgottenMany  (M : pm) (Q : Int32 → pm → Prop) : Prop := ∃ n7, w_X8_forgottenMany_4 n7 0 0 M  Q
set_option maxRecDepth 4000 in
theorem c_X8_forgottenMany  {M : pm} {Q : Int32 → pm → Prop}  (hM : pG M) (h : w_X8_forgottenMany  M Q) : PW mX8_forgottenMany 2 350 0 (pfr mX8_forgottenMany.2.2.1 [.ref 277]) [] M (qI Q) := by
  unfold w_X8_forgottenMany at h
  show PW mX8_forgottenMany 2 350 0 [.ref 277, .null, .null] [] M (qI Q)
  refine PW.iconst (pc := 0) dX8_forgottenMany_0 (v := 0) (by decide) ?_
  refine PW.istore_n (pc := 1) dX8_forgottenMany_1 (ls' := [.ref 277, .int 0, .null]) (by decide) rfl rfl ?_
  refine PW.iconst (pc := 2) dX8_forgottenMany_2 (v := 0) (by decide) ?_
  refine PW.istore_n (pc := 3) dX8_forgottenMany_3 (ls' := [.ref 277, .int 0, .int 0]) (by decide) rfl rfl ?_
  obtain ⟨n7, h⟩ := h
  refine PW.drop (c_X8_forgottenMany_4  n7 _ _ _ hM h) ⟨rfl, rfl, rfl, trivial⟩
def w_X8_canMany  (M : pm) (Q : Int32 → pm → Prop) : Prop := w_X8_laysCan  M (fun M1 => w_X8_bits (mI M1 277 54) M1 (fun y5 M4 => Q y5 M4))
set_option maxRecDepth 4000 in
theorem c_X8_canMany  {M : pm} {Q : Int32 → pm → Prop}  (hM : pG M) (h : w_X8_canMany  M Q) : PW mX8_canMany 8 350 0 (pfr mX8_canMany.2.2.1 [.ref 277]) [] M (qI Q) := by
  unfold w_X8_canMany at h
  show PW mX8_canMany 8 350 0 [.ref 277] [] M (qI Q)
  refine PW.aload_n (pc := 0) dX8_canMany_0 rfl ?_
  refine PW.inv (m' := mX8_laysCan) (pc := 1) dX8_canMany_1 lm_X8_446 me_X8_laysCan mi_X8_laysCan (ob hM.1 s_277 (by decide)) rfl (As := []) (st := []) rfl (Nat.le_of_ble_eq_true rfl) (Nat.le_of_ble_eq_true rfl) (Nat.le_of_eq hM.1) (Nat.le_refl _) (PW.deep (by decide) (c_X8_laysCan  hM h)) ?_
  rintro _ M1 ⟨hM3, rfl, h⟩
  refine PW.aload_n (pc := 4) dX8_canMany_4 rfl ?_
  refine PW.getI (pc := 5) dX8_canMany_5 lf_X8_433 (ob hM3.1 s_277 (by decide)) fx_8_54 ?_
  refine PW.ins (m' := mX8_bits) (pc := 8) dX8_canMany_8 lm_X8_473 me_X8_bits ms_X8_bits (As := [.int (mI M1 277 54)]) (st := []) rfl (Nat.le_of_ble_eq_true rfl) (Nat.le_of_ble_eq_true rfl) (Nat.le_of_eq hM3.1) (Nat.le_refl _) (PW.deep (by decide) (c_X8_bits  hM3 h)) ?_
  rintro _ M4 ⟨hM6, y5, rfl, h⟩
  exact PW.retI (pc := 11) dX8_canMany_11 hM6.1 rfl rfl ⟨hM6, _, rfl, h⟩
def w_X8_has (x1 : Int32) (M : pm) (Q : Int32 → pm → Prop) : Prop := ((x1 = 0 → (Q (mI M 308 3) M)) ∧ (x1 = 1 → (vp_in ((3 + x1) - 1) 6 ∧ (Q (mI M 309 (((3 + x1) - 1).toNatClampNeg)) M))) ∧ (x1 = 2 → (vp_in ((3 + x1) - 1) 6 ∧ (Q (mI M 309 (((3 + x1) - 1).toNatClampNeg)) M))) ∧ (x1 = 3 → (vp_in ((3 + x1) - 1) 6 ∧ (Q (mI M 309 (((3 + x1) - 1).toNatClampNeg)) M))) ∧ (x1 = 4 → (vp_in (x1 - 4) 163 ∧ (Q (mI M 317 ((x1 - 4).toNatClampNeg)) M))) ∧ (x1 = 5 → (vp_in (x1 - 4) 163 ∧ (Q (mI M 317 ((x1 - 4).toNatClampNeg)) M))) ∧ (x1 = 6 → (w_X8_deadMany  M (fun y7 M6 => Q y7 M6))) ∧ (x1 = 7 → (w_X8_forgottenMany  M (fun y10 M9 => Q y10 M9))) ∧ (x1 = 8 → (w_X8_canMany  M (fun y13 M12 => Q y13 M12))) ∧ (x1 = 9 → (Q (mI M 317 42) M)) ∧ (x1 = 10 → (Q (mI M 277 63) M)) ∧ (x1 = 11 → (Q (mI M 277 69) M)) ∧ (¬ x1 = 0 → ¬ x1 = 1 → ¬ x1 = 2 → ¬ x1 = 3 → ¬ x1 = 4 → ¬ x1 = 5 → ¬ x1 = 6 → ¬ x1 = 7 → ¬ x1 = 8 → ¬ x1 = 9 → ¬ x1 = 10 → ¬ x1 = 11 → (Q (-1) M)))
set_option maxRecDepth 4000 in
theorem c_X8_has {x1 : Int32} {M : pm} {Q : Int32 → pm → Prop}  (hM : pG M) (h : w_X8_has x1 M Q) : PW mX8_has 9 350 0 (pfr mX8_has.2.2.1 [.ref 277, .int x1]) [] M (qI Q) := by
  unfold w_X8_has at h
  show PW mX8_has 9 350 0 [.ref 277, .int x1] [] M (qI Q)
  refine PW.iload_n (pc := 0) dX8_has_0 rfl ?_
  by_cases q0 : x1 = 0
  · have h := h.1 q0
    refine PW.tabIn (pc := 1) dX8_has_1 (by rw [q0]; decide) (by rw [q0]; decide) (off := 63) (by rw [q0]; decide) (t := 64) (by decide) ?_
    refine PW.aload_n (pc := 64) dX8_has_64 rfl ?_
    refine PW.getR (pc := 65) dX8_has_65 (r := 308) lf_X8_105 (ob hM.1 s_277 (by decide)) fx_8_39 (oR_8_39 hM s_277) (pS_ne s_308) ?_
    refine PW.iconst (pc := 68) dX8_has_68 (v := 3) (by decide) ?_
    refine PW.iald (pc := 69) dX8_has_69 (ar hM.1 s_308) (vpl n_308 (vp_c (i := 3) (n := 6) (by decide))) ?_
    exact PW.retI (pc := 70) dX8_has_70 hM.1 rfl rfl ⟨hM, _, rfl, h⟩
  by_cases q1 : x1 = 1
  · have h := h.2.1 q1
    refine PW.tabIn (pc := 1) dX8_has_1 (by rw [q1]; decide) (by rw [q1]; decide) (off := 70) (by rw [q1]; decide) (t := 71) (by decide) ?_
    refine PW.aload_n (pc := 71) dX8_has_71 rfl ?_
    refine PW.getR (pc := 72) dX8_has_72 (r := 309) lf_X8_108 (ob hM.1 s_277 (by decide)) fx_8_40 (oR_8_40 hM s_277) (pS_ne s_309) ?_
    refine PW.iconst (pc := 75) dX8_has_75 (v := 3) (by decide) ?_
    refine PW.iload_n (pc := 76) dX8_has_76 rfl ?_
    refine PW.iadd (pc := 77) dX8_has_77 ?_
    refine PW.iconst (pc := 78) dX8_has_78 (v := 1) (by decide) ?_
    refine PW.isub (pc := 79) dX8_has_79 ?_
    obtain ⟨v1, h⟩ := h
    refine PW.iald (pc := 80) dX8_has_80 (ar hM.1 s_309) (vpl n_309 v1) ?_
    exact PW.retI (pc := 81) dX8_has_81 hM.1 rfl rfl ⟨hM, _, rfl, h⟩
  by_cases q2 : x1 = 2
  · have h := h.2.2.1 q2
    refine PW.tabIn (pc := 1) dX8_has_1 (by rw [q2]; decide) (by rw [q2]; decide) (off := 70) (by rw [q2]; decide) (t := 71) (by decide) ?_
    refine PW.aload_n (pc := 71) dX8_has_71 rfl ?_
    refine PW.getR (pc := 72) dX8_has_72 (r := 309) lf_X8_108 (ob hM.1 s_277 (by decide)) fx_8_40 (oR_8_40 hM s_277) (pS_ne s_309) ?_
    refine PW.iconst (pc := 75) dX8_has_75 (v := 3) (by decide) ?_
    refine PW.iload_n (pc := 76) dX8_has_76 rfl ?_
    refine PW.iadd (pc := 77) dX8_has_77 ?_
    refine PW.iconst (pc := 78) dX8_has_78 (v := 1) (by decide) ?_
    refine PW.isub (pc := 79) dX8_has_79 ?_
    obtain ⟨v2, h⟩ := h
    refine PW.iald (pc := 80) dX8_has_80 (ar hM.1 s_309) (vpl n_309 v2) ?_
    exact PW.retI (pc := 81) dX8_has_81 hM.1 rfl rfl ⟨hM, _, rfl, h⟩
  by_cases q3 : x1 = 3
  · have h := h.2.2.2.1 q3
    refine PW.tabIn (pc := 1) dX8_has_1 (by rw [q3]; decide) (by rw [q3]; decide) (off := 70) (by rw [q3]; decide) (t := 71) (by decide) ?_
    refine PW.aload_n (pc := 71) dX8_has_71 rfl ?_
    refine PW.getR (pc := 72) dX8_has_72 (r := 309) lf_X8_108 (ob hM.1 s_277 (by decide)) fx_8_40 (oR_8_40 hM s_277) (pS_ne s_309) ?_
    refine PW.iconst (pc := 75) dX8_has_75 (v := 3) (by decide) ?_
    refine PW.iload_n (pc := 76) dX8_has_76 rfl ?_
    refine PW.iadd (pc := 77) dX8_has_77 ?_
    refine PW.iconst (pc := 78) dX8_has_78 (v := 1) (by decide) ?_
    refine PW.isub (pc := 79) dX8_has_79 ?_
    obtain ⟨v3, h⟩ := h
    refine PW.iald (pc := 80) dX8_has_80 (ar hM.1 s_309) (vpl n_309 v3) ?_
    exact PW.retI (pc := 81) dX8_has_81 hM.1 rfl rfl ⟨hM, _, rfl, h⟩
  by_cases q4 : x1 = 4
  · have h := h.2.2.2.2.1 q4
    refine PW.tabIn (pc := 1) dX8_has_1 (by rw [q4]; decide) (by rw [q4]; decide) (off := 81) (by rw [q4]; decide) (t := 82) (by decide) ?_
    refine PW.aload_n (pc := 82) dX8_has_82 rfl ?_
    refine PW.getR (pc := 83) dX8_has_83 (r := 317) lf_X8_133 (ob hM.1 s_277 (by decide)) fx_8_52 (oR_8_52 hM s_277) (pS_ne s_317) ?_
    refine PW.iload_n (pc := 86) dX8_has_86 rfl ?_
    refine PW.iconst (pc := 87) dX8_has_87 (v := 4) (by decide) ?_
    refine PW.isub (pc := 88) dX8_has_88 ?_
    obtain ⟨v4, h⟩ := h
    refine PW.iald (pc := 89) dX8_has_89 (ar hM.1 s_317) (vpl n_317 v4) ?_
    exact PW.retI (pc := 90) dX8_has_90 hM.1 rfl rfl ⟨hM, _, rfl, h⟩
  by_cases q5 : x1 = 5
  · have h := h.2.2.2.2.2.1 q5
    refine PW.tabIn (pc := 1) dX8_has_1 (by rw [q5]; decide) (by rw [q5]; decide) (off := 81) (by rw [q5]; decide) (t := 82) (by decide) ?_
    refine PW.aload_n (pc := 82) dX8_has_82 rfl ?_
    refine PW.getR (pc := 83) dX8_has_83 (r := 317) lf_X8_133 (ob hM.1 s_277 (by decide)) fx_8_52 (oR_8_52 hM s_277) (pS_ne s_317) ?_
    refine PW.iload_n (pc := 86) dX8_has_86 rfl ?_
    refine PW.iconst (pc := 87) dX8_has_87 (v := 4) (by decide) ?_
    refine PW.isub (pc := 88) dX8_has_88 ?_
    obtain ⟨v5, h⟩ := h
    refine PW.iald (pc := 89) dX8_has_89 (ar hM.1 s_317) (vpl n_317 v5) ?_
    exact PW.retI (pc := 90) dX8_has_90 hM.1 rfl rfl ⟨hM, _, rfl, h⟩
  by_cases q6 : x1 = 6
  · have h := h.2.2.2.2.2.2.1 q6
    refine PW.tabIn (pc := 1) dX8_has_1 (by rw [q6]; decide) (by rw [q6]; decide) (off := 90) (by rw [q6]; decide) (t := 91) (by decide) ?_
    refine PW.aload_n (pc := 91) dX8_has_91 rfl ?_
    refine PW.inv (m' := mX8_deadMany) (pc := 92) dX8_has_92 lm_X8_491 me_X8_deadMany mi_X8_deadMany (ob hM.1 s_277 (by decide)) rfl (As := []) (st := []) rfl (Nat.le_of_ble_eq_true rfl) (Nat.le_of_ble_eq_true rfl) (Nat.le_of_eq hM.1) (Nat.le_refl _) (PW.deep (by decide) (c_X8_deadMany  hM h)) ?_
    rintro _ M6 ⟨hM8, y7, rfl, h⟩
    exact PW.retI (pc := 95) dX8_has_95 hM8.1 rfl rfl ⟨hM8, _, rfl, h⟩
  by_cases q7 : x1 = 7
  · have h := h.2.2.2.2.2.2.2.1 q7
    refine PW.tabIn (pc := 1) dX8_has_1 (by rw [q7]; decide) (by rw [q7]; decide) (off := 95) (by rw [q7]; decide) (t := 96) (by decide) ?_
    refine PW.aload_n (pc := 96) dX8_has_96 rfl ?_
    refine PW.inv (m' := mX8_forgottenMany) (pc := 97) dX8_has_97 lm_X8_494 me_X8_forgottenMany mi_X8_forgottenMany (ob hM.1 s_277 (by decide)) rfl (As := []) (st := []) rfl (Nat.le_of_ble_eq_true rfl) (Nat.le_of_ble_eq_true rfl) (Nat.le_of_eq hM.1) (Nat.le_refl _) (PW.deep (by decide) (c_X8_forgottenMany  hM h)) ?_
    rintro _ M9 ⟨hM11, y10, rfl, h⟩
    exact PW.retI (pc := 100) dX8_has_100 hM11.1 rfl rfl ⟨hM11, _, rfl, h⟩
  by_cases q8 : x1 = 8
  · have h := h.2.2.2.2.2.2.2.2.1 q8
    refine PW.tabIn (pc := 1) dX8_has_1 (by rw [q8]; decide) (by rw [q8]; decide) (off := 100) (by rw [q8]; decide) (t := 101) (by decide) ?_
    refine PW.aload_n (pc := 101) dX8_has_101 rfl ?_
    refine PW.inv (m' := mX8_canMany) (pc := 102) dX8_has_102 lm_X8_497 me_X8_canMany mi_X8_canMany (ob hM.1 s_277 (by decide)) rfl (As := []) (st := []) rfl (Nat.le_of_ble_eq_true rfl) (Nat.le_of_ble_eq_true rfl) (Nat.le_of_eq hM.1) (Nat.le_refl _) (PW.deep (by decide) (c_X8_canMany  hM h)) ?_
    rintro _ M12 ⟨hM14, y13, rfl, h⟩
    exact PW.retI (pc := 105) dX8_has_105 hM14.1 rfl rfl ⟨hM14, _, rfl, h⟩
  by_cases q9 : x1 = 9
  · have h := h.2.2.2.2.2.2.2.2.2.1 q9
    refine PW.tabIn (pc := 1) dX8_has_1 (by rw [q9]; decide) (by rw [q9]; decide) (off := 105) (by rw [q9]; decide) (t := 106) (by decide) ?_
    refine PW.aload_n (pc := 106) dX8_has_106 rfl ?_
    refine PW.getR (pc := 107) dX8_has_107 (r := 317) lf_X8_133 (ob hM.1 s_277 (by decide)) fx_8_52 (oR_8_52 hM s_277) (pS_ne s_317) ?_
    refine PW.bipush (pc := 110) dX8_has_110 (v := 42) (by decide) ?_
    refine PW.iald (pc := 112) dX8_has_112 (ar hM.1 s_317) (vpl n_317 (vp_c (i := 42) (n := 163) (by decide))) ?_
    exact PW.retI (pc := 113) dX8_has_113 hM.1 rfl rfl ⟨hM, _, rfl, h⟩
  by_cases q10 : x1 = 10
  · have h := h.2.2.2.2.2.2.2.2.2.2.1 q10
    refine PW.tabIn (pc := 1) dX8_has_1 (by rw [q10]; decide) (by rw [q10]; decide) (off := 113) (by rw [q10]; decide) (t := 114) (by decide) ?_
    refine PW.aload_n (pc := 114) dX8_has_114 rfl ?_
    refine PW.getI (pc := 115) dX8_has_115 lf_X8_392 (ob hM.1 s_277 (by decide)) fx_8_63 ?_
    exact PW.retI (pc := 118) dX8_has_118 hM.1 rfl rfl ⟨hM, _, rfl, h⟩
  by_cases q11 : x1 = 11
  · have h := h.2.2.2.2.2.2.2.2.2.2.2.1 q11
    refine PW.tabIn (pc := 1) dX8_has_1 (by rw [q11]; decide) (by rw [q11]; decide) (off := 118) (by rw [q11]; decide) (t := 119) (by decide) ?_
    refine PW.aload_n (pc := 119) dX8_has_119 rfl ?_
    refine PW.getI (pc := 120) dX8_has_120 lf_X8_389 (ob hM.1 s_277 (by decide)) fx_8_69 ?_
    exact PW.retI (pc := 123) dX8_has_123 hM.1 rfl rfl ⟨hM, _, rfl, h⟩
  have h := h.2.2.2.2.2.2.2.2.2.2.2.2 q0 q1 q2 q3 q4 q5 q6 q7 q8 q9 q10 q11
  refine PW.tabOut (pc := 1) dX8_has_1 (tab_out (fun c h1 h2 => ?_)) (t := 124) (by decide) ?_
  · rcases (by omega : c = 0 ∨ c = 1 ∨ c = 2 ∨ c = 3 ∨ c = 4 ∨ c = 5 ∨ c = 6 ∨ c = 7 ∨ c = 8 ∨ c = 9 ∨ c = 10 ∨ c = 11) with rfl | rfl | rfl | rfl | rfl | rfl | rfl | rfl | rfl | rfl | rfl | rfl <;> assumption
  · skip
    refine PW.iconst (pc := 124) dX8_has_124 (v := (-1)) (by decide) ?_
    exact PW.retI (pc := 125) dX8_has_125 hM.1 rfl rfl ⟨hM, _, rfl, h⟩
