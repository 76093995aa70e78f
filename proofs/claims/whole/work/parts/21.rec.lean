/-! the readers that call each other: rc stands for them, one level down -/
def mRd : Nat → pmt
  | 0 => mX3_readTest
  | 1 => mX3_readBoth
  | 2 => mX3_readFact
  | 3 => mX3_readSum
  | 4 => mX3_readProduct
  | 5 => mX3_readPiece
  | _ => mX3_readPair
def w_X3_readTest_7 (rc : Nat → Int32 → pm → (pm → Prop) → Prop) : Nat → Int32 → Int32 → pm → (pm → Prop) → Prop
  | 0, _, _, _, _ => False
  | n + 1, x1, x2, M, Q => ((1600 ≤ x2 → (Q M)) ∧ (¬ 1600 ≤ x2 → (w_X6_isWord 22 M (fun y5 M4 => ((y5 = 0 → (Q M4)) ∧ (¬ y5 = 0 → (w_X6_take  M4 (fun M8 => rc 1 x1 M8 (fun M11 => ¬ (mR M11 5 2) = 0 ∧ (w_X2_add (mR M11 5 2) 10008 M11 (fun M15 => w_X3_readTest_7 rc n x1 (x2 + 1) M15 Q)))))))))))
set_option maxRecDepth 4000 in
theorem c_X3_readTest_7 {d : Nat} (hd : 12 ≤ d) {rc : Nat → Int32 → pm → (pm → Prop) → Prop} (hrc : ∀ (i : Nat) (x : Int32) (M : pm) (Q : pm → Prop), pG M → rc i x M Q → PW (mRd i) d 350 0 (pfr (mRd i).2.2.1 [.ref 5, .int x]) [] M (qV Q))  {Q : pm → Prop}  : ∀ (n : Nat) (x1 : Int32) (x2 : Int32) (M : pm), pG M → w_X3_readTest_7 rc n x1 x2 M  Q → PW mX3_readTest (d + 1) 350 7 [.ref 5, .int x1, .int x2] [] M (qV Q) := by
  intro n
  induction n with
  | zero => intro x1 x2 M hM h; exact h.elim
  | succ n ih =>
    intro x1 x2 M hM h
    unfold w_X3_readTest_7 at h
    refine PW.iload_n (pc := 7) dX3_readTest_7 rfl ?_
    refine PW.sipush (pc := 8) dX3_readTest_8 (v := 1600) (by decide) ?_
    refine PW.icmp_ge (pc := 11) dX3_readTest_11 (t := 54) (by decide) (fun hc => ?_) (fun hc => ?_)
    · have h := h.1 hc
      exact PW.ret0 (pc := 54) dX3_readTest_54 hM.1 rfl ⟨hM, rfl, h⟩
    · have h := h.2 hc
      refine PW.aload_n (pc := 14) dX3_readTest_14 rfl ?_
      refine PW.getR (pc := 15) dX3_readTest_15 (r := 6) lf_X3_12 (ob hM.1 s_5 (by decide)) fx_3_0 (oR_3_0 hM s_5) (pS_ne s_6) ?_
      refine PW.bipush (pc := 18) dX3_readTest_18 (v := 22) (by decide) ?_
      refine PW.inv (m' := mX6_isWord) (pc := 20) dX3_readTest_20 lm_X3_180 me_X6_isWord mi_X6_isWord (ob hM.1 s_6 (by decide)) rfl (As := [.int 22]) (st := []) rfl (Nat.le_of_ble_eq_true rfl) (Nat.le_of_ble_eq_true rfl) (Nat.le_of_eq hM.1) (Nat.le_refl _) (PW.deep (by omega) (c_X6_isWord  hM h)) ?_
      rintro _ M4 ⟨hM6, y5, rfl, z7, h⟩
      refine PW.if_eq (pc := 23) dX3_readTest_23 (t := 54) (by decide) (fun hc => ?_) (fun hc => ?_)
      · have h := h.1 hc
        exact PW.ret0 (pc := 54) dX3_readTest_54 hM6.1 rfl ⟨hM6, rfl, h⟩
      · have h := h.2 hc
        refine PW.aload_n (pc := 26) dX3_readTest_26 rfl ?_
        refine PW.getR (pc := 27) dX3_readTest_27 (r := 6) lf_X3_12 (ob hM6.1 s_5 (by decide)) fx_3_0 (oR_3_0 hM6 s_5) (pS_ne s_6) ?_
        refine PW.inv (m' := mX6_take) (pc := 30) dX3_readTest_30 lm_X3_77 me_X6_take mi_X6_take (ob hM6.1 s_6 (by decide)) rfl (As := []) (st := []) rfl (Nat.le_of_ble_eq_true rfl) (Nat.le_of_ble_eq_true rfl) (Nat.le_of_eq hM6.1) (Nat.le_refl _) (PW.deep (by omega) (c_X6_take  hM6 h)) ?_
        rintro _ M8 ⟨hM10, rfl, h⟩
        refine PW.aload_n (pc := 33) dX3_readTest_33 rfl ?_
        refine PW.iload_n (pc := 34) dX3_readTest_34 rfl ?_
        refine PW.inv (m' := mX3_readBoth) (pc := 35) dX3_readTest_35 lm_X3_177 me_X3_readBoth mi_X3_readBoth (ob hM10.1 s_5 (by decide)) rfl (As := [.int x1]) (st := []) rfl (Nat.le_of_ble_eq_true rfl) (Nat.le_of_ble_eq_true rfl) (Nat.le_of_eq hM10.1) (Nat.le_refl _) (hrc 1 _ _ _ hM10 h) ?_
        rintro _ M11 ⟨hM13, rfl, h⟩
        refine PW.aload_n (pc := 38) dX3_readTest_38 rfl ?_
        obtain ⟨v14, h⟩ := h
        refine PW.getR (pc := 39) dX3_readTest_39 (r := (mR M11 5 2)) lf_X3_25 (ob hM13.1 s_5 (by decide)) fx_3_2 rfl (pS_ne (hM13.2.2.2.2.2.2.2.resolve_left v14)) ?_
        refine PW.sipush (pc := 42) dX3_readTest_42 (v := 10008) (by decide) ?_
        refine PW.inv (m' := mX2_add) (pc := 45) dX3_readTest_45 lm_X3_183 me_X2_add mi_X2_add (ob hM13.1 (hM13.2.2.2.2.2.2.2.resolve_left v14) (by decide)) rfl (As := [.int 10008]) (st := []) rfl (Nat.le_of_ble_eq_true rfl) (Nat.le_of_ble_eq_true rfl) (Nat.le_of_eq hM13.1) (Nat.le_refl _) (PW.deep (by omega) (c_X2_add (hM13.2.2.2.2.2.2.2.resolve_left v14) hM13 h)) ?_
        rintro _ M15 ⟨hM17, rfl, h⟩
        refine PW.iinc (pc := 48) dX3_readTest_48 (v := (x2 + 1)) (ls' := [.ref 5, .int x1, .int (x2 + 1)]) rfl rfl (by decide) rfl rfl ?_
        refine PW.goto (pc := 51) dX3_readTest_51 (t := 7) (by decide) ?_
        exact PW.drop (ih _ _ _ hM17 h) ⟨rfl, rfl, rfl, trivial⟩
def w_X3_readTest (rc : Nat → Int32 → pm → (pm → Prop) → Prop) (x1 : Int32) (M : pm) (Q : pm → Prop) : Prop := rc 1 x1 M (fun M1 => ∃ n18, w_X3_readTest_7 rc n18 x1 0 M1  Q)
set_option maxRecDepth 4000 in
theorem c_X3_readTest {d : Nat} (hd : 12 ≤ d) {rc : Nat → Int32 → pm → (pm → Prop) → Prop} (hrc : ∀ (i : Nat) (x : Int32) (M : pm) (Q : pm → Prop), pG M → rc i x M Q → PW (mRd i) d 350 0 (pfr (mRd i).2.2.1 [.ref 5, .int x]) [] M (qV Q)) {x1 : Int32} {M : pm} {Q : pm → Prop}  (hM : pG M) (h : w_X3_readTest rc x1 M Q) : PW mX3_readTest (d + 1) 350 0 (pfr mX3_readTest.2.2.1 [.ref 5, .int x1]) [] M (qV Q) := by
  unfold w_X3_readTest at h
  show PW mX3_readTest (d + 1) 350 0 [.ref 5, .int x1, .null] [] M (qV Q)
  refine PW.aload_n (pc := 0) dX3_readTest_0 rfl ?_
  refine PW.iload_n (pc := 1) dX3_readTest_1 rfl ?_
  refine PW.inv (m' := mX3_readBoth) (pc := 2) dX3_readTest_2 lm_X3_177 me_X3_readBoth mi_X3_readBoth (ob hM.1 s_5 (by decide)) rfl (As := [.int x1]) (st := []) rfl (Nat.le_of_ble_eq_true rfl) (Nat.le_of_ble_eq_true rfl) (Nat.le_of_eq hM.1) (Nat.le_refl _) (hrc 1 _ _ _ hM h) ?_
  rintro _ M1 ⟨hM3, rfl, h⟩
  refine PW.iconst (pc := 5) dX3_readTest_5 (v := 0) (by decide) ?_
  refine PW.istore_n (pc := 6) dX3_readTest_6 (ls' := [.ref 5, .int x1, .int 0]) (by decide) rfl rfl ?_
  obtain ⟨n18, h⟩ := h
  refine PW.drop (c_X3_readTest_7 hd hrc  n18 _ _ _ hM3 h) ⟨rfl, rfl, rfl, trivial⟩
def w_X3_readBoth_7 (rc : Nat → Int32 → pm → (pm → Prop) → Prop) : Nat → Int32 → Int32 → pm → (pm → Prop) → Prop
  | 0, _, _, _, _ => False
  | n + 1, x1, x2, M, Q => ((1600 ≤ x2 → (Q M)) ∧ (¬ 1600 ≤ x2 → (w_X6_isWord 23 M (fun y5 M4 => ((y5 = 0 → (Q M4)) ∧ (¬ y5 = 0 → (w_X6_take  M4 (fun M8 => rc 2 x1 M8 (fun M11 => ¬ (mR M11 5 2) = 0 ∧ (w_X2_add (mR M11 5 2) 10007 M11 (fun M15 => w_X3_readBoth_7 rc n x1 (x2 + 1) M15 Q)))))))))))
set_option maxRecDepth 4000 in
theorem c_X3_readBoth_7 {d : Nat} (hd : 12 ≤ d) {rc : Nat → Int32 → pm → (pm → Prop) → Prop} (hrc : ∀ (i : Nat) (x : Int32) (M : pm) (Q : pm → Prop), pG M → rc i x M Q → PW (mRd i) d 350 0 (pfr (mRd i).2.2.1 [.ref 5, .int x]) [] M (qV Q))  {Q : pm → Prop}  : ∀ (n : Nat) (x1 : Int32) (x2 : Int32) (M : pm), pG M → w_X3_readBoth_7 rc n x1 x2 M  Q → PW mX3_readBoth (d + 1) 350 7 [.ref 5, .int x1, .int x2] [] M (qV Q) := by
  intro n
  induction n with
  | zero => intro x1 x2 M hM h; exact h.elim
  | succ n ih =>
    intro x1 x2 M hM h
    unfold w_X3_readBoth_7 at h
    refine PW.iload_n (pc := 7) dX3_readBoth_7 rfl ?_
    refine PW.sipush (pc := 8) dX3_readBoth_8 (v := 1600) (by decide) ?_
    refine PW.icmp_ge (pc := 11) dX3_readBoth_11 (t := 54) (by decide) (fun hc => ?_) (fun hc => ?_)
    · have h := h.1 hc
      exact PW.ret0 (pc := 54) dX3_readBoth_54 hM.1 rfl ⟨hM, rfl, h⟩
    · have h := h.2 hc
      refine PW.aload_n (pc := 14) dX3_readBoth_14 rfl ?_
      refine PW.getR (pc := 15) dX3_readBoth_15 (r := 6) lf_X3_12 (ob hM.1 s_5 (by decide)) fx_3_0 (oR_3_0 hM s_5) (pS_ne s_6) ?_
      refine PW.bipush (pc := 18) dX3_readBoth_18 (v := 23) (by decide) ?_
      refine PW.inv (m' := mX6_isWord) (pc := 20) dX3_readBoth_20 lm_X3_180 me_X6_isWord mi_X6_isWord (ob hM.1 s_6 (by decide)) rfl (As := [.int 23]) (st := []) rfl (Nat.le_of_ble_eq_true rfl) (Nat.le_of_ble_eq_true rfl) (Nat.le_of_eq hM.1) (Nat.le_refl _) (PW.deep (by omega) (c_X6_isWord  hM h)) ?_
      rintro _ M4 ⟨hM6, y5, rfl, z7, h⟩
      refine PW.if_eq (pc := 23) dX3_readBoth_23 (t := 54) (by decide) (fun hc => ?_) (fun hc => ?_)
      · have h := h.1 hc
        exact PW.ret0 (pc := 54) dX3_readBoth_54 hM6.1 rfl ⟨hM6, rfl, h⟩
      · have h := h.2 hc
        refine PW.aload_n (pc := 26) dX3_readBoth_26 rfl ?_
        refine PW.getR (pc := 27) dX3_readBoth_27 (r := 6) lf_X3_12 (ob hM6.1 s_5 (by decide)) fx_3_0 (oR_3_0 hM6 s_5) (pS_ne s_6) ?_
        refine PW.inv (m' := mX6_take) (pc := 30) dX3_readBoth_30 lm_X3_77 me_X6_take mi_X6_take (ob hM6.1 s_6 (by decide)) rfl (As := []) (st := []) rfl (Nat.le_of_ble_eq_true rfl) (Nat.le_of_ble_eq_true rfl) (Nat.le_of_eq hM6.1) (Nat.le_refl _) (PW.deep (by omega) (c_X6_take  hM6 h)) ?_
        rintro _ M8 ⟨hM10, rfl, h⟩
        refine PW.aload_n (pc := 33) dX3_readBoth_33 rfl ?_
        refine PW.iload_n (pc := 34) dX3_readBoth_34 rfl ?_
        refine PW.inv (m' := mX3_readFact) (pc := 35) dX3_readBoth_35 lm_X3_186 me_X3_readFact mi_X3_readFact (ob hM10.1 s_5 (by decide)) rfl (As := [.int x1]) (st := []) rfl (Nat.le_of_ble_eq_true rfl) (Nat.le_of_ble_eq_true rfl) (Nat.le_of_eq hM10.1) (Nat.le_refl _) (hrc 2 _ _ _ hM10 h) ?_
        rintro _ M11 ⟨hM13, rfl, h⟩
        refine PW.aload_n (pc := 38) dX3_readBoth_38 rfl ?_
        obtain ⟨v14, h⟩ := h
        refine PW.getR (pc := 39) dX3_readBoth_39 (r := (mR M11 5 2)) lf_X3_25 (ob hM13.1 s_5 (by decide)) fx_3_2 rfl (pS_ne (hM13.2.2.2.2.2.2.2.resolve_left v14)) ?_
        refine PW.sipush (pc := 42) dX3_readBoth_42 (v := 10007) (by decide) ?_
        refine PW.inv (m' := mX2_add) (pc := 45) dX3_readBoth_45 lm_X3_183 me_X2_add mi_X2_add (ob hM13.1 (hM13.2.2.2.2.2.2.2.resolve_left v14) (by decide)) rfl (As := [.int 10007]) (st := []) rfl (Nat.le_of_ble_eq_true rfl) (Nat.le_of_ble_eq_true rfl) (Nat.le_of_eq hM13.1) (Nat.le_refl _) (PW.deep (by omega) (c_X2_add (hM13.2.2.2.2.2.2.2.resolve_left v14) hM13 h)) ?_
        rintro _ M15 ⟨hM17, rfl, h⟩
        refine PW.iinc (pc := 48) dX3_readBoth_48 (v := (x2 + 1)) (ls' := [.ref 5, .int x1, .int (x2 + 1)]) rfl rfl (by decide) rfl rfl ?_
        refine PW.goto (pc := 51) dX3_readBoth_51 (t := 7) (by decide) ?_
        exact PW.drop (ih _ _ _ hM17 h) ⟨rfl, rfl, rfl, trivial⟩
def w_X3_readBoth (rc : Nat → Int32 → pm → (pm → Prop) → Prop) (x1 : Int32) (M : pm) (Q : pm → Prop) : Prop := rc 2 x1 M (fun M1 => ∃ n18, w_X3_readBoth_7 rc n18 x1 0 M1  Q)
set_option maxRecDepth 4000 in
theorem c_X3_readBoth {d : Nat} (hd : 12 ≤ d) {rc : Nat → Int32 → pm → (pm → Prop) → Prop} (hrc : ∀ (i : Nat) (x : Int32) (M : pm) (Q : pm → Prop), pG M → rc i x M Q → PW (mRd i) d 350 0 (pfr (mRd i).2.2.1 [.ref 5, .int x]) [] M (qV Q)) {x1 : Int32} {M : pm} {Q : pm → Prop}  (hM : pG M) (h : w_X3_readBoth rc x1 M Q) : PW mX3_readBoth (d + 1) 350 0 (pfr mX3_readBoth.2.2.1 [.ref 5, .int x1]) [] M (qV Q) := by
  unfold w_X3_readBoth at h
  show PW mX3_readBoth (d + 1) 350 0 [.ref 5, .int x1, .null] [] M (qV Q)
  refine PW.aload_n (pc := 0) dX3_readBoth_0 rfl ?_
  refine PW.iload_n (pc := 1) dX3_readBoth_1 rfl ?_
  refine PW.inv (m' := mX3_readFact) (pc := 2) dX3_readBoth_2 lm_X3_186 me_X3_readFact mi_X3_readFact (ob hM.1 s_5 (by decide)) rfl (As := [.int x1]) (st := []) rfl (Nat.le_of_ble_eq_true rfl) (Nat.le_of_ble_eq_true rfl) (Nat.le_of_eq hM.1) (Nat.le_refl _) (hrc 2 _ _ _ hM h) ?_
  rintro _ M1 ⟨hM3, rfl, h⟩
  refine PW.iconst (pc := 5) dX3_readBoth_5 (v := 0) (by decide) ?_
  refine PW.istore_n (pc := 6) dX3_readBoth_6 (ls' := [.ref 5, .int x1, .int 0]) (by decide) rfl rfl ?_
  obtain ⟨n18, h⟩ := h
  refine PW.drop (c_X3_readBoth_7 hd hrc  n18 _ _ _ hM3 h) ⟨rfl, rfl, rfl, trivial⟩
def w_X3_readFact (rc : Nat → Int32 → pm → (pm → Prop) → Prop) (x1 : Int32) (M : pm) (Q : pm → Prop) : Prop := w_X6_isWord 24 M (fun y2 M1 => ((y2 = 0 → (w_X6_isSign 91 M1 (fun y6 M5 => ((y6 = 0 → (w_X6_isWord 25 M5 (fun y10 M9 => ((y10 = 0 → (rc 3 x1 M9 (fun M13 => w_X3_comparison  M13 (fun y17 M16 => ((¬ y17 = (-1) → (w_X6_take  M16 (fun M19 => rc 3 x1 M19 (fun M22 => ¬ (mR M22 5 2) = 0 ∧ (w_X2_add (mR M22 5 2) y17 M22 (fun M26 => Q M26)))))) ∧ (y17 = (-1) → (w_X6_fail 1 (mI M16 6 4) M16 (fun M29 => Q M29)))))))) ∧ (¬ y10 = 0 → (w_X6_take  M9 (fun M32 => ¬ (mR M32 5 2) = 0 ∧ (w_X2_add (mR M32 5 2) 1 M32 (fun M36 => Q M36))))))))) ∧ (¬ y6 = 0 → (w_X3_mayOpen x1 M5 (fun y40 M39 => ((y40 = 0 → (Q M39)) ∧ (¬ y40 = 0 → (w_X6_take  M39 (fun M43 => rc 0 (x1 + 1) M43 (fun M46 => w_X6_needSign 93 M46 (fun M49 => Q M49))))))))))))) ∧ (¬ y2 = 0 → (w_X3_mayOpen x1 M1 (fun y53 M52 => ((y53 = 0 → (Q M52)) ∧ (¬ y53 = 0 → (w_X6_take  M52 (fun M56 => rc 2 (x1 + 1) M56 (fun M59 => ¬ (mR M59 5 2) = 0 ∧ (w_X2_add (mR M59 5 2) 10011 M59 (fun M63 => Q M63))))))))))))
set_option maxRecDepth 4000 in
theorem c_X3_readFact {d : Nat} (hd : 12 ≤ d) {rc : Nat → Int32 → pm → (pm → Prop) → Prop} (hrc : ∀ (i : Nat) (x : Int32) (M : pm) (Q : pm → Prop), pG M → rc i x M Q → PW (mRd i) d 350 0 (pfr (mRd i).2.2.1 [.ref 5, .int x]) [] M (qV Q)) {x1 : Int32} {M : pm} {Q : pm → Prop}  (hM : pG M) (h : w_X3_readFact rc x1 M Q) : PW mX3_readFact (d + 1) 350 0 (pfr mX3_readFact.2.2.1 [.ref 5, .int x1]) [] M (qV Q) := by
  unfold w_X3_readFact at h
  show PW mX3_readFact (d + 1) 350 0 [.ref 5, .int x1, .null] [] M (qV Q)
  refine PW.aload_n (pc := 0) dX3_readFact_0 rfl ?_
  refine PW.getR (pc := 1) dX3_readFact_1 (r := 6) lf_X3_12 (ob hM.1 s_5 (by decide)) fx_3_0 (oR_3_0 hM s_5) (pS_ne s_6) ?_
  refine PW.bipush (pc := 4) dX3_readFact_4 (v := 24) (by decide) ?_
  refine PW.inv (m' := mX6_isWord) (pc := 6) dX3_readFact_6 lm_X3_180 me_X6_isWord mi_X6_isWord (ob hM.1 s_6 (by decide)) rfl (As := [.int 24]) (st := []) rfl (Nat.le_of_ble_eq_true rfl) (Nat.le_of_ble_eq_true rfl) (Nat.le_of_eq hM.1) (Nat.le_refl _) (PW.deep (by omega) (c_X6_isWord  hM h)) ?_
  rintro _ M1 ⟨hM3, y2, rfl, z4, h⟩
  refine PW.if_eq (pc := 9) dX3_readFact_9 (t := 47) (by decide) (fun hc => ?_) (fun hc => ?_)
  · have h := h.1 hc
    refine PW.aload_n (pc := 47) dX3_readFact_47 rfl ?_
    refine PW.getR (pc := 48) dX3_readFact_48 (r := 6) lf_X3_12 (ob hM3.1 s_5 (by decide)) fx_3_0 (oR_3_0 hM3 s_5) (pS_ne s_6) ?_
    refine PW.bipush (pc := 51) dX3_readFact_51 (v := 91) (by decide) ?_
    refine PW.inv (m' := mX6_isSign) (pc := 53) dX3_readFact_53 lm_X3_192 me_X6_isSign mi_X6_isSign (ob hM3.1 s_6 (by decide)) rfl (As := [.int 91]) (st := []) rfl (Nat.le_of_ble_eq_true rfl) (Nat.le_of_ble_eq_true rfl) (Nat.le_of_eq hM3.1) (Nat.le_refl _) (PW.deep (by omega) (c_X6_isSign  hM3 h)) ?_
    rintro _ M5 ⟨hM7, y6, rfl, z8, h⟩
    refine PW.if_eq (pc := 56) dX3_readFact_56 (t := 93) (by decide) (fun hc => ?_) (fun hc => ?_)
    · have h := h.1 hc
      refine PW.aload_n (pc := 93) dX3_readFact_93 rfl ?_
      refine PW.getR (pc := 94) dX3_readFact_94 (r := 6) lf_X3_12 (ob hM7.1 s_5 (by decide)) fx_3_0 (oR_3_0 hM7 s_5) (pS_ne s_6) ?_
      refine PW.bipush (pc := 97) dX3_readFact_97 (v := 25) (by decide) ?_
      refine PW.inv (m' := mX6_isWord) (pc := 99) dX3_readFact_99 lm_X3_180 me_X6_isWord mi_X6_isWord (ob hM7.1 s_6 (by decide)) rfl (As := [.int 25]) (st := []) rfl (Nat.le_of_ble_eq_true rfl) (Nat.le_of_ble_eq_true rfl) (Nat.le_of_eq hM7.1) (Nat.le_refl _) (PW.deep (by omega) (c_X6_isWord  hM7 h)) ?_
      rintro _ M9 ⟨hM11, y10, rfl, z12, h⟩
      refine PW.if_eq (pc := 102) dX3_readFact_102 (t := 123) (by decide) (fun hc => ?_) (fun hc => ?_)
      · have h := h.1 hc
        refine PW.aload_n (pc := 123) dX3_readFact_123 rfl ?_
        refine PW.iload_n (pc := 124) dX3_readFact_124 rfl ?_
        refine PW.inv (m' := mX3_readSum) (pc := 125) dX3_readFact_125 lm_X3_87 me_X3_readSum mi_X3_readSum (ob hM11.1 s_5 (by decide)) rfl (As := [.int x1]) (st := []) rfl (Nat.le_of_ble_eq_true rfl) (Nat.le_of_ble_eq_true rfl) (Nat.le_of_eq hM11.1) (Nat.le_refl _) (hrc 3 _ _ _ hM11 h) ?_
        rintro _ M13 ⟨hM15, rfl, h⟩
        refine PW.aload_n (pc := 128) dX3_readFact_128 rfl ?_
        refine PW.inv (m' := mX3_comparison) (pc := 129) dX3_readFact_129 lm_X3_196 me_X3_comparison mi_X3_comparison (ob hM15.1 s_5 (by decide)) rfl (As := []) (st := []) rfl (Nat.le_of_ble_eq_true rfl) (Nat.le_of_ble_eq_true rfl) (Nat.le_of_eq hM15.1) (Nat.le_refl _) (PW.deep (by omega) (c_X3_comparison  hM15 h)) ?_
        rintro _ M16 ⟨hM18, y17, rfl, h⟩
        refine PW.istore_n (pc := 132) dX3_readFact_132 (ls' := [.ref 5, .int x1, .int y17]) (by decide) rfl rfl ?_
        refine PW.iload_n (pc := 133) dX3_readFact_133 rfl ?_
        refine PW.iconst (pc := 134) dX3_readFact_134 (v := (-1)) (by decide) ?_
        refine PW.icmp_ne (pc := 135) dX3_readFact_135 (t := 156) (by decide) (fun hc => ?_) (fun hc => ?_)
        · have h := h.1 hc
          refine PW.aload_n (pc := 156) dX3_readFact_156 rfl ?_
          refine PW.getR (pc := 157) dX3_readFact_157 (r := 6) lf_X3_12 (ob hM18.1 s_5 (by decide)) fx_3_0 (oR_3_0 hM18 s_5) (pS_ne s_6) ?_
          refine PW.inv (m' := mX6_take) (pc := 160) dX3_readFact_160 lm_X3_77 me_X6_take mi_X6_take (ob hM18.1 s_6 (by decide)) rfl (As := []) (st := []) rfl (Nat.le_of_ble_eq_true rfl) (Nat.le_of_ble_eq_true rfl) (Nat.le_of_eq hM18.1) (Nat.le_refl _) (PW.deep (by omega) (c_X6_take  hM18 h)) ?_
          rintro _ M19 ⟨hM21, rfl, h⟩
          refine PW.aload_n (pc := 163) dX3_readFact_163 rfl ?_
          refine PW.iload_n (pc := 164) dX3_readFact_164 rfl ?_
          refine PW.inv (m' := mX3_readSum) (pc := 165) dX3_readFact_165 lm_X3_87 me_X3_readSum mi_X3_readSum (ob hM21.1 s_5 (by decide)) rfl (As := [.int x1]) (st := []) rfl (Nat.le_of_ble_eq_true rfl) (Nat.le_of_ble_eq_true rfl) (Nat.le_of_eq hM21.1) (Nat.le_refl _) (hrc 3 _ _ _ hM21 h) ?_
          rintro _ M22 ⟨hM24, rfl, h⟩
          refine PW.aload_n (pc := 168) dX3_readFact_168 rfl ?_
          obtain ⟨v25, h⟩ := h
          refine PW.getR (pc := 169) dX3_readFact_169 (r := (mR M22 5 2)) lf_X3_25 (ob hM24.1 s_5 (by decide)) fx_3_2 rfl (pS_ne (hM24.2.2.2.2.2.2.2.resolve_left v25)) ?_
          refine PW.iload_n (pc := 172) dX3_readFact_172 rfl ?_
          refine PW.inv (m' := mX2_add) (pc := 173) dX3_readFact_173 lm_X3_183 me_X2_add mi_X2_add (ob hM24.1 (hM24.2.2.2.2.2.2.2.resolve_left v25) (by decide)) rfl (As := [.int y17]) (st := []) rfl (Nat.le_of_ble_eq_true rfl) (Nat.le_of_ble_eq_true rfl) (Nat.le_of_eq hM24.1) (Nat.le_refl _) (PW.deep (by omega) (c_X2_add (hM24.2.2.2.2.2.2.2.resolve_left v25) hM24 h)) ?_
          rintro _ M26 ⟨hM28, rfl, h⟩
          exact PW.ret0 (pc := 176) dX3_readFact_176 hM28.1 rfl ⟨hM28, rfl, h⟩
        · have h := h.2 hc
          refine PW.aload_n (pc := 138) dX3_readFact_138 rfl ?_
          refine PW.getR (pc := 139) dX3_readFact_139 (r := 6) lf_X3_12 (ob hM18.1 s_5 (by decide)) fx_3_0 (oR_3_0 hM18 s_5) (pS_ne s_6) ?_
          refine PW.iconst (pc := 142) dX3_readFact_142 (v := 1) (by decide) ?_
          refine PW.aload_n (pc := 143) dX3_readFact_143 rfl ?_
          refine PW.getR (pc := 144) dX3_readFact_144 (r := 6) lf_X3_12 (ob hM18.1 s_5 (by decide)) fx_3_0 (oR_3_0 hM18 s_5) (pS_ne s_6) ?_
          refine PW.getI (pc := 147) dX3_readFact_147 lf_X3_55 (ob hM18.1 s_6 (by decide)) fx_6_4 ?_
          refine PW.inv (m' := mX6_fail) (pc := 150) dX3_readFact_150 lm_X3_58 me_X6_fail mi_X6_fail (ob hM18.1 s_6 (by decide)) rfl (As := [.int 1, .int (mI M16 6 4)]) (st := []) rfl (Nat.le_of_ble_eq_true rfl) (Nat.le_of_ble_eq_true rfl) (Nat.le_of_eq hM18.1) (Nat.le_refl _) (PW.deep (by omega) (c_X6_fail  hM18 h)) ?_
          rintro _ M29 ⟨hM31, rfl, h⟩
          refine PW.goto (pc := 153) dX3_readFact_153 (t := 176) (by decide) ?_
          exact PW.ret0 (pc := 176) dX3_readFact_176 hM31.1 rfl ⟨hM31, rfl, h⟩
      · have h := h.2 hc
        refine PW.aload_n (pc := 105) dX3_readFact_105 rfl ?_
        refine PW.getR (pc := 106) dX3_readFact_106 (r := 6) lf_X3_12 (ob hM11.1 s_5 (by decide)) fx_3_0 (oR_3_0 hM11 s_5) (pS_ne s_6) ?_
        refine PW.inv (m' := mX6_take) (pc := 109) dX3_readFact_109 lm_X3_77 me_X6_take mi_X6_take (ob hM11.1 s_6 (by decide)) rfl (As := []) (st := []) rfl (Nat.le_of_ble_eq_true rfl) (Nat.le_of_ble_eq_true rfl) (Nat.le_of_eq hM11.1) (Nat.le_refl _) (PW.deep (by omega) (c_X6_take  hM11 h)) ?_
        rintro _ M32 ⟨hM34, rfl, h⟩
        refine PW.aload_n (pc := 112) dX3_readFact_112 rfl ?_
        obtain ⟨v35, h⟩ := h
        refine PW.getR (pc := 113) dX3_readFact_113 (r := (mR M32 5 2)) lf_X3_25 (ob hM34.1 s_5 (by decide)) fx_3_2 rfl (pS_ne (hM34.2.2.2.2.2.2.2.resolve_left v35)) ?_
        refine PW.iconst (pc := 116) dX3_readFact_116 (v := 1) (by decide) ?_
        refine PW.inv (m' := mX2_add) (pc := 117) dX3_readFact_117 lm_X3_183 me_X2_add mi_X2_add (ob hM34.1 (hM34.2.2.2.2.2.2.2.resolve_left v35) (by decide)) rfl (As := [.int 1]) (st := []) rfl (Nat.le_of_ble_eq_true rfl) (Nat.le_of_ble_eq_true rfl) (Nat.le_of_eq hM34.1) (Nat.le_refl _) (PW.deep (by omega) (c_X2_add (hM34.2.2.2.2.2.2.2.resolve_left v35) hM34 h)) ?_
        rintro _ M36 ⟨hM38, rfl, h⟩
        refine PW.goto (pc := 120) dX3_readFact_120 (t := 176) (by decide) ?_
        exact PW.ret0 (pc := 176) dX3_readFact_176 hM38.1 rfl ⟨hM38, rfl, h⟩
    · have h := h.2 hc
      refine PW.aload_n (pc := 59) dX3_readFact_59 rfl ?_
      refine PW.iload_n (pc := 60) dX3_readFact_60 rfl ?_
      refine PW.inv (m' := mX3_mayOpen) (pc := 61) dX3_readFact_61 lm_X3_189 me_X3_mayOpen mi_X3_mayOpen (ob hM7.1 s_5 (by decide)) rfl (As := [.int x1]) (st := []) rfl (Nat.le_of_ble_eq_true rfl) (Nat.le_of_ble_eq_true rfl) (Nat.le_of_eq hM7.1) (Nat.le_refl _) (PW.deep (by omega) (c_X3_mayOpen  hM7 h)) ?_
      rintro _ M39 ⟨hM41, y40, rfl, z42, h⟩
      refine PW.if_eq (pc := 64) dX3_readFact_64 (t := 176) (by decide) (fun hc => ?_) (fun hc => ?_)
      · have h := h.1 hc
        exact PW.ret0 (pc := 176) dX3_readFact_176 hM41.1 rfl ⟨hM41, rfl, h⟩
      · have h := h.2 hc
        refine PW.aload_n (pc := 67) dX3_readFact_67 rfl ?_
        refine PW.getR (pc := 68) dX3_readFact_68 (r := 6) lf_X3_12 (ob hM41.1 s_5 (by decide)) fx_3_0 (oR_3_0 hM41 s_5) (pS_ne s_6) ?_
        refine PW.inv (m' := mX6_take) (pc := 71) dX3_readFact_71 lm_X3_77 me_X6_take mi_X6_take (ob hM41.1 s_6 (by decide)) rfl (As := []) (st := []) rfl (Nat.le_of_ble_eq_true rfl) (Nat.le_of_ble_eq_true rfl) (Nat.le_of_eq hM41.1) (Nat.le_refl _) (PW.deep (by omega) (c_X6_take  hM41 h)) ?_
        rintro _ M43 ⟨hM45, rfl, h⟩
        refine PW.aload_n (pc := 74) dX3_readFact_74 rfl ?_
        refine PW.iload_n (pc := 75) dX3_readFact_75 rfl ?_
        refine PW.iconst (pc := 76) dX3_readFact_76 (v := 1) (by decide) ?_
        refine PW.iadd (pc := 77) dX3_readFact_77 ?_
        refine PW.inv (m' := mX3_readTest) (pc := 78) dX3_readFact_78 lm_X3_84 me_X3_readTest mi_X3_readTest (ob hM45.1 s_5 (by decide)) rfl (As := [.int (x1 + 1)]) (st := []) rfl (Nat.le_of_ble_eq_true rfl) (Nat.le_of_ble_eq_true rfl) (Nat.le_of_eq hM45.1) (Nat.le_refl _) (hrc 0 _ _ _ hM45 h) ?_
        rintro _ M46 ⟨hM48, rfl, h⟩
        refine PW.aload_n (pc := 81) dX3_readFact_81 rfl ?_
        refine PW.getR (pc := 82) dX3_readFact_82 (r := 6) lf_X3_12 (ob hM48.1 s_5 (by decide)) fx_3_0 (oR_3_0 hM48 s_5) (pS_ne s_6) ?_
        refine PW.bipush (pc := 85) dX3_readFact_85 (v := 93) (by decide) ?_
        refine PW.inv (m' := mX6_needSign) (pc := 87) dX3_readFact_87 lm_X3_121 me_X6_needSign mi_X6_needSign (ob hM48.1 s_6 (by decide)) rfl (As := [.int 93]) (st := []) rfl (Nat.le_of_ble_eq_true rfl) (Nat.le_of_ble_eq_true rfl) (Nat.le_of_eq hM48.1) (Nat.le_refl _) (PW.deep (by omega) (c_X6_needSign  hM48 h)) ?_
        rintro _ M49 ⟨hM51, rfl, h⟩
        refine PW.goto (pc := 90) dX3_readFact_90 (t := 176) (by decide) ?_
        exact PW.ret0 (pc := 176) dX3_readFact_176 hM51.1 rfl ⟨hM51, rfl, h⟩
  · have h := h.2 hc
    refine PW.aload_n (pc := 12) dX3_readFact_12 rfl ?_
    refine PW.iload_n (pc := 13) dX3_readFact_13 rfl ?_
    refine PW.inv (m' := mX3_mayOpen) (pc := 14) dX3_readFact_14 lm_X3_189 me_X3_mayOpen mi_X3_mayOpen (ob hM3.1 s_5 (by decide)) rfl (As := [.int x1]) (st := []) rfl (Nat.le_of_ble_eq_true rfl) (Nat.le_of_ble_eq_true rfl) (Nat.le_of_eq hM3.1) (Nat.le_refl _) (PW.deep (by omega) (c_X3_mayOpen  hM3 h)) ?_
    rintro _ M52 ⟨hM54, y53, rfl, z55, h⟩
    refine PW.if_eq (pc := 17) dX3_readFact_17 (t := 176) (by decide) (fun hc => ?_) (fun hc => ?_)
    · have h := h.1 hc
      exact PW.ret0 (pc := 176) dX3_readFact_176 hM54.1 rfl ⟨hM54, rfl, h⟩
    · have h := h.2 hc
      refine PW.aload_n (pc := 20) dX3_readFact_20 rfl ?_
      refine PW.getR (pc := 21) dX3_readFact_21 (r := 6) lf_X3_12 (ob hM54.1 s_5 (by decide)) fx_3_0 (oR_3_0 hM54 s_5) (pS_ne s_6) ?_
      refine PW.inv (m' := mX6_take) (pc := 24) dX3_readFact_24 lm_X3_77 me_X6_take mi_X6_take (ob hM54.1 s_6 (by decide)) rfl (As := []) (st := []) rfl (Nat.le_of_ble_eq_true rfl) (Nat.le_of_ble_eq_true rfl) (Nat.le_of_eq hM54.1) (Nat.le_refl _) (PW.deep (by omega) (c_X6_take  hM54 h)) ?_
      rintro _ M56 ⟨hM58, rfl, h⟩
      refine PW.aload_n (pc := 27) dX3_readFact_27 rfl ?_
      refine PW.iload_n (pc := 28) dX3_readFact_28 rfl ?_
      refine PW.iconst (pc := 29) dX3_readFact_29 (v := 1) (by decide) ?_
      refine PW.iadd (pc := 30) dX3_readFact_30 ?_
      refine PW.inv (m' := mX3_readFact) (pc := 31) dX3_readFact_31 lm_X3_186 me_X3_readFact mi_X3_readFact (ob hM58.1 s_5 (by decide)) rfl (As := [.int (x1 + 1)]) (st := []) rfl (Nat.le_of_ble_eq_true rfl) (Nat.le_of_ble_eq_true rfl) (Nat.le_of_eq hM58.1) (Nat.le_refl _) (hrc 2 _ _ _ hM58 h) ?_
      rintro _ M59 ⟨hM61, rfl, h⟩
      refine PW.aload_n (pc := 34) dX3_readFact_34 rfl ?_
      obtain ⟨v62, h⟩ := h
      refine PW.getR (pc := 35) dX3_readFact_35 (r := (mR M59 5 2)) lf_X3_25 (ob hM61.1 s_5 (by decide)) fx_3_2 rfl (pS_ne (hM61.2.2.2.2.2.2.2.resolve_left v62)) ?_
      refine PW.sipush (pc := 38) dX3_readFact_38 (v := 10011) (by decide) ?_
      refine PW.inv (m' := mX2_add) (pc := 41) dX3_readFact_41 lm_X3_183 me_X2_add mi_X2_add (ob hM61.1 (hM61.2.2.2.2.2.2.2.resolve_left v62) (by decide)) rfl (As := [.int 10011]) (st := []) rfl (Nat.le_of_ble_eq_true rfl) (Nat.le_of_ble_eq_true rfl) (Nat.le_of_eq hM61.1) (Nat.le_refl _) (PW.deep (by omega) (c_X2_add (hM61.2.2.2.2.2.2.2.resolve_left v62) hM61 h)) ?_
      rintro _ M63 ⟨hM65, rfl, h⟩
      refine PW.goto (pc := 44) dX3_readFact_44 (t := 176) (by decide) ?_
      exact PW.ret0 (pc := 176) dX3_readFact_176 hM65.1 rfl ⟨hM65, rfl, h⟩
def w_X3_readSum_59 (rc : Nat → Int32 → pm → (pm → Prop) → Prop)  (x1 : Int32) (x2 : Int32) (t0 : Int32) (M : pm) (r : Int32 → Int32 → pm → Prop)  (Q : pm → Prop) : Prop := w_X6_take  M (fun M12 => rc 4 x1 M12 (fun M15 => ¬ (mR M15 5 2) = 0 ∧ (w_X2_add (mR M15 5 2) t0 M15 (fun M19 => r x1 (x2 + 1) M19))))
set_option maxRecDepth 4000 in
theorem c_X3_readSum_59 {d : Nat} (hd : 12 ≤ d) {rc : Nat → Int32 → pm → (pm → Prop) → Prop} (hrc : ∀ (i : Nat) (x : Int32) (M : pm) (Q : pm → Prop), pG M → rc i x M Q → PW (mRd i) d 350 0 (pfr (mRd i).2.2.1 [.ref 5, .int x]) [] M (qV Q)) {r : Int32 → Int32 → pm → Prop}  {Q : pm → Prop} (hr : ∀ (x1 : Int32) (x2 : Int32) (M : pm), pG M → r x1 x2 M → PW mX3_readSum (d + 1) 350 7 [.ref 5, .int x1, .int x2, .null] [] M (qV Q)) : ∀ (x1 : Int32) (x2 : Int32) (t0 : Int32) (M : pm), pG M → w_X3_readSum_59 rc x1 x2 t0 M r Q → PW mX3_readSum (d + 1) 350 59 [.ref 5, .int x1, .int x2, .null] [.int t0] M (qV Q) := by
  intro x1 x2 t0 M hM h
  unfold w_X3_readSum_59 at h
  refine PW.istore_n (pc := 59) dX3_readSum_59 (ls' := [.ref 5, .int x1, .int x2, .int t0]) (by decide) rfl rfl ?_
  refine PW.aload_n (pc := 60) dX3_readSum_60 rfl ?_
  refine PW.getR (pc := 61) dX3_readSum_61 (r := 6) lf_X3_12 (ob hM.1 s_5 (by decide)) fx_3_0 (oR_3_0 hM s_5) (pS_ne s_6) ?_
  refine PW.inv (m' := mX6_take) (pc := 64) dX3_readSum_64 lm_X3_77 me_X6_take mi_X6_take (ob hM.1 s_6 (by decide)) rfl (As := []) (st := []) rfl (Nat.le_of_ble_eq_true rfl) (Nat.le_of_ble_eq_true rfl) (Nat.le_of_eq hM.1) (Nat.le_refl _) (PW.deep (by omega) (c_X6_take  hM h)) ?_
  rintro _ M12 ⟨hM14, rfl, h⟩
  refine PW.aload_n (pc := 67) dX3_readSum_67 rfl ?_
  refine PW.iload_n (pc := 68) dX3_readSum_68 rfl ?_
  refine PW.inv (m' := mX3_readProduct) (pc := 69) dX3_readSum_69 lm_X3_199 me_X3_readProduct mi_X3_readProduct (ob hM14.1 s_5 (by decide)) rfl (As := [.int x1]) (st := []) rfl (Nat.le_of_ble_eq_true rfl) (Nat.le_of_ble_eq_true rfl) (Nat.le_of_eq hM14.1) (Nat.le_refl _) (hrc 4 _ _ _ hM14 h) ?_
  rintro _ M15 ⟨hM17, rfl, h⟩
  refine PW.aload_n (pc := 72) dX3_readSum_72 rfl ?_
  obtain ⟨v18, h⟩ := h
  refine PW.getR (pc := 73) dX3_readSum_73 (r := (mR M15 5 2)) lf_X3_25 (ob hM17.1 s_5 (by decide)) fx_3_2 rfl (pS_ne (hM17.2.2.2.2.2.2.2.resolve_left v18)) ?_
  refine PW.iload_n (pc := 76) dX3_readSum_76 rfl ?_
  refine PW.inv (m' := mX2_add) (pc := 77) dX3_readSum_77 lm_X3_183 me_X2_add mi_X2_add (ob hM17.1 (hM17.2.2.2.2.2.2.2.resolve_left v18) (by decide)) rfl (As := [.int t0]) (st := []) rfl (Nat.le_of_ble_eq_true rfl) (Nat.le_of_ble_eq_true rfl) (Nat.le_of_eq hM17.1) (Nat.le_refl _) (PW.deep (by omega) (c_X2_add (hM17.2.2.2.2.2.2.2.resolve_left v18) hM17 h)) ?_
  rintro _ M19 ⟨hM21, rfl, h⟩
  refine PW.iinc (pc := 80) dX3_readSum_80 (v := (x2 + 1)) (ls' := [.ref 5, .int x1, .int (x2 + 1), .int t0]) rfl rfl (by decide) rfl rfl ?_
  refine PW.goto (pc := 83) dX3_readSum_83 (t := 7) (by decide) ?_
  exact PW.drop (hr _ _ _ hM21 h) ⟨rfl, rfl, rfl, trivial⟩
def w_X3_readSum_7 (rc : Nat → Int32 → pm → (pm → Prop) → Prop) : Nat → Int32 → Int32 → pm → (pm → Prop) → Prop
  | 0, _, _, _, _ => False
  | n + 1, x1, x2, M, Q => ((1600 ≤ x2 → (Q M)) ∧ (¬ 1600 ≤ x2 → (w_X6_isSign 43 M (fun y5 M4 => ((¬ y5 = 0 → (w_X6_isSign 43 M4 (fun y9 M8 => ((y9 = 0 → (w_X3_readSum_59 rc x1 x2 10001 M8 (fun x1 x2 M => w_X3_readSum_7 rc n x1 x2 M  Q) Q)) ∧ (¬ y9 = 0 → (w_X3_readSum_59 rc x1 x2 10000 M8 (fun x1 x2 M => w_X3_readSum_7 rc n x1 x2 M  Q) Q)))))) ∧ (y5 = 0 → (w_X6_isSign 45 M4 (fun y23 M22 => ((y23 = 0 → (Q M22)) ∧ (¬ y23 = 0 → (w_X6_isSign 43 M22 (fun y27 M26 => ((y27 = 0 → (w_X3_readSum_59 rc x1 x2 10001 M26 (fun x1 x2 M => w_X3_readSum_7 rc n x1 x2 M  Q) Q)) ∧ (¬ y27 = 0 → (w_X3_readSum_59 rc x1 x2 10000 M26 (fun x1 x2 M => w_X3_readSum_7 rc n x1 x2 M  Q) Q)))))))))))))))
set_option maxRecDepth 4000 in
theorem c_X3_readSum_7 {d : Nat} (hd : 12 ≤ d) {rc : Nat → Int32 → pm → (pm → Prop) → Prop} (hrc : ∀ (i : Nat) (x : Int32) (M : pm) (Q : pm → Prop), pG M → rc i x M Q → PW (mRd i) d 350 0 (pfr (mRd i).2.2.1 [.ref 5, .int x]) [] M (qV Q))  {Q : pm → Prop}  : ∀ (n : Nat) (x1 : Int32) (x2 : Int32) (M : pm), pG M → w_X3_readSum_7 rc n x1 x2 M  Q → PW mX3_readSum (d + 1) 350 7 [.ref 5, .int x1, .int x2, .null] [] M (qV Q) := by
  intro n
  induction n with
  | zero => intro x1 x2 M hM h; exact h.elim
  | succ n ih =>
    intro x1 x2 M hM h
    unfold w_X3_readSum_7 at h
    refine PW.iload_n (pc := 7) dX3_readSum_7 rfl ?_
    refine PW.sipush (pc := 8) dX3_readSum_8 (v := 1600) (by decide) ?_
    refine PW.icmp_ge (pc := 11) dX3_readSum_11 (t := 86) (by decide) (fun hc => ?_) (fun hc => ?_)
    · have h := h.1 hc
      exact PW.ret0 (pc := 86) dX3_readSum_86 hM.1 rfl ⟨hM, rfl, h⟩
    · have h := h.2 hc
      refine PW.aload_n (pc := 14) dX3_readSum_14 rfl ?_
      refine PW.getR (pc := 15) dX3_readSum_15 (r := 6) lf_X3_12 (ob hM.1 s_5 (by decide)) fx_3_0 (oR_3_0 hM s_5) (pS_ne s_6) ?_
      refine PW.bipush (pc := 18) dX3_readSum_18 (v := 43) (by decide) ?_
      refine PW.inv (m' := mX6_isSign) (pc := 20) dX3_readSum_20 lm_X3_192 me_X6_isSign mi_X6_isSign (ob hM.1 s_6 (by decide)) rfl (As := [.int 43]) (st := []) rfl (Nat.le_of_ble_eq_true rfl) (Nat.le_of_ble_eq_true rfl) (Nat.le_of_eq hM.1) (Nat.le_refl _) (PW.deep (by omega) (c_X6_isSign  hM h)) ?_
      rintro _ M4 ⟨hM6, y5, rfl, z7, h⟩
      refine PW.if_ne (pc := 23) dX3_readSum_23 (t := 38) (by decide) (fun hc => ?_) (fun hc => ?_)
      · have h := h.1 hc
        refine PW.aload_n (pc := 38) dX3_readSum_38 rfl ?_
        refine PW.getR (pc := 39) dX3_readSum_39 (r := 6) lf_X3_12 (ob hM6.1 s_5 (by decide)) fx_3_0 (oR_3_0 hM6 s_5) (pS_ne s_6) ?_
        refine PW.bipush (pc := 42) dX3_readSum_42 (v := 43) (by decide) ?_
        refine PW.inv (m' := mX6_isSign) (pc := 44) dX3_readSum_44 lm_X3_192 me_X6_isSign mi_X6_isSign (ob hM6.1 s_6 (by decide)) rfl (As := [.int 43]) (st := []) rfl (Nat.le_of_ble_eq_true rfl) (Nat.le_of_ble_eq_true rfl) (Nat.le_of_eq hM6.1) (Nat.le_refl _) (PW.deep (by omega) (c_X6_isSign  hM6 h)) ?_
        rintro _ M8 ⟨hM10, y9, rfl, z11, h⟩
        refine PW.if_eq (pc := 47) dX3_readSum_47 (t := 56) (by decide) (fun hc => ?_) (fun hc => ?_)
        · have h := h.1 hc
          refine PW.sipush (pc := 56) dX3_readSum_56 (v := 10001) (by decide) ?_
          exact PW.drop (c_X3_readSum_59 hd hrc ih _ _ _ _ hM10 h) ⟨rfl, rfl, rfl, trivial⟩
        · have h := h.2 hc
          refine PW.sipush (pc := 50) dX3_readSum_50 (v := 10000) (by decide) ?_
          refine PW.goto (pc := 53) dX3_readSum_53 (t := 59) (by decide) ?_
          exact PW.drop (c_X3_readSum_59 hd hrc ih _ _ _ _ hM10 h) ⟨rfl, rfl, rfl, trivial⟩
      · have h := h.2 hc
        refine PW.aload_n (pc := 26) dX3_readSum_26 rfl ?_
        refine PW.getR (pc := 27) dX3_readSum_27 (r := 6) lf_X3_12 (ob hM6.1 s_5 (by decide)) fx_3_0 (oR_3_0 hM6 s_5) (pS_ne s_6) ?_
        refine PW.bipush (pc := 30) dX3_readSum_30 (v := 45) (by decide) ?_
        refine PW.inv (m' := mX6_isSign) (pc := 32) dX3_readSum_32 lm_X3_192 me_X6_isSign mi_X6_isSign (ob hM6.1 s_6 (by decide)) rfl (As := [.int 45]) (st := []) rfl (Nat.le_of_ble_eq_true rfl) (Nat.le_of_ble_eq_true rfl) (Nat.le_of_eq hM6.1) (Nat.le_refl _) (PW.deep (by omega) (c_X6_isSign  hM6 h)) ?_
        rintro _ M22 ⟨hM24, y23, rfl, z25, h⟩
        refine PW.if_eq (pc := 35) dX3_readSum_35 (t := 86) (by decide) (fun hc => ?_) (fun hc => ?_)
        · have h := h.1 hc
          exact PW.ret0 (pc := 86) dX3_readSum_86 hM24.1 rfl ⟨hM24, rfl, h⟩
        · have h := h.2 hc
          refine PW.aload_n (pc := 38) dX3_readSum_38 rfl ?_
          refine PW.getR (pc := 39) dX3_readSum_39 (r := 6) lf_X3_12 (ob hM24.1 s_5 (by decide)) fx_3_0 (oR_3_0 hM24 s_5) (pS_ne s_6) ?_
          refine PW.bipush (pc := 42) dX3_readSum_42 (v := 43) (by decide) ?_
          refine PW.inv (m' := mX6_isSign) (pc := 44) dX3_readSum_44 lm_X3_192 me_X6_isSign mi_X6_isSign (ob hM24.1 s_6 (by decide)) rfl (As := [.int 43]) (st := []) rfl (Nat.le_of_ble_eq_true rfl) (Nat.le_of_ble_eq_true rfl) (Nat.le_of_eq hM24.1) (Nat.le_refl _) (PW.deep (by omega) (c_X6_isSign  hM24 h)) ?_
          rintro _ M26 ⟨hM28, y27, rfl, z29, h⟩
          refine PW.if_eq (pc := 47) dX3_readSum_47 (t := 56) (by decide) (fun hc => ?_) (fun hc => ?_)
          · have h := h.1 hc
            refine PW.sipush (pc := 56) dX3_readSum_56 (v := 10001) (by decide) ?_
            exact PW.drop (c_X3_readSum_59 hd hrc ih _ _ _ _ hM28 h) ⟨rfl, rfl, rfl, trivial⟩
          · have h := h.2 hc
            refine PW.sipush (pc := 50) dX3_readSum_50 (v := 10000) (by decide) ?_
            refine PW.goto (pc := 53) dX3_readSum_53 (t := 59) (by decide) ?_
            exact PW.drop (c_X3_readSum_59 hd hrc ih _ _ _ _ hM28 h) ⟨rfl, rfl, rfl, trivial⟩
def w_X3_readSum (rc : Nat → Int32 → pm → (pm → Prop) → Prop) (x1 : Int32) (M : pm) (Q : pm → Prop) : Prop := rc 4 x1 M (fun M1 => ∃ n30, w_X3_readSum_7 rc n30 x1 0 M1  Q)
set_option maxRecDepth 4000 in
theorem c_X3_readSum {d : Nat} (hd : 12 ≤ d) {rc : Nat → Int32 → pm → (pm → Prop) → Prop} (hrc : ∀ (i : Nat) (x : Int32) (M : pm) (Q : pm → Prop), pG M → rc i x M Q → PW (mRd i) d 350 0 (pfr (mRd i).2.2.1 [.ref 5, .int x]) [] M (qV Q)) {x1 : Int32} {M : pm} {Q : pm → Prop}  (hM : pG M) (h : w_X3_readSum rc x1 M Q) : PW mX3_readSum (d + 1) 350 0 (pfr mX3_readSum.2.2.1 [.ref 5, .int x1]) [] M (qV Q) := by
  unfold w_X3_readSum at h
  show PW mX3_readSum (d + 1) 350 0 [.ref 5, .int x1, .null, .null] [] M (qV Q)
  refine PW.aload_n (pc := 0) dX3_readSum_0 rfl ?_
  refine PW.iload_n (pc := 1) dX3_readSum_1 rfl ?_
  refine PW.inv (m' := mX3_readProduct) (pc := 2) dX3_readSum_2 lm_X3_199 me_X3_readProduct mi_X3_readProduct (ob hM.1 s_5 (by decide)) rfl (As := [.int x1]) (st := []) rfl (Nat.le_of_ble_eq_true rfl) (Nat.le_of_ble_eq_true rfl) (Nat.le_of_eq hM.1) (Nat.le_refl _) (hrc 4 _ _ _ hM h) ?_
  rintro _ M1 ⟨hM3, rfl, h⟩
  refine PW.iconst (pc := 5) dX3_readSum_5 (v := 0) (by decide) ?_
  refine PW.istore_n (pc := 6) dX3_readSum_6 (ls' := [.ref 5, .int x1, .int 0, .null]) (by decide) rfl rfl ?_
  obtain ⟨n30, h⟩ := h
  refine PW.drop (c_X3_readSum_7 hd hrc  n30 _ _ _ hM3 h) ⟨rfl, rfl, rfl, trivial⟩
def w_X3_readProduct_59 (rc : Nat → Int32 → pm → (pm → Prop) → Prop)  (x1 : Int32) (x2 : Int32) (t0 : Int32) (M : pm) (r : Int32 → Int32 → pm → Prop)  (Q : pm → Prop) : Prop := w_X6_take  M (fun M12 => rc 5 x1 M12 (fun M15 => ¬ (mR M15 5 2) = 0 ∧ (w_X2_add (mR M15 5 2) t0 M15 (fun M19 => r x1 (x2 + 1) M19))))
set_option maxRecDepth 4000 in
theorem c_X3_readProduct_59 {d : Nat} (hd : 12 ≤ d) {rc : Nat → Int32 → pm → (pm → Prop) → Prop} (hrc : ∀ (i : Nat) (x : Int32) (M : pm) (Q : pm → Prop), pG M → rc i x M Q → PW (mRd i) d 350 0 (pfr (mRd i).2.2.1 [.ref 5, .int x]) [] M (qV Q)) {r : Int32 → Int32 → pm → Prop}  {Q : pm → Prop} (hr : ∀ (x1 : Int32) (x2 : Int32) (M : pm), pG M → r x1 x2 M → PW mX3_readProduct (d + 1) 350 7 [.ref 5, .int x1, .int x2, .null] [] M (qV Q)) : ∀ (x1 : Int32) (x2 : Int32) (t0 : Int32) (M : pm), pG M → w_X3_readProduct_59 rc x1 x2 t0 M r Q → PW mX3_readProduct (d + 1) 350 59 [.ref 5, .int x1, .int x2, .null] [.int t0] M (qV Q) := by
  intro x1 x2 t0 M hM h
  unfold w_X3_readProduct_59 at h
  refine PW.istore_n (pc := 59) dX3_readProduct_59 (ls' := [.ref 5, .int x1, .int x2, .int t0]) (by decide) rfl rfl ?_
  refine PW.aload_n (pc := 60) dX3_readProduct_60 rfl ?_
  refine PW.getR (pc := 61) dX3_readProduct_61 (r := 6) lf_X3_12 (ob hM.1 s_5 (by decide)) fx_3_0 (oR_3_0 hM s_5) (pS_ne s_6) ?_
  refine PW.inv (m' := mX6_take) (pc := 64) dX3_readProduct_64 lm_X3_77 me_X6_take mi_X6_take (ob hM.1 s_6 (by decide)) rfl (As := []) (st := []) rfl (Nat.le_of_ble_eq_true rfl) (Nat.le_of_ble_eq_true rfl) (Nat.le_of_eq hM.1) (Nat.le_refl _) (PW.deep (by omega) (c_X6_take  hM h)) ?_
  rintro _ M12 ⟨hM14, rfl, h⟩
  refine PW.aload_n (pc := 67) dX3_readProduct_67 rfl ?_
  refine PW.iload_n (pc := 68) dX3_readProduct_68 rfl ?_
  refine PW.inv (m' := mX3_readPiece) (pc := 69) dX3_readProduct_69 lm_X3_202 me_X3_readPiece mi_X3_readPiece (ob hM14.1 s_5 (by decide)) rfl (As := [.int x1]) (st := []) rfl (Nat.le_of_ble_eq_true rfl) (Nat.le_of_ble_eq_true rfl) (Nat.le_of_eq hM14.1) (Nat.le_refl _) (hrc 5 _ _ _ hM14 h) ?_
  rintro _ M15 ⟨hM17, rfl, h⟩
  refine PW.aload_n (pc := 72) dX3_readProduct_72 rfl ?_
  obtain ⟨v18, h⟩ := h
  refine PW.getR (pc := 73) dX3_readProduct_73 (r := (mR M15 5 2)) lf_X3_25 (ob hM17.1 s_5 (by decide)) fx_3_2 rfl (pS_ne (hM17.2.2.2.2.2.2.2.resolve_left v18)) ?_
  refine PW.iload_n (pc := 76) dX3_readProduct_76 rfl ?_
  refine PW.inv (m' := mX2_add) (pc := 77) dX3_readProduct_77 lm_X3_183 me_X2_add mi_X2_add (ob hM17.1 (hM17.2.2.2.2.2.2.2.resolve_left v18) (by decide)) rfl (As := [.int t0]) (st := []) rfl (Nat.le_of_ble_eq_true rfl) (Nat.le_of_ble_eq_true rfl) (Nat.le_of_eq hM17.1) (Nat.le_refl _) (PW.deep (by omega) (c_X2_add (hM17.2.2.2.2.2.2.2.resolve_left v18) hM17 h)) ?_
  rintro _ M19 ⟨hM21, rfl, h⟩
  refine PW.iinc (pc := 80) dX3_readProduct_80 (v := (x2 + 1)) (ls' := [.ref 5, .int x1, .int (x2 + 1), .int t0]) rfl rfl (by decide) rfl rfl ?_
  refine PW.goto (pc := 83) dX3_readProduct_83 (t := 7) (by decide) ?_
  exact PW.drop (hr _ _ _ hM21 h) ⟨rfl, rfl, rfl, trivial⟩
def w_X3_readProduct_7 (rc : Nat → Int32 → pm → (pm → Prop) → Prop) : Nat → Int32 → Int32 → pm → (pm → Prop) → Prop
  | 0, _, _, _, _ => False
  | n + 1, x1, x2, M, Q => ((1600 ≤ x2 → (Q M)) ∧ (¬ 1600 ≤ x2 → (w_X6_isSign 42 M (fun y5 M4 => ((¬ y5 = 0 → (w_X6_isSign 42 M4 (fun y9 M8 => ((y9 = 0 → (w_X3_readProduct_59 rc x1 x2 10003 M8 (fun x1 x2 M => w_X3_readProduct_7 rc n x1 x2 M  Q) Q)) ∧ (¬ y9 = 0 → (w_X3_readProduct_59 rc x1 x2 10002 M8 (fun x1 x2 M => w_X3_readProduct_7 rc n x1 x2 M  Q) Q)))))) ∧ (y5 = 0 → (w_X6_isSign 47 M4 (fun y23 M22 => ((y23 = 0 → (Q M22)) ∧ (¬ y23 = 0 → (w_X6_isSign 42 M22 (fun y27 M26 => ((y27 = 0 → (w_X3_readProduct_59 rc x1 x2 10003 M26 (fun x1 x2 M => w_X3_readProduct_7 rc n x1 x2 M  Q) Q)) ∧ (¬ y27 = 0 → (w_X3_readProduct_59 rc x1 x2 10002 M26 (fun x1 x2 M => w_X3_readProduct_7 rc n x1 x2 M  Q) Q)))))))))))))))
set_option maxRecDepth 4000 in
theorem c_X3_readProduct_7 {d : Nat} (hd : 12 ≤ d) {rc : Nat → Int32 → pm → (pm → Prop) → Prop} (hrc : ∀ (i : Nat) (x : Int32) (M : pm) (Q : pm → Prop), pG M → rc i x M Q → PW (mRd i) d 350 0 (pfr (mRd i).2.2.1 [.ref 5, .int x]) [] M (qV Q))  {Q : pm → Prop}  : ∀ (n : Nat) (x1 : Int32) (x2 : Int32) (M : pm), pG M → w_X3_readProduct_7 rc n x1 x2 M  Q → PW mX3_readProduct (d + 1) 350 7 [.ref 5, .int x1, .int x2, .null] [] M (qV Q) := by
  intro n
  induction n with
  | zero => intro x1 x2 M hM h; exact h.elim
  | succ n ih =>
    intro x1 x2 M hM h
    unfold w_X3_readProduct_7 at h
    refine PW.iload_n (pc := 7) dX3_readProduct_7 rfl ?_
    refine PW.sipush (pc := 8) dX3_readProduct_8 (v := 1600) (by decide) ?_
    refine PW.icmp_ge (pc := 11) dX3_readProduct_11 (t := 86) (by decide) (fun hc => ?_) (fun hc => ?_)
    · have h := h.1 hc
      exact PW.ret0 (pc := 86) dX3_readProduct_86 hM.1 rfl ⟨hM, rfl, h⟩
    · have h := h.2 hc
      refine PW.aload_n (pc := 14) dX3_readProduct_14 rfl ?_
      refine PW.getR (pc := 15) dX3_readProduct_15 (r := 6) lf_X3_12 (ob hM.1 s_5 (by decide)) fx_3_0 (oR_3_0 hM s_5) (pS_ne s_6) ?_
      refine PW.bipush (pc := 18) dX3_readProduct_18 (v := 42) (by decide) ?_
      refine PW.inv (m' := mX6_isSign) (pc := 20) dX3_readProduct_20 lm_X3_192 me_X6_isSign mi_X6_isSign (ob hM.1 s_6 (by decide)) rfl (As := [.int 42]) (st := []) rfl (Nat.le_of_ble_eq_true rfl) (Nat.le_of_ble_eq_true rfl) (Nat.le_of_eq hM.1) (Nat.le_refl _) (PW.deep (by omega) (c_X6_isSign  hM h)) ?_
      rintro _ M4 ⟨hM6, y5, rfl, z7, h⟩
      refine PW.if_ne (pc := 23) dX3_readProduct_23 (t := 38) (by decide) (fun hc => ?_) (fun hc => ?_)
      · have h := h.1 hc
        refine PW.aload_n (pc := 38) dX3_readProduct_38 rfl ?_
        refine PW.getR (pc := 39) dX3_readProduct_39 (r := 6) lf_X3_12 (ob hM6.1 s_5 (by decide)) fx_3_0 (oR_3_0 hM6 s_5) (pS_ne s_6) ?_
        refine PW.bipush (pc := 42) dX3_readProduct_42 (v := 42) (by decide) ?_
        refine PW.inv (m' := mX6_isSign) (pc := 44) dX3_readProduct_44 lm_X3_192 me_X6_isSign mi_X6_isSign (ob hM6.1 s_6 (by decide)) rfl (As := [.int 42]) (st := []) rfl (Nat.le_of_ble_eq_true rfl) (Nat.le_of_ble_eq_true rfl) (Nat.le_of_eq hM6.1) (Nat.le_refl _) (PW.deep (by omega) (c_X6_isSign  hM6 h)) ?_
        rintro _ M8 ⟨hM10, y9, rfl, z11, h⟩
        refine PW.if_eq (pc := 47) dX3_readProduct_47 (t := 56) (by decide) (fun hc => ?_) (fun hc => ?_)
        · have h := h.1 hc
          refine PW.sipush (pc := 56) dX3_readProduct_56 (v := 10003) (by decide) ?_
          exact PW.drop (c_X3_readProduct_59 hd hrc ih _ _ _ _ hM10 h) ⟨rfl, rfl, rfl, trivial⟩
        · have h := h.2 hc
          refine PW.sipush (pc := 50) dX3_readProduct_50 (v := 10002) (by decide) ?_
          refine PW.goto (pc := 53) dX3_readProduct_53 (t := 59) (by decide) ?_
          exact PW.drop (c_X3_readProduct_59 hd hrc ih _ _ _ _ hM10 h) ⟨rfl, rfl, rfl, trivial⟩
      · have h := h.2 hc
        refine PW.aload_n (pc := 26) dX3_readProduct_26 rfl ?_
        refine PW.getR (pc := 27) dX3_readProduct_27 (r := 6) lf_X3_12 (ob hM6.1 s_5 (by decide)) fx_3_0 (oR_3_0 hM6 s_5) (pS_ne s_6) ?_
        refine PW.bipush (pc := 30) dX3_readProduct_30 (v := 47) (by decide) ?_
        refine PW.inv (m' := mX6_isSign) (pc := 32) dX3_readProduct_32 lm_X3_192 me_X6_isSign mi_X6_isSign (ob hM6.1 s_6 (by decide)) rfl (As := [.int 47]) (st := []) rfl (Nat.le_of_ble_eq_true rfl) (Nat.le_of_ble_eq_true rfl) (Nat.le_of_eq hM6.1) (Nat.le_refl _) (PW.deep (by omega) (c_X6_isSign  hM6 h)) ?_
        rintro _ M22 ⟨hM24, y23, rfl, z25, h⟩
        refine PW.if_eq (pc := 35) dX3_readProduct_35 (t := 86) (by decide) (fun hc => ?_) (fun hc => ?_)
        · have h := h.1 hc
          exact PW.ret0 (pc := 86) dX3_readProduct_86 hM24.1 rfl ⟨hM24, rfl, h⟩
        · have h := h.2 hc
          refine PW.aload_n (pc := 38) dX3_readProduct_38 rfl ?_
          refine PW.getR (pc := 39) dX3_readProduct_39 (r := 6) lf_X3_12 (ob hM24.1 s_5 (by decide)) fx_3_0 (oR_3_0 hM24 s_5) (pS_ne s_6) ?_
          refine PW.bipush (pc := 42) dX3_readProduct_42 (v := 42) (by decide) ?_
          refine PW.inv (m' := mX6_isSign) (pc := 44) dX3_readProduct_44 lm_X3_192 me_X6_isSign mi_X6_isSign (ob hM24.1 s_6 (by decide)) rfl (As := [.int 42]) (st := []) rfl (Nat.le_of_ble_eq_true rfl) (Nat.le_of_ble_eq_true rfl) (Nat.le_of_eq hM24.1) (Nat.le_refl _) (PW.deep (by omega) (c_X6_isSign  hM24 h)) ?_
          rintro _ M26 ⟨hM28, y27, rfl, z29, h⟩
          refine PW.if_eq (pc := 47) dX3_readProduct_47 (t := 56) (by decide) (fun hc => ?_) (fun hc => ?_)
          · have h := h.1 hc
            refine PW.sipush (pc := 56) dX3_readProduct_56 (v := 10003) (by decide) ?_
            exact PW.drop (c_X3_readProduct_59 hd hrc ih _ _ _ _ hM28 h) ⟨rfl, rfl, rfl, trivial⟩
          · have h := h.2 hc
            refine PW.sipush (pc := 50) dX3_readProduct_50 (v := 10002) (by decide) ?_
            refine PW.goto (pc := 53) dX3_readProduct_53 (t := 59) (by decide) ?_
            exact PW.drop (c_X3_readProduct_59 hd hrc ih _ _ _ _ hM28 h) ⟨rfl, rfl, rfl, trivial⟩
def w_X3_readProduct (rc : Nat → Int32 → pm → (pm → Prop) → Prop) (x1 : Int32) (M : pm) (Q : pm → Prop) : Prop := rc 5 x1 M (fun M1 => ∃ n30, w_X3_readProduct_7 rc n30 x1 0 M1  Q)
set_option maxRecDepth 4000 in
theorem c_X3_readProduct {d : Nat} (hd : 12 ≤ d) {rc : Nat → Int32 → pm → (pm → Prop) → Prop} (hrc : ∀ (i : Nat) (x : Int32) (M : pm) (Q : pm → Prop), pG M → rc i x M Q → PW (mRd i) d 350 0 (pfr (mRd i).2.2.1 [.ref 5, .int x]) [] M (qV Q)) {x1 : Int32} {M : pm} {Q : pm → Prop}  (hM : pG M) (h : w_X3_readProduct rc x1 M Q) : PW mX3_readProduct (d + 1) 350 0 (pfr mX3_readProduct.2.2.1 [.ref 5, .int x1]) [] M (qV Q) := by
  unfold w_X3_readProduct at h
  show PW mX3_readProduct (d + 1) 350 0 [.ref 5, .int x1, .null, .null] [] M (qV Q)
  refine PW.aload_n (pc := 0) dX3_readProduct_0 rfl ?_
  refine PW.iload_n (pc := 1) dX3_readProduct_1 rfl ?_
  refine PW.inv (m' := mX3_readPiece) (pc := 2) dX3_readProduct_2 lm_X3_202 me_X3_readPiece mi_X3_readPiece (ob hM.1 s_5 (by decide)) rfl (As := [.int x1]) (st := []) rfl (Nat.le_of_ble_eq_true rfl) (Nat.le_of_ble_eq_true rfl) (Nat.le_of_eq hM.1) (Nat.le_refl _) (hrc 5 _ _ _ hM h) ?_
  rintro _ M1 ⟨hM3, rfl, h⟩
  refine PW.iconst (pc := 5) dX3_readProduct_5 (v := 0) (by decide) ?_
  refine PW.istore_n (pc := 6) dX3_readProduct_6 (ls' := [.ref 5, .int x1, .int 0, .null]) (by decide) rfl rfl ?_
  obtain ⟨n30, h⟩ := h
  refine PW.drop (c_X3_readProduct_7 hd hrc  n30 _ _ _ hM3 h) ⟨rfl, rfl, rfl, trivial⟩
def w_X3_readPiece_127 (rc : Nat → Int32 → pm → (pm → Prop) → Prop)  (x1 : Int32) (M : pm)  (Q : pm → Prop) : Prop := w_X6_isSign 40 M (fun y9 M8 => ((y9 = 0 → (w_X6_isWord 26 M8 (fun y13 M12 => ((¬ y13 = 0 → (rc 6 x1 M12 (fun M16 => Q M16))) ∧ (y13 = 0 → (w_X6_isWord 27 M12 (fun y20 M19 => ((y20 = 0 → (w_X6_fail 1 (mI M19 6 4) M19 (fun M23 => Q M23))) ∧ (¬ y20 = 0 → (rc 6 x1 M19 (fun M26 => Q M26))))))))))) ∧ (¬ y9 = 0 → (w_X3_mayOpen x1 M8 (fun y30 M29 => ((y30 = 0 → (Q M29)) ∧ (¬ y30 = 0 → (w_X6_take  M29 (fun M33 => rc 3 (x1 + 1) M33 (fun M36 => w_X6_needSign 41 M36 (fun M39 => Q M39)))))))))))
set_option maxRecDepth 4000 in
theorem c_X3_readPiece_127 {d : Nat} (hd : 12 ≤ d) {rc : Nat → Int32 → pm → (pm → Prop) → Prop} (hrc : ∀ (i : Nat) (x : Int32) (M : pm) (Q : pm → Prop), pG M → rc i x M Q → PW (mRd i) d 350 0 (pfr (mRd i).2.2.1 [.ref 5, .int x]) [] M (qV Q))  {Q : pm → Prop}  : ∀ (x1 : Int32) (M : pm), pG M → w_X3_readPiece_127 rc x1 M  Q → PW mX3_readPiece (d + 1) 350 127 [.ref 5, .int x1] [] M (qV Q) := by
  intro x1 M hM h
  unfold w_X3_readPiece_127 at h
  refine PW.aload_n (pc := 127) dX3_readPiece_127 rfl ?_
  refine PW.getR (pc := 128) dX3_readPiece_128 (r := 6) lf_X3_12 (ob hM.1 s_5 (by decide)) fx_3_0 (oR_3_0 hM s_5) (pS_ne s_6) ?_
  refine PW.bipush (pc := 131) dX3_readPiece_131 (v := 40) (by decide) ?_
  refine PW.inv (m' := mX6_isSign) (pc := 133) dX3_readPiece_133 lm_X3_192 me_X6_isSign mi_X6_isSign (ob hM.1 s_6 (by decide)) rfl (As := [.int 40]) (st := []) rfl (Nat.le_of_ble_eq_true rfl) (Nat.le_of_ble_eq_true rfl) (Nat.le_of_eq hM.1) (Nat.le_refl _) (PW.deep (by omega) (c_X6_isSign  hM h)) ?_
  rintro _ M8 ⟨hM10, y9, rfl, z11, h⟩
  refine PW.if_eq (pc := 136) dX3_readPiece_136 (t := 173) (by decide) (fun hc => ?_) (fun hc => ?_)
  · have h := h.1 hc
    refine PW.aload_n (pc := 173) dX3_readPiece_173 rfl ?_
    refine PW.getR (pc := 174) dX3_readPiece_174 (r := 6) lf_X3_12 (ob hM10.1 s_5 (by decide)) fx_3_0 (oR_3_0 hM10 s_5) (pS_ne s_6) ?_
    refine PW.bipush (pc := 177) dX3_readPiece_177 (v := 26) (by decide) ?_
    refine PW.inv (m' := mX6_isWord) (pc := 179) dX3_readPiece_179 lm_X3_180 me_X6_isWord mi_X6_isWord (ob hM10.1 s_6 (by decide)) rfl (As := [.int 26]) (st := []) rfl (Nat.le_of_ble_eq_true rfl) (Nat.le_of_ble_eq_true rfl) (Nat.le_of_eq hM10.1) (Nat.le_refl _) (PW.deep (by omega) (c_X6_isWord  hM10 h)) ?_
    rintro _ M12 ⟨hM14, y13, rfl, z15, h⟩
    refine PW.if_ne (pc := 182) dX3_readPiece_182 (t := 197) (by decide) (fun hc => ?_) (fun hc => ?_)
    · have h := h.1 hc
      refine PW.aload_n (pc := 197) dX3_readPiece_197 rfl ?_
      refine PW.iload_n (pc := 198) dX3_readPiece_198 rfl ?_
      refine PW.inv (m' := mX3_readPair) (pc := 199) dX3_readPiece_199 lm_X3_208 me_X3_readPair mi_X3_readPair (ob hM14.1 s_5 (by decide)) rfl (As := [.int x1]) (st := []) rfl (Nat.le_of_ble_eq_true rfl) (Nat.le_of_ble_eq_true rfl) (Nat.le_of_eq hM14.1) (Nat.le_refl _) (hrc 6 _ _ _ hM14 h) ?_
      rintro _ M16 ⟨hM18, rfl, h⟩
      refine PW.goto (pc := 202) dX3_readPiece_202 (t := 220) (by decide) ?_
      exact PW.ret0 (pc := 220) dX3_readPiece_220 hM18.1 rfl ⟨hM18, rfl, h⟩
    · have h := h.2 hc
      refine PW.aload_n (pc := 185) dX3_readPiece_185 rfl ?_
      refine PW.getR (pc := 186) dX3_readPiece_186 (r := 6) lf_X3_12 (ob hM14.1 s_5 (by decide)) fx_3_0 (oR_3_0 hM14 s_5) (pS_ne s_6) ?_
      refine PW.bipush (pc := 189) dX3_readPiece_189 (v := 27) (by decide) ?_
      refine PW.inv (m' := mX6_isWord) (pc := 191) dX3_readPiece_191 lm_X3_180 me_X6_isWord mi_X6_isWord (ob hM14.1 s_6 (by decide)) rfl (As := [.int 27]) (st := []) rfl (Nat.le_of_ble_eq_true rfl) (Nat.le_of_ble_eq_true rfl) (Nat.le_of_eq hM14.1) (Nat.le_refl _) (PW.deep (by omega) (c_X6_isWord  hM14 h)) ?_
      rintro _ M19 ⟨hM21, y20, rfl, z22, h⟩
      refine PW.if_eq (pc := 194) dX3_readPiece_194 (t := 205) (by decide) (fun hc => ?_) (fun hc => ?_)
      · have h := h.1 hc
        refine PW.aload_n (pc := 205) dX3_readPiece_205 rfl ?_
        refine PW.getR (pc := 206) dX3_readPiece_206 (r := 6) lf_X3_12 (ob hM21.1 s_5 (by decide)) fx_3_0 (oR_3_0 hM21 s_5) (pS_ne s_6) ?_
        refine PW.iconst (pc := 209) dX3_readPiece_209 (v := 1) (by decide) ?_
        refine PW.aload_n (pc := 210) dX3_readPiece_210 rfl ?_
        refine PW.getR (pc := 211) dX3_readPiece_211 (r := 6) lf_X3_12 (ob hM21.1 s_5 (by decide)) fx_3_0 (oR_3_0 hM21 s_5) (pS_ne s_6) ?_
        refine PW.getI (pc := 214) dX3_readPiece_214 lf_X3_55 (ob hM21.1 s_6 (by decide)) fx_6_4 ?_
        refine PW.inv (m' := mX6_fail) (pc := 217) dX3_readPiece_217 lm_X3_58 me_X6_fail mi_X6_fail (ob hM21.1 s_6 (by decide)) rfl (As := [.int 1, .int (mI M19 6 4)]) (st := []) rfl (Nat.le_of_ble_eq_true rfl) (Nat.le_of_ble_eq_true rfl) (Nat.le_of_eq hM21.1) (Nat.le_refl _) (PW.deep (by omega) (c_X6_fail  hM21 h)) ?_
        rintro _ M23 ⟨hM25, rfl, h⟩
        exact PW.ret0 (pc := 220) dX3_readPiece_220 hM25.1 rfl ⟨hM25, rfl, h⟩
      · have h := h.2 hc
        refine PW.aload_n (pc := 197) dX3_readPiece_197 rfl ?_
        refine PW.iload_n (pc := 198) dX3_readPiece_198 rfl ?_
        refine PW.inv (m' := mX3_readPair) (pc := 199) dX3_readPiece_199 lm_X3_208 me_X3_readPair mi_X3_readPair (ob hM21.1 s_5 (by decide)) rfl (As := [.int x1]) (st := []) rfl (Nat.le_of_ble_eq_true rfl) (Nat.le_of_ble_eq_true rfl) (Nat.le_of_eq hM21.1) (Nat.le_refl _) (hrc 6 _ _ _ hM21 h) ?_
        rintro _ M26 ⟨hM28, rfl, h⟩
        refine PW.goto (pc := 202) dX3_readPiece_202 (t := 220) (by decide) ?_
        exact PW.ret0 (pc := 220) dX3_readPiece_220 hM28.1 rfl ⟨hM28, rfl, h⟩
  · have h := h.2 hc
    refine PW.aload_n (pc := 139) dX3_readPiece_139 rfl ?_
    refine PW.iload_n (pc := 140) dX3_readPiece_140 rfl ?_
    refine PW.inv (m' := mX3_mayOpen) (pc := 141) dX3_readPiece_141 lm_X3_189 me_X3_mayOpen mi_X3_mayOpen (ob hM10.1 s_5 (by decide)) rfl (As := [.int x1]) (st := []) rfl (Nat.le_of_ble_eq_true rfl) (Nat.le_of_ble_eq_true rfl) (Nat.le_of_eq hM10.1) (Nat.le_refl _) (PW.deep (by omega) (c_X3_mayOpen  hM10 h)) ?_
    rintro _ M29 ⟨hM31, y30, rfl, z32, h⟩
    refine PW.if_eq (pc := 144) dX3_readPiece_144 (t := 220) (by decide) (fun hc => ?_) (fun hc => ?_)
    · have h := h.1 hc
      exact PW.ret0 (pc := 220) dX3_readPiece_220 hM31.1 rfl ⟨hM31, rfl, h⟩
    · have h := h.2 hc
      refine PW.aload_n (pc := 147) dX3_readPiece_147 rfl ?_
      refine PW.getR (pc := 148) dX3_readPiece_148 (r := 6) lf_X3_12 (ob hM31.1 s_5 (by decide)) fx_3_0 (oR_3_0 hM31 s_5) (pS_ne s_6) ?_
      refine PW.inv (m' := mX6_take) (pc := 151) dX3_readPiece_151 lm_X3_77 me_X6_take mi_X6_take (ob hM31.1 s_6 (by decide)) rfl (As := []) (st := []) rfl (Nat.le_of_ble_eq_true rfl) (Nat.le_of_ble_eq_true rfl) (Nat.le_of_eq hM31.1) (Nat.le_refl _) (PW.deep (by omega) (c_X6_take  hM31 h)) ?_
      rintro _ M33 ⟨hM35, rfl, h⟩
      refine PW.aload_n (pc := 154) dX3_readPiece_154 rfl ?_
      refine PW.iload_n (pc := 155) dX3_readPiece_155 rfl ?_
      refine PW.iconst (pc := 156) dX3_readPiece_156 (v := 1) (by decide) ?_
      refine PW.iadd (pc := 157) dX3_readPiece_157 ?_
      refine PW.inv (m' := mX3_readSum) (pc := 158) dX3_readPiece_158 lm_X3_87 me_X3_readSum mi_X3_readSum (ob hM35.1 s_5 (by decide)) rfl (As := [.int (x1 + 1)]) (st := []) rfl (Nat.le_of_ble_eq_true rfl) (Nat.le_of_ble_eq_true rfl) (Nat.le_of_eq hM35.1) (Nat.le_refl _) (hrc 3 _ _ _ hM35 h) ?_
      rintro _ M36 ⟨hM38, rfl, h⟩
      refine PW.aload_n (pc := 161) dX3_readPiece_161 rfl ?_
      refine PW.getR (pc := 162) dX3_readPiece_162 (r := 6) lf_X3_12 (ob hM38.1 s_5 (by decide)) fx_3_0 (oR_3_0 hM38 s_5) (pS_ne s_6) ?_
      refine PW.bipush (pc := 165) dX3_readPiece_165 (v := 41) (by decide) ?_
      refine PW.inv (m' := mX6_needSign) (pc := 167) dX3_readPiece_167 lm_X3_121 me_X6_needSign mi_X6_needSign (ob hM38.1 s_6 (by decide)) rfl (As := [.int 41]) (st := []) rfl (Nat.le_of_ble_eq_true rfl) (Nat.le_of_ble_eq_true rfl) (Nat.le_of_eq hM38.1) (Nat.le_refl _) (PW.deep (by omega) (c_X6_needSign  hM38 h)) ?_
      rintro _ M39 ⟨hM41, rfl, h⟩
      refine PW.goto (pc := 170) dX3_readPiece_170 (t := 220) (by decide) ?_
      exact PW.ret0 (pc := 220) dX3_readPiece_220 hM41.1 rfl ⟨hM41, rfl, h⟩
def w_X3_readPiece (rc : Nat → Int32 → pm → (pm → Prop) → Prop) (x1 : Int32) (M : pm) (Q : pm → Prop) : Prop := ((¬ (mI M 6 3) = 2 → (w_X6_knownWord  M (fun y2 M1 => w_X3_isFact y2 M1 (fun y5 M4 => ((y5 = 0 → (((mI M4 5 3) = 0 → (w_X3_readPiece_127 rc x1 M4  Q)) ∧ (¬ (mI M4 5 3) = 0 → (w_X6_isWord 5 M4 (fun y43 M42 => ((y43 = 0 → (w_X3_readPiece_127 rc x1 M42  Q)) ∧ (¬ y43 = 0 → (w_X3_mayOpen x1 M42 (fun y47 M46 => ((y47 = 0 → (Q M46)) ∧ (¬ y47 = 0 → (w_X6_take  M46 (fun M50 => rc 5 (x1 + 1) M50 (fun M53 => ¬ (mR M53 5 2) = 0 ∧ (w_X2_add (mR M53 5 2) 10012 M53 (fun M57 => Q M57)))))))))))))))) ∧ (¬ y5 = 0 → (¬ (mR M4 5 2) = 0 ∧ (w_X6_knownWord  M4 (fun y62 M61 => w_X2_add (mR M4 5 2) (10100 + y62) M61 (fun M64 => w_X6_take  M64 (fun M67 => Q M67))))))))))) ∧ ((mI M 6 3) = 2 → (¬ (mR M 5 2) = 0 ∧ (w_X6_needNumber 0 9999 M (fun y72 M71 => w_X2_add (mR M 5 2) y72 M71 (fun M74 => Q M74))))))
set_option maxRecDepth 4000 in
theorem c_X3_readPiece {d : Nat} (hd : 12 ≤ d) {rc : Nat → Int32 → pm → (pm → Prop) → Prop} (hrc : ∀ (i : Nat) (x : Int32) (M : pm) (Q : pm → Prop), pG M → rc i x M Q → PW (mRd i) d 350 0 (pfr (mRd i).2.2.1 [.ref 5, .int x]) [] M (qV Q)) {x1 : Int32} {M : pm} {Q : pm → Prop}  (hM : pG M) (h : w_X3_readPiece rc x1 M Q) : PW mX3_readPiece (d + 1) 350 0 (pfr mX3_readPiece.2.2.1 [.ref 5, .int x1]) [] M (qV Q) := by
  unfold w_X3_readPiece at h
  show PW mX3_readPiece (d + 1) 350 0 [.ref 5, .int x1] [] M (qV Q)
  refine PW.aload_n (pc := 0) dX3_readPiece_0 rfl ?_
  refine PW.getR (pc := 1) dX3_readPiece_1 (r := 6) lf_X3_12 (ob hM.1 s_5 (by decide)) fx_3_0 (oR_3_0 hM s_5) (pS_ne s_6) ?_
  refine PW.getI (pc := 4) dX3_readPiece_4 lf_X3_93 (ob hM.1 s_6 (by decide)) fx_6_3 ?_
  refine PW.iconst (pc := 7) dX3_readPiece_7 (v := 2) (by decide) ?_
  refine PW.icmp_ne (pc := 8) dX3_readPiece_8 (t := 32) (by decide) (fun hc => ?_) (fun hc => ?_)
  · have h := h.1 hc
    refine PW.aload_n (pc := 32) dX3_readPiece_32 rfl ?_
    refine PW.aload_n (pc := 33) dX3_readPiece_33 rfl ?_
    refine PW.getR (pc := 34) dX3_readPiece_34 (r := 6) lf_X3_12 (ob hM.1 s_5 (by decide)) fx_3_0 (oR_3_0 hM s_5) (pS_ne s_6) ?_
    refine PW.inv (m' := mX6_knownWord) (pc := 37) dX3_readPiece_37 lm_X3_73 me_X6_knownWord mi_X6_knownWord (ob hM.1 s_6 (by decide)) rfl (As := []) (st := [.ref 5]) rfl (Nat.le_of_ble_eq_true rfl) (Nat.le_of_ble_eq_true rfl) (Nat.le_of_eq hM.1) (Nat.le_refl _) (PW.deep (by omega) (c_X6_knownWord  hM h)) ?_
    rintro _ M1 ⟨hM3, y2, rfl, h⟩
    refine PW.inv (m' := mX3_isFact) (pc := 40) dX3_readPiece_40 lm_X3_205 me_X3_isFact mi_X3_isFact (ob hM3.1 s_5 (by decide)) rfl (As := [.int y2]) (st := []) rfl (Nat.le_of_ble_eq_true rfl) (Nat.le_of_ble_eq_true rfl) (Nat.le_of_eq hM3.1) (Nat.le_refl _) (PW.deep (by omega) (c_X3_isFact  hM3 h)) ?_
    rintro _ M4 ⟨hM6, y5, rfl, z7, h⟩
    refine PW.if_eq (pc := 43) dX3_readPiece_43 (t := 74) (by decide) (fun hc => ?_) (fun hc => ?_)
    · have h := h.1 hc
      refine PW.aload_n (pc := 74) dX3_readPiece_74 rfl ?_
      refine PW.getI (pc := 75) dX3_readPiece_75 lf_X3_28 (ob hM6.1 s_5 (by decide)) fx_3_3 ?_
      refine PW.if_eq (pc := 78) dX3_readPiece_78 (t := 127) (by decide) (fun hc => ?_) (fun hc => ?_)
      · have h := h.1 hc
        exact PW.drop (c_X3_readPiece_127 hd hrc  _ _ hM6 h) ⟨rfl, rfl, trivial⟩
      · have h := h.2 hc
        refine PW.aload_n (pc := 81) dX3_readPiece_81 rfl ?_
        refine PW.getR (pc := 82) dX3_readPiece_82 (r := 6) lf_X3_12 (ob hM6.1 s_5 (by decide)) fx_3_0 (oR_3_0 hM6 s_5) (pS_ne s_6) ?_
        refine PW.iconst (pc := 85) dX3_readPiece_85 (v := 5) (by decide) ?_
        refine PW.inv (m' := mX6_isWord) (pc := 86) dX3_readPiece_86 lm_X3_180 me_X6_isWord mi_X6_isWord (ob hM6.1 s_6 (by decide)) rfl (As := [.int 5]) (st := []) rfl (Nat.le_of_ble_eq_true rfl) (Nat.le_of_ble_eq_true rfl) (Nat.le_of_eq hM6.1) (Nat.le_refl _) (PW.deep (by omega) (c_X6_isWord  hM6 h)) ?_
        rintro _ M42 ⟨hM44, y43, rfl, z45, h⟩
        refine PW.if_eq (pc := 89) dX3_readPiece_89 (t := 127) (by decide) (fun hc => ?_) (fun hc => ?_)
        · have h := h.1 hc
          exact PW.drop (c_X3_readPiece_127 hd hrc  _ _ hM44 h) ⟨rfl, rfl, trivial⟩
        · have h := h.2 hc
          refine PW.aload_n (pc := 92) dX3_readPiece_92 rfl ?_
          refine PW.iload_n (pc := 93) dX3_readPiece_93 rfl ?_
          refine PW.inv (m' := mX3_mayOpen) (pc := 94) dX3_readPiece_94 lm_X3_189 me_X3_mayOpen mi_X3_mayOpen (ob hM44.1 s_5 (by decide)) rfl (As := [.int x1]) (st := []) rfl (Nat.le_of_ble_eq_true rfl) (Nat.le_of_ble_eq_true rfl) (Nat.le_of_eq hM44.1) (Nat.le_refl _) (PW.deep (by omega) (c_X3_mayOpen  hM44 h)) ?_
          rintro _ M46 ⟨hM48, y47, rfl, z49, h⟩
          refine PW.if_eq (pc := 97) dX3_readPiece_97 (t := 220) (by decide) (fun hc => ?_) (fun hc => ?_)
          · have h := h.1 hc
            exact PW.ret0 (pc := 220) dX3_readPiece_220 hM48.1 rfl ⟨hM48, rfl, h⟩
          · have h := h.2 hc
            refine PW.aload_n (pc := 100) dX3_readPiece_100 rfl ?_
            refine PW.getR (pc := 101) dX3_readPiece_101 (r := 6) lf_X3_12 (ob hM48.1 s_5 (by decide)) fx_3_0 (oR_3_0 hM48 s_5) (pS_ne s_6) ?_
            refine PW.inv (m' := mX6_take) (pc := 104) dX3_readPiece_104 lm_X3_77 me_X6_take mi_X6_take (ob hM48.1 s_6 (by decide)) rfl (As := []) (st := []) rfl (Nat.le_of_ble_eq_true rfl) (Nat.le_of_ble_eq_true rfl) (Nat.le_of_eq hM48.1) (Nat.le_refl _) (PW.deep (by omega) (c_X6_take  hM48 h)) ?_
            rintro _ M50 ⟨hM52, rfl, h⟩
            refine PW.aload_n (pc := 107) dX3_readPiece_107 rfl ?_
            refine PW.iload_n (pc := 108) dX3_readPiece_108 rfl ?_
            refine PW.iconst (pc := 109) dX3_readPiece_109 (v := 1) (by decide) ?_
            refine PW.iadd (pc := 110) dX3_readPiece_110 ?_
            refine PW.inv (m' := mX3_readPiece) (pc := 111) dX3_readPiece_111 lm_X3_202 me_X3_readPiece mi_X3_readPiece (ob hM52.1 s_5 (by decide)) rfl (As := [.int (x1 + 1)]) (st := []) rfl (Nat.le_of_ble_eq_true rfl) (Nat.le_of_ble_eq_true rfl) (Nat.le_of_eq hM52.1) (Nat.le_refl _) (hrc 5 _ _ _ hM52 h) ?_
            rintro _ M53 ⟨hM55, rfl, h⟩
            refine PW.aload_n (pc := 114) dX3_readPiece_114 rfl ?_
            obtain ⟨v56, h⟩ := h
            refine PW.getR (pc := 115) dX3_readPiece_115 (r := (mR M53 5 2)) lf_X3_25 (ob hM55.1 s_5 (by decide)) fx_3_2 rfl (pS_ne (hM55.2.2.2.2.2.2.2.resolve_left v56)) ?_
            refine PW.sipush (pc := 118) dX3_readPiece_118 (v := 10012) (by decide) ?_
            refine PW.inv (m' := mX2_add) (pc := 121) dX3_readPiece_121 lm_X3_183 me_X2_add mi_X2_add (ob hM55.1 (hM55.2.2.2.2.2.2.2.resolve_left v56) (by decide)) rfl (As := [.int 10012]) (st := []) rfl (Nat.le_of_ble_eq_true rfl) (Nat.le_of_ble_eq_true rfl) (Nat.le_of_eq hM55.1) (Nat.le_refl _) (PW.deep (by omega) (c_X2_add (hM55.2.2.2.2.2.2.2.resolve_left v56) hM55 h)) ?_
            rintro _ M57 ⟨hM59, rfl, h⟩
            refine PW.goto (pc := 124) dX3_readPiece_124 (t := 220) (by decide) ?_
            exact PW.ret0 (pc := 220) dX3_readPiece_220 hM59.1 rfl ⟨hM59, rfl, h⟩
    · have h := h.2 hc
      refine PW.aload_n (pc := 46) dX3_readPiece_46 rfl ?_
      obtain ⟨v60, h⟩ := h
      refine PW.getR (pc := 47) dX3_readPiece_47 (r := (mR M4 5 2)) lf_X3_25 (ob hM6.1 s_5 (by decide)) fx_3_2 rfl (pS_ne (hM6.2.2.2.2.2.2.2.resolve_left v60)) ?_
      refine PW.sipush (pc := 50) dX3_readPiece_50 (v := 10100) (by decide) ?_
      refine PW.aload_n (pc := 53) dX3_readPiece_53 rfl ?_
      refine PW.getR (pc := 54) dX3_readPiece_54 (r := 6) lf_X3_12 (ob hM6.1 s_5 (by decide)) fx_3_0 (oR_3_0 hM6 s_5) (pS_ne s_6) ?_
      refine PW.inv (m' := mX6_knownWord) (pc := 57) dX3_readPiece_57 lm_X3_73 me_X6_knownWord mi_X6_knownWord (ob hM6.1 s_6 (by decide)) rfl (As := []) (st := [.int 10100, .ref (mR M4 5 2)]) rfl (Nat.le_of_ble_eq_true rfl) (Nat.le_of_ble_eq_true rfl) (Nat.le_of_eq hM6.1) (Nat.le_refl _) (PW.deep (by omega) (c_X6_knownWord  hM6 h)) ?_
      rintro _ M61 ⟨hM63, y62, rfl, h⟩
      refine PW.iadd (pc := 60) dX3_readPiece_60 ?_
      refine PW.inv (m' := mX2_add) (pc := 61) dX3_readPiece_61 lm_X3_183 me_X2_add mi_X2_add (ob hM63.1 (hM6.2.2.2.2.2.2.2.resolve_left v60) (by decide)) rfl (As := [.int (10100 + y62)]) (st := []) rfl (Nat.le_of_ble_eq_true rfl) (Nat.le_of_ble_eq_true rfl) (Nat.le_of_eq hM63.1) (Nat.le_refl _) (PW.deep (by omega) (c_X2_add (hM6.2.2.2.2.2.2.2.resolve_left v60) hM63 h)) ?_
      rintro _ M64 ⟨hM66, rfl, h⟩
      refine PW.aload_n (pc := 64) dX3_readPiece_64 rfl ?_
      refine PW.getR (pc := 65) dX3_readPiece_65 (r := 6) lf_X3_12 (ob hM66.1 s_5 (by decide)) fx_3_0 (oR_3_0 hM66 s_5) (pS_ne s_6) ?_
      refine PW.inv (m' := mX6_take) (pc := 68) dX3_readPiece_68 lm_X3_77 me_X6_take mi_X6_take (ob hM66.1 s_6 (by decide)) rfl (As := []) (st := []) rfl (Nat.le_of_ble_eq_true rfl) (Nat.le_of_ble_eq_true rfl) (Nat.le_of_eq hM66.1) (Nat.le_refl _) (PW.deep (by omega) (c_X6_take  hM66 h)) ?_
      rintro _ M67 ⟨hM69, rfl, h⟩
      refine PW.goto (pc := 71) dX3_readPiece_71 (t := 220) (by decide) ?_
      exact PW.ret0 (pc := 220) dX3_readPiece_220 hM69.1 rfl ⟨hM69, rfl, h⟩
  · have h := h.2 hc
    refine PW.aload_n (pc := 11) dX3_readPiece_11 rfl ?_
    obtain ⟨v70, h⟩ := h
    refine PW.getR (pc := 12) dX3_readPiece_12 (r := (mR M 5 2)) lf_X3_25 (ob hM.1 s_5 (by decide)) fx_3_2 rfl (pS_ne (hM.2.2.2.2.2.2.2.resolve_left v70)) ?_
    refine PW.aload_n (pc := 15) dX3_readPiece_15 rfl ?_
    refine PW.getR (pc := 16) dX3_readPiece_16 (r := 6) lf_X3_12 (ob hM.1 s_5 (by decide)) fx_3_0 (oR_3_0 hM s_5) (pS_ne s_6) ?_
    refine PW.iconst (pc := 19) dX3_readPiece_19 (v := 0) (by decide) ?_
    refine PW.sipush (pc := 20) dX3_readPiece_20 (v := 9999) (by decide) ?_
    refine PW.inv (m' := mX6_needNumber) (pc := 23) dX3_readPiece_23 lm_X3_96 me_X6_needNumber mi_X6_needNumber (ob hM.1 s_6 (by decide)) rfl (As := [.int 0, .int 9999]) (st := [.ref (mR M 5 2)]) rfl (Nat.le_of_ble_eq_true rfl) (Nat.le_of_ble_eq_true rfl) (Nat.le_of_eq hM.1) (Nat.le_refl _) (PW.deep (by omega) (c_X6_needNumber  hM h)) ?_
    rintro _ M71 ⟨hM73, y72, rfl, h⟩
    refine PW.inv (m' := mX2_add) (pc := 26) dX3_readPiece_26 lm_X3_183 me_X2_add mi_X2_add (ob hM73.1 (hM.2.2.2.2.2.2.2.resolve_left v70) (by decide)) rfl (As := [.int y72]) (st := []) rfl (Nat.le_of_ble_eq_true rfl) (Nat.le_of_ble_eq_true rfl) (Nat.le_of_eq hM73.1) (Nat.le_refl _) (PW.deep (by omega) (c_X2_add (hM.2.2.2.2.2.2.2.resolve_left v70) hM73 h)) ?_
    rintro _ M74 ⟨hM76, rfl, h⟩
    refine PW.goto (pc := 29) dX3_readPiece_29 (t := 220) (by decide) ?_
    exact PW.ret0 (pc := 220) dX3_readPiece_220 hM76.1 rfl ⟨hM76, rfl, h⟩
def w_X3_readPair_21 (rc : Nat → Int32 → pm → (pm → Prop) → Prop)  (x1 : Int32) (t0 : Int32) (M : pm)  (Q : pm → Prop) : Prop := w_X6_take  M (fun M5 => w_X6_isSign 40 M5 (fun y9 M8 => ((¬ y9 = 0 → (w_X3_mayOpen x1 M8 (fun y13 M12 => ((y13 = 0 → (Q M12)) ∧ (¬ y13 = 0 → (w_X6_take  M12 (fun M16 => rc 3 (x1 + 1) M16 (fun M19 => w_X6_needSign 44 M19 (fun M22 => rc 3 (x1 + 1) M22 (fun M25 => w_X6_needSign 41 M25 (fun M28 => ¬ (mR M28 5 2) = 0 ∧ (w_X2_add (mR M28 5 2) t0 M28 (fun M32 => Q M32))))))))))))) ∧ (y9 = 0 → (w_X6_fail 1 (mI M8 6 4) M8 (fun M35 => Q M35))))))
set_option maxRecDepth 4000 in
theorem c_X3_readPair_21 {d : Nat} (hd : 12 ≤ d) {rc : Nat → Int32 → pm → (pm → Prop) → Prop} (hrc : ∀ (i : Nat) (x : Int32) (M : pm) (Q : pm → Prop), pG M → rc i x M Q → PW (mRd i) d 350 0 (pfr (mRd i).2.2.1 [.ref 5, .int x]) [] M (qV Q))  {Q : pm → Prop}  : ∀ (x1 : Int32) (t0 : Int32) (M : pm), pG M → w_X3_readPair_21 rc x1 t0 M  Q → PW mX3_readPair (d + 1) 350 21 [.ref 5, .int x1, .null] [.int t0] M (qV Q) := by
  intro x1 t0 M hM h
  unfold w_X3_readPair_21 at h
  refine PW.istore_n (pc := 21) dX3_readPair_21 (ls' := [.ref 5, .int x1, .int t0]) (by decide) rfl rfl ?_
  refine PW.aload_n (pc := 22) dX3_readPair_22 rfl ?_
  refine PW.getR (pc := 23) dX3_readPair_23 (r := 6) lf_X3_12 (ob hM.1 s_5 (by decide)) fx_3_0 (oR_3_0 hM s_5) (pS_ne s_6) ?_
  refine PW.inv (m' := mX6_take) (pc := 26) dX3_readPair_26 lm_X3_77 me_X6_take mi_X6_take (ob hM.1 s_6 (by decide)) rfl (As := []) (st := []) rfl (Nat.le_of_ble_eq_true rfl) (Nat.le_of_ble_eq_true rfl) (Nat.le_of_eq hM.1) (Nat.le_refl _) (PW.deep (by omega) (c_X6_take  hM h)) ?_
  rintro _ M5 ⟨hM7, rfl, h⟩
  refine PW.aload_n (pc := 29) dX3_readPair_29 rfl ?_
  refine PW.getR (pc := 30) dX3_readPair_30 (r := 6) lf_X3_12 (ob hM7.1 s_5 (by decide)) fx_3_0 (oR_3_0 hM7 s_5) (pS_ne s_6) ?_
  refine PW.bipush (pc := 33) dX3_readPair_33 (v := 40) (by decide) ?_
  refine PW.inv (m' := mX6_isSign) (pc := 35) dX3_readPair_35 lm_X3_192 me_X6_isSign mi_X6_isSign (ob hM7.1 s_6 (by decide)) rfl (As := [.int 40]) (st := []) rfl (Nat.le_of_ble_eq_true rfl) (Nat.le_of_ble_eq_true rfl) (Nat.le_of_eq hM7.1) (Nat.le_refl _) (PW.deep (by omega) (c_X6_isSign  hM7 h)) ?_
  rintro _ M8 ⟨hM10, y9, rfl, z11, h⟩
  refine PW.if_ne (pc := 38) dX3_readPair_38 (t := 59) (by decide) (fun hc => ?_) (fun hc => ?_)
  · have h := h.1 hc
    refine PW.aload_n (pc := 59) dX3_readPair_59 rfl ?_
    refine PW.iload_n (pc := 60) dX3_readPair_60 rfl ?_
    refine PW.inv (m' := mX3_mayOpen) (pc := 61) dX3_readPair_61 lm_X3_189 me_X3_mayOpen mi_X3_mayOpen (ob hM10.1 s_5 (by decide)) rfl (As := [.int x1]) (st := []) rfl (Nat.le_of_ble_eq_true rfl) (Nat.le_of_ble_eq_true rfl) (Nat.le_of_eq hM10.1) (Nat.le_refl _) (PW.deep (by omega) (c_X3_mayOpen  hM10 h)) ?_
    rintro _ M12 ⟨hM14, y13, rfl, z15, h⟩
    refine PW.if_eq (pc := 64) dX3_readPair_64 (t := 114) (by decide) (fun hc => ?_) (fun hc => ?_)
    · have h := h.1 hc
      exact PW.ret0 (pc := 114) dX3_readPair_114 hM14.1 rfl ⟨hM14, rfl, h⟩
    · have h := h.2 hc
      refine PW.aload_n (pc := 67) dX3_readPair_67 rfl ?_
      refine PW.getR (pc := 68) dX3_readPair_68 (r := 6) lf_X3_12 (ob hM14.1 s_5 (by decide)) fx_3_0 (oR_3_0 hM14 s_5) (pS_ne s_6) ?_
      refine PW.inv (m' := mX6_take) (pc := 71) dX3_readPair_71 lm_X3_77 me_X6_take mi_X6_take (ob hM14.1 s_6 (by decide)) rfl (As := []) (st := []) rfl (Nat.le_of_ble_eq_true rfl) (Nat.le_of_ble_eq_true rfl) (Nat.le_of_eq hM14.1) (Nat.le_refl _) (PW.deep (by omega) (c_X6_take  hM14 h)) ?_
      rintro _ M16 ⟨hM18, rfl, h⟩
      refine PW.aload_n (pc := 74) dX3_readPair_74 rfl ?_
      refine PW.iload_n (pc := 75) dX3_readPair_75 rfl ?_
      refine PW.iconst (pc := 76) dX3_readPair_76 (v := 1) (by decide) ?_
      refine PW.iadd (pc := 77) dX3_readPair_77 ?_
      refine PW.inv (m' := mX3_readSum) (pc := 78) dX3_readPair_78 lm_X3_87 me_X3_readSum mi_X3_readSum (ob hM18.1 s_5 (by decide)) rfl (As := [.int (x1 + 1)]) (st := []) rfl (Nat.le_of_ble_eq_true rfl) (Nat.le_of_ble_eq_true rfl) (Nat.le_of_eq hM18.1) (Nat.le_refl _) (hrc 3 _ _ _ hM18 h) ?_
      rintro _ M19 ⟨hM21, rfl, h⟩
      refine PW.aload_n (pc := 81) dX3_readPair_81 rfl ?_
      refine PW.getR (pc := 82) dX3_readPair_82 (r := 6) lf_X3_12 (ob hM21.1 s_5 (by decide)) fx_3_0 (oR_3_0 hM21 s_5) (pS_ne s_6) ?_
      refine PW.bipush (pc := 85) dX3_readPair_85 (v := 44) (by decide) ?_
      refine PW.inv (m' := mX6_needSign) (pc := 87) dX3_readPair_87 lm_X3_121 me_X6_needSign mi_X6_needSign (ob hM21.1 s_6 (by decide)) rfl (As := [.int 44]) (st := []) rfl (Nat.le_of_ble_eq_true rfl) (Nat.le_of_ble_eq_true rfl) (Nat.le_of_eq hM21.1) (Nat.le_refl _) (PW.deep (by omega) (c_X6_needSign  hM21 h)) ?_
      rintro _ M22 ⟨hM24, rfl, h⟩
      refine PW.aload_n (pc := 90) dX3_readPair_90 rfl ?_
      refine PW.iload_n (pc := 91) dX3_readPair_91 rfl ?_
      refine PW.iconst (pc := 92) dX3_readPair_92 (v := 1) (by decide) ?_
      refine PW.iadd (pc := 93) dX3_readPair_93 ?_
      refine PW.inv (m' := mX3_readSum) (pc := 94) dX3_readPair_94 lm_X3_87 me_X3_readSum mi_X3_readSum (ob hM24.1 s_5 (by decide)) rfl (As := [.int (x1 + 1)]) (st := []) rfl (Nat.le_of_ble_eq_true rfl) (Nat.le_of_ble_eq_true rfl) (Nat.le_of_eq hM24.1) (Nat.le_refl _) (hrc 3 _ _ _ hM24 h) ?_
      rintro _ M25 ⟨hM27, rfl, h⟩
      refine PW.aload_n (pc := 97) dX3_readPair_97 rfl ?_
      refine PW.getR (pc := 98) dX3_readPair_98 (r := 6) lf_X3_12 (ob hM27.1 s_5 (by decide)) fx_3_0 (oR_3_0 hM27 s_5) (pS_ne s_6) ?_
      refine PW.bipush (pc := 101) dX3_readPair_101 (v := 41) (by decide) ?_
      refine PW.inv (m' := mX6_needSign) (pc := 103) dX3_readPair_103 lm_X3_121 me_X6_needSign mi_X6_needSign (ob hM27.1 s_6 (by decide)) rfl (As := [.int 41]) (st := []) rfl (Nat.le_of_ble_eq_true rfl) (Nat.le_of_ble_eq_true rfl) (Nat.le_of_eq hM27.1) (Nat.le_refl _) (PW.deep (by omega) (c_X6_needSign  hM27 h)) ?_
      rintro _ M28 ⟨hM30, rfl, h⟩
      refine PW.aload_n (pc := 106) dX3_readPair_106 rfl ?_
      obtain ⟨v31, h⟩ := h
      refine PW.getR (pc := 107) dX3_readPair_107 (r := (mR M28 5 2)) lf_X3_25 (ob hM30.1 s_5 (by decide)) fx_3_2 rfl (pS_ne (hM30.2.2.2.2.2.2.2.resolve_left v31)) ?_
      refine PW.iload_n (pc := 110) dX3_readPair_110 rfl ?_
      refine PW.inv (m' := mX2_add) (pc := 111) dX3_readPair_111 lm_X3_183 me_X2_add mi_X2_add (ob hM30.1 (hM30.2.2.2.2.2.2.2.resolve_left v31) (by decide)) rfl (As := [.int t0]) (st := []) rfl (Nat.le_of_ble_eq_true rfl) (Nat.le_of_ble_eq_true rfl) (Nat.le_of_eq hM30.1) (Nat.le_refl _) (PW.deep (by omega) (c_X2_add (hM30.2.2.2.2.2.2.2.resolve_left v31) hM30 h)) ?_
      rintro _ M32 ⟨hM34, rfl, h⟩
      exact PW.ret0 (pc := 114) dX3_readPair_114 hM34.1 rfl ⟨hM34, rfl, h⟩
  · have h := h.2 hc
    refine PW.aload_n (pc := 41) dX3_readPair_41 rfl ?_
    refine PW.getR (pc := 42) dX3_readPair_42 (r := 6) lf_X3_12 (ob hM10.1 s_5 (by decide)) fx_3_0 (oR_3_0 hM10 s_5) (pS_ne s_6) ?_
    refine PW.iconst (pc := 45) dX3_readPair_45 (v := 1) (by decide) ?_
    refine PW.aload_n (pc := 46) dX3_readPair_46 rfl ?_
    refine PW.getR (pc := 47) dX3_readPair_47 (r := 6) lf_X3_12 (ob hM10.1 s_5 (by decide)) fx_3_0 (oR_3_0 hM10 s_5) (pS_ne s_6) ?_
    refine PW.getI (pc := 50) dX3_readPair_50 lf_X3_55 (ob hM10.1 s_6 (by decide)) fx_6_4 ?_
    refine PW.inv (m' := mX6_fail) (pc := 53) dX3_readPair_53 lm_X3_58 me_X6_fail mi_X6_fail (ob hM10.1 s_6 (by decide)) rfl (As := [.int 1, .int (mI M8 6 4)]) (st := []) rfl (Nat.le_of_ble_eq_true rfl) (Nat.le_of_ble_eq_true rfl) (Nat.le_of_eq hM10.1) (Nat.le_refl _) (PW.deep (by omega) (c_X6_fail  hM10 h)) ?_
    rintro _ M35 ⟨hM37, rfl, h⟩
    refine PW.goto (pc := 56) dX3_readPair_56 (t := 114) (by decide) ?_
    exact PW.ret0 (pc := 114) dX3_readPair_114 hM37.1 rfl ⟨hM37, rfl, h⟩
def w_X3_readPair (rc : Nat → Int32 → pm → (pm → Prop) → Prop) (x1 : Int32) (M : pm) (Q : pm → Prop) : Prop := w_X6_isWord 26 M (fun y2 M1 => ((y2 = 0 → (w_X3_readPair_21 rc x1 10010 M1  Q)) ∧ (¬ y2 = 0 → (w_X3_readPair_21 rc x1 10009 M1  Q))))
set_option maxRecDepth 4000 in
theorem c_X3_readPair {d : Nat} (hd : 12 ≤ d) {rc : Nat → Int32 → pm → (pm → Prop) → Prop} (hrc : ∀ (i : Nat) (x : Int32) (M : pm) (Q : pm → Prop), pG M → rc i x M Q → PW (mRd i) d 350 0 (pfr (mRd i).2.2.1 [.ref 5, .int x]) [] M (qV Q)) {x1 : Int32} {M : pm} {Q : pm → Prop}  (hM : pG M) (h : w_X3_readPair rc x1 M Q) : PW mX3_readPair (d + 1) 350 0 (pfr mX3_readPair.2.2.1 [.ref 5, .int x1]) [] M (qV Q) := by
  unfold w_X3_readPair at h
  show PW mX3_readPair (d + 1) 350 0 [.ref 5, .int x1, .null] [] M (qV Q)
  refine PW.aload_n (pc := 0) dX3_readPair_0 rfl ?_
  refine PW.getR (pc := 1) dX3_readPair_1 (r := 6) lf_X3_12 (ob hM.1 s_5 (by decide)) fx_3_0 (oR_3_0 hM s_5) (pS_ne s_6) ?_
  refine PW.bipush (pc := 4) dX3_readPair_4 (v := 26) (by decide) ?_
  refine PW.inv (m' := mX6_isWord) (pc := 6) dX3_readPair_6 lm_X3_180 me_X6_isWord mi_X6_isWord (ob hM.1 s_6 (by decide)) rfl (As := [.int 26]) (st := []) rfl (Nat.le_of_ble_eq_true rfl) (Nat.le_of_ble_eq_true rfl) (Nat.le_of_eq hM.1) (Nat.le_refl _) (PW.deep (by omega) (c_X6_isWord  hM h)) ?_
  rintro _ M1 ⟨hM3, y2, rfl, z4, h⟩
  refine PW.if_eq (pc := 9) dX3_readPair_9 (t := 18) (by decide) (fun hc => ?_) (fun hc => ?_)
  · have h := h.1 hc
    refine PW.sipush (pc := 18) dX3_readPair_18 (v := 10010) (by decide) ?_
    exact PW.drop (c_X3_readPair_21 hd hrc  _ _ _ hM3 h) ⟨rfl, rfl, trivial⟩
  · have h := h.2 hc
    refine PW.sipush (pc := 12) dX3_readPair_12 (v := 10009) (by decide) ?_
    refine PW.goto (pc := 15) dX3_readPair_15 (t := 21) (by decide) ?_
    exact PW.drop (c_X3_readPair_21 hd hrc  _ _ _ hM3 h) ⟨rfl, rfl, trivial⟩
def w_rd : Nat → Nat → Int32 → pm → (pm → Prop) → Prop
  | 0, _, _, _, _ => False
  | n + 1, 0, x, M, Q => w_X3_readTest (w_rd n) x M Q
  | n + 1, 1, x, M, Q => w_X3_readBoth (w_rd n) x M Q
  | n + 1, 2, x, M, Q => w_X3_readFact (w_rd n) x M Q
  | n + 1, 3, x, M, Q => w_X3_readSum (w_rd n) x M Q
  | n + 1, 4, x, M, Q => w_X3_readProduct (w_rd n) x M Q
  | n + 1, 5, x, M, Q => w_X3_readPiece (w_rd n) x M Q
  | n + 1, _ + 6, x, M, Q => w_X3_readPair (w_rd n) x M Q
theorem c_rd : ∀ (n i : Nat) (x : Int32) (M : pm) (Q : pm → Prop), pG M → w_rd n i x M Q → PW (mRd i) (n + 12) 350 0 (pfr (mRd i).2.2.1 [.ref 5, .int x]) [] M (qV Q) := by
  intro n
  induction n with
  | zero => intro i x M Q hM h; exact h.elim
  | succ n ih =>
    intro i x M Q hM h
    match i, h with
    | 0, h => exact c_X3_readTest (d := n + 12) (by omega) ih hM h
    | 1, h => exact c_X3_readBoth (d := n + 12) (by omega) ih hM h
    | 2, h => exact c_X3_readFact (d := n + 12) (by omega) ih hM h
    | 3, h => exact c_X3_readSum (d := n + 12) (by omega) ih hM h
    | 4, h => exact c_X3_readProduct (d := n + 12) (by omega) ih hM h
    | 5, h => exact c_X3_readPiece (d := n + 12) (by omega) ih hM h
    | _ + 6, h => exact c_X3_readPair (d := n + 12) (by omega) ih hM h
def w_X3_readPart_44  (x1 : Int32) (t1 : Int32) (M : pm)  (Q : pm → Prop) : Prop := bz t1 ∧ (¬ (mR M 5 2) = 0 ∧ (w_X2_beginPart (mR M 5 2) x1 (sI M 5 4 t1) (fun M11 => ((¬ x1 = 1 → (w_rd 60 3 0 M11 (fun M14 => ¬ (mR M14 5 2) = 0 ∧ (w_X2_endPart (mR M14 5 2) x1 M14 (fun M18 => Q M18))))) ∧ (x1 = 1 → (w_rd 60 0 0 M11 (fun M21 => ¬ (mR M21 5 2) = 0 ∧ (w_X2_endPart (mR M21 5 2) x1 M21 (fun M25 => Q M25)))))))))
set_option maxRecDepth 4000 in
theorem c_X3_readPart_44  {Q : pm → Prop}  : ∀ (x1 : Int32) (t1 : Int32) (M : pm), pG M → w_X3_readPart_44 x1 t1 M  Q → PW mX3_readPart 73 350 44 [.ref 5, .int x1] [.int t1, .ref 5] M (qV Q) := by
  intro x1 t1 M hM h
  unfold w_X3_readPart_44 at h
  obtain ⟨v9, h⟩ := h
  refine PW.putI (pc := 44) dX3_readPart_44 lf_X3_32 (ob hM.1 s_5 (by decide)) fx_3_4 fw_3_4 (bz_n v9) (bz_f v9) ?_
  refine PW.aload_n (pc := 47) dX3_readPart_47 rfl ?_
  obtain ⟨v10, h⟩ := h
  refine PW.getR (pc := 48) dX3_readPart_48 (r := (mR M 5 2)) lf_X3_25 (ob hM.1 s_5 (by decide)) fx_3_2 rfl (pS_ne (hM.2.2.2.2.2.2.2.resolve_left v10)) ?_
  refine PW.iload_n (pc := 51) dX3_readPart_51 rfl ?_
  refine PW.inv (m' := mX2_beginPart) (pc := 52) dX3_readPart_52 lm_X3_80 me_X2_beginPart mi_X2_beginPart (ob hM.1 (hM.2.2.2.2.2.2.2.resolve_left v10) (by decide)) rfl (As := [.int x1]) (st := []) rfl (Nat.le_of_ble_eq_true rfl) (Nat.le_of_ble_eq_true rfl) (Nat.le_of_eq hM.1) (Nat.le_refl _) (PW.deep (by decide) (c_X2_beginPart (hM.2.2.2.2.2.2.2.resolve_left v10) (hM.same rfl rfl) h)) ?_
  rintro _ M11 ⟨hM13, rfl, h⟩
  refine PW.iload_n (pc := 55) dX3_readPart_55 rfl ?_
  refine PW.iconst (pc := 56) dX3_readPart_56 (v := 1) (by decide) ?_
  refine PW.icmp_ne (pc := 57) dX3_readPart_57 (t := 68) (by decide) (fun hc => ?_) (fun hc => ?_)
  · have h := h.1 hc
    refine PW.aload_n (pc := 68) dX3_readPart_68 rfl ?_
    refine PW.iconst (pc := 69) dX3_readPart_69 (v := 0) (by decide) ?_
    refine PW.inv (m' := mX3_readSum) (pc := 70) dX3_readPart_70 lm_X3_87 me_X3_readSum mi_X3_readSum (ob hM13.1 s_5 (by decide)) rfl (As := [.int 0]) (st := []) rfl (Nat.le_of_ble_eq_true rfl) (Nat.le_of_ble_eq_true rfl) (Nat.le_of_eq hM13.1) (Nat.le_refl _) (PW.deep (by decide) (c_rd 60 3 _ _ _ hM13 h)) ?_
    rintro _ M14 ⟨hM16, rfl, h⟩
    refine PW.aload_n (pc := 73) dX3_readPart_73 rfl ?_
    obtain ⟨v17, h⟩ := h
    refine PW.getR (pc := 74) dX3_readPart_74 (r := (mR M14 5 2)) lf_X3_25 (ob hM16.1 s_5 (by decide)) fx_3_2 rfl (pS_ne (hM16.2.2.2.2.2.2.2.resolve_left v17)) ?_
    refine PW.iload_n (pc := 77) dX3_readPart_77 rfl ?_
    refine PW.inv (m' := mX2_endPart) (pc := 78) dX3_readPart_78 lm_X3_90 me_X2_endPart mi_X2_endPart (ob hM16.1 (hM16.2.2.2.2.2.2.2.resolve_left v17) (by decide)) rfl (As := [.int x1]) (st := []) rfl (Nat.le_of_ble_eq_true rfl) (Nat.le_of_ble_eq_true rfl) (Nat.le_of_eq hM16.1) (Nat.le_refl _) (PW.deep (by decide) (c_X2_endPart (hM16.2.2.2.2.2.2.2.resolve_left v17) hM16 h)) ?_
    rintro _ M18 ⟨hM20, rfl, h⟩
    exact PW.ret0 (pc := 81) dX3_readPart_81 hM20.1 rfl ⟨hM20, rfl, h⟩
  · have h := h.2 hc
    refine PW.aload_n (pc := 60) dX3_readPart_60 rfl ?_
    refine PW.iconst (pc := 61) dX3_readPart_61 (v := 0) (by decide) ?_
    refine PW.inv (m' := mX3_readTest) (pc := 62) dX3_readPart_62 lm_X3_84 me_X3_readTest mi_X3_readTest (ob hM13.1 s_5 (by decide)) rfl (As := [.int 0]) (st := []) rfl (Nat.le_of_ble_eq_true rfl) (Nat.le_of_ble_eq_true rfl) (Nat.le_of_eq hM13.1) (Nat.le_refl _) (PW.deep (by decide) (c_rd 60 0 _ _ _ hM13 h)) ?_
    rintro _ M21 ⟨hM23, rfl, h⟩
    refine PW.goto (pc := 65) dX3_readPart_65 (t := 73) (by decide) ?_
    refine PW.aload_n (pc := 73) dX3_readPart_73 rfl ?_
    obtain ⟨v24, h⟩ := h
    refine PW.getR (pc := 74) dX3_readPart_74 (r := (mR M21 5 2)) lf_X3_25 (ob hM23.1 s_5 (by decide)) fx_3_2 rfl (pS_ne (hM23.2.2.2.2.2.2.2.resolve_left v24)) ?_
    refine PW.iload_n (pc := 77) dX3_readPart_77 rfl ?_
    refine PW.inv (m' := mX2_endPart) (pc := 78) dX3_readPart_78 lm_X3_90 me_X2_endPart mi_X2_endPart (ob hM23.1 (hM23.2.2.2.2.2.2.2.resolve_left v24) (by decide)) rfl (As := [.int x1]) (st := []) rfl (Nat.le_of_ble_eq_true rfl) (Nat.le_of_ble_eq_true rfl) (Nat.le_of_eq hM23.1) (Nat.le_refl _) (PW.deep (by decide) (c_X2_endPart (hM23.2.2.2.2.2.2.2.resolve_left v24) hM23 h)) ?_
    rintro _ M25 ⟨hM27, rfl, h⟩
    exact PW.ret0 (pc := 81) dX3_readPart_81 hM27.1 rfl ⟨hM27, rfl, h⟩
def w_X3_readPart (x1 : Int32) (M : pm) (Q : pm → Prop) : Prop := ¬ (mR M 5 2) = 0 ∧ (w_X2_hasPart (mR M 5 2) x1 M (fun y3 M2 => ((y3 = 0 → (w_X6_take  M2 (fun M6 => ((x1 = 0 → (w_X3_readPart_44 x1 0 M6  Q)) ∧ (¬ x1 = 0 → (w_X3_readPart_44 x1 1 M6  Q)))))) ∧ (¬ y3 = 0 → (w_X6_fail 5 (mI M2 6 4) M2 (fun M28 => Q M28))))))
set_option maxRecDepth 4000 in
theorem c_X3_readPart {x1 : Int32} {M : pm} {Q : pm → Prop}  (hM : pG M) (h : w_X3_readPart x1 M Q) : PW mX3_readPart 73 350 0 (pfr mX3_readPart.2.2.1 [.ref 5, .int x1]) [] M (qV Q) := by
  unfold w_X3_readPart at h
  show PW mX3_readPart 73 350 0 [.ref 5, .int x1] [] M (qV Q)
  refine PW.aload_n (pc := 0) dX3_readPart_0 rfl ?_
  obtain ⟨v1, h⟩ := h
  refine PW.getR (pc := 1) dX3_readPart_1 (r := (mR M 5 2)) lf_X3_25 (ob hM.1 s_5 (by decide)) fx_3_2 rfl (pS_ne (hM.2.2.2.2.2.2.2.resolve_left v1)) ?_
  refine PW.iload_n (pc := 4) dX3_readPart_4 rfl ?_
  refine PW.inv (m' := mX2_hasPart) (pc := 5) dX3_readPart_5 lm_X3_155 me_X2_hasPart mi_X2_hasPart (ob hM.1 (hM.2.2.2.2.2.2.2.resolve_left v1) (by decide)) rfl (As := [.int x1]) (st := []) rfl (Nat.le_of_ble_eq_true rfl) (Nat.le_of_ble_eq_true rfl) (Nat.le_of_eq hM.1) (Nat.le_refl _) (PW.deep (by decide) (c_X2_hasPart (hM.2.2.2.2.2.2.2.resolve_left v1) hM h)) ?_
  rintro _ M2 ⟨hM4, y3, rfl, z5, h⟩
  refine PW.if_eq (pc := 8) dX3_readPart_8 (t := 27) (by decide) (fun hc => ?_) (fun hc => ?_)
  · have h := h.1 hc
    refine PW.aload_n (pc := 27) dX3_readPart_27 rfl ?_
    refine PW.getR (pc := 28) dX3_readPart_28 (r := 6) lf_X3_12 (ob hM4.1 s_5 (by decide)) fx_3_0 (oR_3_0 hM4 s_5) (pS_ne s_6) ?_
    refine PW.inv (m' := mX6_take) (pc := 31) dX3_readPart_31 lm_X3_77 me_X6_take mi_X6_take (ob hM4.1 s_6 (by decide)) rfl (As := []) (st := []) rfl (Nat.le_of_ble_eq_true rfl) (Nat.le_of_ble_eq_true rfl) (Nat.le_of_eq hM4.1) (Nat.le_refl _) (PW.deep (by decide) (c_X6_take  hM4 h)) ?_
    rintro _ M6 ⟨hM8, rfl, h⟩
    refine PW.aload_n (pc := 34) dX3_readPart_34 rfl ?_
    refine PW.iload_n (pc := 35) dX3_readPart_35 rfl ?_
    refine PW.if_eq (pc := 36) dX3_readPart_36 (t := 43) (by decide) (fun hc => ?_) (fun hc => ?_)
    · have h := h.1 hc
      refine PW.iconst (pc := 43) dX3_readPart_43 (v := 0) (by decide) ?_
      exact PW.drop (c_X3_readPart_44  _ _ _ hM8 h) ⟨rfl, rfl, trivial⟩
    · have h := h.2 hc
      refine PW.iconst (pc := 39) dX3_readPart_39 (v := 1) (by decide) ?_
      refine PW.goto (pc := 40) dX3_readPart_40 (t := 44) (by decide) ?_
      exact PW.drop (c_X3_readPart_44  _ _ _ hM8 h) ⟨rfl, rfl, trivial⟩
  · have h := h.2 hc
    refine PW.aload_n (pc := 11) dX3_readPart_11 rfl ?_
    refine PW.getR (pc := 12) dX3_readPart_12 (r := 6) lf_X3_12 (ob hM4.1 s_5 (by decide)) fx_3_0 (oR_3_0 hM4 s_5) (pS_ne s_6) ?_
    refine PW.iconst (pc := 15) dX3_readPart_15 (v := 5) (by decide) ?_
    refine PW.aload_n (pc := 16) dX3_readPart_16 rfl ?_
    refine PW.getR (pc := 17) dX3_readPart_17 (r := 6) lf_X3_12 (ob hM4.1 s_5 (by decide)) fx_3_0 (oR_3_0 hM4 s_5) (pS_ne s_6) ?_
    refine PW.getI (pc := 20) dX3_readPart_20 lf_X3_55 (ob hM4.1 s_6 (by decide)) fx_6_4 ?_
    refine PW.inv (m' := mX6_fail) (pc := 23) dX3_readPart_23 lm_X3_58 me_X6_fail mi_X6_fail (ob hM4.1 s_6 (by decide)) rfl (As := [.int 5, .int (mI M2 6 4)]) (st := []) rfl (Nat.le_of_ble_eq_true rfl) (Nat.le_of_ble_eq_true rfl) (Nat.le_of_eq hM4.1) (Nat.le_refl _) (PW.deep (by decide) (c_X6_fail  hM4 h)) ?_
    rintro _ M28 ⟨hM30, rfl, h⟩
    exact PW.ret0 (pc := 26) dX3_readPart_26 hM30.1 rfl ⟨hM30, rfl, h⟩
def w_X3_readStatement_29  (a1 : Nat) (x2 : Int32) (t0 : Int32) (t1 : Int32) (M : pm)  (Q : pm → Prop) : Prop := ((t0 = t1 → ((x2 = 0 → (w_X6_take  M (fun M4 => w_X6_needNumber 1 60 M4 (fun y8 M7 => w_X6_needSign 59 (sI M7 a1 1 y8) (fun M10 => Q (sI M10 a1 0 ((mI M10 a1 0) + 1))))))) ∧ (x2 = 1 → (w_X3_readSong a1 M (fun M13 => w_X6_needSign 59 M13 (fun M16 => Q (sI M16 a1 0 ((mI M16 a1 0) + 1)))))) ∧ (x2 = 4 → (w_X3_readAsker a1 M (fun M19 => w_X6_needSign 59 M19 (fun M22 => Q (sI M22 a1 0 ((mI M22 a1 0) + 1)))))) ∧ (x2 = 8 → (w_X3_readEar a1 M (fun M25 => w_X6_needSign 59 M25 (fun M28 => Q (sI M28 a1 0 ((mI M28 a1 0) + 1)))))) ∧ (x2 = 10 → (w_X3_readPart 0 M (fun M31 => w_X6_needSign 59 M31 (fun M34 => Q (sI M34 a1 0 ((mI M34 a1 0) + 1)))))) ∧ (x2 = 11 → (w_X3_readPart 1 M (fun M37 => w_X6_needSign 59 M37 (fun M40 => Q (sI M40 a1 0 ((mI M40 a1 0) + 1)))))) ∧ (x2 = 12 → (w_X3_readPart 2 M (fun M43 => w_X6_needSign 59 M43 (fun M46 => Q (sI M46 a1 0 ((mI M46 a1 0) + 1)))))) ∧ (x2 = 13 → (w_X6_take  M (fun M49 => w_X6_needNumber 0 999 M49 (fun y53 M52 => w_X6_needSign 59 (sI M52 a1 2 y53) (fun M55 => Q (sI M55 a1 0 ((mI M55 a1 0) + 1))))))) ∧ (x2 = 14 → (w_X6_take  M (fun M58 => w_X6_needNumber 0 100 M58 (fun y62 M61 => w_X6_needSign 59 (sI M61 a1 3 y62) (fun M64 => Q (sI M64 a1 0 ((mI M64 a1 0) + 1))))))) ∧ (¬ x2 = 0 → ¬ x2 = 1 → ¬ x2 = 4 → ¬ x2 = 8 → ¬ x2 = 10 → ¬ x2 = 11 → ¬ x2 = 12 → ¬ x2 = 13 → ¬ x2 = 14 → (w_X6_fail 1 (mI M 6 4) M (fun M67 => w_X6_needSign 59 M67 (fun M70 => Q (sI M70 a1 0 ((mI M70 a1 0) + 1)))))))) ∧ (¬ t0 = t1 → (w_X6_fail 1 (mI M 6 4) M (fun M73 => Q M73))))
set_option maxRecDepth 4000 in
theorem c_X3_readStatement_29  {Q : pm → Prop}  : ∀ (a1 : Nat) (x2 : Int32) (t0 : Int32) (t1 : Int32) (M : pm), pS 5 a1 → pG M → w_X3_readStatement_29 a1 x2 t0 t1 M  Q → PW mX3_readStatement 74 350 29 [.ref 5, .ref a1, .int x2] [.int t1, .int t0] M (qV Q) := by
  intro a1 x2 t0 t1 M hs1 hM h
  unfold w_X3_readStatement_29 at h
  refine PW.icmp_eq (pc := 29) dX3_readStatement_29 (t := 48) (by decide) (fun hc => ?_) (fun hc => ?_)
  · have h := h.1 hc
    refine PW.iload_n (pc := 48) dX3_readStatement_48 rfl ?_
    by_cases q0 : x2 = 0
    · have h := h.1 q0
      refine PW.tabIn (pc := 49) dX3_readStatement_49 (by rw [q0]; decide) (by rw [q0]; decide) (off := 75) (by rw [q0]; decide) (t := 124) (by decide) ?_
      refine PW.aload_n (pc := 124) dX3_readStatement_124 rfl ?_
      refine PW.getR (pc := 125) dX3_readStatement_125 (r := 6) lf_X3_12 (ob hM.1 s_5 (by decide)) fx_3_0 (oR_3_0 hM s_5) (pS_ne s_6) ?_
      refine PW.inv (m' := mX6_take) (pc := 128) dX3_readStatement_128 lm_X3_77 me_X6_take mi_X6_take (ob hM.1 s_6 (by decide)) rfl (As := []) (st := []) rfl (Nat.le_of_ble_eq_true rfl) (Nat.le_of_ble_eq_true rfl) (Nat.le_of_eq hM.1) (Nat.le_refl _) (PW.deep (by decide) (c_X6_take  hM h)) ?_
      rintro _ M4 ⟨hM6, rfl, h⟩
      refine PW.aload_n (pc := 131) dX3_readStatement_131 rfl ?_
      refine PW.aload_n (pc := 132) dX3_readStatement_132 rfl ?_
      refine PW.getR (pc := 133) dX3_readStatement_133 (r := 6) lf_X3_12 (ob hM6.1 s_5 (by decide)) fx_3_0 (oR_3_0 hM6 s_5) (pS_ne s_6) ?_
      refine PW.iconst (pc := 136) dX3_readStatement_136 (v := 1) (by decide) ?_
      refine PW.bipush (pc := 137) dX3_readStatement_137 (v := 60) (by decide) ?_
      refine PW.inv (m' := mX6_needNumber) (pc := 139) dX3_readStatement_139 lm_X3_96 me_X6_needNumber mi_X6_needNumber (ob hM6.1 s_6 (by decide)) rfl (As := [.int 1, .int 60]) (st := [.ref a1]) rfl (Nat.le_of_ble_eq_true rfl) (Nat.le_of_ble_eq_true rfl) (Nat.le_of_eq hM6.1) (Nat.le_refl _) (PW.deep (by decide) (c_X6_needNumber  hM6 h)) ?_
      rintro _ M7 ⟨hM9, y8, rfl, h⟩
      refine PW.putI (pc := 142) dX3_readStatement_142 lf_X3_100 (ob hM9.1 hs1 (by decide)) fx_5_1 fw_5_1 rfl rfl ?_
      refine PW.goto (pc := 145) dX3_readStatement_145 (t := 260) (by decide) ?_
      refine PW.aload_n (pc := 260) dX3_readStatement_260 rfl ?_
      refine PW.getR (pc := 261) dX3_readStatement_261 (r := 6) lf_X3_12 (ob hM9.1 s_5 (by decide)) fx_3_0 (oR_3_0 (hM9.same rfl rfl) s_5) (pS_ne s_6) ?_
      refine PW.bipush (pc := 264) dX3_readStatement_264 (v := 59) (by decide) ?_
      refine PW.inv (m' := mX6_needSign) (pc := 266) dX3_readStatement_266 lm_X3_121 me_X6_needSign mi_X6_needSign (ob hM9.1 s_6 (by decide)) rfl (As := [.int 59]) (st := []) rfl (Nat.le_of_ble_eq_true rfl) (Nat.le_of_ble_eq_true rfl) (Nat.le_of_eq hM9.1) (Nat.le_refl _) (PW.deep (by decide) (c_X6_needSign  (hM9.same rfl rfl) h)) ?_
      rintro _ M10 ⟨hM12, rfl, h⟩
      refine PW.aload_n (pc := 269) dX3_readStatement_269 rfl ?_
      refine PW.dupR (pc := 270) dX3_readStatement_270 ?_
      refine PW.getI (pc := 271) dX3_readStatement_271 lf_X3_66 (ob hM12.1 hs1 (by decide)) fx_5_0 ?_
      refine PW.iconst (pc := 274) dX3_readStatement_274 (v := 1) (by decide) ?_
      refine PW.iadd (pc := 275) dX3_readStatement_275 ?_
      refine PW.putI (pc := 276) dX3_readStatement_276 lf_X3_66 (ob hM12.1 hs1 (by decide)) fx_5_0 fw_5_0 rfl rfl ?_
      exact PW.ret0 (pc := 279) dX3_readStatement_279 hM12.1 rfl ⟨(hM12.same rfl rfl), rfl, h⟩
    by_cases q1 : x2 = 1
    · have h := h.2.1 q1
      refine PW.tabIn (pc := 49) dX3_readStatement_49 (by rw [q1]; decide) (by rw [q1]; decide) (off := 99) (by rw [q1]; decide) (t := 148) (by decide) ?_
      refine PW.aload_n (pc := 148) dX3_readStatement_148 rfl ?_
      refine PW.aload_n (pc := 149) dX3_readStatement_149 rfl ?_
      refine PW.inv (m' := mX3_readSong) (pc := 150) dX3_readStatement_150 lm_X3_103 me_X3_readSong mi_X3_readSong (ob hM.1 s_5 (by decide)) rfl (As := [.ref a1]) (st := []) rfl (Nat.le_of_ble_eq_true rfl) (Nat.le_of_ble_eq_true rfl) (Nat.le_of_eq hM.1) (Nat.le_refl _) (PW.deep (by decide) (c_X3_readSong hs1 hM h)) ?_
      rintro _ M13 ⟨hM15, rfl, h⟩
      refine PW.goto (pc := 153) dX3_readStatement_153 (t := 260) (by decide) ?_
      refine PW.aload_n (pc := 260) dX3_readStatement_260 rfl ?_
      refine PW.getR (pc := 261) dX3_readStatement_261 (r := 6) lf_X3_12 (ob hM15.1 s_5 (by decide)) fx_3_0 (oR_3_0 hM15 s_5) (pS_ne s_6) ?_
      refine PW.bipush (pc := 264) dX3_readStatement_264 (v := 59) (by decide) ?_
      refine PW.inv (m' := mX6_needSign) (pc := 266) dX3_readStatement_266 lm_X3_121 me_X6_needSign mi_X6_needSign (ob hM15.1 s_6 (by decide)) rfl (As := [.int 59]) (st := []) rfl (Nat.le_of_ble_eq_true rfl) (Nat.le_of_ble_eq_true rfl) (Nat.le_of_eq hM15.1) (Nat.le_refl _) (PW.deep (by decide) (c_X6_needSign  hM15 h)) ?_
      rintro _ M16 ⟨hM18, rfl, h⟩
      refine PW.aload_n (pc := 269) dX3_readStatement_269 rfl ?_
      refine PW.dupR (pc := 270) dX3_readStatement_270 ?_
      refine PW.getI (pc := 271) dX3_readStatement_271 lf_X3_66 (ob hM18.1 hs1 (by decide)) fx_5_0 ?_
      refine PW.iconst (pc := 274) dX3_readStatement_274 (v := 1) (by decide) ?_
      refine PW.iadd (pc := 275) dX3_readStatement_275 ?_
      refine PW.putI (pc := 276) dX3_readStatement_276 lf_X3_66 (ob hM18.1 hs1 (by decide)) fx_5_0 fw_5_0 rfl rfl ?_
      exact PW.ret0 (pc := 279) dX3_readStatement_279 hM18.1 rfl ⟨(hM18.same rfl rfl), rfl, h⟩
    by_cases q4 : x2 = 4
    · have h := h.2.2.1 q4
      refine PW.tabIn (pc := 49) dX3_readStatement_49 (by rw [q4]; decide) (by rw [q4]; decide) (off := 107) (by rw [q4]; decide) (t := 156) (by decide) ?_
      refine PW.aload_n (pc := 156) dX3_readStatement_156 rfl ?_
      refine PW.aload_n (pc := 157) dX3_readStatement_157 rfl ?_
      refine PW.inv (m' := mX3_readAsker) (pc := 158) dX3_readStatement_158 lm_X3_106 me_X3_readAsker mi_X3_readAsker (ob hM.1 s_5 (by decide)) rfl (As := [.ref a1]) (st := []) rfl (Nat.le_of_ble_eq_true rfl) (Nat.le_of_ble_eq_true rfl) (Nat.le_of_eq hM.1) (Nat.le_refl _) (PW.deep (by decide) (c_X3_readAsker hs1 hM h)) ?_
      rintro _ M19 ⟨hM21, rfl, h⟩
      refine PW.goto (pc := 161) dX3_readStatement_161 (t := 260) (by decide) ?_
      refine PW.aload_n (pc := 260) dX3_readStatement_260 rfl ?_
      refine PW.getR (pc := 261) dX3_readStatement_261 (r := 6) lf_X3_12 (ob hM21.1 s_5 (by decide)) fx_3_0 (oR_3_0 hM21 s_5) (pS_ne s_6) ?_
      refine PW.bipush (pc := 264) dX3_readStatement_264 (v := 59) (by decide) ?_
      refine PW.inv (m' := mX6_needSign) (pc := 266) dX3_readStatement_266 lm_X3_121 me_X6_needSign mi_X6_needSign (ob hM21.1 s_6 (by decide)) rfl (As := [.int 59]) (st := []) rfl (Nat.le_of_ble_eq_true rfl) (Nat.le_of_ble_eq_true rfl) (Nat.le_of_eq hM21.1) (Nat.le_refl _) (PW.deep (by decide) (c_X6_needSign  hM21 h)) ?_
      rintro _ M22 ⟨hM24, rfl, h⟩
      refine PW.aload_n (pc := 269) dX3_readStatement_269 rfl ?_
      refine PW.dupR (pc := 270) dX3_readStatement_270 ?_
      refine PW.getI (pc := 271) dX3_readStatement_271 lf_X3_66 (ob hM24.1 hs1 (by decide)) fx_5_0 ?_
      refine PW.iconst (pc := 274) dX3_readStatement_274 (v := 1) (by decide) ?_
      refine PW.iadd (pc := 275) dX3_readStatement_275 ?_
      refine PW.putI (pc := 276) dX3_readStatement_276 lf_X3_66 (ob hM24.1 hs1 (by decide)) fx_5_0 fw_5_0 rfl rfl ?_
      exact PW.ret0 (pc := 279) dX3_readStatement_279 hM24.1 rfl ⟨(hM24.same rfl rfl), rfl, h⟩
    by_cases q8 : x2 = 8
    · have h := h.2.2.2.1 q8
      refine PW.tabIn (pc := 49) dX3_readStatement_49 (by rw [q8]; decide) (by rw [q8]; decide) (off := 115) (by rw [q8]; decide) (t := 164) (by decide) ?_
      refine PW.aload_n (pc := 164) dX3_readStatement_164 rfl ?_
      refine PW.aload_n (pc := 165) dX3_readStatement_165 rfl ?_
      refine PW.inv (m' := mX3_readEar) (pc := 166) dX3_readStatement_166 lm_X3_109 me_X3_readEar mi_X3_readEar (ob hM.1 s_5 (by decide)) rfl (As := [.ref a1]) (st := []) rfl (Nat.le_of_ble_eq_true rfl) (Nat.le_of_ble_eq_true rfl) (Nat.le_of_eq hM.1) (Nat.le_refl _) (PW.deep (by decide) (c_X3_readEar hs1 hM h)) ?_
      rintro _ M25 ⟨hM27, rfl, h⟩
      refine PW.goto (pc := 169) dX3_readStatement_169 (t := 260) (by decide) ?_
      refine PW.aload_n (pc := 260) dX3_readStatement_260 rfl ?_
      refine PW.getR (pc := 261) dX3_readStatement_261 (r := 6) lf_X3_12 (ob hM27.1 s_5 (by decide)) fx_3_0 (oR_3_0 hM27 s_5) (pS_ne s_6) ?_
      refine PW.bipush (pc := 264) dX3_readStatement_264 (v := 59) (by decide) ?_
      refine PW.inv (m' := mX6_needSign) (pc := 266) dX3_readStatement_266 lm_X3_121 me_X6_needSign mi_X6_needSign (ob hM27.1 s_6 (by decide)) rfl (As := [.int 59]) (st := []) rfl (Nat.le_of_ble_eq_true rfl) (Nat.le_of_ble_eq_true rfl) (Nat.le_of_eq hM27.1) (Nat.le_refl _) (PW.deep (by decide) (c_X6_needSign  hM27 h)) ?_
      rintro _ M28 ⟨hM30, rfl, h⟩
      refine PW.aload_n (pc := 269) dX3_readStatement_269 rfl ?_
      refine PW.dupR (pc := 270) dX3_readStatement_270 ?_
      refine PW.getI (pc := 271) dX3_readStatement_271 lf_X3_66 (ob hM30.1 hs1 (by decide)) fx_5_0 ?_
      refine PW.iconst (pc := 274) dX3_readStatement_274 (v := 1) (by decide) ?_
      refine PW.iadd (pc := 275) dX3_readStatement_275 ?_
      refine PW.putI (pc := 276) dX3_readStatement_276 lf_X3_66 (ob hM30.1 hs1 (by decide)) fx_5_0 fw_5_0 rfl rfl ?_
      exact PW.ret0 (pc := 279) dX3_readStatement_279 hM30.1 rfl ⟨(hM30.same rfl rfl), rfl, h⟩
    by_cases q10 : x2 = 10
    · have h := h.2.2.2.2.1 q10
      refine PW.tabIn (pc := 49) dX3_readStatement_49 (by rw [q10]; decide) (by rw [q10]; decide) (off := 123) (by rw [q10]; decide) (t := 172) (by decide) ?_
      refine PW.aload_n (pc := 172) dX3_readStatement_172 rfl ?_
      refine PW.iconst (pc := 173) dX3_readStatement_173 (v := 0) (by decide) ?_
      refine PW.inv (m' := mX3_readPart) (pc := 174) dX3_readStatement_174 lm_X3_112 me_X3_readPart mi_X3_readPart (ob hM.1 s_5 (by decide)) rfl (As := [.int 0]) (st := []) rfl (Nat.le_of_ble_eq_true rfl) (Nat.le_of_ble_eq_true rfl) (Nat.le_of_eq hM.1) (Nat.le_refl _) (PW.deep (by decide) (c_X3_readPart  hM h)) ?_
      rintro _ M31 ⟨hM33, rfl, h⟩
      refine PW.goto (pc := 177) dX3_readStatement_177 (t := 260) (by decide) ?_
      refine PW.aload_n (pc := 260) dX3_readStatement_260 rfl ?_
      refine PW.getR (pc := 261) dX3_readStatement_261 (r := 6) lf_X3_12 (ob hM33.1 s_5 (by decide)) fx_3_0 (oR_3_0 hM33 s_5) (pS_ne s_6) ?_
      refine PW.bipush (pc := 264) dX3_readStatement_264 (v := 59) (by decide) ?_
      refine PW.inv (m' := mX6_needSign) (pc := 266) dX3_readStatement_266 lm_X3_121 me_X6_needSign mi_X6_needSign (ob hM33.1 s_6 (by decide)) rfl (As := [.int 59]) (st := []) rfl (Nat.le_of_ble_eq_true rfl) (Nat.le_of_ble_eq_true rfl) (Nat.le_of_eq hM33.1) (Nat.le_refl _) (PW.deep (by decide) (c_X6_needSign  hM33 h)) ?_
      rintro _ M34 ⟨hM36, rfl, h⟩
      refine PW.aload_n (pc := 269) dX3_readStatement_269 rfl ?_
      refine PW.dupR (pc := 270) dX3_readStatement_270 ?_
      refine PW.getI (pc := 271) dX3_readStatement_271 lf_X3_66 (ob hM36.1 hs1 (by decide)) fx_5_0 ?_
      refine PW.iconst (pc := 274) dX3_readStatement_274 (v := 1) (by decide) ?_
      refine PW.iadd (pc := 275) dX3_readStatement_275 ?_
      refine PW.putI (pc := 276) dX3_readStatement_276 lf_X3_66 (ob hM36.1 hs1 (by decide)) fx_5_0 fw_5_0 rfl rfl ?_
      exact PW.ret0 (pc := 279) dX3_readStatement_279 hM36.1 rfl ⟨(hM36.same rfl rfl), rfl, h⟩
    by_cases q11 : x2 = 11
    · have h := h.2.2.2.2.2.1 q11
      refine PW.tabIn (pc := 49) dX3_readStatement_49 (by rw [q11]; decide) (by rw [q11]; decide) (off := 131) (by rw [q11]; decide) (t := 180) (by decide) ?_
      refine PW.aload_n (pc := 180) dX3_readStatement_180 rfl ?_
      refine PW.iconst (pc := 181) dX3_readStatement_181 (v := 1) (by decide) ?_
      refine PW.inv (m' := mX3_readPart) (pc := 182) dX3_readStatement_182 lm_X3_112 me_X3_readPart mi_X3_readPart (ob hM.1 s_5 (by decide)) rfl (As := [.int 1]) (st := []) rfl (Nat.le_of_ble_eq_true rfl) (Nat.le_of_ble_eq_true rfl) (Nat.le_of_eq hM.1) (Nat.le_refl _) (PW.deep (by decide) (c_X3_readPart  hM h)) ?_
      rintro _ M37 ⟨hM39, rfl, h⟩
      refine PW.goto (pc := 185) dX3_readStatement_185 (t := 260) (by decide) ?_
      refine PW.aload_n (pc := 260) dX3_readStatement_260 rfl ?_
      refine PW.getR (pc := 261) dX3_readStatement_261 (r := 6) lf_X3_12 (ob hM39.1 s_5 (by decide)) fx_3_0 (oR_3_0 hM39 s_5) (pS_ne s_6) ?_
      refine PW.bipush (pc := 264) dX3_readStatement_264 (v := 59) (by decide) ?_
      refine PW.inv (m' := mX6_needSign) (pc := 266) dX3_readStatement_266 lm_X3_121 me_X6_needSign mi_X6_needSign (ob hM39.1 s_6 (by decide)) rfl (As := [.int 59]) (st := []) rfl (Nat.le_of_ble_eq_true rfl) (Nat.le_of_ble_eq_true rfl) (Nat.le_of_eq hM39.1) (Nat.le_refl _) (PW.deep (by decide) (c_X6_needSign  hM39 h)) ?_
      rintro _ M40 ⟨hM42, rfl, h⟩
      refine PW.aload_n (pc := 269) dX3_readStatement_269 rfl ?_
      refine PW.dupR (pc := 270) dX3_readStatement_270 ?_
      refine PW.getI (pc := 271) dX3_readStatement_271 lf_X3_66 (ob hM42.1 hs1 (by decide)) fx_5_0 ?_
      refine PW.iconst (pc := 274) dX3_readStatement_274 (v := 1) (by decide) ?_
      refine PW.iadd (pc := 275) dX3_readStatement_275 ?_
      refine PW.putI (pc := 276) dX3_readStatement_276 lf_X3_66 (ob hM42.1 hs1 (by decide)) fx_5_0 fw_5_0 rfl rfl ?_
      exact PW.ret0 (pc := 279) dX3_readStatement_279 hM42.1 rfl ⟨(hM42.same rfl rfl), rfl, h⟩
    by_cases q12 : x2 = 12
    · have h := h.2.2.2.2.2.2.1 q12
      refine PW.tabIn (pc := 49) dX3_readStatement_49 (by rw [q12]; decide) (by rw [q12]; decide) (off := 139) (by rw [q12]; decide) (t := 188) (by decide) ?_
      refine PW.aload_n (pc := 188) dX3_readStatement_188 rfl ?_
      refine PW.iconst (pc := 189) dX3_readStatement_189 (v := 2) (by decide) ?_
      refine PW.inv (m' := mX3_readPart) (pc := 190) dX3_readStatement_190 lm_X3_112 me_X3_readPart mi_X3_readPart (ob hM.1 s_5 (by decide)) rfl (As := [.int 2]) (st := []) rfl (Nat.le_of_ble_eq_true rfl) (Nat.le_of_ble_eq_true rfl) (Nat.le_of_eq hM.1) (Nat.le_refl _) (PW.deep (by decide) (c_X3_readPart  hM h)) ?_
      rintro _ M43 ⟨hM45, rfl, h⟩
      refine PW.goto (pc := 193) dX3_readStatement_193 (t := 260) (by decide) ?_
      refine PW.aload_n (pc := 260) dX3_readStatement_260 rfl ?_
      refine PW.getR (pc := 261) dX3_readStatement_261 (r := 6) lf_X3_12 (ob hM45.1 s_5 (by decide)) fx_3_0 (oR_3_0 hM45 s_5) (pS_ne s_6) ?_
      refine PW.bipush (pc := 264) dX3_readStatement_264 (v := 59) (by decide) ?_
      refine PW.inv (m' := mX6_needSign) (pc := 266) dX3_readStatement_266 lm_X3_121 me_X6_needSign mi_X6_needSign (ob hM45.1 s_6 (by decide)) rfl (As := [.int 59]) (st := []) rfl (Nat.le_of_ble_eq_true rfl) (Nat.le_of_ble_eq_true rfl) (Nat.le_of_eq hM45.1) (Nat.le_refl _) (PW.deep (by decide) (c_X6_needSign  hM45 h)) ?_
      rintro _ M46 ⟨hM48, rfl, h⟩
      refine PW.aload_n (pc := 269) dX3_readStatement_269 rfl ?_
      refine PW.dupR (pc := 270) dX3_readStatement_270 ?_
      refine PW.getI (pc := 271) dX3_readStatement_271 lf_X3_66 (ob hM48.1 hs1 (by decide)) fx_5_0 ?_
      refine PW.iconst (pc := 274) dX3_readStatement_274 (v := 1) (by decide) ?_
      refine PW.iadd (pc := 275) dX3_readStatement_275 ?_
      refine PW.putI (pc := 276) dX3_readStatement_276 lf_X3_66 (ob hM48.1 hs1 (by decide)) fx_5_0 fw_5_0 rfl rfl ?_
      exact PW.ret0 (pc := 279) dX3_readStatement_279 hM48.1 rfl ⟨(hM48.same rfl rfl), rfl, h⟩
    by_cases q13 : x2 = 13
    · have h := h.2.2.2.2.2.2.2.1 q13
      refine PW.tabIn (pc := 49) dX3_readStatement_49 (by rw [q13]; decide) (by rw [q13]; decide) (off := 147) (by rw [q13]; decide) (t := 196) (by decide) ?_
      refine PW.aload_n (pc := 196) dX3_readStatement_196 rfl ?_
      refine PW.getR (pc := 197) dX3_readStatement_197 (r := 6) lf_X3_12 (ob hM.1 s_5 (by decide)) fx_3_0 (oR_3_0 hM s_5) (pS_ne s_6) ?_
      refine PW.inv (m' := mX6_take) (pc := 200) dX3_readStatement_200 lm_X3_77 me_X6_take mi_X6_take (ob hM.1 s_6 (by decide)) rfl (As := []) (st := []) rfl (Nat.le_of_ble_eq_true rfl) (Nat.le_of_ble_eq_true rfl) (Nat.le_of_eq hM.1) (Nat.le_refl _) (PW.deep (by decide) (c_X6_take  hM h)) ?_
      rintro _ M49 ⟨hM51, rfl, h⟩
      refine PW.aload_n (pc := 203) dX3_readStatement_203 rfl ?_
      refine PW.aload_n (pc := 204) dX3_readStatement_204 rfl ?_
      refine PW.getR (pc := 205) dX3_readStatement_205 (r := 6) lf_X3_12 (ob hM51.1 s_5 (by decide)) fx_3_0 (oR_3_0 hM51 s_5) (pS_ne s_6) ?_
      refine PW.iconst (pc := 208) dX3_readStatement_208 (v := 0) (by decide) ?_
      refine PW.sipush (pc := 209) dX3_readStatement_209 (v := 999) (by decide) ?_
      refine PW.inv (m' := mX6_needNumber) (pc := 212) dX3_readStatement_212 lm_X3_96 me_X6_needNumber mi_X6_needNumber (ob hM51.1 s_6 (by decide)) rfl (As := [.int 0, .int 999]) (st := [.ref a1]) rfl (Nat.le_of_ble_eq_true rfl) (Nat.le_of_ble_eq_true rfl) (Nat.le_of_eq hM51.1) (Nat.le_refl _) (PW.deep (by decide) (c_X6_needNumber  hM51 h)) ?_
      rintro _ M52 ⟨hM54, y53, rfl, h⟩
      refine PW.putI (pc := 215) dX3_readStatement_215 lf_X3_115 (ob hM54.1 hs1 (by decide)) fx_5_2 fw_5_2 rfl rfl ?_
      refine PW.goto (pc := 218) dX3_readStatement_218 (t := 260) (by decide) ?_
      refine PW.aload_n (pc := 260) dX3_readStatement_260 rfl ?_
      refine PW.getR (pc := 261) dX3_readStatement_261 (r := 6) lf_X3_12 (ob hM54.1 s_5 (by decide)) fx_3_0 (oR_3_0 (hM54.same rfl rfl) s_5) (pS_ne s_6) ?_
      refine PW.bipush (pc := 264) dX3_readStatement_264 (v := 59) (by decide) ?_
      refine PW.inv (m' := mX6_needSign) (pc := 266) dX3_readStatement_266 lm_X3_121 me_X6_needSign mi_X6_needSign (ob hM54.1 s_6 (by decide)) rfl (As := [.int 59]) (st := []) rfl (Nat.le_of_ble_eq_true rfl) (Nat.le_of_ble_eq_true rfl) (Nat.le_of_eq hM54.1) (Nat.le_refl _) (PW.deep (by decide) (c_X6_needSign  (hM54.same rfl rfl) h)) ?_
      rintro _ M55 ⟨hM57, rfl, h⟩
      refine PW.aload_n (pc := 269) dX3_readStatement_269 rfl ?_
      refine PW.dupR (pc := 270) dX3_readStatement_270 ?_
      refine PW.getI (pc := 271) dX3_readStatement_271 lf_X3_66 (ob hM57.1 hs1 (by decide)) fx_5_0 ?_
      refine PW.iconst (pc := 274) dX3_readStatement_274 (v := 1) (by decide) ?_
      refine PW.iadd (pc := 275) dX3_readStatement_275 ?_
      refine PW.putI (pc := 276) dX3_readStatement_276 lf_X3_66 (ob hM57.1 hs1 (by decide)) fx_5_0 fw_5_0 rfl rfl ?_
      exact PW.ret0 (pc := 279) dX3_readStatement_279 hM57.1 rfl ⟨(hM57.same rfl rfl), rfl, h⟩
    by_cases q14 : x2 = 14
    · have h := h.2.2.2.2.2.2.2.2.1 q14
      refine PW.tabIn (pc := 49) dX3_readStatement_49 (by rw [q14]; decide) (by rw [q14]; decide) (off := 172) (by rw [q14]; decide) (t := 221) (by decide) ?_
      refine PW.aload_n (pc := 221) dX3_readStatement_221 rfl ?_
      refine PW.getR (pc := 222) dX3_readStatement_222 (r := 6) lf_X3_12 (ob hM.1 s_5 (by decide)) fx_3_0 (oR_3_0 hM s_5) (pS_ne s_6) ?_
      refine PW.inv (m' := mX6_take) (pc := 225) dX3_readStatement_225 lm_X3_77 me_X6_take mi_X6_take (ob hM.1 s_6 (by decide)) rfl (As := []) (st := []) rfl (Nat.le_of_ble_eq_true rfl) (Nat.le_of_ble_eq_true rfl) (Nat.le_of_eq hM.1) (Nat.le_refl _) (PW.deep (by decide) (c_X6_take  hM h)) ?_
      rintro _ M58 ⟨hM60, rfl, h⟩
      refine PW.aload_n (pc := 228) dX3_readStatement_228 rfl ?_
      refine PW.aload_n (pc := 229) dX3_readStatement_229 rfl ?_
      refine PW.getR (pc := 230) dX3_readStatement_230 (r := 6) lf_X3_12 (ob hM60.1 s_5 (by decide)) fx_3_0 (oR_3_0 hM60 s_5) (pS_ne s_6) ?_
      refine PW.iconst (pc := 233) dX3_readStatement_233 (v := 0) (by decide) ?_
      refine PW.bipush (pc := 234) dX3_readStatement_234 (v := 100) (by decide) ?_
      refine PW.inv (m' := mX6_needNumber) (pc := 236) dX3_readStatement_236 lm_X3_96 me_X6_needNumber mi_X6_needNumber (ob hM60.1 s_6 (by decide)) rfl (As := [.int 0, .int 100]) (st := [.ref a1]) rfl (Nat.le_of_ble_eq_true rfl) (Nat.le_of_ble_eq_true rfl) (Nat.le_of_eq hM60.1) (Nat.le_refl _) (PW.deep (by decide) (c_X6_needNumber  hM60 h)) ?_
      rintro _ M61 ⟨hM63, y62, rfl, h⟩
      refine PW.putI (pc := 239) dX3_readStatement_239 lf_X3_118 (ob hM63.1 hs1 (by decide)) fx_5_3 fw_5_3 rfl rfl ?_
      refine PW.goto (pc := 242) dX3_readStatement_242 (t := 260) (by decide) ?_
      refine PW.aload_n (pc := 260) dX3_readStatement_260 rfl ?_
      refine PW.getR (pc := 261) dX3_readStatement_261 (r := 6) lf_X3_12 (ob hM63.1 s_5 (by decide)) fx_3_0 (oR_3_0 (hM63.same rfl rfl) s_5) (pS_ne s_6) ?_
      refine PW.bipush (pc := 264) dX3_readStatement_264 (v := 59) (by decide) ?_
      refine PW.inv (m' := mX6_needSign) (pc := 266) dX3_readStatement_266 lm_X3_121 me_X6_needSign mi_X6_needSign (ob hM63.1 s_6 (by decide)) rfl (As := [.int 59]) (st := []) rfl (Nat.le_of_ble_eq_true rfl) (Nat.le_of_ble_eq_true rfl) (Nat.le_of_eq hM63.1) (Nat.le_refl _) (PW.deep (by decide) (c_X6_needSign  (hM63.same rfl rfl) h)) ?_
      rintro _ M64 ⟨hM66, rfl, h⟩
      refine PW.aload_n (pc := 269) dX3_readStatement_269 rfl ?_
      refine PW.dupR (pc := 270) dX3_readStatement_270 ?_
      refine PW.getI (pc := 271) dX3_readStatement_271 lf_X3_66 (ob hM66.1 hs1 (by decide)) fx_5_0 ?_
      refine PW.iconst (pc := 274) dX3_readStatement_274 (v := 1) (by decide) ?_
      refine PW.iadd (pc := 275) dX3_readStatement_275 ?_
      refine PW.putI (pc := 276) dX3_readStatement_276 lf_X3_66 (ob hM66.1 hs1 (by decide)) fx_5_0 fw_5_0 rfl rfl ?_
      exact PW.ret0 (pc := 279) dX3_readStatement_279 hM66.1 rfl ⟨(hM66.same rfl rfl), rfl, h⟩
    have h := h.2.2.2.2.2.2.2.2.2 q0 q1 q4 q8 q10 q11 q12 q13 q14
    by_cases q2 : x2 = 2
    · refine PW.tabIn (pc := 49) dX3_readStatement_49 (by rw [q2]; decide) (by rw [q2]; decide) (off := 196) (by rw [q2]; decide) (t := 245) (by decide) ?_
      refine PW.aload_n (pc := 245) dX3_readStatement_245 rfl ?_
      refine PW.getR (pc := 246) dX3_readStatement_246 (r := 6) lf_X3_12 (ob hM.1 s_5 (by decide)) fx_3_0 (oR_3_0 hM s_5) (pS_ne s_6) ?_
      refine PW.iconst (pc := 249) dX3_readStatement_249 (v := 1) (by decide) ?_
      refine PW.aload_n (pc := 250) dX3_readStatement_250 rfl ?_
      refine PW.getR (pc := 251) dX3_readStatement_251 (r := 6) lf_X3_12 (ob hM.1 s_5 (by decide)) fx_3_0 (oR_3_0 hM s_5) (pS_ne s_6) ?_
      refine PW.getI (pc := 254) dX3_readStatement_254 lf_X3_55 (ob hM.1 s_6 (by decide)) fx_6_4 ?_
      refine PW.inv (m' := mX6_fail) (pc := 257) dX3_readStatement_257 lm_X3_58 me_X6_fail mi_X6_fail (ob hM.1 s_6 (by decide)) rfl (As := [.int 1, .int (mI M 6 4)]) (st := []) rfl (Nat.le_of_ble_eq_true rfl) (Nat.le_of_ble_eq_true rfl) (Nat.le_of_eq hM.1) (Nat.le_refl _) (PW.deep (by decide) (c_X6_fail  hM h)) ?_
      rintro _ M67 ⟨hM69, rfl, h⟩
      refine PW.aload_n (pc := 260) dX3_readStatement_260 rfl ?_
      refine PW.getR (pc := 261) dX3_readStatement_261 (r := 6) lf_X3_12 (ob hM69.1 s_5 (by decide)) fx_3_0 (oR_3_0 hM69 s_5) (pS_ne s_6) ?_
      refine PW.bipush (pc := 264) dX3_readStatement_264 (v := 59) (by decide) ?_
      refine PW.inv (m' := mX6_needSign) (pc := 266) dX3_readStatement_266 lm_X3_121 me_X6_needSign mi_X6_needSign (ob hM69.1 s_6 (by decide)) rfl (As := [.int 59]) (st := []) rfl (Nat.le_of_ble_eq_true rfl) (Nat.le_of_ble_eq_true rfl) (Nat.le_of_eq hM69.1) (Nat.le_refl _) (PW.deep (by decide) (c_X6_needSign  hM69 h)) ?_
      rintro _ M70 ⟨hM72, rfl, h⟩
      refine PW.aload_n (pc := 269) dX3_readStatement_269 rfl ?_
      refine PW.dupR (pc := 270) dX3_readStatement_270 ?_
      refine PW.getI (pc := 271) dX3_readStatement_271 lf_X3_66 (ob hM72.1 hs1 (by decide)) fx_5_0 ?_
      refine PW.iconst (pc := 274) dX3_readStatement_274 (v := 1) (by decide) ?_
      refine PW.iadd (pc := 275) dX3_readStatement_275 ?_
      refine PW.putI (pc := 276) dX3_readStatement_276 lf_X3_66 (ob hM72.1 hs1 (by decide)) fx_5_0 fw_5_0 rfl rfl ?_
      exact PW.ret0 (pc := 279) dX3_readStatement_279 hM72.1 rfl ⟨(hM72.same rfl rfl), rfl, h⟩
    by_cases q3 : x2 = 3
    · refine PW.tabIn (pc := 49) dX3_readStatement_49 (by rw [q3]; decide) (by rw [q3]; decide) (off := 196) (by rw [q3]; decide) (t := 245) (by decide) ?_
      refine PW.aload_n (pc := 245) dX3_readStatement_245 rfl ?_
      refine PW.getR (pc := 246) dX3_readStatement_246 (r := 6) lf_X3_12 (ob hM.1 s_5 (by decide)) fx_3_0 (oR_3_0 hM s_5) (pS_ne s_6) ?_
      refine PW.iconst (pc := 249) dX3_readStatement_249 (v := 1) (by decide) ?_
      refine PW.aload_n (pc := 250) dX3_readStatement_250 rfl ?_
      refine PW.getR (pc := 251) dX3_readStatement_251 (r := 6) lf_X3_12 (ob hM.1 s_5 (by decide)) fx_3_0 (oR_3_0 hM s_5) (pS_ne s_6) ?_
      refine PW.getI (pc := 254) dX3_readStatement_254 lf_X3_55 (ob hM.1 s_6 (by decide)) fx_6_4 ?_
      refine PW.inv (m' := mX6_fail) (pc := 257) dX3_readStatement_257 lm_X3_58 me_X6_fail mi_X6_fail (ob hM.1 s_6 (by decide)) rfl (As := [.int 1, .int (mI M 6 4)]) (st := []) rfl (Nat.le_of_ble_eq_true rfl) (Nat.le_of_ble_eq_true rfl) (Nat.le_of_eq hM.1) (Nat.le_refl _) (PW.deep (by decide) (c_X6_fail  hM h)) ?_
      rintro _ M67 ⟨hM69, rfl, h⟩
      refine PW.aload_n (pc := 260) dX3_readStatement_260 rfl ?_
      refine PW.getR (pc := 261) dX3_readStatement_261 (r := 6) lf_X3_12 (ob hM69.1 s_5 (by decide)) fx_3_0 (oR_3_0 hM69 s_5) (pS_ne s_6) ?_
      refine PW.bipush (pc := 264) dX3_readStatement_264 (v := 59) (by decide) ?_
      refine PW.inv (m' := mX6_needSign) (pc := 266) dX3_readStatement_266 lm_X3_121 me_X6_needSign mi_X6_needSign (ob hM69.1 s_6 (by decide)) rfl (As := [.int 59]) (st := []) rfl (Nat.le_of_ble_eq_true rfl) (Nat.le_of_ble_eq_true rfl) (Nat.le_of_eq hM69.1) (Nat.le_refl _) (PW.deep (by decide) (c_X6_needSign  hM69 h)) ?_
      rintro _ M70 ⟨hM72, rfl, h⟩
      refine PW.aload_n (pc := 269) dX3_readStatement_269 rfl ?_
      refine PW.dupR (pc := 270) dX3_readStatement_270 ?_
      refine PW.getI (pc := 271) dX3_readStatement_271 lf_X3_66 (ob hM72.1 hs1 (by decide)) fx_5_0 ?_
      refine PW.iconst (pc := 274) dX3_readStatement_274 (v := 1) (by decide) ?_
      refine PW.iadd (pc := 275) dX3_readStatement_275 ?_
      refine PW.putI (pc := 276) dX3_readStatement_276 lf_X3_66 (ob hM72.1 hs1 (by decide)) fx_5_0 fw_5_0 rfl rfl ?_
      exact PW.ret0 (pc := 279) dX3_readStatement_279 hM72.1 rfl ⟨(hM72.same rfl rfl), rfl, h⟩
    by_cases q5 : x2 = 5
    · refine PW.tabIn (pc := 49) dX3_readStatement_49 (by rw [q5]; decide) (by rw [q5]; decide) (off := 196) (by rw [q5]; decide) (t := 245) (by decide) ?_
      refine PW.aload_n (pc := 245) dX3_readStatement_245 rfl ?_
      refine PW.getR (pc := 246) dX3_readStatement_246 (r := 6) lf_X3_12 (ob hM.1 s_5 (by decide)) fx_3_0 (oR_3_0 hM s_5) (pS_ne s_6) ?_
      refine PW.iconst (pc := 249) dX3_readStatement_249 (v := 1) (by decide) ?_
      refine PW.aload_n (pc := 250) dX3_readStatement_250 rfl ?_
      refine PW.getR (pc := 251) dX3_readStatement_251 (r := 6) lf_X3_12 (ob hM.1 s_5 (by decide)) fx_3_0 (oR_3_0 hM s_5) (pS_ne s_6) ?_
      refine PW.getI (pc := 254) dX3_readStatement_254 lf_X3_55 (ob hM.1 s_6 (by decide)) fx_6_4 ?_
      refine PW.inv (m' := mX6_fail) (pc := 257) dX3_readStatement_257 lm_X3_58 me_X6_fail mi_X6_fail (ob hM.1 s_6 (by decide)) rfl (As := [.int 1, .int (mI M 6 4)]) (st := []) rfl (Nat.le_of_ble_eq_true rfl) (Nat.le_of_ble_eq_true rfl) (Nat.le_of_eq hM.1) (Nat.le_refl _) (PW.deep (by decide) (c_X6_fail  hM h)) ?_
      rintro _ M67 ⟨hM69, rfl, h⟩
      refine PW.aload_n (pc := 260) dX3_readStatement_260 rfl ?_
      refine PW.getR (pc := 261) dX3_readStatement_261 (r := 6) lf_X3_12 (ob hM69.1 s_5 (by decide)) fx_3_0 (oR_3_0 hM69 s_5) (pS_ne s_6) ?_
      refine PW.bipush (pc := 264) dX3_readStatement_264 (v := 59) (by decide) ?_
      refine PW.inv (m' := mX6_needSign) (pc := 266) dX3_readStatement_266 lm_X3_121 me_X6_needSign mi_X6_needSign (ob hM69.1 s_6 (by decide)) rfl (As := [.int 59]) (st := []) rfl (Nat.le_of_ble_eq_true rfl) (Nat.le_of_ble_eq_true rfl) (Nat.le_of_eq hM69.1) (Nat.le_refl _) (PW.deep (by decide) (c_X6_needSign  hM69 h)) ?_
      rintro _ M70 ⟨hM72, rfl, h⟩
      refine PW.aload_n (pc := 269) dX3_readStatement_269 rfl ?_
      refine PW.dupR (pc := 270) dX3_readStatement_270 ?_
      refine PW.getI (pc := 271) dX3_readStatement_271 lf_X3_66 (ob hM72.1 hs1 (by decide)) fx_5_0 ?_
      refine PW.iconst (pc := 274) dX3_readStatement_274 (v := 1) (by decide) ?_
      refine PW.iadd (pc := 275) dX3_readStatement_275 ?_
      refine PW.putI (pc := 276) dX3_readStatement_276 lf_X3_66 (ob hM72.1 hs1 (by decide)) fx_5_0 fw_5_0 rfl rfl ?_
      exact PW.ret0 (pc := 279) dX3_readStatement_279 hM72.1 rfl ⟨(hM72.same rfl rfl), rfl, h⟩
    by_cases q6 : x2 = 6
    · refine PW.tabIn (pc := 49) dX3_readStatement_49 (by rw [q6]; decide) (by rw [q6]; decide) (off := 196) (by rw [q6]; decide) (t := 245) (by decide) ?_
      refine PW.aload_n (pc := 245) dX3_readStatement_245 rfl ?_
      refine PW.getR (pc := 246) dX3_readStatement_246 (r := 6) lf_X3_12 (ob hM.1 s_5 (by decide)) fx_3_0 (oR_3_0 hM s_5) (pS_ne s_6) ?_
      refine PW.iconst (pc := 249) dX3_readStatement_249 (v := 1) (by decide) ?_
      refine PW.aload_n (pc := 250) dX3_readStatement_250 rfl ?_
      refine PW.getR (pc := 251) dX3_readStatement_251 (r := 6) lf_X3_12 (ob hM.1 s_5 (by decide)) fx_3_0 (oR_3_0 hM s_5) (pS_ne s_6) ?_
      refine PW.getI (pc := 254) dX3_readStatement_254 lf_X3_55 (ob hM.1 s_6 (by decide)) fx_6_4 ?_
      refine PW.inv (m' := mX6_fail) (pc := 257) dX3_readStatement_257 lm_X3_58 me_X6_fail mi_X6_fail (ob hM.1 s_6 (by decide)) rfl (As := [.int 1, .int (mI M 6 4)]) (st := []) rfl (Nat.le_of_ble_eq_true rfl) (Nat.le_of_ble_eq_true rfl) (Nat.le_of_eq hM.1) (Nat.le_refl _) (PW.deep (by decide) (c_X6_fail  hM h)) ?_
      rintro _ M67 ⟨hM69, rfl, h⟩
      refine PW.aload_n (pc := 260) dX3_readStatement_260 rfl ?_
      refine PW.getR (pc := 261) dX3_readStatement_261 (r := 6) lf_X3_12 (ob hM69.1 s_5 (by decide)) fx_3_0 (oR_3_0 hM69 s_5) (pS_ne s_6) ?_
      refine PW.bipush (pc := 264) dX3_readStatement_264 (v := 59) (by decide) ?_
      refine PW.inv (m' := mX6_needSign) (pc := 266) dX3_readStatement_266 lm_X3_121 me_X6_needSign mi_X6_needSign (ob hM69.1 s_6 (by decide)) rfl (As := [.int 59]) (st := []) rfl (Nat.le_of_ble_eq_true rfl) (Nat.le_of_ble_eq_true rfl) (Nat.le_of_eq hM69.1) (Nat.le_refl _) (PW.deep (by decide) (c_X6_needSign  hM69 h)) ?_
      rintro _ M70 ⟨hM72, rfl, h⟩
      refine PW.aload_n (pc := 269) dX3_readStatement_269 rfl ?_
      refine PW.dupR (pc := 270) dX3_readStatement_270 ?_
      refine PW.getI (pc := 271) dX3_readStatement_271 lf_X3_66 (ob hM72.1 hs1 (by decide)) fx_5_0 ?_
      refine PW.iconst (pc := 274) dX3_readStatement_274 (v := 1) (by decide) ?_
      refine PW.iadd (pc := 275) dX3_readStatement_275 ?_
      refine PW.putI (pc := 276) dX3_readStatement_276 lf_X3_66 (ob hM72.1 hs1 (by decide)) fx_5_0 fw_5_0 rfl rfl ?_
      exact PW.ret0 (pc := 279) dX3_readStatement_279 hM72.1 rfl ⟨(hM72.same rfl rfl), rfl, h⟩
    by_cases q7 : x2 = 7
    · refine PW.tabIn (pc := 49) dX3_readStatement_49 (by rw [q7]; decide) (by rw [q7]; decide) (off := 196) (by rw [q7]; decide) (t := 245) (by decide) ?_
      refine PW.aload_n (pc := 245) dX3_readStatement_245 rfl ?_
      refine PW.getR (pc := 246) dX3_readStatement_246 (r := 6) lf_X3_12 (ob hM.1 s_5 (by decide)) fx_3_0 (oR_3_0 hM s_5) (pS_ne s_6) ?_
      refine PW.iconst (pc := 249) dX3_readStatement_249 (v := 1) (by decide) ?_
      refine PW.aload_n (pc := 250) dX3_readStatement_250 rfl ?_
      refine PW.getR (pc := 251) dX3_readStatement_251 (r := 6) lf_X3_12 (ob hM.1 s_5 (by decide)) fx_3_0 (oR_3_0 hM s_5) (pS_ne s_6) ?_
      refine PW.getI (pc := 254) dX3_readStatement_254 lf_X3_55 (ob hM.1 s_6 (by decide)) fx_6_4 ?_
      refine PW.inv (m' := mX6_fail) (pc := 257) dX3_readStatement_257 lm_X3_58 me_X6_fail mi_X6_fail (ob hM.1 s_6 (by decide)) rfl (As := [.int 1, .int (mI M 6 4)]) (st := []) rfl (Nat.le_of_ble_eq_true rfl) (Nat.le_of_ble_eq_true rfl) (Nat.le_of_eq hM.1) (Nat.le_refl _) (PW.deep (by decide) (c_X6_fail  hM h)) ?_
      rintro _ M67 ⟨hM69, rfl, h⟩
      refine PW.aload_n (pc := 260) dX3_readStatement_260 rfl ?_
      refine PW.getR (pc := 261) dX3_readStatement_261 (r := 6) lf_X3_12 (ob hM69.1 s_5 (by decide)) fx_3_0 (oR_3_0 hM69 s_5) (pS_ne s_6) ?_
      refine PW.bipush (pc := 264) dX3_readStatement_264 (v := 59) (by decide) ?_
      refine PW.inv (m' := mX6_needSign) (pc := 266) dX3_readStatement_266 lm_X3_121 me_X6_needSign mi_X6_needSign (ob hM69.1 s_6 (by decide)) rfl (As := [.int 59]) (st := []) rfl (Nat.le_of_ble_eq_true rfl) (Nat.le_of_ble_eq_true rfl) (Nat.le_of_eq hM69.1) (Nat.le_refl _) (PW.deep (by decide) (c_X6_needSign  hM69 h)) ?_
      rintro _ M70 ⟨hM72, rfl, h⟩
      refine PW.aload_n (pc := 269) dX3_readStatement_269 rfl ?_
      refine PW.dupR (pc := 270) dX3_readStatement_270 ?_
      refine PW.getI (pc := 271) dX3_readStatement_271 lf_X3_66 (ob hM72.1 hs1 (by decide)) fx_5_0 ?_
      refine PW.iconst (pc := 274) dX3_readStatement_274 (v := 1) (by decide) ?_
      refine PW.iadd (pc := 275) dX3_readStatement_275 ?_
      refine PW.putI (pc := 276) dX3_readStatement_276 lf_X3_66 (ob hM72.1 hs1 (by decide)) fx_5_0 fw_5_0 rfl rfl ?_
      exact PW.ret0 (pc := 279) dX3_readStatement_279 hM72.1 rfl ⟨(hM72.same rfl rfl), rfl, h⟩
    by_cases q9 : x2 = 9
    · refine PW.tabIn (pc := 49) dX3_readStatement_49 (by rw [q9]; decide) (by rw [q9]; decide) (off := 196) (by rw [q9]; decide) (t := 245) (by decide) ?_
      refine PW.aload_n (pc := 245) dX3_readStatement_245 rfl ?_
      refine PW.getR (pc := 246) dX3_readStatement_246 (r := 6) lf_X3_12 (ob hM.1 s_5 (by decide)) fx_3_0 (oR_3_0 hM s_5) (pS_ne s_6) ?_
      refine PW.iconst (pc := 249) dX3_readStatement_249 (v := 1) (by decide) ?_
      refine PW.aload_n (pc := 250) dX3_readStatement_250 rfl ?_
      refine PW.getR (pc := 251) dX3_readStatement_251 (r := 6) lf_X3_12 (ob hM.1 s_5 (by decide)) fx_3_0 (oR_3_0 hM s_5) (pS_ne s_6) ?_
      refine PW.getI (pc := 254) dX3_readStatement_254 lf_X3_55 (ob hM.1 s_6 (by decide)) fx_6_4 ?_
      refine PW.inv (m' := mX6_fail) (pc := 257) dX3_readStatement_257 lm_X3_58 me_X6_fail mi_X6_fail (ob hM.1 s_6 (by decide)) rfl (As := [.int 1, .int (mI M 6 4)]) (st := []) rfl (Nat.le_of_ble_eq_true rfl) (Nat.le_of_ble_eq_true rfl) (Nat.le_of_eq hM.1) (Nat.le_refl _) (PW.deep (by decide) (c_X6_fail  hM h)) ?_
      rintro _ M67 ⟨hM69, rfl, h⟩
      refine PW.aload_n (pc := 260) dX3_readStatement_260 rfl ?_
      refine PW.getR (pc := 261) dX3_readStatement_261 (r := 6) lf_X3_12 (ob hM69.1 s_5 (by decide)) fx_3_0 (oR_3_0 hM69 s_5) (pS_ne s_6) ?_
      refine PW.bipush (pc := 264) dX3_readStatement_264 (v := 59) (by decide) ?_
      refine PW.inv (m' := mX6_needSign) (pc := 266) dX3_readStatement_266 lm_X3_121 me_X6_needSign mi_X6_needSign (ob hM69.1 s_6 (by decide)) rfl (As := [.int 59]) (st := []) rfl (Nat.le_of_ble_eq_true rfl) (Nat.le_of_ble_eq_true rfl) (Nat.le_of_eq hM69.1) (Nat.le_refl _) (PW.deep (by decide) (c_X6_needSign  hM69 h)) ?_
      rintro _ M70 ⟨hM72, rfl, h⟩
      refine PW.aload_n (pc := 269) dX3_readStatement_269 rfl ?_
      refine PW.dupR (pc := 270) dX3_readStatement_270 ?_
      refine PW.getI (pc := 271) dX3_readStatement_271 lf_X3_66 (ob hM72.1 hs1 (by decide)) fx_5_0 ?_
      refine PW.iconst (pc := 274) dX3_readStatement_274 (v := 1) (by decide) ?_
      refine PW.iadd (pc := 275) dX3_readStatement_275 ?_
      refine PW.putI (pc := 276) dX3_readStatement_276 lf_X3_66 (ob hM72.1 hs1 (by decide)) fx_5_0 fw_5_0 rfl rfl ?_
      exact PW.ret0 (pc := 279) dX3_readStatement_279 hM72.1 rfl ⟨(hM72.same rfl rfl), rfl, h⟩
    refine PW.tabOut (pc := 49) dX3_readStatement_49 (tab_out (fun c h1 h2 => ?_)) (t := 245) (by decide) ?_
    · rcases (by omega : c = 0 ∨ c = 1 ∨ c = 2 ∨ c = 3 ∨ c = 4 ∨ c = 5 ∨ c = 6 ∨ c = 7 ∨ c = 8 ∨ c = 9 ∨ c = 10 ∨ c = 11 ∨ c = 12 ∨ c = 13 ∨ c = 14) with rfl | rfl | rfl | rfl | rfl | rfl | rfl | rfl | rfl | rfl | rfl | rfl | rfl | rfl | rfl <;> assumption
    · skip
      refine PW.aload_n (pc := 245) dX3_readStatement_245 rfl ?_
      refine PW.getR (pc := 246) dX3_readStatement_246 (r := 6) lf_X3_12 (ob hM.1 s_5 (by decide)) fx_3_0 (oR_3_0 hM s_5) (pS_ne s_6) ?_
      refine PW.iconst (pc := 249) dX3_readStatement_249 (v := 1) (by decide) ?_
      refine PW.aload_n (pc := 250) dX3_readStatement_250 rfl ?_
      refine PW.getR (pc := 251) dX3_readStatement_251 (r := 6) lf_X3_12 (ob hM.1 s_5 (by decide)) fx_3_0 (oR_3_0 hM s_5) (pS_ne s_6) ?_
      refine PW.getI (pc := 254) dX3_readStatement_254 lf_X3_55 (ob hM.1 s_6 (by decide)) fx_6_4 ?_
      refine PW.inv (m' := mX6_fail) (pc := 257) dX3_readStatement_257 lm_X3_58 me_X6_fail mi_X6_fail (ob hM.1 s_6 (by decide)) rfl (As := [.int 1, .int (mI M 6 4)]) (st := []) rfl (Nat.le_of_ble_eq_true rfl) (Nat.le_of_ble_eq_true rfl) (Nat.le_of_eq hM.1) (Nat.le_refl _) (PW.deep (by decide) (c_X6_fail  hM h)) ?_
      rintro _ M67 ⟨hM69, rfl, h⟩
      refine PW.aload_n (pc := 260) dX3_readStatement_260 rfl ?_
      refine PW.getR (pc := 261) dX3_readStatement_261 (r := 6) lf_X3_12 (ob hM69.1 s_5 (by decide)) fx_3_0 (oR_3_0 hM69 s_5) (pS_ne s_6) ?_
      refine PW.bipush (pc := 264) dX3_readStatement_264 (v := 59) (by decide) ?_
      refine PW.inv (m' := mX6_needSign) (pc := 266) dX3_readStatement_266 lm_X3_121 me_X6_needSign mi_X6_needSign (ob hM69.1 s_6 (by decide)) rfl (As := [.int 59]) (st := []) rfl (Nat.le_of_ble_eq_true rfl) (Nat.le_of_ble_eq_true rfl) (Nat.le_of_eq hM69.1) (Nat.le_refl _) (PW.deep (by decide) (c_X6_needSign  hM69 h)) ?_
      rintro _ M70 ⟨hM72, rfl, h⟩
      refine PW.aload_n (pc := 269) dX3_readStatement_269 rfl ?_
      refine PW.dupR (pc := 270) dX3_readStatement_270 ?_
      refine PW.getI (pc := 271) dX3_readStatement_271 lf_X3_66 (ob hM72.1 hs1 (by decide)) fx_5_0 ?_
      refine PW.iconst (pc := 274) dX3_readStatement_274 (v := 1) (by decide) ?_
      refine PW.iadd (pc := 275) dX3_readStatement_275 ?_
      refine PW.putI (pc := 276) dX3_readStatement_276 lf_X3_66 (ob hM72.1 hs1 (by decide)) fx_5_0 fw_5_0 rfl rfl ?_
      exact PW.ret0 (pc := 279) dX3_readStatement_279 hM72.1 rfl ⟨(hM72.same rfl rfl), rfl, h⟩
  · have h := h.2 hc
    refine PW.aload_n (pc := 32) dX3_readStatement_32 rfl ?_
    refine PW.getR (pc := 33) dX3_readStatement_33 (r := 6) lf_X3_12 (ob hM.1 s_5 (by decide)) fx_3_0 (oR_3_0 hM s_5) (pS_ne s_6) ?_
    refine PW.iconst (pc := 36) dX3_readStatement_36 (v := 1) (by decide) ?_
    refine PW.aload_n (pc := 37) dX3_readStatement_37 rfl ?_
    refine PW.getR (pc := 38) dX3_readStatement_38 (r := 6) lf_X3_12 (ob hM.1 s_5 (by decide)) fx_3_0 (oR_3_0 hM s_5) (pS_ne s_6) ?_
    refine PW.getI (pc := 41) dX3_readStatement_41 lf_X3_55 (ob hM.1 s_6 (by decide)) fx_6_4 ?_
    refine PW.inv (m' := mX6_fail) (pc := 44) dX3_readStatement_44 lm_X3_58 me_X6_fail mi_X6_fail (ob hM.1 s_6 (by decide)) rfl (As := [.int 1, .int (mI M 6 4)]) (st := []) rfl (Nat.le_of_ble_eq_true rfl) (Nat.le_of_ble_eq_true rfl) (Nat.le_of_eq hM.1) (Nat.le_refl _) (PW.deep (by decide) (c_X6_fail  hM h)) ?_
    rintro _ M73 ⟨hM75, rfl, h⟩
    exact PW.ret0 (pc := 47) dX3_readStatement_47 hM75.1 rfl ⟨hM75, rfl, h⟩
def w_X3_readStatement (a1 : Nat) (M : pm) (Q : pm → Prop) : Prop := w_X6_knownWord  M (fun y2 M1 => ((¬ y2 = 0 → ((¬ (mI M1 a1 0) = 0 → (w_X3_readStatement_29 a1 y2 0 0 M1  Q)) ∧ ((mI M1 a1 0) = 0 → (w_X3_readStatement_29 a1 y2 0 1 M1  Q)))) ∧ (y2 = 0 → ((¬ (mI M1 a1 0) = 0 → (w_X3_readStatement_29 a1 y2 1 0 M1  Q)) ∧ ((mI M1 a1 0) = 0 → (w_X3_readStatement_29 a1 y2 1 1 M1  Q))))))
set_option maxRecDepth 4000 in
theorem c_X3_readStatement {a1 : Nat} {M : pm} {Q : pm → Prop} (hs1 : pS 5 a1) (hM : pG M) (h : w_X3_readStatement a1 M Q) : PW mX3_readStatement 74 350 0 (pfr mX3_readStatement.2.2.1 [.ref 5, .ref a1]) [] M (qV Q) := by
  unfold w_X3_readStatement at h
  show PW mX3_readStatement 74 350 0 [.ref 5, .ref a1, .null] [] M (qV Q)
  refine PW.aload_n (pc := 0) dX3_readStatement_0 rfl ?_
  refine PW.getR (pc := 1) dX3_readStatement_1 (r := 6) lf_X3_12 (ob hM.1 s_5 (by decide)) fx_3_0 (oR_3_0 hM s_5) (pS_ne s_6) ?_
  refine PW.inv (m' := mX6_knownWord) (pc := 4) dX3_readStatement_4 lm_X3_73 me_X6_knownWord mi_X6_knownWord (ob hM.1 s_6 (by decide)) rfl (As := []) (st := []) rfl (Nat.le_of_ble_eq_true rfl) (Nat.le_of_ble_eq_true rfl) (Nat.le_of_eq hM.1) (Nat.le_refl _) (PW.deep (by decide) (c_X6_knownWord  hM h)) ?_
  rintro _ M1 ⟨hM3, y2, rfl, h⟩
  refine PW.istore_n (pc := 7) dX3_readStatement_7 (ls' := [.ref 5, .ref a1, .int y2]) (by decide) rfl rfl ?_
  refine PW.iload_n (pc := 8) dX3_readStatement_8 rfl ?_
  refine PW.if_ne (pc := 9) dX3_readStatement_9 (t := 16) (by decide) (fun hc => ?_) (fun hc => ?_)
  · have h := h.1 hc
    refine PW.iconst (pc := 16) dX3_readStatement_16 (v := 0) (by decide) ?_
    refine PW.aload_n (pc := 17) dX3_readStatement_17 rfl ?_
    refine PW.getI (pc := 18) dX3_readStatement_18 lf_X3_66 (ob hM3.1 hs1 (by decide)) fx_5_0 ?_
    refine PW.if_ne (pc := 21) dX3_readStatement_21 (t := 28) (by decide) (fun hc => ?_) (fun hc => ?_)
    · have h := h.1 hc
      refine PW.iconst (pc := 28) dX3_readStatement_28 (v := 0) (by decide) ?_
      exact PW.drop (c_X3_readStatement_29  _ _ _ _ _ hs1 hM3 h) ⟨rfl, rfl, rfl, trivial⟩
    · have h := h.2 hc
      refine PW.iconst (pc := 24) dX3_readStatement_24 (v := 1) (by decide) ?_
      refine PW.goto (pc := 25) dX3_readStatement_25 (t := 29) (by decide) ?_
      exact PW.drop (c_X3_readStatement_29  _ _ _ _ _ hs1 hM3 h) ⟨rfl, rfl, rfl, trivial⟩
  · have h := h.2 hc
    refine PW.iconst (pc := 12) dX3_readStatement_12 (v := 1) (by decide) ?_
    refine PW.goto (pc := 13) dX3_readStatement_13 (t := 17) (by decide) ?_
    refine PW.aload_n (pc := 17) dX3_readStatement_17 rfl ?_
    refine PW.getI (pc := 18) dX3_readStatement_18 lf_X3_66 (ob hM3.1 hs1 (by decide)) fx_5_0 ?_
    refine PW.if_ne (pc := 21) dX3_readStatement_21 (t := 28) (by decide) (fun hc => ?_) (fun hc => ?_)
    · have h := h.1 hc
      refine PW.iconst (pc := 28) dX3_readStatement_28 (v := 0) (by decide) ?_
      exact PW.drop (c_X3_readStatement_29  _ _ _ _ _ hs1 hM3 h) ⟨rfl, rfl, rfl, trivial⟩
    · have h := h.2 hc
      refine PW.iconst (pc := 24) dX3_readStatement_24 (v := 1) (by decide) ?_
      refine PW.goto (pc := 25) dX3_readStatement_25 (t := 29) (by decide) ?_
      exact PW.drop (c_X3_readStatement_29  _ _ _ _ _ hs1 hM3 h) ⟨rfl, rfl, rfl, trivial⟩
def w_X3_readStation_29 : Nat → Nat → Int32 → pm → (Nat → pm → Prop) → (pm → Prop) → Prop
  | 0, _, _, _, _, _ => False
  | n + 1, a3, x4, M, k82, Q => ((80 < x4 → (k82 a3 M)) ∧ (¬ 80 < x4 → (w_X6_goesOn  M (fun y9 M8 => ((y9 = 0 → (k82 a3 M8)) ∧ (¬ y9 = 0 → ((¬ x4 = 80 → (w_X3_readStatement a3 M8 (fun M12 => w_X3_readStation_29 n a3 (x4 + 1) M12 k82 Q))) ∧ (x4 = 80 → (w_X6_fail 5 (mI M8 6 4) M8 (fun M15 => w_X3_readStation_29 n a3 (x4 + 1) M15 k82 Q))))))))))
set_option maxRecDepth 4000 in
theorem c_X3_readStation_29 {k82 : Nat → pm → Prop} {Q : pm → Prop} (hk82 : ∀ (a3 : Nat) (M : pm), pS 5 a3 → pG M → k82 a3 M → PW mX3_readStation 75 350 82 [.ref 5, .null, .null, .ref a3, .null] [] M (qV Q)) : ∀ (n : Nat) (a3 : Nat) (x4 : Int32) (M : pm), pS 5 a3 → pG M → w_X3_readStation_29 n a3 x4 M k82 Q → PW mX3_readStation 75 350 29 [.ref 5, .null, .null, .ref a3, .int x4] [] M (qV Q) := by
  intro n
  induction n with
  | zero => intro a3 x4 M hs3 hM h; exact h.elim
  | succ n ih =>
    intro a3 x4 M hs3 hM h
    unfold w_X3_readStation_29 at h
    refine PW.iload (pc := 29) dX3_readStation_29 rfl ?_
    refine PW.bipush (pc := 31) dX3_readStation_31 (v := 80) (by decide) ?_
    refine PW.icmp_gt (pc := 33) dX3_readStation_33 (t := 82) (by decide) (fun hc => ?_) (fun hc => ?_)
    · have h := h.1 hc
      exact PW.drop (hk82 _ _ hs3 hM h) ⟨rfl, rfl, trivial⟩
    · have h := h.2 hc
      refine PW.aload_n (pc := 36) dX3_readStation_36 rfl ?_
      refine PW.getR (pc := 37) dX3_readStation_37 (r := 6) lf_X3_12 (ob hM.1 s_5 (by decide)) fx_3_0 (oR_3_0 hM s_5) (pS_ne s_6) ?_
      refine PW.inv (m' := mX6_goesOn) (pc := 40) dX3_readStation_40 lm_X3_51 me_X6_goesOn mi_X6_goesOn (ob hM.1 s_6 (by decide)) rfl (As := []) (st := []) rfl (Nat.le_of_ble_eq_true rfl) (Nat.le_of_ble_eq_true rfl) (Nat.le_of_eq hM.1) (Nat.le_refl _) (PW.deep (by decide) (c_X6_goesOn  hM h)) ?_
      rintro _ M8 ⟨hM10, y9, rfl, z11, h⟩
      refine PW.if_eq (pc := 43) dX3_readStation_43 (t := 82) (by decide) (fun hc => ?_) (fun hc => ?_)
      · have h := h.1 hc
        exact PW.drop (hk82 _ _ hs3 hM10 h) ⟨rfl, rfl, trivial⟩
      · have h := h.2 hc
        refine PW.iload (pc := 46) dX3_readStation_46 rfl ?_
        refine PW.bipush (pc := 48) dX3_readStation_48 (v := 80) (by decide) ?_
        refine PW.icmp_ne (pc := 50) dX3_readStation_50 (t := 71) (by decide) (fun hc => ?_) (fun hc => ?_)
        · have h := h.1 hc
          refine PW.aload_n (pc := 71) dX3_readStation_71 rfl ?_
          refine PW.aload_n (pc := 72) dX3_readStation_72 rfl ?_
          refine PW.inv (m' := mX3_readStatement) (pc := 73) dX3_readStation_73 lm_X3_62 me_X3_readStatement mi_X3_readStatement (ob hM10.1 s_5 (by decide)) rfl (As := [.ref a3]) (st := []) rfl (Nat.le_of_ble_eq_true rfl) (Nat.le_of_ble_eq_true rfl) (Nat.le_of_eq hM10.1) (Nat.le_refl _) (PW.deep (by decide) (c_X3_readStatement hs3 hM10 h)) ?_
          rintro _ M12 ⟨hM14, rfl, h⟩
          refine PW.iinc (pc := 76) dX3_readStation_76 (v := (x4 + 1)) (ls' := [.ref 5, .null, .null, .ref a3, .int (x4 + 1)]) rfl rfl (by decide) rfl rfl ?_
          refine PW.goto (pc := 79) dX3_readStation_79 (t := 29) (by decide) ?_
          exact PW.drop (ih _ _ _ hs3 hM14 h) ⟨rfl, rfl, rfl, trivial⟩
        · have h := h.2 hc
          refine PW.aload_n (pc := 53) dX3_readStation_53 rfl ?_
          refine PW.getR (pc := 54) dX3_readStation_54 (r := 6) lf_X3_12 (ob hM10.1 s_5 (by decide)) fx_3_0 (oR_3_0 hM10 s_5) (pS_ne s_6) ?_
          refine PW.iconst (pc := 57) dX3_readStation_57 (v := 5) (by decide) ?_
          refine PW.aload_n (pc := 58) dX3_readStation_58 rfl ?_
          refine PW.getR (pc := 59) dX3_readStation_59 (r := 6) lf_X3_12 (ob hM10.1 s_5 (by decide)) fx_3_0 (oR_3_0 hM10 s_5) (pS_ne s_6) ?_
          refine PW.getI (pc := 62) dX3_readStation_62 lf_X3_55 (ob hM10.1 s_6 (by decide)) fx_6_4 ?_
          refine PW.inv (m' := mX6_fail) (pc := 65) dX3_readStation_65 lm_X3_58 me_X6_fail mi_X6_fail (ob hM10.1 s_6 (by decide)) rfl (As := [.int 5, .int (mI M8 6 4)]) (st := []) rfl (Nat.le_of_ble_eq_true rfl) (Nat.le_of_ble_eq_true rfl) (Nat.le_of_eq hM10.1) (Nat.le_refl _) (PW.deep (by decide) (c_X6_fail  hM10 h)) ?_
          rintro _ M15 ⟨hM17, rfl, h⟩
          refine PW.goto (pc := 68) dX3_readStation_68 (t := 76) (by decide) ?_
          refine PW.iinc (pc := 76) dX3_readStation_76 (v := (x4 + 1)) (ls' := [.ref 5, .null, .null, .ref a3, .int (x4 + 1)]) rfl rfl (by decide) rfl rfl ?_
          refine PW.goto (pc := 79) dX3_readStation_79 (t := 29) (by decide) ?_
          exact PW.drop (ih _ _ _ hs3 hM17 h) ⟨rfl, rfl, rfl, trivial⟩
def w_X3_readStation_82  (a3 : Nat) (M : pm)  (Q : pm → Prop) : Prop := ((¬ (mI M a3 0) = 0 → (w_X5_addDefaults a3 M (fun M20 => Q M20))) ∧ ((mI M a3 0) = 0 → (w_X6_fail 1 (mI M 6 4) M (fun M23 => w_X5_addDefaults a3 M23 (fun M26 => Q M26)))))
set_option maxRecDepth 4000 in
theorem c_X3_readStation_82  {Q : pm → Prop}  : ∀ (a3 : Nat) (M : pm), pS 5 a3 → pG M → w_X3_readStation_82 a3 M  Q → PW mX3_readStation 75 350 82 [.ref 5, .null, .null, .ref a3, .null] [] M (qV Q) := by
  intro a3 M hs3 hM h
  unfold w_X3_readStation_82 at h
  refine PW.aload_n (pc := 82) dX3_readStation_82 rfl ?_
  refine PW.getI (pc := 83) dX3_readStation_83 lf_X3_66 (ob hM.1 hs3 (by decide)) fx_5_0 ?_
  refine PW.if_ne (pc := 86) dX3_readStation_86 (t := 104) (by decide) (fun hc => ?_) (fun hc => ?_)
  · have h := h.1 hc
    refine PW.aload_n (pc := 104) dX3_readStation_104 rfl ?_
    refine PW.inv (m' := mX5_addDefaults) (pc := 105) dX3_readStation_105 lm_X3_69 me_X5_addDefaults mi_X5_addDefaults (ob hM.1 hs3 (by decide)) rfl (As := []) (st := []) rfl (Nat.le_of_ble_eq_true rfl) (Nat.le_of_ble_eq_true rfl) (Nat.le_of_eq hM.1) (Nat.le_refl _) (PW.deep (by decide) (c_X5_addDefaults hs3 hM h)) ?_
    rintro _ M20 ⟨hM22, rfl, h⟩
    exact PW.ret0 (pc := 108) dX3_readStation_108 hM22.1 rfl ⟨hM22, rfl, h⟩
  · have h := h.2 hc
    refine PW.aload_n (pc := 89) dX3_readStation_89 rfl ?_
    refine PW.getR (pc := 90) dX3_readStation_90 (r := 6) lf_X3_12 (ob hM.1 s_5 (by decide)) fx_3_0 (oR_3_0 hM s_5) (pS_ne s_6) ?_
    refine PW.iconst (pc := 93) dX3_readStation_93 (v := 1) (by decide) ?_
    refine PW.aload_n (pc := 94) dX3_readStation_94 rfl ?_
    refine PW.getR (pc := 95) dX3_readStation_95 (r := 6) lf_X3_12 (ob hM.1 s_5 (by decide)) fx_3_0 (oR_3_0 hM s_5) (pS_ne s_6) ?_
    refine PW.getI (pc := 98) dX3_readStation_98 lf_X3_55 (ob hM.1 s_6 (by decide)) fx_6_4 ?_
    refine PW.inv (m' := mX6_fail) (pc := 101) dX3_readStation_101 lm_X3_58 me_X6_fail mi_X6_fail (ob hM.1 s_6 (by decide)) rfl (As := [.int 1, .int (mI M 6 4)]) (st := []) rfl (Nat.le_of_ble_eq_true rfl) (Nat.le_of_ble_eq_true rfl) (Nat.le_of_eq hM.1) (Nat.le_refl _) (PW.deep (by decide) (c_X6_fail  hM h)) ?_
    rintro _ M23 ⟨hM25, rfl, h⟩
    refine PW.aload_n (pc := 104) dX3_readStation_104 rfl ?_
    refine PW.inv (m' := mX5_addDefaults) (pc := 105) dX3_readStation_105 lm_X3_69 me_X5_addDefaults mi_X5_addDefaults (ob hM25.1 hs3 (by decide)) rfl (As := []) (st := []) rfl (Nat.le_of_ble_eq_true rfl) (Nat.le_of_ble_eq_true rfl) (Nat.le_of_eq hM25.1) (Nat.le_refl _) (PW.deep (by decide) (c_X5_addDefaults hs3 hM25 h)) ?_
    rintro _ M26 ⟨hM28, rfl, h⟩
    exact PW.ret0 (pc := 108) dX3_readStation_108 hM28.1 rfl ⟨hM28, rfl, h⟩
def w_X3_readStation (a1 : Nat) (x2 : Int32) (a3 : Nat) (M : pm) (Q : pm → Prop) : Prop := w_X5_empty a3 M (fun M1 => w_X6_read a1 x2 (sI (sR M1 5 2 (a3 + 10)) 5 3 0) (fun M5 => ∃ n18, w_X3_readStation_29 n18 a3 0 M5 (fun a3 M19 => w_X3_readStation_82 a3 M19  Q) Q))
set_option maxRecDepth 4000 in
theorem c_X3_readStation {a1 : Nat} {x2 : Int32} {a3 : Nat} {M : pm} {Q : pm → Prop} (hs1 : pS 9 a1) (hs3 : pS 5 a3) (hM : pG M) (h : w_X3_readStation a1 x2 a3 M Q) : PW mX3_readStation 75 350 0 (pfr mX3_readStation.2.2.1 [.ref 5, .ref a1, .int x2, .ref a3]) [] M (qV Q) := by
  unfold w_X3_readStation at h
  show PW mX3_readStation 75 350 0 [.ref 5, .ref a1, .int x2, .ref a3, .null] [] M (qV Q)
  refine PW.aload_n (pc := 0) dX3_readStation_0 rfl ?_
  refine PW.inv (m' := mX5_empty) (pc := 1) dX3_readStation_1 lm_X3_39 me_X5_empty mi_X5_empty (ob hM.1 hs3 (by decide)) rfl (As := []) (st := []) rfl (Nat.le_of_ble_eq_true rfl) (Nat.le_of_ble_eq_true rfl) (Nat.le_of_eq hM.1) (Nat.le_refl _) (PW.deep (by decide) (c_X5_empty hs3 hM h)) ?_
  rintro _ M1 ⟨hM3, rfl, h⟩
  refine PW.aload_n (pc := 4) dX3_readStation_4 rfl ?_
  refine PW.aload_n (pc := 5) dX3_readStation_5 rfl ?_
  refine PW.getR (pc := 6) dX3_readStation_6 (r := (a3 + 10)) lf_X3_44 (ob hM3.1 hs3 (by decide)) fx_5_16 (oR_5_16 hM3 hs3) (pS_ne (oS_5_16 hs3)) ?_
  refine PW.putR (pc := 9) dX3_readStation_9 lf_X3_25 (ob hM3.1 s_5 (by decide)) fx_3_2 fw_3_2 (fun _ => rfl) (fun _ => rfl) (pS_ne (oS_5_16 hs3)) ?_
  have hG4 : pG (sR M1 5 2 (a3 + 10)) := pG_out hM3 (oS_5_16 hs3)
  refine PW.aload_n (pc := 12) dX3_readStation_12 rfl ?_
  refine PW.iconst (pc := 13) dX3_readStation_13 (v := 0) (by decide) ?_
  refine PW.putI (pc := 14) dX3_readStation_14 lf_X3_28 (ob hG4.1 s_5 (by decide)) fx_3_3 fw_3_3 (bz_n bz0) (bz_f bz0) ?_
  refine PW.aload_n (pc := 17) dX3_readStation_17 rfl ?_
  refine PW.getR (pc := 18) dX3_readStation_18 (r := 6) lf_X3_12 (ob hG4.1 s_5 (by decide)) fx_3_0 (oR_3_0 (hG4.same rfl rfl) s_5) (pS_ne s_6) ?_
  refine PW.aload_n (pc := 21) dX3_readStation_21 rfl ?_
  refine PW.iload_n (pc := 22) dX3_readStation_22 rfl ?_
  refine PW.inv (m' := mX6_read) (pc := 23) dX3_readStation_23 lm_X3_47 me_X6_read mi_X6_read (ob hG4.1 s_6 (by decide)) rfl (As := [.ref a1, .int x2]) (st := []) rfl (Nat.le_of_ble_eq_true rfl) (Nat.le_of_ble_eq_true rfl) (Nat.le_of_eq hG4.1) (Nat.le_refl _) (PW.deep (by decide) (c_X6_read hs1 (hG4.same rfl rfl) h)) ?_
  rintro _ M5 ⟨hM7, rfl, h⟩
  refine PW.iconst (pc := 26) dX3_readStation_26 (v := 0) (by decide) ?_
  refine PW.istore (pc := 27) dX3_readStation_27 (ls' := [.ref 5, .ref a1, .int x2, .ref a3, .int 0]) (by decide) rfl rfl ?_
  obtain ⟨n18, h⟩ := h
  refine PW.drop (c_X3_readStation_29 ?_ n18 _ _ _ hs3 hM7 h) ⟨rfl, rfl, rfl, trivial⟩
  · intro a3 M19 hs3 hM h
    exact PW.drop (c_X3_readStation_82  _ _ hs3 hM h) ⟨rfl, rfl, trivial⟩
def w_X3_readQuestion_134   (M : pm)  (Q : pm → Prop) : Prop := ¬ (mR M 5 2) = 0 ∧ (w_X2_endPart (mR M 5 2) 0 M (fun M25 => (((mI M25 6 3) = 5 → (Q M25)) ∧ (¬ (mI M25 6 3) = 5 → (w_X6_fail 1 (mI M25 6 4) M25 (fun M28 => Q M28))))))
set_option maxRecDepth 4000 in
theorem c_X3_readQuestion_134  {Q : pm → Prop}  : ∀  (M : pm), pG M → w_X3_readQuestion_134  M  Q → PW mX3_readQuestion 73 350 134 [.ref 5, .null, .null] [] M (qV Q) := by
  intro M hM h
  unfold w_X3_readQuestion_134 at h
  refine PW.aload_n (pc := 134) dX3_readQuestion_134 rfl ?_
  obtain ⟨v24, h⟩ := h
  refine PW.getR (pc := 135) dX3_readQuestion_135 (r := (mR M 5 2)) lf_X3_25 (ob hM.1 s_5 (by decide)) fx_3_2 rfl (pS_ne (hM.2.2.2.2.2.2.2.resolve_left v24)) ?_
  refine PW.iconst (pc := 138) dX3_readQuestion_138 (v := 0) (by decide) ?_
  refine PW.inv (m' := mX2_endPart) (pc := 139) dX3_readQuestion_139 lm_X3_90 me_X2_endPart mi_X2_endPart (ob hM.1 (hM.2.2.2.2.2.2.2.resolve_left v24) (by decide)) rfl (As := [.int 0]) (st := []) rfl (Nat.le_of_ble_eq_true rfl) (Nat.le_of_ble_eq_true rfl) (Nat.le_of_eq hM.1) (Nat.le_refl _) (PW.deep (by decide) (c_X2_endPart (hM.2.2.2.2.2.2.2.resolve_left v24) hM h)) ?_
  rintro _ M25 ⟨hM27, rfl, h⟩
  refine PW.aload_n (pc := 142) dX3_readQuestion_142 rfl ?_
  refine PW.getR (pc := 143) dX3_readQuestion_143 (r := 6) lf_X3_12 (ob hM27.1 s_5 (by decide)) fx_3_0 (oR_3_0 hM27 s_5) (pS_ne s_6) ?_
  refine PW.getI (pc := 146) dX3_readQuestion_146 lf_X3_93 (ob hM27.1 s_6 (by decide)) fx_6_3 ?_
  refine PW.iconst (pc := 149) dX3_readQuestion_149 (v := 5) (by decide) ?_
  refine PW.icmp_eq (pc := 150) dX3_readQuestion_150 (t := 168) (by decide) (fun hc => ?_) (fun hc => ?_)
  · have h := h.1 hc
    exact PW.ret0 (pc := 168) dX3_readQuestion_168 hM27.1 rfl ⟨hM27, rfl, h⟩
  · have h := h.2 hc
    refine PW.aload_n (pc := 153) dX3_readQuestion_153 rfl ?_
    refine PW.getR (pc := 154) dX3_readQuestion_154 (r := 6) lf_X3_12 (ob hM27.1 s_5 (by decide)) fx_3_0 (oR_3_0 hM27 s_5) (pS_ne s_6) ?_
    refine PW.iconst (pc := 157) dX3_readQuestion_157 (v := 1) (by decide) ?_
    refine PW.aload_n (pc := 158) dX3_readQuestion_158 rfl ?_
    refine PW.getR (pc := 159) dX3_readQuestion_159 (r := 6) lf_X3_12 (ob hM27.1 s_5 (by decide)) fx_3_0 (oR_3_0 hM27 s_5) (pS_ne s_6) ?_
    refine PW.getI (pc := 162) dX3_readQuestion_162 lf_X3_55 (ob hM27.1 s_6 (by decide)) fx_6_4 ?_
    refine PW.inv (m' := mX6_fail) (pc := 165) dX3_readQuestion_165 lm_X3_58 me_X6_fail mi_X6_fail (ob hM27.1 s_6 (by decide)) rfl (As := [.int 1, .int (mI M25 6 4)]) (st := []) rfl (Nat.le_of_ble_eq_true rfl) (Nat.le_of_ble_eq_true rfl) (Nat.le_of_eq hM27.1) (Nat.le_refl _) (PW.deep (by decide) (c_X6_fail  hM27 h)) ?_
    rintro _ M28 ⟨hM30, rfl, h⟩
    exact PW.ret0 (pc := 168) dX3_readQuestion_168 hM30.1 rfl ⟨hM30, rfl, h⟩
def w_X3_readQuestion (a1 : Nat) (x2 : Int32) (M : pm) (Q : pm → Prop) : Prop := w_X2_empty 9 M (fun M1 => w_X6_read a1 x2 (sI (sI (sR M1 5 2 9) 5 3 1) 5 4 1) (fun M5 => w_X6_knownWord  M5 (fun y9 M8 => ((y9 < 28 → (w_X6_fail 1 (mI M8 6 4) (sI M8 5 5 y9) (fun M11 => Q M11))) ∧ (¬ y9 < 28 → ((y9 ≤ 33 → (w_X6_take  (sI M8 5 5 y9) (fun M14 => ¬ (mR M14 5 2) = 0 ∧ (w_X2_beginPart (mR M14 5 2) 0 M14 (fun M18 => (((mI M18 5 5) = 28 → (w_rd 60 0 0 M18 (fun M21 => w_X3_readQuestion_134  M21  Q))) ∧ (¬ (mI M18 5 5) = 28 → (((mI M18 5 5) = 29 → (w_rd 60 0 0 M18 (fun M31 => w_X3_readQuestion_134  M31  Q))) ∧ (¬ (mI M18 5 5) = 29 → ((¬ (mI M18 5 5) = 30 → (w_rd 60 3 0 M18 (fun M34 => w_X3_readQuestion_134  M34  Q))) ∧ ((mI M18 5 5) = 30 → (w_rd 60 0 0 M18 (fun M37 => w_X3_readQuestion_134  M37  Q))))))))))))) ∧ (¬ y9 ≤ 33 → (w_X6_fail 1 (mI M8 6 4) (sI M8 5 5 y9) (fun M40 => Q M40)))))))))
set_option maxRecDepth 4000 in
theorem c_X3_readQuestion {a1 : Nat} {x2 : Int32} {M : pm} {Q : pm → Prop} (hs1 : pS 9 a1) (hM : pG M) (h : w_X3_readQuestion a1 x2 M Q) : PW mX3_readQuestion 73 350 0 (pfr mX3_readQuestion.2.2.1 [.ref 5, .ref a1, .int x2]) [] M (qV Q) := by
  unfold w_X3_readQuestion at h
  show PW mX3_readQuestion 73 350 0 [.ref 5, .ref a1, .int x2] [] M (qV Q)
  refine PW.aload_n (pc := 0) dX3_readQuestion_0 rfl ?_
  refine PW.getR (pc := 1) dX3_readQuestion_1 (r := 9) lf_X3_21 (ob hM.1 s_5 (by decide)) fx_3_1 (oR_3_1 hM s_5) (pS_ne s_9) ?_
  refine PW.inv (m' := mX2_empty) (pc := 4) dX3_readQuestion_4 lm_X3_72 me_X2_empty mi_X2_empty (ob hM.1 s_9 (by decide)) rfl (As := []) (st := []) rfl (Nat.le_of_ble_eq_true rfl) (Nat.le_of_ble_eq_true rfl) (Nat.le_of_eq hM.1) (Nat.le_refl _) (PW.deep (by decide) (c_X2_empty s_9 hM h)) ?_
  rintro _ M1 ⟨hM3, rfl, h⟩
  refine PW.aload_n (pc := 7) dX3_readQuestion_7 rfl ?_
  refine PW.aload_n (pc := 8) dX3_readQuestion_8 rfl ?_
  refine PW.getR (pc := 9) dX3_readQuestion_9 (r := 9) lf_X3_21 (ob hM3.1 s_5 (by decide)) fx_3_1 (oR_3_1 hM3 s_5) (pS_ne s_9) ?_
  refine PW.putR (pc := 12) dX3_readQuestion_12 lf_X3_25 (ob hM3.1 s_5 (by decide)) fx_3_2 fw_3_2 (fun _ => rfl) (fun _ => rfl) (pS_ne s_9) ?_
  have hG4 : pG (sR M1 5 2 9) := pG_out hM3 s_9
  refine PW.aload_n (pc := 15) dX3_readQuestion_15 rfl ?_
  refine PW.iconst (pc := 16) dX3_readQuestion_16 (v := 1) (by decide) ?_
  refine PW.putI (pc := 17) dX3_readQuestion_17 lf_X3_28 (ob hG4.1 s_5 (by decide)) fx_3_3 fw_3_3 (bz_n bz1) (bz_f bz1) ?_
  refine PW.aload_n (pc := 20) dX3_readQuestion_20 rfl ?_
  refine PW.iconst (pc := 21) dX3_readQuestion_21 (v := 1) (by decide) ?_
  refine PW.putI (pc := 22) dX3_readQuestion_22 lf_X3_32 (ob hG4.1 s_5 (by decide)) fx_3_4 fw_3_4 (bz_n bz1) (bz_f bz1) ?_
  refine PW.aload_n (pc := 25) dX3_readQuestion_25 rfl ?_
  refine PW.getR (pc := 26) dX3_readQuestion_26 (r := 6) lf_X3_12 (ob hG4.1 s_5 (by decide)) fx_3_0 (oR_3_0 (hG4.same rfl rfl) s_5) (pS_ne s_6) ?_
  refine PW.aload_n (pc := 29) dX3_readQuestion_29 rfl ?_
  refine PW.iload_n (pc := 30) dX3_readQuestion_30 rfl ?_
  refine PW.inv (m' := mX6_read) (pc := 31) dX3_readQuestion_31 lm_X3_47 me_X6_read mi_X6_read (ob hG4.1 s_6 (by decide)) rfl (As := [.ref a1, .int x2]) (st := []) rfl (Nat.le_of_ble_eq_true rfl) (Nat.le_of_ble_eq_true rfl) (Nat.le_of_eq hG4.1) (Nat.le_refl _) (PW.deep (by decide) (c_X6_read hs1 (hG4.same rfl rfl) h)) ?_
  rintro _ M5 ⟨hM7, rfl, h⟩
  refine PW.aload_n (pc := 34) dX3_readQuestion_34 rfl ?_
  refine PW.aload_n (pc := 35) dX3_readQuestion_35 rfl ?_
  refine PW.getR (pc := 36) dX3_readQuestion_36 (r := 6) lf_X3_12 (ob hM7.1 s_5 (by decide)) fx_3_0 (oR_3_0 hM7 s_5) (pS_ne s_6) ?_
  refine PW.inv (m' := mX6_knownWord) (pc := 39) dX3_readQuestion_39 lm_X3_73 me_X6_knownWord mi_X6_knownWord (ob hM7.1 s_6 (by decide)) rfl (As := []) (st := [.ref 5]) rfl (Nat.le_of_ble_eq_true rfl) (Nat.le_of_ble_eq_true rfl) (Nat.le_of_eq hM7.1) (Nat.le_refl _) (PW.deep (by decide) (c_X6_knownWord  hM7 h)) ?_
  rintro _ M8 ⟨hM10, y9, rfl, h⟩
  refine PW.putI (pc := 42) dX3_readQuestion_42 lf_X3_35 (ob hM10.1 s_5 (by decide)) fx_3_5 fw_3_5 rfl rfl ?_
  refine PW.aload_n (pc := 45) dX3_readQuestion_45 rfl ?_
  refine PW.getI (pc := 46) dX3_readQuestion_46 lf_X3_35 (ob hM10.1 s_5 (by decide)) fx_3_5 ?_
  refine PW.bipush (pc := 49) dX3_readQuestion_49 (v := 28) (by decide) ?_
  refine PW.icmp_lt (pc := 51) dX3_readQuestion_51 (t := 63) (by decide) (fun hc => ?_) (fun hc => ?_)
  · have h := h.1 hc
    refine PW.aload_n (pc := 63) dX3_readQuestion_63 rfl ?_
    refine PW.getR (pc := 64) dX3_readQuestion_64 (r := 6) lf_X3_12 (ob hM10.1 s_5 (by decide)) fx_3_0 (oR_3_0 (hM10.same rfl rfl) s_5) (pS_ne s_6) ?_
    refine PW.iconst (pc := 67) dX3_readQuestion_67 (v := 1) (by decide) ?_
    refine PW.aload_n (pc := 68) dX3_readQuestion_68 rfl ?_
    refine PW.getR (pc := 69) dX3_readQuestion_69 (r := 6) lf_X3_12 (ob hM10.1 s_5 (by decide)) fx_3_0 (oR_3_0 (hM10.same rfl rfl) s_5) (pS_ne s_6) ?_
    refine PW.getI (pc := 72) dX3_readQuestion_72 lf_X3_55 (ob hM10.1 s_6 (by decide)) fx_6_4 ?_
    refine PW.inv (m' := mX6_fail) (pc := 75) dX3_readQuestion_75 lm_X3_58 me_X6_fail mi_X6_fail (ob hM10.1 s_6 (by decide)) rfl (As := [.int 1, .int (mI M8 6 4)]) (st := []) rfl (Nat.le_of_ble_eq_true rfl) (Nat.le_of_ble_eq_true rfl) (Nat.le_of_eq hM10.1) (Nat.le_refl _) (PW.deep (by decide) (c_X6_fail  (hM10.same rfl rfl) h)) ?_
    rintro _ M11 ⟨hM13, rfl, h⟩
    exact PW.ret0 (pc := 78) dX3_readQuestion_78 hM13.1 rfl ⟨hM13, rfl, h⟩
  · have h := h.2 hc
    refine PW.aload_n (pc := 54) dX3_readQuestion_54 rfl ?_
    refine PW.getI (pc := 55) dX3_readQuestion_55 lf_X3_35 (ob hM10.1 s_5 (by decide)) fx_3_5 ?_
    refine PW.bipush (pc := 58) dX3_readQuestion_58 (v := 33) (by decide) ?_
    refine PW.icmp_le (pc := 60) dX3_readQuestion_60 (t := 79) (by decide) (fun hc => ?_) (fun hc => ?_)
    · have h := h.1 hc
      refine PW.aload_n (pc := 79) dX3_readQuestion_79 rfl ?_
      refine PW.getR (pc := 80) dX3_readQuestion_80 (r := 6) lf_X3_12 (ob hM10.1 s_5 (by decide)) fx_3_0 (oR_3_0 (hM10.same rfl rfl) s_5) (pS_ne s_6) ?_
      refine PW.inv (m' := mX6_take) (pc := 83) dX3_readQuestion_83 lm_X3_77 me_X6_take mi_X6_take (ob hM10.1 s_6 (by decide)) rfl (As := []) (st := []) rfl (Nat.le_of_ble_eq_true rfl) (Nat.le_of_ble_eq_true rfl) (Nat.le_of_eq hM10.1) (Nat.le_refl _) (PW.deep (by decide) (c_X6_take  (hM10.same rfl rfl) h)) ?_
      rintro _ M14 ⟨hM16, rfl, h⟩
      refine PW.aload_n (pc := 86) dX3_readQuestion_86 rfl ?_
      obtain ⟨v17, h⟩ := h
      refine PW.getR (pc := 87) dX3_readQuestion_87 (r := (mR M14 5 2)) lf_X3_25 (ob hM16.1 s_5 (by decide)) fx_3_2 rfl (pS_ne (hM16.2.2.2.2.2.2.2.resolve_left v17)) ?_
      refine PW.iconst (pc := 90) dX3_readQuestion_90 (v := 0) (by decide) ?_
      refine PW.inv (m' := mX2_beginPart) (pc := 91) dX3_readQuestion_91 lm_X3_80 me_X2_beginPart mi_X2_beginPart (ob hM16.1 (hM16.2.2.2.2.2.2.2.resolve_left v17) (by decide)) rfl (As := [.int 0]) (st := []) rfl (Nat.le_of_ble_eq_true rfl) (Nat.le_of_ble_eq_true rfl) (Nat.le_of_eq hM16.1) (Nat.le_refl _) (PW.deep (by decide) (c_X2_beginPart (hM16.2.2.2.2.2.2.2.resolve_left v17) hM16 h)) ?_
      rintro _ M18 ⟨hM20, rfl, h⟩
      refine PW.aload_n (pc := 94) dX3_readQuestion_94 rfl ?_
      refine PW.getI (pc := 95) dX3_readQuestion_95 lf_X3_35 (ob hM20.1 s_5 (by decide)) fx_3_5 ?_
      refine PW.bipush (pc := 98) dX3_readQuestion_98 (v := 28) (by decide) ?_
      refine PW.icmp_eq (pc := 100) dX3_readQuestion_100 (t := 121) (by decide) (fun hc => ?_) (fun hc => ?_)
      · have h := h.1 hc
        refine PW.aload_n (pc := 121) dX3_readQuestion_121 rfl ?_
        refine PW.iconst (pc := 122) dX3_readQuestion_122 (v := 0) (by decide) ?_
        refine PW.inv (m' := mX3_readTest) (pc := 123) dX3_readQuestion_123 lm_X3_84 me_X3_readTest mi_X3_readTest (ob hM20.1 s_5 (by decide)) rfl (As := [.int 0]) (st := []) rfl (Nat.le_of_ble_eq_true rfl) (Nat.le_of_ble_eq_true rfl) (Nat.le_of_eq hM20.1) (Nat.le_refl _) (PW.deep (by decide) (c_rd 60 0 _ _ _ hM20 h)) ?_
        rintro _ M21 ⟨hM23, rfl, h⟩
        refine PW.goto (pc := 126) dX3_readQuestion_126 (t := 134) (by decide) ?_
        exact PW.drop (c_X3_readQuestion_134  _ hM23 h) ⟨rfl, trivial⟩
      · have h := h.2 hc
        refine PW.aload_n (pc := 103) dX3_readQuestion_103 rfl ?_
        refine PW.getI (pc := 104) dX3_readQuestion_104 lf_X3_35 (ob hM20.1 s_5 (by decide)) fx_3_5 ?_
        refine PW.bipush (pc := 107) dX3_readQuestion_107 (v := 29) (by decide) ?_
        refine PW.icmp_eq (pc := 109) dX3_readQuestion_109 (t := 121) (by decide) (fun hc => ?_) (fun hc => ?_)
        · have h := h.1 hc
          refine PW.aload_n (pc := 121) dX3_readQuestion_121 rfl ?_
          refine PW.iconst (pc := 122) dX3_readQuestion_122 (v := 0) (by decide) ?_
          refine PW.inv (m' := mX3_readTest) (pc := 123) dX3_readQuestion_123 lm_X3_84 me_X3_readTest mi_X3_readTest (ob hM20.1 s_5 (by decide)) rfl (As := [.int 0]) (st := []) rfl (Nat.le_of_ble_eq_true rfl) (Nat.le_of_ble_eq_true rfl) (Nat.le_of_eq hM20.1) (Nat.le_refl _) (PW.deep (by decide) (c_rd 60 0 _ _ _ hM20 h)) ?_
          rintro _ M31 ⟨hM33, rfl, h⟩
          refine PW.goto (pc := 126) dX3_readQuestion_126 (t := 134) (by decide) ?_
          exact PW.drop (c_X3_readQuestion_134  _ hM33 h) ⟨rfl, trivial⟩
        · have h := h.2 hc
          refine PW.aload_n (pc := 112) dX3_readQuestion_112 rfl ?_
          refine PW.getI (pc := 113) dX3_readQuestion_113 lf_X3_35 (ob hM20.1 s_5 (by decide)) fx_3_5 ?_
          refine PW.bipush (pc := 116) dX3_readQuestion_116 (v := 30) (by decide) ?_
          refine PW.icmp_ne (pc := 118) dX3_readQuestion_118 (t := 129) (by decide) (fun hc => ?_) (fun hc => ?_)
          · have h := h.1 hc
            refine PW.aload_n (pc := 129) dX3_readQuestion_129 rfl ?_
            refine PW.iconst (pc := 130) dX3_readQuestion_130 (v := 0) (by decide) ?_
            refine PW.inv (m' := mX3_readSum) (pc := 131) dX3_readQuestion_131 lm_X3_87 me_X3_readSum mi_X3_readSum (ob hM20.1 s_5 (by decide)) rfl (As := [.int 0]) (st := []) rfl (Nat.le_of_ble_eq_true rfl) (Nat.le_of_ble_eq_true rfl) (Nat.le_of_eq hM20.1) (Nat.le_refl _) (PW.deep (by decide) (c_rd 60 3 _ _ _ hM20 h)) ?_
            rintro _ M34 ⟨hM36, rfl, h⟩
            exact PW.drop (c_X3_readQuestion_134  _ hM36 h) ⟨rfl, trivial⟩
          · have h := h.2 hc
            refine PW.aload_n (pc := 121) dX3_readQuestion_121 rfl ?_
            refine PW.iconst (pc := 122) dX3_readQuestion_122 (v := 0) (by decide) ?_
            refine PW.inv (m' := mX3_readTest) (pc := 123) dX3_readQuestion_123 lm_X3_84 me_X3_readTest mi_X3_readTest (ob hM20.1 s_5 (by decide)) rfl (As := [.int 0]) (st := []) rfl (Nat.le_of_ble_eq_true rfl) (Nat.le_of_ble_eq_true rfl) (Nat.le_of_eq hM20.1) (Nat.le_refl _) (PW.deep (by decide) (c_rd 60 0 _ _ _ hM20 h)) ?_
            rintro _ M37 ⟨hM39, rfl, h⟩
            refine PW.goto (pc := 126) dX3_readQuestion_126 (t := 134) (by decide) ?_
            exact PW.drop (c_X3_readQuestion_134  _ hM39 h) ⟨rfl, trivial⟩
    · have h := h.2 hc
      refine PW.aload_n (pc := 63) dX3_readQuestion_63 rfl ?_
      refine PW.getR (pc := 64) dX3_readQuestion_64 (r := 6) lf_X3_12 (ob hM10.1 s_5 (by decide)) fx_3_0 (oR_3_0 (hM10.same rfl rfl) s_5) (pS_ne s_6) ?_
      refine PW.iconst (pc := 67) dX3_readQuestion_67 (v := 1) (by decide) ?_
      refine PW.aload_n (pc := 68) dX3_readQuestion_68 rfl ?_
      refine PW.getR (pc := 69) dX3_readQuestion_69 (r := 6) lf_X3_12 (ob hM10.1 s_5 (by decide)) fx_3_0 (oR_3_0 (hM10.same rfl rfl) s_5) (pS_ne s_6) ?_
      refine PW.getI (pc := 72) dX3_readQuestion_72 lf_X3_55 (ob hM10.1 s_6 (by decide)) fx_6_4 ?_
      refine PW.inv (m' := mX6_fail) (pc := 75) dX3_readQuestion_75 lm_X3_58 me_X6_fail mi_X6_fail (ob hM10.1 s_6 (by decide)) rfl (As := [.int 1, .int (mI M8 6 4)]) (st := []) rfl (Nat.le_of_ble_eq_true rfl) (Nat.le_of_ble_eq_true rfl) (Nat.le_of_eq hM10.1) (Nat.le_refl _) (PW.deep (by decide) (c_X6_fail  (hM10.same rfl rfl) h)) ?_
      rintro _ M40 ⟨hM42, rfl, h⟩
      exact PW.ret0 (pc := 78) dX3_readQuestion_78 hM42.1 rfl ⟨hM42, rfl, h⟩
def w_X7_station  (M : pm) (Q : Int32 → pm → Prop) : Prop := w_X7_takeTape  M (fun y2 M1 => w_X3_readStation 4 y2 (mR M1 3 4) M1 (fun M4 => w_X7_keepFault  M4 (fun M7 => (((mI M7 3 6) = 0 → (w_X4_begin 57 (mR (sR (sR M7 3 3 (mR M7 3 4)) 3 4 (mR M7 3 3)) 3 3) (sI (sR (sR M7 3 3 (mR M7 3 4)) 3 4 (mR M7 3 3)) 3 5 1) (fun M12 => w_X0_forget  M12 (fun M15 => Q (mI (sI M15 3 13 0) (mR M15 3 3) 0) (sI M15 3 13 0))))) ∧ (¬ (mI M7 3 6) = 0 → (w_X7_refuse 1 M7 (fun M18 => Q (-1) M18)))))))
set_option maxRecDepth 4000 in
theorem c_X7_station  {M : pm} {Q : Int32 → pm → Prop}  (hM : pG M) (h : w_X7_station  M Q) : PW mX7_station 76 350 0 (pfr mX7_station.2.2.1 [.ref 3]) [] M (qI Q) := by
  unfold w_X7_station at h
  show PW mX7_station 76 350 0 [.ref 3, .null] [] M (qI Q)
  refine PW.aload_n (pc := 0) dX7_station_0 rfl ?_
  refine PW.getR (pc := 1) dX7_station_1 (r := 5) lf_X7_20 (ob hM.1 s_3 (by decide)) fx_7_2 (oR_7_2 hM s_3) (pS_ne s_5) ?_
  refine PW.aload_n (pc := 4) dX7_station_4 rfl ?_
  refine PW.getR (pc := 5) dX7_station_5 (r := 4) lf_X7_9 (ob hM.1 s_3 (by decide)) fx_7_0 (oR_7_0 hM s_3) (pS_ne s_4) ?_
  refine PW.aload_n (pc := 8) dX7_station_8 rfl ?_
  refine PW.inv (m' := mX7_takeTape) (pc := 9) dX7_station_9 lm_X7_103 me_X7_takeTape mi_X7_takeTape (ob hM.1 s_3 (by decide)) rfl (As := []) (st := [.ref 4, .ref 5]) rfl (Nat.le_of_ble_eq_true rfl) (Nat.le_of_ble_eq_true rfl) (Nat.le_of_eq hM.1) (Nat.le_refl _) (PW.deep (by decide) (c_X7_takeTape  hM h)) ?_
  rintro _ M1 ⟨hM3, y2, rfl, h⟩
  refine PW.aload_n (pc := 12) dX7_station_12 rfl ?_
  refine PW.getR (pc := 13) dX7_station_13 (r := (mR M1 3 4)) lf_X7_31 (ob hM3.1 s_3 (by decide)) fx_7_4 rfl (pS_ne (hM3.2.2.2.2.2.1)) ?_
  refine PW.inv (m' := mX3_readStation) (pc := 16) dX7_station_16 lm_X7_107 me_X3_readStation mi_X3_readStation (ob hM3.1 s_5 (by decide)) rfl (As := [.ref 4, .int y2, .ref (mR M1 3 4)]) (st := []) rfl (Nat.le_of_ble_eq_true rfl) (Nat.le_of_ble_eq_true rfl) (Nat.le_of_eq hM3.1) (Nat.le_refl _) (PW.deep (by decide) (c_X3_readStation s_4 (hM3.2.2.2.2.2.1) hM3 h)) ?_
  rintro _ M4 ⟨hM6, rfl, h⟩
  refine PW.aload_n (pc := 19) dX7_station_19 rfl ?_
  refine PW.inv (m' := mX7_keepFault) (pc := 20) dX7_station_20 lm_X7_111 me_X7_keepFault mi_X7_keepFault (ob hM6.1 s_3 (by decide)) rfl (As := []) (st := []) rfl (Nat.le_of_ble_eq_true rfl) (Nat.le_of_ble_eq_true rfl) (Nat.le_of_eq hM6.1) (Nat.le_refl _) (PW.deep (by decide) (c_X7_keepFault  hM6 h)) ?_
  rintro _ M7 ⟨hM9, rfl, h⟩
  refine PW.aload_n (pc := 23) dX7_station_23 rfl ?_
  refine PW.getI (pc := 24) dX7_station_24 lf_X7_38 (ob hM9.1 s_3 (by decide)) fx_7_6 ?_
  refine PW.if_eq (pc := 27) dX7_station_27 (t := 37) (by decide) (fun hc => ?_) (fun hc => ?_)
  · have h := h.1 hc
    refine PW.aload_n (pc := 37) dX7_station_37 rfl ?_
    refine PW.getR (pc := 38) dX7_station_38 (r := (mR M7 3 3)) lf_X7_27 (ob hM9.1 s_3 (by decide)) fx_7_3 rfl (pS_ne (hM9.2.2.2.2.1)) ?_
    refine PW.astore_n (pc := 41) dX7_station_41 (ls' := [.ref 3, .ref (mR M7 3 3)]) (by decide) rfl rfl ?_
    refine PW.aload_n (pc := 42) dX7_station_42 rfl ?_
    refine PW.aload_n (pc := 43) dX7_station_43 rfl ?_
    refine PW.getR (pc := 44) dX7_station_44 (r := (mR M7 3 4)) lf_X7_31 (ob hM9.1 s_3 (by decide)) fx_7_4 rfl (pS_ne (hM9.2.2.2.2.2.1)) ?_
    refine PW.putR (pc := 47) dX7_station_47 lf_X7_27 (ob hM9.1 s_3 (by decide)) fx_7_3 fw_7_3 (fun _ => rfl) (fun _ => rfl) (pS_ne (hM9.2.2.2.2.2.1)) ?_
    have hG10 : pG (sR M7 3 3 (mR M7 3 4)) := pG_told hM9 (hM9.2.2.2.2.2.1)
    refine PW.aload_n (pc := 50) dX7_station_50 rfl ?_
    refine PW.aload_n (pc := 51) dX7_station_51 rfl ?_
    refine PW.putR (pc := 52) dX7_station_52 lf_X7_31 (ob hG10.1 s_3 (by decide)) fx_7_4 fw_7_4 (fun _ => rfl) (fun _ => rfl) (pS_ne (hM9.2.2.2.2.1)) ?_
    have hG11 : pG (sR (sR M7 3 3 (mR M7 3 4)) 3 4 (mR M7 3 3)) := pG_spare hG10 (hM9.2.2.2.2.1)
    refine PW.aload_n (pc := 55) dX7_station_55 rfl ?_
    refine PW.iconst (pc := 56) dX7_station_56 (v := 1) (by decide) ?_
    refine PW.putI (pc := 57) dX7_station_57 lf_X7_34 (ob hG11.1 s_3 (by decide)) fx_7_5 fw_7_5 (bz_n bz1) (bz_f bz1) ?_
    refine PW.aload_n (pc := 60) dX7_station_60 rfl ?_
    refine PW.getR (pc := 61) dX7_station_61 (r := 57) lf_X7_54 (ob hG11.1 s_3 (by decide)) fx_7_9 (oR_7_9 (hG11.same rfl rfl) s_3) (pS_ne s_57) ?_
    refine PW.aload_n (pc := 64) dX7_station_64 rfl ?_
    refine PW.getR (pc := 65) dX7_station_65 (r := (mR (sR (sR M7 3 3 (mR M7 3 4)) 3 4 (mR M7 3 3)) 3 3)) lf_X7_27 (ob hG11.1 s_3 (by decide)) fx_7_3 rfl (pS_ne (hG11.2.2.2.2.1)) ?_
    refine PW.inv (m' := mX4_begin) (pc := 68) dX7_station_68 lm_X7_114 me_X4_begin mi_X4_begin (ob hG11.1 s_57 (by decide)) rfl (As := [.ref (mR (sR (sR M7 3 3 (mR M7 3 4)) 3 4 (mR M7 3 3)) 3 3)]) (st := []) rfl (Nat.le_of_ble_eq_true rfl) (Nat.le_of_ble_eq_true rfl) (Nat.le_of_eq hG11.1) (Nat.le_refl _) (PW.deep (by decide) (c_X4_begin s_57 (hG11.2.2.2.2.1) (hG11.same rfl rfl) h)) ?_
    rintro _ M12 ⟨hM14, rfl, h⟩
    refine PW.aload_n (pc := 71) dX7_station_71 rfl ?_
    refine PW.getR (pc := 72) dX7_station_72 (r := 75) lf_X7_64 (ob hM14.1 s_3 (by decide)) fx_7_11 (oR_7_11 hM14 s_3) (pS_ne s_75) ?_
    refine PW.inv (m' := mX0_forget) (pc := 75) dX7_station_75 lm_X7_118 me_X0_forget mi_X0_forget (ob hM14.1 s_75 (by decide)) rfl (As := []) (st := []) rfl (Nat.le_of_ble_eq_true rfl) (Nat.le_of_ble_eq_true rfl) (Nat.le_of_eq hM14.1) (Nat.le_refl _) (PW.deep (by decide) (c_X0_forget  hM14 h)) ?_
    rintro _ M15 ⟨hM17, rfl, h⟩
    refine PW.aload_n (pc := 78) dX7_station_78 rfl ?_
    refine PW.iconst (pc := 79) dX7_station_79 (v := 0) (by decide) ?_
    refine PW.putI (pc := 80) dX7_station_80 lf_X7_73 (ob hM17.1 s_3 (by decide)) fx_7_13 fw_7_13 rfl rfl ?_
    refine PW.aload_n (pc := 83) dX7_station_83 rfl ?_
    refine PW.getR (pc := 84) dX7_station_84 (r := (mR M15 3 3)) lf_X7_27 (ob hM17.1 s_3 (by decide)) fx_7_3 rfl (pS_ne (hM17.2.2.2.2.1)) ?_
    refine PW.getI (pc := 87) dX7_station_87 lf_X7_121 (ob hM17.1 (hM17.2.2.2.2.1) (by decide)) fx_5_0 ?_
    exact PW.retI (pc := 90) dX7_station_90 hM17.1 rfl rfl ⟨(hM17.same rfl rfl), _, rfl, h⟩
  · have h := h.2 hc
    refine PW.aload_n (pc := 30) dX7_station_30 rfl ?_
    refine PW.iconst (pc := 31) dX7_station_31 (v := 1) (by decide) ?_
    refine PW.inv (m' := mX7_refuse) (pc := 32) dX7_station_32 lm_X7_92 me_X7_refuse mi_X7_refuse (ob hM9.1 s_3 (by decide)) rfl (As := [.int 1]) (st := []) rfl (Nat.le_of_ble_eq_true rfl) (Nat.le_of_ble_eq_true rfl) (Nat.le_of_eq hM9.1) (Nat.le_refl _) (PW.deep (by decide) (c_X7_refuse  hM9 h)) ?_
    rintro _ M18 ⟨hM20, rfl, h⟩
    refine PW.iconst (pc := 35) dX7_station_35 (v := (-1)) (by decide) ?_
    exact PW.retI (pc := 36) dX7_station_36 hM20.1 rfl rfl ⟨hM20, _, rfl, h⟩
def w_X7_ask  (M : pm) (Q : Int64 → pm → Prop) : Prop := w_X7_takeTape  M (fun y2 M1 => ((¬ (mI M1 3 5) = 0 → (w_X3_readQuestion 4 y2 M1 (fun M4 => w_X7_keepFault  M4 (fun M7 => (((mI M7 3 6) = 0 → (w_X7_answer (mI M7 5 5) M7 (fun y11 M10 => Q y11 M10))) ∧ (¬ (mI M7 3 6) = 0 → (Q (-1000000000000000 : Int64) M7))))))) ∧ ((mI M1 3 5) = 0 → (Q (-1000000000000000 : Int64) M1))))
set_option maxRecDepth 4000 in
theorem c_X7_ask  {M : pm} {Q : Int64 → pm → Prop}  (hM : pG M) (h : w_X7_ask  M Q) : PW mX7_ask 74 350 0 (pfr mX7_ask.2.2.1 [.ref 3]) [] M (qJ Q) := by
  unfold w_X7_ask at h
  show PW mX7_ask 74 350 0 [.ref 3, .null] [] M (qJ Q)
  refine PW.aload_n (pc := 0) dX7_ask_0 rfl ?_
  refine PW.inv (m' := mX7_takeTape) (pc := 1) dX7_ask_1 lm_X7_103 me_X7_takeTape mi_X7_takeTape (ob hM.1 s_3 (by decide)) rfl (As := []) (st := []) rfl (Nat.le_of_ble_eq_true rfl) (Nat.le_of_ble_eq_true rfl) (Nat.le_of_eq hM.1) (Nat.le_refl _) (PW.deep (by decide) (c_X7_takeTape  hM h)) ?_
  rintro _ M1 ⟨hM3, y2, rfl, h⟩
  refine PW.istore_n (pc := 4) dX7_ask_4 (ls' := [.ref 3, .int y2]) (by decide) rfl rfl ?_
  refine PW.aload_n (pc := 5) dX7_ask_5 rfl ?_
  refine PW.getI (pc := 6) dX7_ask_6 lf_X7_34 (ob hM3.1 s_3 (by decide)) fx_7_5 ?_
  refine PW.if_ne (pc := 9) dX7_ask_9 (t := 16) (by decide) (fun hc => ?_) (fun hc => ?_)
  · have h := h.1 hc
    refine PW.aload_n (pc := 16) dX7_ask_16 rfl ?_
    refine PW.getR (pc := 17) dX7_ask_17 (r := 5) lf_X7_20 (ob hM3.1 s_3 (by decide)) fx_7_2 (oR_7_2 hM3 s_3) (pS_ne s_5) ?_
    refine PW.aload_n (pc := 20) dX7_ask_20 rfl ?_
    refine PW.getR (pc := 21) dX7_ask_21 (r := 4) lf_X7_9 (ob hM3.1 s_3 (by decide)) fx_7_0 (oR_7_0 hM3 s_3) (pS_ne s_4) ?_
    refine PW.iload_n (pc := 24) dX7_ask_24 rfl ?_
    refine PW.inv (m' := mX3_readQuestion) (pc := 25) dX7_ask_25 lm_X7_342 me_X3_readQuestion mi_X3_readQuestion (ob hM3.1 s_5 (by decide)) rfl (As := [.ref 4, .int y2]) (st := []) rfl (Nat.le_of_ble_eq_true rfl) (Nat.le_of_ble_eq_true rfl) (Nat.le_of_eq hM3.1) (Nat.le_refl _) (PW.deep (by decide) (c_X3_readQuestion s_4 hM3 h)) ?_
    rintro _ M4 ⟨hM6, rfl, h⟩
    refine PW.aload_n (pc := 28) dX7_ask_28 rfl ?_
    refine PW.inv (m' := mX7_keepFault) (pc := 29) dX7_ask_29 lm_X7_111 me_X7_keepFault mi_X7_keepFault (ob hM6.1 s_3 (by decide)) rfl (As := []) (st := []) rfl (Nat.le_of_ble_eq_true rfl) (Nat.le_of_ble_eq_true rfl) (Nat.le_of_eq hM6.1) (Nat.le_refl _) (PW.deep (by decide) (c_X7_keepFault  hM6 h)) ?_
    rintro _ M7 ⟨hM9, rfl, h⟩
    refine PW.aload_n (pc := 32) dX7_ask_32 rfl ?_
    refine PW.getI (pc := 33) dX7_ask_33 lf_X7_38 (ob hM9.1 s_3 (by decide)) fx_7_6 ?_
    refine PW.if_eq (pc := 36) dX7_ask_36 (t := 45) (by decide) (fun hc => ?_) (fun hc => ?_)
    · have h := h.1 hc
      refine PW.aload_n (pc := 45) dX7_ask_45 rfl ?_
      refine PW.aload_n (pc := 46) dX7_ask_46 rfl ?_
      refine PW.getR (pc := 47) dX7_ask_47 (r := 5) lf_X7_20 (ob hM9.1 s_3 (by decide)) fx_7_2 (oR_7_2 hM9 s_3) (pS_ne s_5) ?_
      refine PW.getI (pc := 50) dX7_ask_50 lf_X7_346 (ob hM9.1 s_5 (by decide)) fx_3_5 ?_
      refine PW.inv (m' := mX7_answer) (pc := 53) dX7_ask_53 lm_X7_349 me_X7_answer mi_X7_answer (ob hM9.1 s_3 (by decide)) rfl (As := [.int (mI M7 5 5)]) (st := []) rfl (Nat.le_of_ble_eq_true rfl) (Nat.le_of_ble_eq_true rfl) (Nat.le_of_eq hM9.1) (Nat.le_refl _) (PW.deep (by decide) (c_X7_answer  hM9 h)) ?_
      rintro _ M10 ⟨hM12, y11, rfl, h⟩
      exact PW.retJ (pc := 56) dX7_ask_56 hM12.1 rfl ⟨hM12, _, rfl, h⟩
    · have h := h.2 hc
      refine PW.ldc2 (pc := 39) dX7_ask_39 lk_X7_226 ?_
      refine PW.goto (pc := 42) dX7_ask_42 (t := 56) (by decide) ?_
      exact PW.retJ (pc := 56) dX7_ask_56 hM9.1 rfl ⟨hM9, _, rfl, h⟩
  · have h := h.2 hc
    refine PW.ldc2 (pc := 12) dX7_ask_12 lk_X7_226 ?_
    exact PW.retJ (pc := 15) dX7_ask_15 hM3.1 rfl ⟨hM3, _, rfl, h⟩
