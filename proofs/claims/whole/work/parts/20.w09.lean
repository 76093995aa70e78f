/-! methods, walked by program: w_ what must hold before, c_ its proof -/
def w_X8_isLetter (x0 : Int32) (M : pm) (Q : Int32 → pm → Prop) : Prop := ((x0 < 97 → (Q 0 M)) ∧ (¬ x0 < 97 → ((122 < x0 → (Q 0 M)) ∧ (¬ 122 < x0 → (Q 1 M)))))
set_option maxRecDepth 4000 in
theorem c_X8_isLetter {x0 : Int32} {M : pm} {Q : Int32 → pm → Prop}  (hM : pG M) (h : w_X8_isLetter x0 M Q) : PW mX8_isLetter 1 350 0 (pfr mX8_isLetter.2.2.1 [.int x0]) [] M (qZ Q) := by
  unfold w_X8_isLetter at h
  show PW mX8_isLetter 1 350 0 [.int x0] [] M (qZ Q)
  refine PW.iload_n (pc := 0) dX8_isLetter_0 rfl ?_
  refine PW.bipush (pc := 1) dX8_isLetter_1 (v := 97) (by decide) ?_
  refine PW.icmp_lt (pc := 3) dX8_isLetter_3 (t := 16) (by decide) (fun hc => ?_) (fun hc => ?_)
  · have h := h.1 hc
    refine PW.iconst (pc := 16) dX8_isLetter_16 (v := 0) (by decide) ?_
    exact PW.retI (pc := 17) dX8_isLetter_17 hM.1 rfl (bz_n bz0) ⟨hM, _, rfl, bz0, h⟩
  · have h := h.2 hc
    refine PW.iload_n (pc := 6) dX8_isLetter_6 rfl ?_
    refine PW.bipush (pc := 7) dX8_isLetter_7 (v := 122) (by decide) ?_
    refine PW.icmp_gt (pc := 9) dX8_isLetter_9 (t := 16) (by decide) (fun hc => ?_) (fun hc => ?_)
    · have h := h.1 hc
      refine PW.iconst (pc := 16) dX8_isLetter_16 (v := 0) (by decide) ?_
      exact PW.retI (pc := 17) dX8_isLetter_17 hM.1 rfl (bz_n bz0) ⟨hM, _, rfl, bz0, h⟩
    · have h := h.2 hc
      refine PW.iconst (pc := 12) dX8_isLetter_12 (v := 1) (by decide) ?_
      refine PW.goto (pc := 13) dX8_isLetter_13 (t := 17) (by decide) ?_
      exact PW.retI (pc := 17) dX8_isLetter_17 hM.1 rfl (bz_n bz1) ⟨hM, _, rfl, bz1, h⟩
def w_X8_isDigit (x0 : Int32) (M : pm) (Q : Int32 → pm → Prop) : Prop := ((x0 < 48 → (Q 0 M)) ∧ (¬ x0 < 48 → ((57 < x0 → (Q 0 M)) ∧ (¬ 57 < x0 → (Q 1 M)))))
set_option maxRecDepth 4000 in
theorem c_X8_isDigit {x0 : Int32} {M : pm} {Q : Int32 → pm → Prop}  (hM : pG M) (h : w_X8_isDigit x0 M Q) : PW mX8_isDigit 1 350 0 (pfr mX8_isDigit.2.2.1 [.int x0]) [] M (qZ Q) := by
  unfold w_X8_isDigit at h
  show PW mX8_isDigit 1 350 0 [.int x0] [] M (qZ Q)
  refine PW.iload_n (pc := 0) dX8_isDigit_0 rfl ?_
  refine PW.bipush (pc := 1) dX8_isDigit_1 (v := 48) (by decide) ?_
  refine PW.icmp_lt (pc := 3) dX8_isDigit_3 (t := 16) (by decide) (fun hc => ?_) (fun hc => ?_)
  · have h := h.1 hc
    refine PW.iconst (pc := 16) dX8_isDigit_16 (v := 0) (by decide) ?_
    exact PW.retI (pc := 17) dX8_isDigit_17 hM.1 rfl (bz_n bz0) ⟨hM, _, rfl, bz0, h⟩
  · have h := h.2 hc
    refine PW.iload_n (pc := 6) dX8_isDigit_6 rfl ?_
    refine PW.bipush (pc := 7) dX8_isDigit_7 (v := 57) (by decide) ?_
    refine PW.icmp_gt (pc := 9) dX8_isDigit_9 (t := 16) (by decide) (fun hc => ?_) (fun hc => ?_)
    · have h := h.1 hc
      refine PW.iconst (pc := 16) dX8_isDigit_16 (v := 0) (by decide) ?_
      exact PW.retI (pc := 17) dX8_isDigit_17 hM.1 rfl (bz_n bz0) ⟨hM, _, rfl, bz0, h⟩
    · have h := h.2 hc
      refine PW.iconst (pc := 12) dX8_isDigit_12 (v := 1) (by decide) ?_
      refine PW.goto (pc := 13) dX8_isDigit_13 (t := 17) (by decide) ?_
      exact PW.retI (pc := 17) dX8_isDigit_17 hM.1 rfl (bz_n bz1) ⟨hM, _, rfl, bz1, h⟩
def w_X8_look_0 : Nat → pm → (pm → Prop) → (Int32 → pm → Prop) → Prop
  | 0, _, _, _ => False
  | n + 1, M, k52, Q => (((mI M 277 3) ≤ (mI M 277 2) → (k52  M)) ∧ (¬ (mI M 277 3) ≤ (mI M 277 2) → (vp_in (mI M 277 2) 1600 ∧ (((mI M 278 ((mI M 277 2).toNatClampNeg)) = 10 → (w_X8_look_0 n (sI M 277 2 ((mI M 277 2) + 1)) k52 Q)) ∧ (¬ (mI M 278 ((mI M 277 2).toNatClampNeg)) = 10 → (vp_in (mI M 277 2) 1600 ∧ ((¬ (mI M 278 ((mI M 277 2).toNatClampNeg)) = 32 → (k52  M)) ∧ ((mI M 278 ((mI M 277 2).toNatClampNeg)) = 32 → (w_X8_look_0 n (sI M 277 2 ((mI M 277 2) + 1)) k52 Q)))))))))
set_option maxRecDepth 4000 in
theorem c_X8_look_0 {k52 : pm → Prop} {Q : Int32 → pm → Prop} (hk52 : ∀  (M : pm), pG M → k52  M → PW mX8_look 1 350 52 [.ref 277] [] M (qI Q)) : ∀ (n : Nat)  (M : pm), pG M → w_X8_look_0 n  M k52 Q → PW mX8_look 1 350 0 [.ref 277] [] M (qI Q) := by
  intro n
  induction n with
  | zero => intro M hM h; exact h.elim
  | succ n ih =>
    intro M hM h
    unfold w_X8_look_0 at h
    refine PW.aload_n (pc := 0) dX8_look_0 rfl ?_
    refine PW.getI (pc := 1) dX8_look_1 lf_X8_255 (ob hM.1 s_277 (by decide)) fx_8_2 ?_
    refine PW.aload_n (pc := 4) dX8_look_4 rfl ?_
    refine PW.getI (pc := 5) dX8_look_5 lf_X8_258 (ob hM.1 s_277 (by decide)) fx_8_3 ?_
    refine PW.icmp_ge (pc := 8) dX8_look_8 (t := 52) (by decide) (fun hc => ?_) (fun hc => ?_)
    · have h := h.1 hc
      exact PW.drop (hk52 _ hM h) ⟨rfl, trivial⟩
    · have h := h.2 hc
      refine PW.aload_n (pc := 11) dX8_look_11 rfl ?_
      refine PW.getR (pc := 12) dX8_look_12 (r := 278) lf_X8_7 (ob hM.1 s_277 (by decide)) fx_8_0 (oR_8_0 hM s_277) (pS_ne s_278) ?_
      refine PW.aload_n (pc := 15) dX8_look_15 rfl ?_
      refine PW.getI (pc := 16) dX8_look_16 lf_X8_255 (ob hM.1 s_277 (by decide)) fx_8_2 ?_
      obtain ⟨v1, h⟩ := h
      refine PW.iald (pc := 19) dX8_look_19 (ar hM.1 s_278) (vpl n_278 v1) ?_
      refine PW.bipush (pc := 20) dX8_look_20 (v := 10) (by decide) ?_
      refine PW.icmp_eq (pc := 22) dX8_look_22 (t := 39) (by decide) (fun hc => ?_) (fun hc => ?_)
      · have h := h.1 hc
        refine PW.aload_n (pc := 39) dX8_look_39 rfl ?_
        refine PW.dupR (pc := 40) dX8_look_40 ?_
        refine PW.getI (pc := 41) dX8_look_41 lf_X8_255 (ob hM.1 s_277 (by decide)) fx_8_2 ?_
        refine PW.iconst (pc := 44) dX8_look_44 (v := 1) (by decide) ?_
        refine PW.iadd (pc := 45) dX8_look_45 ?_
        refine PW.putI (pc := 46) dX8_look_46 lf_X8_255 (ob hM.1 s_277 (by decide)) fx_8_2 fw_8_2 rfl rfl ?_
        refine PW.goto (pc := 49) dX8_look_49 (t := 0) (by decide) ?_
        exact PW.drop (ih _ (hM.same rfl rfl) h) ⟨rfl, trivial⟩
      · have h := h.2 hc
        refine PW.aload_n (pc := 25) dX8_look_25 rfl ?_
        refine PW.getR (pc := 26) dX8_look_26 (r := 278) lf_X8_7 (ob hM.1 s_277 (by decide)) fx_8_0 (oR_8_0 hM s_277) (pS_ne s_278) ?_
        refine PW.aload_n (pc := 29) dX8_look_29 rfl ?_
        refine PW.getI (pc := 30) dX8_look_30 lf_X8_255 (ob hM.1 s_277 (by decide)) fx_8_2 ?_
        obtain ⟨v2, h⟩ := h
        refine PW.iald (pc := 33) dX8_look_33 (ar hM.1 s_278) (vpl n_278 v2) ?_
        refine PW.bipush (pc := 34) dX8_look_34 (v := 32) (by decide) ?_
        refine PW.icmp_ne (pc := 36) dX8_look_36 (t := 52) (by decide) (fun hc => ?_) (fun hc => ?_)
        · have h := h.1 hc
          exact PW.drop (hk52 _ hM h) ⟨rfl, trivial⟩
        · have h := h.2 hc
          refine PW.aload_n (pc := 39) dX8_look_39 rfl ?_
          refine PW.dupR (pc := 40) dX8_look_40 ?_
          refine PW.getI (pc := 41) dX8_look_41 lf_X8_255 (ob hM.1 s_277 (by decide)) fx_8_2 ?_
          refine PW.iconst (pc := 44) dX8_look_44 (v := 1) (by decide) ?_
          refine PW.iadd (pc := 45) dX8_look_45 ?_
          refine PW.putI (pc := 46) dX8_look_46 lf_X8_255 (ob hM.1 s_277 (by decide)) fx_8_2 fw_8_2 rfl rfl ?_
          refine PW.goto (pc := 49) dX8_look_49 (t := 0) (by decide) ?_
          exact PW.drop (ih _ (hM.same rfl rfl) h) ⟨rfl, trivial⟩
def w_X8_look_52   (M : pm)  (Q : Int32 → pm → Prop) : Prop := (((mI M 277 3) ≤ (mI M 277 2) → (Q (-1) M)) ∧ (¬ (mI M 277 3) ≤ (mI M 277 2) → (vp_in (mI M 277 2) 1600 ∧ (Q (mI M 278 ((mI M 277 2).toNatClampNeg)) M))))
set_option maxRecDepth 4000 in
theorem c_X8_look_52  {Q : Int32 → pm → Prop}  : ∀  (M : pm), pG M → w_X8_look_52  M  Q → PW mX8_look 1 350 52 [.ref 277] [] M (qI Q) := by
  intro M hM h
  unfold w_X8_look_52 at h
  refine PW.aload_n (pc := 52) dX8_look_52 rfl ?_
  refine PW.getI (pc := 53) dX8_look_53 lf_X8_255 (ob hM.1 s_277 (by decide)) fx_8_2 ?_
  refine PW.aload_n (pc := 56) dX8_look_56 rfl ?_
  refine PW.getI (pc := 57) dX8_look_57 lf_X8_258 (ob hM.1 s_277 (by decide)) fx_8_3 ?_
  refine PW.icmp_ge (pc := 60) dX8_look_60 (t := 75) (by decide) (fun hc => ?_) (fun hc => ?_)
  · have h := h.1 hc
    refine PW.iconst (pc := 75) dX8_look_75 (v := (-1)) (by decide) ?_
    exact PW.retI (pc := 76) dX8_look_76 hM.1 rfl rfl ⟨hM, _, rfl, h⟩
  · have h := h.2 hc
    refine PW.aload_n (pc := 63) dX8_look_63 rfl ?_
    refine PW.getR (pc := 64) dX8_look_64 (r := 278) lf_X8_7 (ob hM.1 s_277 (by decide)) fx_8_0 (oR_8_0 hM s_277) (pS_ne s_278) ?_
    refine PW.aload_n (pc := 67) dX8_look_67 rfl ?_
    refine PW.getI (pc := 68) dX8_look_68 lf_X8_255 (ob hM.1 s_277 (by decide)) fx_8_2 ?_
    obtain ⟨v5, h⟩ := h
    refine PW.iald (pc := 71) dX8_look_71 (ar hM.1 s_278) (vpl n_278 v5) ?_
    refine PW.goto (pc := 72) dX8_look_72 (t := 76) (by decide) ?_
    exact PW.retI (pc := 76) dX8_look_76 hM.1 rfl rfl ⟨hM, _, rfl, h⟩
def w_X8_look  (M : pm) (Q : Int32 → pm → Prop) : Prop := ∃ n3, w_X8_look_0 n3  M (fun M4 => w_X8_look_52  M4  Q) Q
set_option maxRecDepth 4000 in
theorem c_X8_look  {M : pm} {Q : Int32 → pm → Prop}  (hM : pG M) (h : w_X8_look  M Q) : PW mX8_look 1 350 0 (pfr mX8_look.2.2.1 [.ref 277]) [] M (qI Q) := by
  unfold w_X8_look at h
  show PW mX8_look 1 350 0 [.ref 277] [] M (qI Q)
  obtain ⟨n3, h⟩ := h
  refine PW.drop (c_X8_look_0 ?_ n3 _ hM h) ⟨rfl, trivial⟩
  · intro M4 hM h
    exact PW.drop (c_X8_look_52  _ hM h) ⟨rfl, trivial⟩
def w_X8_isHere_35 : Nat → Nat → Int32 → pm → (Nat → Int32 → pm → Prop) → (Int32 → pm → Prop) → Prop
  | 0, _, _, _, _, _ => False
  | n + 1, a1, x2, M, k61, Q => (((mI M 277 3) ≤ x2 → (k61 a1 x2 M)) ∧ (¬ (mI M 277 3) ≤ x2 → (vp_in x2 1600 ∧ (w_X8_isLetter (mI M 278 x2.toNatClampNeg) M (fun y10 M9 => ((y10 = 0 → (k61 a1 x2 M9)) ∧ (¬ y10 = 0 → (w_X8_isHere_35 n a1 (x2 + 1) M9 k61 Q))))))))
set_option maxRecDepth 4000 in
theorem c_X8_isHere_35 {k61 : Nat → Int32 → pm → Prop} {Q : Int32 → pm → Prop} (hk61 : ∀ (a1 : Nat) (x2 : Int32) (M : pm), pS 10 a1 → pG M → k61 a1 x2 M → PW mX8_isHere 2 350 61 [.ref 277, .ref a1, .int x2, .null] [] M (qZ Q)) : ∀ (n : Nat) (a1 : Nat) (x2 : Int32) (M : pm), pS 10 a1 → pG M → w_X8_isHere_35 n a1 x2 M k61 Q → PW mX8_isHere 2 350 35 [.ref 277, .ref a1, .int x2, .null] [] M (qZ Q) := by
  intro n
  induction n with
  | zero => intro a1 x2 M hs1 hM h; exact h.elim
  | succ n ih =>
    intro a1 x2 M hs1 hM h
    unfold w_X8_isHere_35 at h
    refine PW.iload_n (pc := 35) dX8_isHere_35 rfl ?_
    refine PW.aload_n (pc := 36) dX8_isHere_36 rfl ?_
    refine PW.getI (pc := 37) dX8_isHere_37 lf_X8_258 (ob hM.1 s_277 (by decide)) fx_8_3 ?_
    refine PW.icmp_ge (pc := 40) dX8_isHere_40 (t := 61) (by decide) (fun hc => ?_) (fun hc => ?_)
    · have h := h.1 hc
      exact PW.drop (hk61 _ _ _ hs1 hM h) ⟨rfl, rfl, rfl, trivial⟩
    · have h := h.2 hc
      refine PW.aload_n (pc := 43) dX8_isHere_43 rfl ?_
      refine PW.getR (pc := 44) dX8_isHere_44 (r := 278) lf_X8_7 (ob hM.1 s_277 (by decide)) fx_8_0 (oR_8_0 hM s_277) (pS_ne s_278) ?_
      refine PW.iload_n (pc := 47) dX8_isHere_47 rfl ?_
      obtain ⟨v8, h⟩ := h
      refine PW.iald (pc := 48) dX8_isHere_48 (ar hM.1 s_278) (vpl n_278 v8) ?_
      refine PW.ins (m' := mX8_isLetter) (pc := 49) dX8_isHere_49 lm_X8_265 me_X8_isLetter ms_X8_isLetter (As := [.int (mI M 278 x2.toNatClampNeg)]) (st := []) rfl (Nat.le_of_ble_eq_true rfl) (Nat.le_of_ble_eq_true rfl) (Nat.le_of_eq hM.1) (Nat.le_refl _) (PW.deep (by decide) (c_X8_isLetter  hM h)) ?_
      rintro _ M9 ⟨hM11, y10, rfl, z12, h⟩
      refine PW.if_eq (pc := 52) dX8_isHere_52 (t := 61) (by decide) (fun hc => ?_) (fun hc => ?_)
      · have h := h.1 hc
        exact PW.drop (hk61 _ _ _ hs1 hM11 h) ⟨rfl, rfl, rfl, trivial⟩
      · have h := h.2 hc
        refine PW.iinc (pc := 55) dX8_isHere_55 (v := (x2 + 1)) (ls' := [.ref 277, .ref a1, .int (x2 + 1), .null]) rfl rfl (by decide) rfl rfl ?_
        refine PW.goto (pc := 58) dX8_isHere_58 (t := 35) (by decide) ?_
        exact PW.drop (ih _ _ _ hs1 hM11 h) ⟨rfl, rfl, rfl, trivial⟩
def w_X8_isHere_76 : Nat → Nat → Int32 → pm → (Int32 → pm → Prop) → Prop
  | 0, _, _, _, _ => False
  | n + 1, a1, x3, M, Q => (((Int32.ofNat (lay a1).2) ≤ x3 → (Q 1 M)) ∧ (¬ (Int32.ofNat (lay a1).2) ≤ x3 → (vp_in ((mI M 277 2) + x3) 1600 ∧ (vp_in x3 (lay a1).2 ∧ (((mI M 278 (((mI M 277 2) + x3).toNatClampNeg)) = (mI M a1 x3.toNatClampNeg) → (w_X8_isHere_76 n a1 (x3 + 1) M Q)) ∧ (¬ (mI M 278 (((mI M 277 2) + x3).toNatClampNeg)) = (mI M a1 x3.toNatClampNeg) → (Q 0 M)))))))
set_option maxRecDepth 4000 in
theorem c_X8_isHere_76  {Q : Int32 → pm → Prop}  : ∀ (n : Nat) (a1 : Nat) (x3 : Int32) (M : pm), pS 10 a1 → pG M → w_X8_isHere_76 n a1 x3 M  Q → PW mX8_isHere 2 350 76 [.ref 277, .ref a1, .null, .int x3] [] M (qZ Q) := by
  intro n
  induction n with
  | zero => intro a1 x3 M hs1 hM h; exact h.elim
  | succ n ih =>
    intro a1 x3 M hs1 hM h
    unfold w_X8_isHere_76 at h
    refine PW.iload_n (pc := 76) dX8_isHere_76 rfl ?_
    refine PW.aload_n (pc := 77) dX8_isHere_77 rfl ?_
    refine PW.alen (pc := 78) dX8_isHere_78 (ar hM.1 hs1) (by decide) rfl ?_
    refine PW.icmp_ge (pc := 79) dX8_isHere_79 (t := 107) (by decide) (fun hc => ?_) (fun hc => ?_)
    · have h := h.1 hc
      refine PW.iconst (pc := 107) dX8_isHere_107 (v := 1) (by decide) ?_
      exact PW.retI (pc := 108) dX8_isHere_108 hM.1 rfl (bz_n bz1) ⟨hM, _, rfl, bz1, h⟩
    · have h := h.2 hc
      refine PW.aload_n (pc := 82) dX8_isHere_82 rfl ?_
      refine PW.getR (pc := 83) dX8_isHere_83 (r := 278) lf_X8_7 (ob hM.1 s_277 (by decide)) fx_8_0 (oR_8_0 hM s_277) (pS_ne s_278) ?_
      refine PW.aload_n (pc := 86) dX8_isHere_86 rfl ?_
      refine PW.getI (pc := 87) dX8_isHere_87 lf_X8_255 (ob hM.1 s_277 (by decide)) fx_8_2 ?_
      refine PW.iload_n (pc := 90) dX8_isHere_90 rfl ?_
      refine PW.iadd (pc := 91) dX8_isHere_91 ?_
      obtain ⟨v15, h⟩ := h
      refine PW.iald (pc := 92) dX8_isHere_92 (ar hM.1 s_278) (vpl n_278 v15) ?_
      refine PW.aload_n (pc := 93) dX8_isHere_93 rfl ?_
      refine PW.iload_n (pc := 94) dX8_isHere_94 rfl ?_
      obtain ⟨v16, h⟩ := h
      refine PW.cald (pc := 95) dX8_isHere_95 (ar hM.1 hs1) v16 ?_
      refine PW.icmp_eq (pc := 96) dX8_isHere_96 (t := 101) (by decide) (fun hc => ?_) (fun hc => ?_)
      · have h := h.1 hc
        refine PW.iinc (pc := 101) dX8_isHere_101 (v := (x3 + 1)) (ls' := [.ref 277, .ref a1, .null, .int (x3 + 1)]) rfl rfl (by decide) rfl rfl ?_
        refine PW.goto (pc := 104) dX8_isHere_104 (t := 76) (by decide) ?_
        exact PW.drop (ih _ _ _ hs1 hM h) ⟨rfl, rfl, rfl, trivial⟩
      · have h := h.2 hc
        refine PW.iconst (pc := 99) dX8_isHere_99 (v := 0) (by decide) ?_
        exact PW.retI (pc := 100) dX8_isHere_100 hM.1 rfl (bz_n bz0) ⟨hM, _, rfl, bz0, h⟩
def w_X8_isHere (a1 : Nat) (M : pm) (Q : Int32 → pm → Prop) : Prop := ((¬ (mI M 277 5) = 0 → (Q 0 M)) ∧ ((mI M 277 5) = 0 → (w_X8_look  M (fun y2 M1 => w_X8_isLetter y2 M1 (fun y5 M4 => ((y5 = 0 → (Q 0 M4)) ∧ (¬ y5 = 0 → ((¬ (mI M4 277 2) = (mI M4 277 4) → (∃ n13, w_X8_isHere_35 n13 a1 (mI M4 277 2) M4 (fun a1 x2 M14 => (((x2 - (mI M14 277 2)) = (Int32.ofNat (lay a1).2) → (∃ n17, w_X8_isHere_76 n17 a1 0 M14  Q)) ∧ (¬ (x2 - (mI M14 277 2)) = (Int32.ofNat (lay a1).2) → (Q 0 M14)))) Q)) ∧ ((mI M4 277 2) = (mI M4 277 4) → (Q 0 M4))))))))))
set_option maxRecDepth 4000 in
theorem c_X8_isHere {a1 : Nat} {M : pm} {Q : Int32 → pm → Prop} (hs1 : pS 10 a1) (hM : pG M) (h : w_X8_isHere a1 M Q) : PW mX8_isHere 2 350 0 (pfr mX8_isHere.2.2.1 [.ref 277, .ref a1]) [] M (qZ Q) := by
  unfold w_X8_isHere at h
  show PW mX8_isHere 2 350 0 [.ref 277, .ref a1, .null, .null] [] M (qZ Q)
  refine PW.aload_n (pc := 0) dX8_isHere_0 rfl ?_
  refine PW.getI (pc := 1) dX8_isHere_1 lf_X8_249 (ob hM.1 s_277 (by decide)) fx_8_5 ?_
  refine PW.if_ne (pc := 4) dX8_isHere_4 (t := 28) (by decide) (fun hc => ?_) (fun hc => ?_)
  · have h := h.1 hc
    refine PW.iconst (pc := 28) dX8_isHere_28 (v := 0) (by decide) ?_
    exact PW.retI (pc := 29) dX8_isHere_29 hM.1 rfl (bz_n bz0) ⟨hM, _, rfl, bz0, h⟩
  · have h := h.2 hc
    refine PW.aload_n (pc := 7) dX8_isHere_7 rfl ?_
    refine PW.inv (m' := mX8_look) (pc := 8) dX8_isHere_8 lm_X8_261 me_X8_look mi_X8_look (ob hM.1 s_277 (by decide)) rfl (As := []) (st := []) rfl (Nat.le_of_ble_eq_true rfl) (Nat.le_of_ble_eq_true rfl) (Nat.le_of_eq hM.1) (Nat.le_refl _) (PW.deep (by decide) (c_X8_look  hM h)) ?_
    rintro _ M1 ⟨hM3, y2, rfl, h⟩
    refine PW.ins (m' := mX8_isLetter) (pc := 11) dX8_isHere_11 lm_X8_265 me_X8_isLetter ms_X8_isLetter (As := [.int y2]) (st := []) rfl (Nat.le_of_ble_eq_true rfl) (Nat.le_of_ble_eq_true rfl) (Nat.le_of_eq hM3.1) (Nat.le_refl _) (PW.deep (by decide) (c_X8_isLetter  hM3 h)) ?_
    rintro _ M4 ⟨hM6, y5, rfl, z7, h⟩
    refine PW.if_eq (pc := 14) dX8_isHere_14 (t := 28) (by decide) (fun hc => ?_) (fun hc => ?_)
    · have h := h.1 hc
      refine PW.iconst (pc := 28) dX8_isHere_28 (v := 0) (by decide) ?_
      exact PW.retI (pc := 29) dX8_isHere_29 hM6.1 rfl (bz_n bz0) ⟨hM6, _, rfl, bz0, h⟩
    · have h := h.2 hc
      refine PW.aload_n (pc := 17) dX8_isHere_17 rfl ?_
      refine PW.getI (pc := 18) dX8_isHere_18 lf_X8_255 (ob hM6.1 s_277 (by decide)) fx_8_2 ?_
      refine PW.aload_n (pc := 21) dX8_isHere_21 rfl ?_
      refine PW.getI (pc := 22) dX8_isHere_22 lf_X8_269 (ob hM6.1 s_277 (by decide)) fx_8_4 ?_
      refine PW.icmp_ne (pc := 25) dX8_isHere_25 (t := 30) (by decide) (fun hc => ?_) (fun hc => ?_)
      · have h := h.1 hc
        refine PW.aload_n (pc := 30) dX8_isHere_30 rfl ?_
        refine PW.getI (pc := 31) dX8_isHere_31 lf_X8_255 (ob hM6.1 s_277 (by decide)) fx_8_2 ?_
        refine PW.istore_n (pc := 34) dX8_isHere_34 (ls' := [.ref 277, .ref a1, .int (mI M4 277 2), .null]) (by decide) rfl rfl ?_
        obtain ⟨n13, h⟩ := h
        refine PW.drop (c_X8_isHere_35 ?_ n13 _ _ _ hs1 hM6 h) ⟨rfl, rfl, rfl, trivial⟩
        · intro a1 x2 M14 hs1 hM h
          refine PW.iload_n (pc := 61) dX8_isHere_61 rfl ?_
          refine PW.aload_n (pc := 62) dX8_isHere_62 rfl ?_
          refine PW.getI (pc := 63) dX8_isHere_63 lf_X8_255 (ob hM.1 s_277 (by decide)) fx_8_2 ?_
          refine PW.isub (pc := 66) dX8_isHere_66 ?_
          refine PW.aload_n (pc := 67) dX8_isHere_67 rfl ?_
          refine PW.alen (pc := 68) dX8_isHere_68 (ar hM.1 hs1) (by decide) rfl ?_
          refine PW.icmp_eq (pc := 69) dX8_isHere_69 (t := 74) (by decide) (fun hc => ?_) (fun hc => ?_)
          · have h := h.1 hc
            refine PW.iconst (pc := 74) dX8_isHere_74 (v := 0) (by decide) ?_
            refine PW.istore_n (pc := 75) dX8_isHere_75 (ls' := [.ref 277, .ref a1, .int x2, .int 0]) (by decide) rfl rfl ?_
            obtain ⟨n17, h⟩ := h
            refine PW.drop (c_X8_isHere_76  n17 _ _ _ hs1 hM h) ⟨rfl, rfl, rfl, trivial⟩
          · have h := h.2 hc
            refine PW.iconst (pc := 72) dX8_isHere_72 (v := 0) (by decide) ?_
            exact PW.retI (pc := 73) dX8_isHere_73 hM.1 rfl (bz_n bz0) ⟨hM, _, rfl, bz0, h⟩
      · have h := h.2 hc
        refine PW.iconst (pc := 28) dX8_isHere_28 (v := 0) (by decide) ?_
        exact PW.retI (pc := 29) dX8_isHere_29 hM6.1 rfl (bz_n bz0) ⟨hM6, _, rfl, bz0, h⟩
def w_X8_takes (a1 : Nat) (M : pm) (Q : Int32 → pm → Prop) : Prop := w_X8_isHere a1 M (fun y2 M1 => ((¬ y2 = 0 → (Q 1 (sI (sI M1 277 2 ((mI M1 277 2) + (Int32.ofNat (lay a1).2))) 277 4 ((mI M1 277 2) + (Int32.ofNat (lay a1).2))))) ∧ (y2 = 0 → (Q 0 M1))))
set_option maxRecDepth 4000 in
theorem c_X8_takes {a1 : Nat} {M : pm} {Q : Int32 → pm → Prop} (hs1 : pS 10 a1) (hM : pG M) (h : w_X8_takes a1 M Q) : PW mX8_takes 3 350 0 (pfr mX8_takes.2.2.1 [.ref 277, .ref a1]) [] M (qZ Q) := by
  unfold w_X8_takes at h
  show PW mX8_takes 3 350 0 [.ref 277, .ref a1] [] M (qZ Q)
  refine PW.aload_n (pc := 0) dX8_takes_0 rfl ?_
  refine PW.aload_n (pc := 1) dX8_takes_1 rfl ?_
  refine PW.inv (m' := mX8_isHere) (pc := 2) dX8_takes_2 lm_X8_272 me_X8_isHere mi_X8_isHere (ob hM.1 s_277 (by decide)) rfl (As := [.ref a1]) (st := []) rfl (Nat.le_of_ble_eq_true rfl) (Nat.le_of_ble_eq_true rfl) (Nat.le_of_eq hM.1) (Nat.le_refl _) (PW.deep (by decide) (c_X8_isHere hs1 hM h)) ?_
  rintro _ M1 ⟨hM3, y2, rfl, z4, h⟩
  refine PW.if_ne (pc := 5) dX8_takes_5 (t := 10) (by decide) (fun hc => ?_) (fun hc => ?_)
  · have h := h.1 hc
    refine PW.aload_n (pc := 10) dX8_takes_10 rfl ?_
    refine PW.dupR (pc := 11) dX8_takes_11 ?_
    refine PW.getI (pc := 12) dX8_takes_12 lf_X8_255 (ob hM3.1 s_277 (by decide)) fx_8_2 ?_
    refine PW.aload_n (pc := 15) dX8_takes_15 rfl ?_
    refine PW.alen (pc := 16) dX8_takes_16 (ar hM3.1 hs1) (by decide) rfl ?_
    refine PW.iadd (pc := 17) dX8_takes_17 ?_
    refine PW.putI (pc := 18) dX8_takes_18 lf_X8_255 (ob hM3.1 s_277 (by decide)) fx_8_2 fw_8_2 rfl rfl ?_
    refine PW.aload_n (pc := 21) dX8_takes_21 rfl ?_
    refine PW.aload_n (pc := 22) dX8_takes_22 rfl ?_
    refine PW.getI (pc := 23) dX8_takes_23 lf_X8_255 (ob hM3.1 s_277 (by decide)) fx_8_2 ?_
    refine PW.putI (pc := 26) dX8_takes_26 lf_X8_269 (ob hM3.1 s_277 (by decide)) fx_8_4 fw_8_4 rfl rfl ?_
    refine PW.iconst (pc := 29) dX8_takes_29 (v := 1) (by decide) ?_
    exact PW.retI (pc := 30) dX8_takes_30 hM3.1 rfl (bz_n bz1) ⟨(hM3.same rfl rfl), _, rfl, bz1, h⟩
  · have h := h.2 hc
    refine PW.iconst (pc := 8) dX8_takes_8 (v := 0) (by decide) ?_
    exact PW.retI (pc := 9) dX8_takes_9 hM3.1 rfl (bz_n bz0) ⟨hM3, _, rfl, bz0, h⟩
def w_X8_asks (a1 : Nat) (M : pm) (Q : pm → Prop) : Prop := ((¬ (mI M 277 5) = 0 → (Q M)) ∧ ((mI M 277 5) = 0 → (w_X8_takes a1 M (fun y2 M1 => ((¬ y2 = 0 → (Q M1)) ∧ (y2 = 0 → (w_X8_fail 1 (mI M1 277 2) M1 (fun M5 => Q M5))))))))
set_option maxRecDepth 4000 in
theorem c_X8_asks {a1 : Nat} {M : pm} {Q : pm → Prop} (hs1 : pS 10 a1) (hM : pG M) (h : w_X8_asks a1 M Q) : PW mX8_asks 4 350 0 (pfr mX8_asks.2.2.1 [.ref 277, .ref a1]) [] M (qV Q) := by
  unfold w_X8_asks at h
  show PW mX8_asks 4 350 0 [.ref 277, .ref a1] [] M (qV Q)
  refine PW.aload_n (pc := 0) dX8_asks_0 rfl ?_
  refine PW.getI (pc := 1) dX8_asks_1 lf_X8_249 (ob hM.1 s_277 (by decide)) fx_8_5 ?_
  refine PW.if_ne (pc := 4) dX8_asks_4 (t := 24) (by decide) (fun hc => ?_) (fun hc => ?_)
  · have h := h.1 hc
    exact PW.ret0 (pc := 24) dX8_asks_24 hM.1 rfl ⟨hM, rfl, h⟩
  · have h := h.2 hc
    refine PW.aload_n (pc := 7) dX8_asks_7 rfl ?_
    refine PW.aload_n (pc := 8) dX8_asks_8 rfl ?_
    refine PW.inv (m' := mX8_takes) (pc := 9) dX8_asks_9 lm_X8_276 me_X8_takes mi_X8_takes (ob hM.1 s_277 (by decide)) rfl (As := [.ref a1]) (st := []) rfl (Nat.le_of_ble_eq_true rfl) (Nat.le_of_ble_eq_true rfl) (Nat.le_of_eq hM.1) (Nat.le_refl _) (PW.deep (by decide) (c_X8_takes hs1 hM h)) ?_
    rintro _ M1 ⟨hM3, y2, rfl, z4, h⟩
    refine PW.if_ne (pc := 12) dX8_asks_12 (t := 24) (by decide) (fun hc => ?_) (fun hc => ?_)
    · have h := h.1 hc
      exact PW.ret0 (pc := 24) dX8_asks_24 hM3.1 rfl ⟨hM3, rfl, h⟩
    · have h := h.2 hc
      refine PW.aload_n (pc := 15) dX8_asks_15 rfl ?_
      refine PW.iconst (pc := 16) dX8_asks_16 (v := 1) (by decide) ?_
      refine PW.aload_n (pc := 17) dX8_asks_17 rfl ?_
      refine PW.getI (pc := 18) dX8_asks_18 lf_X8_255 (ob hM3.1 s_277 (by decide)) fx_8_2 ?_
      refine PW.inv (m' := mX8_fail) (pc := 21) dX8_asks_21 lm_X8_279 me_X8_fail mi_X8_fail (ob hM3.1 s_277 (by decide)) rfl (As := [.int 1, .int (mI M1 277 2)]) (st := []) rfl (Nat.le_of_ble_eq_true rfl) (Nat.le_of_ble_eq_true rfl) (Nat.le_of_eq hM3.1) (Nat.le_refl _) (PW.deep (by decide) (c_X8_fail  hM3 h)) ?_
      rintro _ M5 ⟨hM7, rfl, h⟩
      exact PW.ret0 (pc := 24) dX8_asks_24 hM7.1 rfl ⟨hM7, rfl, h⟩
def w_X8_takesSign (x1 : Int32) (M : pm) (Q : Int32 → pm → Prop) : Prop := ((¬ (mI M 277 5) = 0 → (Q 0 M)) ∧ ((mI M 277 5) = 0 → (w_X8_look  M (fun y2 M1 => ((y2 = x1 → (Q 1 (sI M1 277 2 ((mI M1 277 2) + 1)))) ∧ (¬ y2 = x1 → (Q 0 M1)))))))
set_option maxRecDepth 4000 in
theorem c_X8_takesSign {x1 : Int32} {M : pm} {Q : Int32 → pm → Prop}  (hM : pG M) (h : w_X8_takesSign x1 M Q) : PW mX8_takesSign 2 350 0 (pfr mX8_takesSign.2.2.1 [.ref 277, .int x1]) [] M (qZ Q) := by
  unfold w_X8_takesSign at h
  show PW mX8_takesSign 2 350 0 [.ref 277, .int x1] [] M (qZ Q)
  refine PW.aload_n (pc := 0) dX8_takesSign_0 rfl ?_
  refine PW.getI (pc := 1) dX8_takesSign_1 lf_X8_249 (ob hM.1 s_277 (by decide)) fx_8_5 ?_
  refine PW.if_ne (pc := 4) dX8_takesSign_4 (t := 15) (by decide) (fun hc => ?_) (fun hc => ?_)
  · have h := h.1 hc
    refine PW.iconst (pc := 15) dX8_takesSign_15 (v := 0) (by decide) ?_
    exact PW.retI (pc := 16) dX8_takesSign_16 hM.1 rfl (bz_n bz0) ⟨hM, _, rfl, bz0, h⟩
  · have h := h.2 hc
    refine PW.aload_n (pc := 7) dX8_takesSign_7 rfl ?_
    refine PW.inv (m' := mX8_look) (pc := 8) dX8_takesSign_8 lm_X8_261 me_X8_look mi_X8_look (ob hM.1 s_277 (by decide)) rfl (As := []) (st := []) rfl (Nat.le_of_ble_eq_true rfl) (Nat.le_of_ble_eq_true rfl) (Nat.le_of_eq hM.1) (Nat.le_refl _) (PW.deep (by decide) (c_X8_look  hM h)) ?_
    rintro _ M1 ⟨hM3, y2, rfl, h⟩
    refine PW.iload_n (pc := 11) dX8_takesSign_11 rfl ?_
    refine PW.icmp_eq (pc := 12) dX8_takesSign_12 (t := 17) (by decide) (fun hc => ?_) (fun hc => ?_)
    · have h := h.1 hc
      refine PW.aload_n (pc := 17) dX8_takesSign_17 rfl ?_
      refine PW.dupR (pc := 18) dX8_takesSign_18 ?_
      refine PW.getI (pc := 19) dX8_takesSign_19 lf_X8_255 (ob hM3.1 s_277 (by decide)) fx_8_2 ?_
      refine PW.iconst (pc := 22) dX8_takesSign_22 (v := 1) (by decide) ?_
      refine PW.iadd (pc := 23) dX8_takesSign_23 ?_
      refine PW.putI (pc := 24) dX8_takesSign_24 lf_X8_255 (ob hM3.1 s_277 (by decide)) fx_8_2 fw_8_2 rfl rfl ?_
      refine PW.iconst (pc := 27) dX8_takesSign_27 (v := 1) (by decide) ?_
      exact PW.retI (pc := 28) dX8_takesSign_28 hM3.1 rfl (bz_n bz1) ⟨(hM3.same rfl rfl), _, rfl, bz1, h⟩
    · have h := h.2 hc
      refine PW.iconst (pc := 15) dX8_takesSign_15 (v := 0) (by decide) ?_
      exact PW.retI (pc := 16) dX8_takesSign_16 hM3.1 rfl (bz_n bz0) ⟨hM3, _, rfl, bz0, h⟩
def w_X8_asksSign (x1 : Int32) (M : pm) (Q : pm → Prop) : Prop := ((¬ (mI M 277 5) = 0 → (Q M)) ∧ ((mI M 277 5) = 0 → (w_X8_takesSign x1 M (fun y2 M1 => ((¬ y2 = 0 → (Q M1)) ∧ (y2 = 0 → (w_X8_fail 1 (mI M1 277 2) M1 (fun M5 => Q M5))))))))
set_option maxRecDepth 4000 in
theorem c_X8_asksSign {x1 : Int32} {M : pm} {Q : pm → Prop}  (hM : pG M) (h : w_X8_asksSign x1 M Q) : PW mX8_asksSign 3 350 0 (pfr mX8_asksSign.2.2.1 [.ref 277, .int x1]) [] M (qV Q) := by
  unfold w_X8_asksSign at h
  show PW mX8_asksSign 3 350 0 [.ref 277, .int x1] [] M (qV Q)
  refine PW.aload_n (pc := 0) dX8_asksSign_0 rfl ?_
  refine PW.getI (pc := 1) dX8_asksSign_1 lf_X8_249 (ob hM.1 s_277 (by decide)) fx_8_5 ?_
  refine PW.if_ne (pc := 4) dX8_asksSign_4 (t := 24) (by decide) (fun hc => ?_) (fun hc => ?_)
  · have h := h.1 hc
    exact PW.ret0 (pc := 24) dX8_asksSign_24 hM.1 rfl ⟨hM, rfl, h⟩
  · have h := h.2 hc
    refine PW.aload_n (pc := 7) dX8_asksSign_7 rfl ?_
    refine PW.iload_n (pc := 8) dX8_asksSign_8 rfl ?_
    refine PW.inv (m' := mX8_takesSign) (pc := 9) dX8_asksSign_9 lm_X8_283 me_X8_takesSign mi_X8_takesSign (ob hM.1 s_277 (by decide)) rfl (As := [.int x1]) (st := []) rfl (Nat.le_of_ble_eq_true rfl) (Nat.le_of_ble_eq_true rfl) (Nat.le_of_eq hM.1) (Nat.le_refl _) (PW.deep (by decide) (c_X8_takesSign  hM h)) ?_
    rintro _ M1 ⟨hM3, y2, rfl, z4, h⟩
    refine PW.if_ne (pc := 12) dX8_asksSign_12 (t := 24) (by decide) (fun hc => ?_) (fun hc => ?_)
    · have h := h.1 hc
      exact PW.ret0 (pc := 24) dX8_asksSign_24 hM3.1 rfl ⟨hM3, rfl, h⟩
    · have h := h.2 hc
      refine PW.aload_n (pc := 15) dX8_asksSign_15 rfl ?_
      refine PW.iconst (pc := 16) dX8_asksSign_16 (v := 1) (by decide) ?_
      refine PW.aload_n (pc := 17) dX8_asksSign_17 rfl ?_
      refine PW.getI (pc := 18) dX8_asksSign_18 lf_X8_255 (ob hM3.1 s_277 (by decide)) fx_8_2 ?_
      refine PW.inv (m' := mX8_fail) (pc := 21) dX8_asksSign_21 lm_X8_279 me_X8_fail mi_X8_fail (ob hM3.1 s_277 (by decide)) rfl (As := [.int 1, .int (mI M1 277 2)]) (st := []) rfl (Nat.le_of_ble_eq_true rfl) (Nat.le_of_ble_eq_true rfl) (Nat.le_of_eq hM3.1) (Nat.le_refl _) (PW.deep (by decide) (c_X8_fail  hM3 h)) ?_
      rintro _ M5 ⟨hM7, rfl, h⟩
      exact PW.ret0 (pc := 24) dX8_asksSign_24 hM7.1 rfl ⟨hM7, rfl, h⟩
def w_X8_number_49 : Nat → Int32 → Int32 → Int32 → Int32 → pm → (Int32 → Int32 → Int32 → Int32 → pm → Prop) → (Int32 → pm → Prop) → Prop
  | 0, _, _, _, _, _, _, _ => False
  | n + 1, x1, x2, x3, x4, M, k129, Q => (((mI M 277 3) ≤ (mI M 277 2) → (k129 x1 x2 x3 x4 M)) ∧ (¬ (mI M 277 3) ≤ (mI M 277 2) → (vp_in (mI M 277 2) 1600 ∧ (w_X8_isDigit (mI M 278 ((mI M 277 2).toNatClampNeg)) M (fun y13 M12 => ((y13 = 0 → (k129 x1 x2 x3 x4 M12)) ∧ (¬ y13 = 0 → ((¬ ((mI M12 277 2) - x3) = 4 → (vp_in (mI M12 277 2) 1600 ∧ (w_X8_number_49 n x1 x2 x3 (((10 * x4) + (mI M12 278 ((mI M12 277 2).toNatClampNeg))) - 48) (sI M12 277 2 ((mI M12 277 2) + 1)) k129 Q))) ∧ (((mI M12 277 2) - x3) = 4 → (w_X8_fail 1 (mI M12 277 2) M12 (fun M17 => Q 0 M17)))))))))))
set_option maxRecDepth 4000 in
theorem c_X8_number_49 {k129 : Int32 → Int32 → Int32 → Int32 → pm → Prop} {Q : Int32 → pm → Prop} (hk129 : ∀ (x1 : Int32) (x2 : Int32) (x3 : Int32) (x4 : Int32) (M : pm), pG M → k129 x1 x2 x3 x4 M → PW mX8_number 2 350 129 [.ref 277, .int x1, .int x2, .int x3, .int x4] [] M (qI Q)) : ∀ (n : Nat) (x1 : Int32) (x2 : Int32) (x3 : Int32) (x4 : Int32) (M : pm), pG M → w_X8_number_49 n x1 x2 x3 x4 M k129 Q → PW mX8_number 2 350 49 [.ref 277, .int x1, .int x2, .int x3, .int x4] [] M (qI Q) := by
  intro n
  induction n with
  | zero => intro x1 x2 x3 x4 M hM h; exact h.elim
  | succ n ih =>
    intro x1 x2 x3 x4 M hM h
    unfold w_X8_number_49 at h
    refine PW.aload_n (pc := 49) dX8_number_49 rfl ?_
    refine PW.getI (pc := 50) dX8_number_50 lf_X8_255 (ob hM.1 s_277 (by decide)) fx_8_2 ?_
    refine PW.aload_n (pc := 53) dX8_number_53 rfl ?_
    refine PW.getI (pc := 54) dX8_number_54 lf_X8_258 (ob hM.1 s_277 (by decide)) fx_8_3 ?_
    refine PW.icmp_ge (pc := 57) dX8_number_57 (t := 129) (by decide) (fun hc => ?_) (fun hc => ?_)
    · have h := h.1 hc
      exact PW.drop (hk129 _ _ _ _ _ hM h) ⟨rfl, rfl, rfl, rfl, rfl, trivial⟩
    · have h := h.2 hc
      refine PW.aload_n (pc := 60) dX8_number_60 rfl ?_
      refine PW.getR (pc := 61) dX8_number_61 (r := 278) lf_X8_7 (ob hM.1 s_277 (by decide)) fx_8_0 (oR_8_0 hM s_277) (pS_ne s_278) ?_
      refine PW.aload_n (pc := 64) dX8_number_64 rfl ?_
      refine PW.getI (pc := 65) dX8_number_65 lf_X8_255 (ob hM.1 s_277 (by decide)) fx_8_2 ?_
      obtain ⟨v11, h⟩ := h
      refine PW.iald (pc := 68) dX8_number_68 (ar hM.1 s_278) (vpl n_278 v11) ?_
      refine PW.ins (m' := mX8_isDigit) (pc := 69) dX8_number_69 lm_X8_286 me_X8_isDigit ms_X8_isDigit (As := [.int (mI M 278 ((mI M 277 2).toNatClampNeg))]) (st := []) rfl (Nat.le_of_ble_eq_true rfl) (Nat.le_of_ble_eq_true rfl) (Nat.le_of_eq hM.1) (Nat.le_refl _) (PW.deep (by decide) (c_X8_isDigit  hM h)) ?_
      rintro _ M12 ⟨hM14, y13, rfl, z15, h⟩
      refine PW.if_eq (pc := 72) dX8_number_72 (t := 129) (by decide) (fun hc => ?_) (fun hc => ?_)
      · have h := h.1 hc
        exact PW.drop (hk129 _ _ _ _ _ hM14 h) ⟨rfl, rfl, rfl, rfl, rfl, trivial⟩
      · have h := h.2 hc
        refine PW.aload_n (pc := 75) dX8_number_75 rfl ?_
        refine PW.getI (pc := 76) dX8_number_76 lf_X8_255 (ob hM14.1 s_277 (by decide)) fx_8_2 ?_
        refine PW.iload_n (pc := 79) dX8_number_79 rfl ?_
        refine PW.isub (pc := 80) dX8_number_80 ?_
        refine PW.iconst (pc := 81) dX8_number_81 (v := 4) (by decide) ?_
        refine PW.icmp_ne (pc := 82) dX8_number_82 (t := 96) (by decide) (fun hc => ?_) (fun hc => ?_)
        · have h := h.1 hc
          refine PW.bipush (pc := 96) dX8_number_96 (v := 10) (by decide) ?_
          refine PW.iload (pc := 98) dX8_number_98 rfl ?_
          refine PW.imul (pc := 100) dX8_number_100 ?_
          refine PW.aload_n (pc := 101) dX8_number_101 rfl ?_
          refine PW.getR (pc := 102) dX8_number_102 (r := 278) lf_X8_7 (ob hM14.1 s_277 (by decide)) fx_8_0 (oR_8_0 hM14 s_277) (pS_ne s_278) ?_
          refine PW.aload_n (pc := 105) dX8_number_105 rfl ?_
          refine PW.getI (pc := 106) dX8_number_106 lf_X8_255 (ob hM14.1 s_277 (by decide)) fx_8_2 ?_
          obtain ⟨v16, h⟩ := h
          refine PW.iald (pc := 109) dX8_number_109 (ar hM14.1 s_278) (vpl n_278 v16) ?_
          refine PW.iadd (pc := 110) dX8_number_110 ?_
          refine PW.bipush (pc := 111) dX8_number_111 (v := 48) (by decide) ?_
          refine PW.isub (pc := 113) dX8_number_113 ?_
          refine PW.istore (pc := 114) dX8_number_114 (ls' := [.ref 277, .int x1, .int x2, .int x3, .int (((10 * x4) + (mI M12 278 ((mI M12 277 2).toNatClampNeg))) - 48)]) (by decide) rfl rfl ?_
          refine PW.aload_n (pc := 116) dX8_number_116 rfl ?_
          refine PW.dupR (pc := 117) dX8_number_117 ?_
          refine PW.getI (pc := 118) dX8_number_118 lf_X8_255 (ob hM14.1 s_277 (by decide)) fx_8_2 ?_
          refine PW.iconst (pc := 121) dX8_number_121 (v := 1) (by decide) ?_
          refine PW.iadd (pc := 122) dX8_number_122 ?_
          refine PW.putI (pc := 123) dX8_number_123 lf_X8_255 (ob hM14.1 s_277 (by decide)) fx_8_2 fw_8_2 rfl rfl ?_
          refine PW.goto (pc := 126) dX8_number_126 (t := 49) (by decide) ?_
          exact PW.drop (ih _ _ _ _ _ (hM14.same rfl rfl) h) ⟨rfl, rfl, rfl, rfl, rfl, trivial⟩
        · have h := h.2 hc
          refine PW.aload_n (pc := 85) dX8_number_85 rfl ?_
          refine PW.iconst (pc := 86) dX8_number_86 (v := 1) (by decide) ?_
          refine PW.aload_n (pc := 87) dX8_number_87 rfl ?_
          refine PW.getI (pc := 88) dX8_number_88 lf_X8_255 (ob hM14.1 s_277 (by decide)) fx_8_2 ?_
          refine PW.inv (m' := mX8_fail) (pc := 91) dX8_number_91 lm_X8_279 me_X8_fail mi_X8_fail (ob hM14.1 s_277 (by decide)) rfl (As := [.int 1, .int (mI M12 277 2)]) (st := []) rfl (Nat.le_of_ble_eq_true rfl) (Nat.le_of_ble_eq_true rfl) (Nat.le_of_eq hM14.1) (Nat.le_refl _) (PW.deep (by decide) (c_X8_fail  hM14 h)) ?_
          rintro _ M17 ⟨hM19, rfl, h⟩
          refine PW.iconst (pc := 94) dX8_number_94 (v := 0) (by decide) ?_
          exact PW.retI (pc := 95) dX8_number_95 hM19.1 rfl rfl ⟨hM19, _, rfl, h⟩
def w_X8_number_129  (x1 : Int32) (x2 : Int32) (x3 : Int32) (x4 : Int32) (M : pm)  (Q : Int32 → pm → Prop) : Prop := w_X8_isIn (Int32.toInt64 x4) (Int32.toInt64 x1) (Int32.toInt64 x2) (sI M 277 4 (mI M 277 2)) (fun y23 M22 => ((¬ y23 = 0 → (Q x4 M22)) ∧ (y23 = 0 → (w_X8_fail 2 x3 M22 (fun M26 => Q x4 M26)))))
set_option maxRecDepth 4000 in
theorem c_X8_number_129  {Q : Int32 → pm → Prop}  : ∀ (x1 : Int32) (x2 : Int32) (x3 : Int32) (x4 : Int32) (M : pm), pG M → w_X8_number_129 x1 x2 x3 x4 M  Q → PW mX8_number 2 350 129 [.ref 277, .int x1, .int x2, .int x3, .int x4] [] M (qI Q) := by
  intro x1 x2 x3 x4 M hM h
  unfold w_X8_number_129 at h
  refine PW.aload_n (pc := 129) dX8_number_129 rfl ?_
  refine PW.aload_n (pc := 130) dX8_number_130 rfl ?_
  refine PW.getI (pc := 131) dX8_number_131 lf_X8_255 (ob hM.1 s_277 (by decide)) fx_8_2 ?_
  refine PW.putI (pc := 134) dX8_number_134 lf_X8_269 (ob hM.1 s_277 (by decide)) fx_8_4 fw_8_4 rfl rfl ?_
  refine PW.iload (pc := 137) dX8_number_137 rfl ?_
  refine PW.i2l (pc := 139) dX8_number_139 ?_
  refine PW.iload_n (pc := 140) dX8_number_140 rfl ?_
  refine PW.i2l (pc := 141) dX8_number_141 ?_
  refine PW.iload_n (pc := 142) dX8_number_142 rfl ?_
  refine PW.i2l (pc := 143) dX8_number_143 ?_
  refine PW.ins (m' := mX8_isIn) (pc := 144) dX8_number_144 lm_X8_289 me_X8_isIn ms_X8_isIn (As := [.long (Int32.toInt64 x4), .long (Int32.toInt64 x1), .long (Int32.toInt64 x2)]) (st := []) rfl (Nat.le_of_ble_eq_true rfl) (Nat.le_of_ble_eq_true rfl) (Nat.le_of_eq hM.1) (Nat.le_refl _) (PW.deep (by decide) (c_X8_isIn  (hM.same rfl rfl) h)) ?_
  rintro _ M22 ⟨hM24, y23, rfl, z25, h⟩
  refine PW.if_ne (pc := 147) dX8_number_147 (t := 156) (by decide) (fun hc => ?_) (fun hc => ?_)
  · have h := h.1 hc
    refine PW.iload (pc := 156) dX8_number_156 rfl ?_
    exact PW.retI (pc := 158) dX8_number_158 hM24.1 rfl rfl ⟨hM24, _, rfl, h⟩
  · have h := h.2 hc
    refine PW.aload_n (pc := 150) dX8_number_150 rfl ?_
    refine PW.iconst (pc := 151) dX8_number_151 (v := 2) (by decide) ?_
    refine PW.iload_n (pc := 152) dX8_number_152 rfl ?_
    refine PW.inv (m' := mX8_fail) (pc := 153) dX8_number_153 lm_X8_279 me_X8_fail mi_X8_fail (ob hM24.1 s_277 (by decide)) rfl (As := [.int 2, .int x3]) (st := []) rfl (Nat.le_of_ble_eq_true rfl) (Nat.le_of_ble_eq_true rfl) (Nat.le_of_eq hM24.1) (Nat.le_refl _) (PW.deep (by decide) (c_X8_fail  hM24 h)) ?_
    rintro _ M26 ⟨hM28, rfl, h⟩
    refine PW.iload (pc := 156) dX8_number_156 rfl ?_
    exact PW.retI (pc := 158) dX8_number_158 hM28.1 rfl rfl ⟨hM28, _, rfl, h⟩
def w_X8_number (x1 : Int32) (x2 : Int32) (M : pm) (Q : Int32 → pm → Prop) : Prop := (((mI M 277 5) = 0 → (w_X8_look  M (fun y2 M1 => w_X8_isDigit y2 M1 (fun y5 M4 => ((y5 = 0 → (w_X8_fail 1 (mI M4 277 2) M4 (fun M8 => Q 0 M8))) ∧ (¬ y5 = 0 → ((¬ (mI M4 277 2) = (mI M4 277 4) → (∃ n20, w_X8_number_49 n20 x1 x2 (mI M4 277 2) 0 M4 (fun x1 x2 x3 x4 M21 => w_X8_number_129 x1 x2 x3 x4 M21  Q) Q)) ∧ ((mI M4 277 2) = (mI M4 277 4) → (w_X8_fail 1 (mI M4 277 2) M4 (fun M29 => Q 0 M29)))))))))) ∧ (¬ (mI M 277 5) = 0 → (Q 0 M)))
set_option maxRecDepth 4000 in
theorem c_X8_number {x1 : Int32} {x2 : Int32} {M : pm} {Q : Int32 → pm → Prop}  (hM : pG M) (h : w_X8_number x1 x2 M Q) : PW mX8_number 2 350 0 (pfr mX8_number.2.2.1 [.ref 277, .int x1, .int x2]) [] M (qI Q) := by
  unfold w_X8_number at h
  show PW mX8_number 2 350 0 [.ref 277, .int x1, .int x2, .null, .null] [] M (qI Q)
  refine PW.aload_n (pc := 0) dX8_number_0 rfl ?_
  refine PW.getI (pc := 1) dX8_number_1 lf_X8_249 (ob hM.1 s_277 (by decide)) fx_8_5 ?_
  refine PW.if_eq (pc := 4) dX8_number_4 (t := 9) (by decide) (fun hc => ?_) (fun hc => ?_)
  · have h := h.1 hc
    refine PW.aload_n (pc := 9) dX8_number_9 rfl ?_
    refine PW.inv (m' := mX8_look) (pc := 10) dX8_number_10 lm_X8_261 me_X8_look mi_X8_look (ob hM.1 s_277 (by decide)) rfl (As := []) (st := []) rfl (Nat.le_of_ble_eq_true rfl) (Nat.le_of_ble_eq_true rfl) (Nat.le_of_eq hM.1) (Nat.le_refl _) (PW.deep (by decide) (c_X8_look  hM h)) ?_
    rintro _ M1 ⟨hM3, y2, rfl, h⟩
    refine PW.ins (m' := mX8_isDigit) (pc := 13) dX8_number_13 lm_X8_286 me_X8_isDigit ms_X8_isDigit (As := [.int y2]) (st := []) rfl (Nat.le_of_ble_eq_true rfl) (Nat.le_of_ble_eq_true rfl) (Nat.le_of_eq hM3.1) (Nat.le_refl _) (PW.deep (by decide) (c_X8_isDigit  hM3 h)) ?_
    rintro _ M4 ⟨hM6, y5, rfl, z7, h⟩
    refine PW.if_eq (pc := 16) dX8_number_16 (t := 30) (by decide) (fun hc => ?_) (fun hc => ?_)
    · have h := h.1 hc
      refine PW.aload_n (pc := 30) dX8_number_30 rfl ?_
      refine PW.iconst (pc := 31) dX8_number_31 (v := 1) (by decide) ?_
      refine PW.aload_n (pc := 32) dX8_number_32 rfl ?_
      refine PW.getI (pc := 33) dX8_number_33 lf_X8_255 (ob hM6.1 s_277 (by decide)) fx_8_2 ?_
      refine PW.inv (m' := mX8_fail) (pc := 36) dX8_number_36 lm_X8_279 me_X8_fail mi_X8_fail (ob hM6.1 s_277 (by decide)) rfl (As := [.int 1, .int (mI M4 277 2)]) (st := []) rfl (Nat.le_of_ble_eq_true rfl) (Nat.le_of_ble_eq_true rfl) (Nat.le_of_eq hM6.1) (Nat.le_refl _) (PW.deep (by decide) (c_X8_fail  hM6 h)) ?_
      rintro _ M8 ⟨hM10, rfl, h⟩
      refine PW.iconst (pc := 39) dX8_number_39 (v := 0) (by decide) ?_
      exact PW.retI (pc := 40) dX8_number_40 hM10.1 rfl rfl ⟨hM10, _, rfl, h⟩
    · have h := h.2 hc
      refine PW.aload_n (pc := 19) dX8_number_19 rfl ?_
      refine PW.getI (pc := 20) dX8_number_20 lf_X8_255 (ob hM6.1 s_277 (by decide)) fx_8_2 ?_
      refine PW.aload_n (pc := 23) dX8_number_23 rfl ?_
      refine PW.getI (pc := 24) dX8_number_24 lf_X8_269 (ob hM6.1 s_277 (by decide)) fx_8_4 ?_
      refine PW.icmp_ne (pc := 27) dX8_number_27 (t := 41) (by decide) (fun hc => ?_) (fun hc => ?_)
      · have h := h.1 hc
        refine PW.aload_n (pc := 41) dX8_number_41 rfl ?_
        refine PW.getI (pc := 42) dX8_number_42 lf_X8_255 (ob hM6.1 s_277 (by decide)) fx_8_2 ?_
        refine PW.istore_n (pc := 45) dX8_number_45 (ls' := [.ref 277, .int x1, .int x2, .int (mI M4 277 2), .null]) (by decide) rfl rfl ?_
        refine PW.iconst (pc := 46) dX8_number_46 (v := 0) (by decide) ?_
        refine PW.istore (pc := 47) dX8_number_47 (ls' := [.ref 277, .int x1, .int x2, .int (mI M4 277 2), .int 0]) (by decide) rfl rfl ?_
        obtain ⟨n20, h⟩ := h
        refine PW.drop (c_X8_number_49 ?_ n20 _ _ _ _ _ hM6 h) ⟨rfl, rfl, rfl, rfl, rfl, trivial⟩
        · intro x1 x2 x3 x4 M21 hM h
          exact PW.drop (c_X8_number_129  _ _ _ _ _ hM h) ⟨rfl, rfl, rfl, rfl, rfl, trivial⟩
      · have h := h.2 hc
        refine PW.aload_n (pc := 30) dX8_number_30 rfl ?_
        refine PW.iconst (pc := 31) dX8_number_31 (v := 1) (by decide) ?_
        refine PW.aload_n (pc := 32) dX8_number_32 rfl ?_
        refine PW.getI (pc := 33) dX8_number_33 lf_X8_255 (ob hM6.1 s_277 (by decide)) fx_8_2 ?_
        refine PW.inv (m' := mX8_fail) (pc := 36) dX8_number_36 lm_X8_279 me_X8_fail mi_X8_fail (ob hM6.1 s_277 (by decide)) rfl (As := [.int 1, .int (mI M4 277 2)]) (st := []) rfl (Nat.le_of_ble_eq_true rfl) (Nat.le_of_ble_eq_true rfl) (Nat.le_of_eq hM6.1) (Nat.le_refl _) (PW.deep (by decide) (c_X8_fail  hM6 h)) ?_
        rintro _ M29 ⟨hM31, rfl, h⟩
        refine PW.iconst (pc := 39) dX8_number_39 (v := 0) (by decide) ?_
        exact PW.retI (pc := 40) dX8_number_40 hM31.1 rfl rfl ⟨hM31, _, rfl, h⟩
  · have h := h.2 hc
    refine PW.iconst (pc := 7) dX8_number_7 (v := 0) (by decide) ?_
    exact PW.retI (pc := 8) dX8_number_8 hM.1 rfl rfl ⟨hM, _, rfl, h⟩
def w_X8_isOwnHere_299  (t0 : Int32) (M : pm)  (Q : Int32 → pm → Prop) : Prop := ((¬ t0 = 0 → (Q 1 M)) ∧ (t0 = 0 → (w_X8_isHere 304 M (fun y6 M5 => ((¬ y6 = 0 → (Q 1 M5)) ∧ (y6 = 0 → (w_X8_isHere 305 M5 (fun y10 M9 => ((¬ y10 = 0 → (Q 1 M9)) ∧ (y10 = 0 → (w_X8_isHere 306 M9 (fun y14 M13 => ((¬ y14 = 0 → (Q 1 M13)) ∧ (y14 = 0 → (w_X8_isHere 307 M13 (fun y18 M17 => ((y18 = 0 → (Q 0 M17)) ∧ (¬ y18 = 0 → (Q 1 M17)))))))))))))))))))
set_option maxRecDepth 4000 in
theorem c_X8_isOwnHere_299  {Q : Int32 → pm → Prop}  : ∀ (t0 : Int32) (M : pm), pG M → w_X8_isOwnHere_299 t0 M  Q → PW mX8_isOwnHere 3 350 299 [.ref 277, .null] [.int t0] M (qZ Q) := by
  intro t0 M hM h
  unfold w_X8_isOwnHere_299 at h
  refine PW.istore_n (pc := 299) dX8_isOwnHere_299 (ls' := [.ref 277, .int t0]) (by decide) rfl rfl ?_
  refine PW.iload_n (pc := 300) dX8_isOwnHere_300 rfl ?_
  refine PW.if_ne (pc := 301) dX8_isOwnHere_301 (t := 348) (by decide) (fun hc => ?_) (fun hc => ?_)
  · have h := h.1 hc
    refine PW.iconst (pc := 348) dX8_isOwnHere_348 (v := 1) (by decide) ?_
    refine PW.goto (pc := 349) dX8_isOwnHere_349 (t := 353) (by decide) ?_
    refine PW.istore_n (pc := 353) dX8_isOwnHere_353 (ls' := [.ref 277, .int 1]) (by decide) rfl rfl ?_
    refine PW.iload_n (pc := 354) dX8_isOwnHere_354 rfl ?_
    exact PW.retI (pc := 355) dX8_isOwnHere_355 hM.1 rfl (bz_n bz1) ⟨hM, _, rfl, bz1, h⟩
  · have h := h.2 hc
    refine PW.aload_n (pc := 304) dX8_isOwnHere_304 rfl ?_
    refine PW.aload_n (pc := 305) dX8_isOwnHere_305 rfl ?_
    refine PW.getR (pc := 306) dX8_isOwnHere_306 (r := 304) lf_X8_93 (ob hM.1 s_277 (by decide)) fx_8_34 (oR_8_34 hM s_277) (pS_ne s_304) ?_
    refine PW.inv (m' := mX8_isHere) (pc := 309) dX8_isOwnHere_309 lm_X8_272 me_X8_isHere mi_X8_isHere (ob hM.1 s_277 (by decide)) rfl (As := [.ref 304]) (st := []) rfl (Nat.le_of_ble_eq_true rfl) (Nat.le_of_ble_eq_true rfl) (Nat.le_of_eq hM.1) (Nat.le_refl _) (PW.deep (by decide) (c_X8_isHere s_304 hM h)) ?_
    rintro _ M5 ⟨hM7, y6, rfl, z8, h⟩
    refine PW.if_ne (pc := 312) dX8_isOwnHere_312 (t := 348) (by decide) (fun hc => ?_) (fun hc => ?_)
    · have h := h.1 hc
      refine PW.iconst (pc := 348) dX8_isOwnHere_348 (v := 1) (by decide) ?_
      refine PW.goto (pc := 349) dX8_isOwnHere_349 (t := 353) (by decide) ?_
      refine PW.istore_n (pc := 353) dX8_isOwnHere_353 (ls' := [.ref 277, .int 1]) (by decide) rfl rfl ?_
      refine PW.iload_n (pc := 354) dX8_isOwnHere_354 rfl ?_
      exact PW.retI (pc := 355) dX8_isOwnHere_355 hM7.1 rfl (bz_n bz1) ⟨hM7, _, rfl, bz1, h⟩
    · have h := h.2 hc
      refine PW.aload_n (pc := 315) dX8_isOwnHere_315 rfl ?_
      refine PW.aload_n (pc := 316) dX8_isOwnHere_316 rfl ?_
      refine PW.getR (pc := 317) dX8_isOwnHere_317 (r := 305) lf_X8_96 (ob hM7.1 s_277 (by decide)) fx_8_35 (oR_8_35 hM7 s_277) (pS_ne s_305) ?_
      refine PW.inv (m' := mX8_isHere) (pc := 320) dX8_isOwnHere_320 lm_X8_272 me_X8_isHere mi_X8_isHere (ob hM7.1 s_277 (by decide)) rfl (As := [.ref 305]) (st := []) rfl (Nat.le_of_ble_eq_true rfl) (Nat.le_of_ble_eq_true rfl) (Nat.le_of_eq hM7.1) (Nat.le_refl _) (PW.deep (by decide) (c_X8_isHere s_305 hM7 h)) ?_
      rintro _ M9 ⟨hM11, y10, rfl, z12, h⟩
      refine PW.if_ne (pc := 323) dX8_isOwnHere_323 (t := 348) (by decide) (fun hc => ?_) (fun hc => ?_)
      · have h := h.1 hc
        refine PW.iconst (pc := 348) dX8_isOwnHere_348 (v := 1) (by decide) ?_
        refine PW.goto (pc := 349) dX8_isOwnHere_349 (t := 353) (by decide) ?_
        refine PW.istore_n (pc := 353) dX8_isOwnHere_353 (ls' := [.ref 277, .int 1]) (by decide) rfl rfl ?_
        refine PW.iload_n (pc := 354) dX8_isOwnHere_354 rfl ?_
        exact PW.retI (pc := 355) dX8_isOwnHere_355 hM11.1 rfl (bz_n bz1) ⟨hM11, _, rfl, bz1, h⟩
      · have h := h.2 hc
        refine PW.aload_n (pc := 326) dX8_isOwnHere_326 rfl ?_
        refine PW.aload_n (pc := 327) dX8_isOwnHere_327 rfl ?_
        refine PW.getR (pc := 328) dX8_isOwnHere_328 (r := 306) lf_X8_99 (ob hM11.1 s_277 (by decide)) fx_8_36 (oR_8_36 hM11 s_277) (pS_ne s_306) ?_
        refine PW.inv (m' := mX8_isHere) (pc := 331) dX8_isOwnHere_331 lm_X8_272 me_X8_isHere mi_X8_isHere (ob hM11.1 s_277 (by decide)) rfl (As := [.ref 306]) (st := []) rfl (Nat.le_of_ble_eq_true rfl) (Nat.le_of_ble_eq_true rfl) (Nat.le_of_eq hM11.1) (Nat.le_refl _) (PW.deep (by decide) (c_X8_isHere s_306 hM11 h)) ?_
        rintro _ M13 ⟨hM15, y14, rfl, z16, h⟩
        refine PW.if_ne (pc := 334) dX8_isOwnHere_334 (t := 348) (by decide) (fun hc => ?_) (fun hc => ?_)
        · have h := h.1 hc
          refine PW.iconst (pc := 348) dX8_isOwnHere_348 (v := 1) (by decide) ?_
          refine PW.goto (pc := 349) dX8_isOwnHere_349 (t := 353) (by decide) ?_
          refine PW.istore_n (pc := 353) dX8_isOwnHere_353 (ls' := [.ref 277, .int 1]) (by decide) rfl rfl ?_
          refine PW.iload_n (pc := 354) dX8_isOwnHere_354 rfl ?_
          exact PW.retI (pc := 355) dX8_isOwnHere_355 hM15.1 rfl (bz_n bz1) ⟨hM15, _, rfl, bz1, h⟩
        · have h := h.2 hc
          refine PW.aload_n (pc := 337) dX8_isOwnHere_337 rfl ?_
          refine PW.aload_n (pc := 338) dX8_isOwnHere_338 rfl ?_
          refine PW.getR (pc := 339) dX8_isOwnHere_339 (r := 307) lf_X8_102 (ob hM15.1 s_277 (by decide)) fx_8_37 (oR_8_37 hM15 s_277) (pS_ne s_307) ?_
          refine PW.inv (m' := mX8_isHere) (pc := 342) dX8_isOwnHere_342 lm_X8_272 me_X8_isHere mi_X8_isHere (ob hM15.1 s_277 (by decide)) rfl (As := [.ref 307]) (st := []) rfl (Nat.le_of_ble_eq_true rfl) (Nat.le_of_ble_eq_true rfl) (Nat.le_of_eq hM15.1) (Nat.le_refl _) (PW.deep (by decide) (c_X8_isHere s_307 hM15 h)) ?_
          rintro _ M17 ⟨hM19, y18, rfl, z20, h⟩
          refine PW.if_eq (pc := 345) dX8_isOwnHere_345 (t := 352) (by decide) (fun hc => ?_) (fun hc => ?_)
          · have h := h.1 hc
            refine PW.iconst (pc := 352) dX8_isOwnHere_352 (v := 0) (by decide) ?_
            refine PW.istore_n (pc := 353) dX8_isOwnHere_353 (ls' := [.ref 277, .int 0]) (by decide) rfl rfl ?_
            refine PW.iload_n (pc := 354) dX8_isOwnHere_354 rfl ?_
            exact PW.retI (pc := 355) dX8_isOwnHere_355 hM19.1 rfl (bz_n bz0) ⟨hM19, _, rfl, bz0, h⟩
          · have h := h.2 hc
            refine PW.iconst (pc := 348) dX8_isOwnHere_348 (v := 1) (by decide) ?_
            refine PW.goto (pc := 349) dX8_isOwnHere_349 (t := 353) (by decide) ?_
            refine PW.istore_n (pc := 353) dX8_isOwnHere_353 (ls' := [.ref 277, .int 1]) (by decide) rfl rfl ?_
            refine PW.iload_n (pc := 354) dX8_isOwnHere_354 rfl ?_
            exact PW.retI (pc := 355) dX8_isOwnHere_355 hM19.1 rfl (bz_n bz1) ⟨hM19, _, rfl, bz1, h⟩
def w_X8_isOwnHere_223  (t0 : Int32) (M : pm)  (Q : Int32 → pm → Prop) : Prop := ((¬ t0 = 0 → (w_X8_isOwnHere_299 1 M  Q)) ∧ (t0 = 0 → (w_X8_isHere 298 M (fun y22 M21 => ((¬ y22 = 0 → (w_X8_isOwnHere_299 1 M21  Q)) ∧ (y22 = 0 → (w_X8_isHere 299 M21 (fun y26 M25 => ((¬ y26 = 0 → (w_X8_isOwnHere_299 1 M25  Q)) ∧ (y26 = 0 → (w_X8_isHere 300 M25 (fun y30 M29 => ((¬ y30 = 0 → (w_X8_isOwnHere_299 1 M29  Q)) ∧ (y30 = 0 → (w_X8_isHere 301 M29 (fun y34 M33 => ((¬ y34 = 0 → (w_X8_isOwnHere_299 1 M33  Q)) ∧ (y34 = 0 → (w_X8_isHere 302 M33 (fun y38 M37 => ((¬ y38 = 0 → (w_X8_isOwnHere_299 1 M37  Q)) ∧ (y38 = 0 → (w_X8_isHere 303 M37 (fun y42 M41 => ((y42 = 0 → (w_X8_isOwnHere_299 0 M41  Q)) ∧ (¬ y42 = 0 → (w_X8_isOwnHere_299 1 M41  Q)))))))))))))))))))))))))))
set_option maxRecDepth 4000 in
theorem c_X8_isOwnHere_223  {Q : Int32 → pm → Prop}  : ∀ (t0 : Int32) (M : pm), pG M → w_X8_isOwnHere_223 t0 M  Q → PW mX8_isOwnHere 3 350 223 [.ref 277, .null] [.int t0] M (qZ Q) := by
  intro t0 M hM h
  unfold w_X8_isOwnHere_223 at h
  refine PW.istore_n (pc := 223) dX8_isOwnHere_223 (ls' := [.ref 277, .int t0]) (by decide) rfl rfl ?_
  refine PW.iload_n (pc := 224) dX8_isOwnHere_224 rfl ?_
  refine PW.if_ne (pc := 225) dX8_isOwnHere_225 (t := 294) (by decide) (fun hc => ?_) (fun hc => ?_)
  · have h := h.1 hc
    refine PW.iconst (pc := 294) dX8_isOwnHere_294 (v := 1) (by decide) ?_
    refine PW.goto (pc := 295) dX8_isOwnHere_295 (t := 299) (by decide) ?_
    exact PW.drop (c_X8_isOwnHere_299  _ _ hM h) ⟨rfl, trivial⟩
  · have h := h.2 hc
    refine PW.aload_n (pc := 228) dX8_isOwnHere_228 rfl ?_
    refine PW.aload_n (pc := 229) dX8_isOwnHere_229 rfl ?_
    refine PW.getR (pc := 230) dX8_isOwnHere_230 (r := 298) lf_X8_75 (ob hM.1 s_277 (by decide)) fx_8_28 (oR_8_28 hM s_277) (pS_ne s_298) ?_
    refine PW.inv (m' := mX8_isHere) (pc := 233) dX8_isOwnHere_233 lm_X8_272 me_X8_isHere mi_X8_isHere (ob hM.1 s_277 (by decide)) rfl (As := [.ref 298]) (st := []) rfl (Nat.le_of_ble_eq_true rfl) (Nat.le_of_ble_eq_true rfl) (Nat.le_of_eq hM.1) (Nat.le_refl _) (PW.deep (by decide) (c_X8_isHere s_298 hM h)) ?_
    rintro _ M21 ⟨hM23, y22, rfl, z24, h⟩
    refine PW.if_ne (pc := 236) dX8_isOwnHere_236 (t := 294) (by decide) (fun hc => ?_) (fun hc => ?_)
    · have h := h.1 hc
      refine PW.iconst (pc := 294) dX8_isOwnHere_294 (v := 1) (by decide) ?_
      refine PW.goto (pc := 295) dX8_isOwnHere_295 (t := 299) (by decide) ?_
      exact PW.drop (c_X8_isOwnHere_299  _ _ hM23 h) ⟨rfl, trivial⟩
    · have h := h.2 hc
      refine PW.aload_n (pc := 239) dX8_isOwnHere_239 rfl ?_
      refine PW.aload_n (pc := 240) dX8_isOwnHere_240 rfl ?_
      refine PW.getR (pc := 241) dX8_isOwnHere_241 (r := 299) lf_X8_78 (ob hM23.1 s_277 (by decide)) fx_8_29 (oR_8_29 hM23 s_277) (pS_ne s_299) ?_
      refine PW.inv (m' := mX8_isHere) (pc := 244) dX8_isOwnHere_244 lm_X8_272 me_X8_isHere mi_X8_isHere (ob hM23.1 s_277 (by decide)) rfl (As := [.ref 299]) (st := []) rfl (Nat.le_of_ble_eq_true rfl) (Nat.le_of_ble_eq_true rfl) (Nat.le_of_eq hM23.1) (Nat.le_refl _) (PW.deep (by decide) (c_X8_isHere s_299 hM23 h)) ?_
      rintro _ M25 ⟨hM27, y26, rfl, z28, h⟩
      refine PW.if_ne (pc := 247) dX8_isOwnHere_247 (t := 294) (by decide) (fun hc => ?_) (fun hc => ?_)
      · have h := h.1 hc
        refine PW.iconst (pc := 294) dX8_isOwnHere_294 (v := 1) (by decide) ?_
        refine PW.goto (pc := 295) dX8_isOwnHere_295 (t := 299) (by decide) ?_
        exact PW.drop (c_X8_isOwnHere_299  _ _ hM27 h) ⟨rfl, trivial⟩
      · have h := h.2 hc
        refine PW.aload_n (pc := 250) dX8_isOwnHere_250 rfl ?_
        refine PW.aload_n (pc := 251) dX8_isOwnHere_251 rfl ?_
        refine PW.getR (pc := 252) dX8_isOwnHere_252 (r := 300) lf_X8_81 (ob hM27.1 s_277 (by decide)) fx_8_30 (oR_8_30 hM27 s_277) (pS_ne s_300) ?_
        refine PW.inv (m' := mX8_isHere) (pc := 255) dX8_isOwnHere_255 lm_X8_272 me_X8_isHere mi_X8_isHere (ob hM27.1 s_277 (by decide)) rfl (As := [.ref 300]) (st := []) rfl (Nat.le_of_ble_eq_true rfl) (Nat.le_of_ble_eq_true rfl) (Nat.le_of_eq hM27.1) (Nat.le_refl _) (PW.deep (by decide) (c_X8_isHere s_300 hM27 h)) ?_
        rintro _ M29 ⟨hM31, y30, rfl, z32, h⟩
        refine PW.if_ne (pc := 258) dX8_isOwnHere_258 (t := 294) (by decide) (fun hc => ?_) (fun hc => ?_)
        · have h := h.1 hc
          refine PW.iconst (pc := 294) dX8_isOwnHere_294 (v := 1) (by decide) ?_
          refine PW.goto (pc := 295) dX8_isOwnHere_295 (t := 299) (by decide) ?_
          exact PW.drop (c_X8_isOwnHere_299  _ _ hM31 h) ⟨rfl, trivial⟩
        · have h := h.2 hc
          refine PW.aload_n (pc := 261) dX8_isOwnHere_261 rfl ?_
          refine PW.aload_n (pc := 262) dX8_isOwnHere_262 rfl ?_
          refine PW.getR (pc := 263) dX8_isOwnHere_263 (r := 301) lf_X8_84 (ob hM31.1 s_277 (by decide)) fx_8_31 (oR_8_31 hM31 s_277) (pS_ne s_301) ?_
          refine PW.inv (m' := mX8_isHere) (pc := 266) dX8_isOwnHere_266 lm_X8_272 me_X8_isHere mi_X8_isHere (ob hM31.1 s_277 (by decide)) rfl (As := [.ref 301]) (st := []) rfl (Nat.le_of_ble_eq_true rfl) (Nat.le_of_ble_eq_true rfl) (Nat.le_of_eq hM31.1) (Nat.le_refl _) (PW.deep (by decide) (c_X8_isHere s_301 hM31 h)) ?_
          rintro _ M33 ⟨hM35, y34, rfl, z36, h⟩
          refine PW.if_ne (pc := 269) dX8_isOwnHere_269 (t := 294) (by decide) (fun hc => ?_) (fun hc => ?_)
          · have h := h.1 hc
            refine PW.iconst (pc := 294) dX8_isOwnHere_294 (v := 1) (by decide) ?_
            refine PW.goto (pc := 295) dX8_isOwnHere_295 (t := 299) (by decide) ?_
            exact PW.drop (c_X8_isOwnHere_299  _ _ hM35 h) ⟨rfl, trivial⟩
          · have h := h.2 hc
            refine PW.aload_n (pc := 272) dX8_isOwnHere_272 rfl ?_
            refine PW.aload_n (pc := 273) dX8_isOwnHere_273 rfl ?_
            refine PW.getR (pc := 274) dX8_isOwnHere_274 (r := 302) lf_X8_87 (ob hM35.1 s_277 (by decide)) fx_8_32 (oR_8_32 hM35 s_277) (pS_ne s_302) ?_
            refine PW.inv (m' := mX8_isHere) (pc := 277) dX8_isOwnHere_277 lm_X8_272 me_X8_isHere mi_X8_isHere (ob hM35.1 s_277 (by decide)) rfl (As := [.ref 302]) (st := []) rfl (Nat.le_of_ble_eq_true rfl) (Nat.le_of_ble_eq_true rfl) (Nat.le_of_eq hM35.1) (Nat.le_refl _) (PW.deep (by decide) (c_X8_isHere s_302 hM35 h)) ?_
            rintro _ M37 ⟨hM39, y38, rfl, z40, h⟩
            refine PW.if_ne (pc := 280) dX8_isOwnHere_280 (t := 294) (by decide) (fun hc => ?_) (fun hc => ?_)
            · have h := h.1 hc
              refine PW.iconst (pc := 294) dX8_isOwnHere_294 (v := 1) (by decide) ?_
              refine PW.goto (pc := 295) dX8_isOwnHere_295 (t := 299) (by decide) ?_
              exact PW.drop (c_X8_isOwnHere_299  _ _ hM39 h) ⟨rfl, trivial⟩
            · have h := h.2 hc
              refine PW.aload_n (pc := 283) dX8_isOwnHere_283 rfl ?_
              refine PW.aload_n (pc := 284) dX8_isOwnHere_284 rfl ?_
              refine PW.getR (pc := 285) dX8_isOwnHere_285 (r := 303) lf_X8_90 (ob hM39.1 s_277 (by decide)) fx_8_33 (oR_8_33 hM39 s_277) (pS_ne s_303) ?_
              refine PW.inv (m' := mX8_isHere) (pc := 288) dX8_isOwnHere_288 lm_X8_272 me_X8_isHere mi_X8_isHere (ob hM39.1 s_277 (by decide)) rfl (As := [.ref 303]) (st := []) rfl (Nat.le_of_ble_eq_true rfl) (Nat.le_of_ble_eq_true rfl) (Nat.le_of_eq hM39.1) (Nat.le_refl _) (PW.deep (by decide) (c_X8_isHere s_303 hM39 h)) ?_
              rintro _ M41 ⟨hM43, y42, rfl, z44, h⟩
              refine PW.if_eq (pc := 291) dX8_isOwnHere_291 (t := 298) (by decide) (fun hc => ?_) (fun hc => ?_)
              · have h := h.1 hc
                refine PW.iconst (pc := 298) dX8_isOwnHere_298 (v := 0) (by decide) ?_
                exact PW.drop (c_X8_isOwnHere_299  _ _ hM43 h) ⟨rfl, trivial⟩
              · have h := h.2 hc
                refine PW.iconst (pc := 294) dX8_isOwnHere_294 (v := 1) (by decide) ?_
                refine PW.goto (pc := 295) dX8_isOwnHere_295 (t := 299) (by decide) ?_
                exact PW.drop (c_X8_isOwnHere_299  _ _ hM43 h) ⟨rfl, trivial⟩
def w_X8_isOwnHere_147  (t0 : Int32) (M : pm)  (Q : Int32 → pm → Prop) : Prop := ((¬ t0 = 0 → (w_X8_isOwnHere_223 1 M  Q)) ∧ (t0 = 0 → (w_X8_isHere 292 M (fun y46 M45 => ((¬ y46 = 0 → (w_X8_isOwnHere_223 1 M45  Q)) ∧ (y46 = 0 → (w_X8_isHere 293 M45 (fun y50 M49 => ((¬ y50 = 0 → (w_X8_isOwnHere_223 1 M49  Q)) ∧ (y50 = 0 → (w_X8_isHere 294 M49 (fun y54 M53 => ((¬ y54 = 0 → (w_X8_isOwnHere_223 1 M53  Q)) ∧ (y54 = 0 → (w_X8_isHere 295 M53 (fun y58 M57 => ((¬ y58 = 0 → (w_X8_isOwnHere_223 1 M57  Q)) ∧ (y58 = 0 → (w_X8_isHere 296 M57 (fun y62 M61 => ((¬ y62 = 0 → (w_X8_isOwnHere_223 1 M61  Q)) ∧ (y62 = 0 → (w_X8_isHere 297 M61 (fun y66 M65 => ((y66 = 0 → (w_X8_isOwnHere_223 0 M65  Q)) ∧ (¬ y66 = 0 → (w_X8_isOwnHere_223 1 M65  Q)))))))))))))))))))))))))))
set_option maxRecDepth 4000 in
theorem c_X8_isOwnHere_147  {Q : Int32 → pm → Prop}  : ∀ (t0 : Int32) (M : pm), pG M → w_X8_isOwnHere_147 t0 M  Q → PW mX8_isOwnHere 3 350 147 [.ref 277, .null] [.int t0] M (qZ Q) := by
  intro t0 M hM h
  unfold w_X8_isOwnHere_147 at h
  refine PW.istore_n (pc := 147) dX8_isOwnHere_147 (ls' := [.ref 277, .int t0]) (by decide) rfl rfl ?_
  refine PW.iload_n (pc := 148) dX8_isOwnHere_148 rfl ?_
  refine PW.if_ne (pc := 149) dX8_isOwnHere_149 (t := 218) (by decide) (fun hc => ?_) (fun hc => ?_)
  · have h := h.1 hc
    refine PW.iconst (pc := 218) dX8_isOwnHere_218 (v := 1) (by decide) ?_
    refine PW.goto (pc := 219) dX8_isOwnHere_219 (t := 223) (by decide) ?_
    exact PW.drop (c_X8_isOwnHere_223  _ _ hM h) ⟨rfl, trivial⟩
  · have h := h.2 hc
    refine PW.aload_n (pc := 152) dX8_isOwnHere_152 rfl ?_
    refine PW.aload_n (pc := 153) dX8_isOwnHere_153 rfl ?_
    refine PW.getR (pc := 154) dX8_isOwnHere_154 (r := 292) lf_X8_57 (ob hM.1 s_277 (by decide)) fx_8_22 (oR_8_22 hM s_277) (pS_ne s_292) ?_
    refine PW.inv (m' := mX8_isHere) (pc := 157) dX8_isOwnHere_157 lm_X8_272 me_X8_isHere mi_X8_isHere (ob hM.1 s_277 (by decide)) rfl (As := [.ref 292]) (st := []) rfl (Nat.le_of_ble_eq_true rfl) (Nat.le_of_ble_eq_true rfl) (Nat.le_of_eq hM.1) (Nat.le_refl _) (PW.deep (by decide) (c_X8_isHere s_292 hM h)) ?_
    rintro _ M45 ⟨hM47, y46, rfl, z48, h⟩
    refine PW.if_ne (pc := 160) dX8_isOwnHere_160 (t := 218) (by decide) (fun hc => ?_) (fun hc => ?_)
    · have h := h.1 hc
      refine PW.iconst (pc := 218) dX8_isOwnHere_218 (v := 1) (by decide) ?_
      refine PW.goto (pc := 219) dX8_isOwnHere_219 (t := 223) (by decide) ?_
      exact PW.drop (c_X8_isOwnHere_223  _ _ hM47 h) ⟨rfl, trivial⟩
    · have h := h.2 hc
      refine PW.aload_n (pc := 163) dX8_isOwnHere_163 rfl ?_
      refine PW.aload_n (pc := 164) dX8_isOwnHere_164 rfl ?_
      refine PW.getR (pc := 165) dX8_isOwnHere_165 (r := 293) lf_X8_60 (ob hM47.1 s_277 (by decide)) fx_8_23 (oR_8_23 hM47 s_277) (pS_ne s_293) ?_
      refine PW.inv (m' := mX8_isHere) (pc := 168) dX8_isOwnHere_168 lm_X8_272 me_X8_isHere mi_X8_isHere (ob hM47.1 s_277 (by decide)) rfl (As := [.ref 293]) (st := []) rfl (Nat.le_of_ble_eq_true rfl) (Nat.le_of_ble_eq_true rfl) (Nat.le_of_eq hM47.1) (Nat.le_refl _) (PW.deep (by decide) (c_X8_isHere s_293 hM47 h)) ?_
      rintro _ M49 ⟨hM51, y50, rfl, z52, h⟩
      refine PW.if_ne (pc := 171) dX8_isOwnHere_171 (t := 218) (by decide) (fun hc => ?_) (fun hc => ?_)
      · have h := h.1 hc
        refine PW.iconst (pc := 218) dX8_isOwnHere_218 (v := 1) (by decide) ?_
        refine PW.goto (pc := 219) dX8_isOwnHere_219 (t := 223) (by decide) ?_
        exact PW.drop (c_X8_isOwnHere_223  _ _ hM51 h) ⟨rfl, trivial⟩
      · have h := h.2 hc
        refine PW.aload_n (pc := 174) dX8_isOwnHere_174 rfl ?_
        refine PW.aload_n (pc := 175) dX8_isOwnHere_175 rfl ?_
        refine PW.getR (pc := 176) dX8_isOwnHere_176 (r := 294) lf_X8_63 (ob hM51.1 s_277 (by decide)) fx_8_24 (oR_8_24 hM51 s_277) (pS_ne s_294) ?_
        refine PW.inv (m' := mX8_isHere) (pc := 179) dX8_isOwnHere_179 lm_X8_272 me_X8_isHere mi_X8_isHere (ob hM51.1 s_277 (by decide)) rfl (As := [.ref 294]) (st := []) rfl (Nat.le_of_ble_eq_true rfl) (Nat.le_of_ble_eq_true rfl) (Nat.le_of_eq hM51.1) (Nat.le_refl _) (PW.deep (by decide) (c_X8_isHere s_294 hM51 h)) ?_
        rintro _ M53 ⟨hM55, y54, rfl, z56, h⟩
        refine PW.if_ne (pc := 182) dX8_isOwnHere_182 (t := 218) (by decide) (fun hc => ?_) (fun hc => ?_)
        · have h := h.1 hc
          refine PW.iconst (pc := 218) dX8_isOwnHere_218 (v := 1) (by decide) ?_
          refine PW.goto (pc := 219) dX8_isOwnHere_219 (t := 223) (by decide) ?_
          exact PW.drop (c_X8_isOwnHere_223  _ _ hM55 h) ⟨rfl, trivial⟩
        · have h := h.2 hc
          refine PW.aload_n (pc := 185) dX8_isOwnHere_185 rfl ?_
          refine PW.aload_n (pc := 186) dX8_isOwnHere_186 rfl ?_
          refine PW.getR (pc := 187) dX8_isOwnHere_187 (r := 295) lf_X8_66 (ob hM55.1 s_277 (by decide)) fx_8_25 (oR_8_25 hM55 s_277) (pS_ne s_295) ?_
          refine PW.inv (m' := mX8_isHere) (pc := 190) dX8_isOwnHere_190 lm_X8_272 me_X8_isHere mi_X8_isHere (ob hM55.1 s_277 (by decide)) rfl (As := [.ref 295]) (st := []) rfl (Nat.le_of_ble_eq_true rfl) (Nat.le_of_ble_eq_true rfl) (Nat.le_of_eq hM55.1) (Nat.le_refl _) (PW.deep (by decide) (c_X8_isHere s_295 hM55 h)) ?_
          rintro _ M57 ⟨hM59, y58, rfl, z60, h⟩
          refine PW.if_ne (pc := 193) dX8_isOwnHere_193 (t := 218) (by decide) (fun hc => ?_) (fun hc => ?_)
          · have h := h.1 hc
            refine PW.iconst (pc := 218) dX8_isOwnHere_218 (v := 1) (by decide) ?_
            refine PW.goto (pc := 219) dX8_isOwnHere_219 (t := 223) (by decide) ?_
            exact PW.drop (c_X8_isOwnHere_223  _ _ hM59 h) ⟨rfl, trivial⟩
          · have h := h.2 hc
            refine PW.aload_n (pc := 196) dX8_isOwnHere_196 rfl ?_
            refine PW.aload_n (pc := 197) dX8_isOwnHere_197 rfl ?_
            refine PW.getR (pc := 198) dX8_isOwnHere_198 (r := 296) lf_X8_69 (ob hM59.1 s_277 (by decide)) fx_8_26 (oR_8_26 hM59 s_277) (pS_ne s_296) ?_
            refine PW.inv (m' := mX8_isHere) (pc := 201) dX8_isOwnHere_201 lm_X8_272 me_X8_isHere mi_X8_isHere (ob hM59.1 s_277 (by decide)) rfl (As := [.ref 296]) (st := []) rfl (Nat.le_of_ble_eq_true rfl) (Nat.le_of_ble_eq_true rfl) (Nat.le_of_eq hM59.1) (Nat.le_refl _) (PW.deep (by decide) (c_X8_isHere s_296 hM59 h)) ?_
            rintro _ M61 ⟨hM63, y62, rfl, z64, h⟩
            refine PW.if_ne (pc := 204) dX8_isOwnHere_204 (t := 218) (by decide) (fun hc => ?_) (fun hc => ?_)
            · have h := h.1 hc
              refine PW.iconst (pc := 218) dX8_isOwnHere_218 (v := 1) (by decide) ?_
              refine PW.goto (pc := 219) dX8_isOwnHere_219 (t := 223) (by decide) ?_
              exact PW.drop (c_X8_isOwnHere_223  _ _ hM63 h) ⟨rfl, trivial⟩
            · have h := h.2 hc
              refine PW.aload_n (pc := 207) dX8_isOwnHere_207 rfl ?_
              refine PW.aload_n (pc := 208) dX8_isOwnHere_208 rfl ?_
              refine PW.getR (pc := 209) dX8_isOwnHere_209 (r := 297) lf_X8_72 (ob hM63.1 s_277 (by decide)) fx_8_27 (oR_8_27 hM63 s_277) (pS_ne s_297) ?_
              refine PW.inv (m' := mX8_isHere) (pc := 212) dX8_isOwnHere_212 lm_X8_272 me_X8_isHere mi_X8_isHere (ob hM63.1 s_277 (by decide)) rfl (As := [.ref 297]) (st := []) rfl (Nat.le_of_ble_eq_true rfl) (Nat.le_of_ble_eq_true rfl) (Nat.le_of_eq hM63.1) (Nat.le_refl _) (PW.deep (by decide) (c_X8_isHere s_297 hM63 h)) ?_
              rintro _ M65 ⟨hM67, y66, rfl, z68, h⟩
              refine PW.if_eq (pc := 215) dX8_isOwnHere_215 (t := 222) (by decide) (fun hc => ?_) (fun hc => ?_)
              · have h := h.1 hc
                refine PW.iconst (pc := 222) dX8_isOwnHere_222 (v := 0) (by decide) ?_
                exact PW.drop (c_X8_isOwnHere_223  _ _ hM67 h) ⟨rfl, trivial⟩
              · have h := h.2 hc
                refine PW.iconst (pc := 218) dX8_isOwnHere_218 (v := 1) (by decide) ?_
                refine PW.goto (pc := 219) dX8_isOwnHere_219 (t := 223) (by decide) ?_
                exact PW.drop (c_X8_isOwnHere_223  _ _ hM67 h) ⟨rfl, trivial⟩
def w_X8_isOwnHere_71  (t0 : Int32) (M : pm)  (Q : Int32 → pm → Prop) : Prop := ((¬ t0 = 0 → (w_X8_isOwnHere_147 1 M  Q)) ∧ (t0 = 0 → (w_X8_isHere 286 M (fun y70 M69 => ((¬ y70 = 0 → (w_X8_isOwnHere_147 1 M69  Q)) ∧ (y70 = 0 → (w_X8_isHere 287 M69 (fun y74 M73 => ((¬ y74 = 0 → (w_X8_isOwnHere_147 1 M73  Q)) ∧ (y74 = 0 → (w_X8_isHere 288 M73 (fun y78 M77 => ((¬ y78 = 0 → (w_X8_isOwnHere_147 1 M77  Q)) ∧ (y78 = 0 → (w_X8_isHere 289 M77 (fun y82 M81 => ((¬ y82 = 0 → (w_X8_isOwnHere_147 1 M81  Q)) ∧ (y82 = 0 → (w_X8_isHere 290 M81 (fun y86 M85 => ((¬ y86 = 0 → (w_X8_isOwnHere_147 1 M85  Q)) ∧ (y86 = 0 → (w_X8_isHere 291 M85 (fun y90 M89 => ((y90 = 0 → (w_X8_isOwnHere_147 0 M89  Q)) ∧ (¬ y90 = 0 → (w_X8_isOwnHere_147 1 M89  Q)))))))))))))))))))))))))))
set_option maxRecDepth 4000 in
theorem c_X8_isOwnHere_71  {Q : Int32 → pm → Prop}  : ∀ (t0 : Int32) (M : pm), pG M → w_X8_isOwnHere_71 t0 M  Q → PW mX8_isOwnHere 3 350 71 [.ref 277, .null] [.int t0] M (qZ Q) := by
  intro t0 M hM h
  unfold w_X8_isOwnHere_71 at h
  refine PW.istore_n (pc := 71) dX8_isOwnHere_71 (ls' := [.ref 277, .int t0]) (by decide) rfl rfl ?_
  refine PW.iload_n (pc := 72) dX8_isOwnHere_72 rfl ?_
  refine PW.if_ne (pc := 73) dX8_isOwnHere_73 (t := 142) (by decide) (fun hc => ?_) (fun hc => ?_)
  · have h := h.1 hc
    refine PW.iconst (pc := 142) dX8_isOwnHere_142 (v := 1) (by decide) ?_
    refine PW.goto (pc := 143) dX8_isOwnHere_143 (t := 147) (by decide) ?_
    exact PW.drop (c_X8_isOwnHere_147  _ _ hM h) ⟨rfl, trivial⟩
  · have h := h.2 hc
    refine PW.aload_n (pc := 76) dX8_isOwnHere_76 rfl ?_
    refine PW.aload_n (pc := 77) dX8_isOwnHere_77 rfl ?_
    refine PW.getR (pc := 78) dX8_isOwnHere_78 (r := 286) lf_X8_39 (ob hM.1 s_277 (by decide)) fx_8_16 (oR_8_16 hM s_277) (pS_ne s_286) ?_
    refine PW.inv (m' := mX8_isHere) (pc := 81) dX8_isOwnHere_81 lm_X8_272 me_X8_isHere mi_X8_isHere (ob hM.1 s_277 (by decide)) rfl (As := [.ref 286]) (st := []) rfl (Nat.le_of_ble_eq_true rfl) (Nat.le_of_ble_eq_true rfl) (Nat.le_of_eq hM.1) (Nat.le_refl _) (PW.deep (by decide) (c_X8_isHere s_286 hM h)) ?_
    rintro _ M69 ⟨hM71, y70, rfl, z72, h⟩
    refine PW.if_ne (pc := 84) dX8_isOwnHere_84 (t := 142) (by decide) (fun hc => ?_) (fun hc => ?_)
    · have h := h.1 hc
      refine PW.iconst (pc := 142) dX8_isOwnHere_142 (v := 1) (by decide) ?_
      refine PW.goto (pc := 143) dX8_isOwnHere_143 (t := 147) (by decide) ?_
      exact PW.drop (c_X8_isOwnHere_147  _ _ hM71 h) ⟨rfl, trivial⟩
    · have h := h.2 hc
      refine PW.aload_n (pc := 87) dX8_isOwnHere_87 rfl ?_
      refine PW.aload_n (pc := 88) dX8_isOwnHere_88 rfl ?_
      refine PW.getR (pc := 89) dX8_isOwnHere_89 (r := 287) lf_X8_42 (ob hM71.1 s_277 (by decide)) fx_8_17 (oR_8_17 hM71 s_277) (pS_ne s_287) ?_
      refine PW.inv (m' := mX8_isHere) (pc := 92) dX8_isOwnHere_92 lm_X8_272 me_X8_isHere mi_X8_isHere (ob hM71.1 s_277 (by decide)) rfl (As := [.ref 287]) (st := []) rfl (Nat.le_of_ble_eq_true rfl) (Nat.le_of_ble_eq_true rfl) (Nat.le_of_eq hM71.1) (Nat.le_refl _) (PW.deep (by decide) (c_X8_isHere s_287 hM71 h)) ?_
      rintro _ M73 ⟨hM75, y74, rfl, z76, h⟩
      refine PW.if_ne (pc := 95) dX8_isOwnHere_95 (t := 142) (by decide) (fun hc => ?_) (fun hc => ?_)
      · have h := h.1 hc
        refine PW.iconst (pc := 142) dX8_isOwnHere_142 (v := 1) (by decide) ?_
        refine PW.goto (pc := 143) dX8_isOwnHere_143 (t := 147) (by decide) ?_
        exact PW.drop (c_X8_isOwnHere_147  _ _ hM75 h) ⟨rfl, trivial⟩
      · have h := h.2 hc
        refine PW.aload_n (pc := 98) dX8_isOwnHere_98 rfl ?_
        refine PW.aload_n (pc := 99) dX8_isOwnHere_99 rfl ?_
        refine PW.getR (pc := 100) dX8_isOwnHere_100 (r := 288) lf_X8_45 (ob hM75.1 s_277 (by decide)) fx_8_18 (oR_8_18 hM75 s_277) (pS_ne s_288) ?_
        refine PW.inv (m' := mX8_isHere) (pc := 103) dX8_isOwnHere_103 lm_X8_272 me_X8_isHere mi_X8_isHere (ob hM75.1 s_277 (by decide)) rfl (As := [.ref 288]) (st := []) rfl (Nat.le_of_ble_eq_true rfl) (Nat.le_of_ble_eq_true rfl) (Nat.le_of_eq hM75.1) (Nat.le_refl _) (PW.deep (by decide) (c_X8_isHere s_288 hM75 h)) ?_
        rintro _ M77 ⟨hM79, y78, rfl, z80, h⟩
        refine PW.if_ne (pc := 106) dX8_isOwnHere_106 (t := 142) (by decide) (fun hc => ?_) (fun hc => ?_)
        · have h := h.1 hc
          refine PW.iconst (pc := 142) dX8_isOwnHere_142 (v := 1) (by decide) ?_
          refine PW.goto (pc := 143) dX8_isOwnHere_143 (t := 147) (by decide) ?_
          exact PW.drop (c_X8_isOwnHere_147  _ _ hM79 h) ⟨rfl, trivial⟩
        · have h := h.2 hc
          refine PW.aload_n (pc := 109) dX8_isOwnHere_109 rfl ?_
          refine PW.aload_n (pc := 110) dX8_isOwnHere_110 rfl ?_
          refine PW.getR (pc := 111) dX8_isOwnHere_111 (r := 289) lf_X8_48 (ob hM79.1 s_277 (by decide)) fx_8_19 (oR_8_19 hM79 s_277) (pS_ne s_289) ?_
          refine PW.inv (m' := mX8_isHere) (pc := 114) dX8_isOwnHere_114 lm_X8_272 me_X8_isHere mi_X8_isHere (ob hM79.1 s_277 (by decide)) rfl (As := [.ref 289]) (st := []) rfl (Nat.le_of_ble_eq_true rfl) (Nat.le_of_ble_eq_true rfl) (Nat.le_of_eq hM79.1) (Nat.le_refl _) (PW.deep (by decide) (c_X8_isHere s_289 hM79 h)) ?_
          rintro _ M81 ⟨hM83, y82, rfl, z84, h⟩
          refine PW.if_ne (pc := 117) dX8_isOwnHere_117 (t := 142) (by decide) (fun hc => ?_) (fun hc => ?_)
          · have h := h.1 hc
            refine PW.iconst (pc := 142) dX8_isOwnHere_142 (v := 1) (by decide) ?_
            refine PW.goto (pc := 143) dX8_isOwnHere_143 (t := 147) (by decide) ?_
            exact PW.drop (c_X8_isOwnHere_147  _ _ hM83 h) ⟨rfl, trivial⟩
          · have h := h.2 hc
            refine PW.aload_n (pc := 120) dX8_isOwnHere_120 rfl ?_
            refine PW.aload_n (pc := 121) dX8_isOwnHere_121 rfl ?_
            refine PW.getR (pc := 122) dX8_isOwnHere_122 (r := 290) lf_X8_51 (ob hM83.1 s_277 (by decide)) fx_8_20 (oR_8_20 hM83 s_277) (pS_ne s_290) ?_
            refine PW.inv (m' := mX8_isHere) (pc := 125) dX8_isOwnHere_125 lm_X8_272 me_X8_isHere mi_X8_isHere (ob hM83.1 s_277 (by decide)) rfl (As := [.ref 290]) (st := []) rfl (Nat.le_of_ble_eq_true rfl) (Nat.le_of_ble_eq_true rfl) (Nat.le_of_eq hM83.1) (Nat.le_refl _) (PW.deep (by decide) (c_X8_isHere s_290 hM83 h)) ?_
            rintro _ M85 ⟨hM87, y86, rfl, z88, h⟩
            refine PW.if_ne (pc := 128) dX8_isOwnHere_128 (t := 142) (by decide) (fun hc => ?_) (fun hc => ?_)
            · have h := h.1 hc
              refine PW.iconst (pc := 142) dX8_isOwnHere_142 (v := 1) (by decide) ?_
              refine PW.goto (pc := 143) dX8_isOwnHere_143 (t := 147) (by decide) ?_
              exact PW.drop (c_X8_isOwnHere_147  _ _ hM87 h) ⟨rfl, trivial⟩
            · have h := h.2 hc
              refine PW.aload_n (pc := 131) dX8_isOwnHere_131 rfl ?_
              refine PW.aload_n (pc := 132) dX8_isOwnHere_132 rfl ?_
              refine PW.getR (pc := 133) dX8_isOwnHere_133 (r := 291) lf_X8_54 (ob hM87.1 s_277 (by decide)) fx_8_21 (oR_8_21 hM87 s_277) (pS_ne s_291) ?_
              refine PW.inv (m' := mX8_isHere) (pc := 136) dX8_isOwnHere_136 lm_X8_272 me_X8_isHere mi_X8_isHere (ob hM87.1 s_277 (by decide)) rfl (As := [.ref 291]) (st := []) rfl (Nat.le_of_ble_eq_true rfl) (Nat.le_of_ble_eq_true rfl) (Nat.le_of_eq hM87.1) (Nat.le_refl _) (PW.deep (by decide) (c_X8_isHere s_291 hM87 h)) ?_
              rintro _ M89 ⟨hM91, y90, rfl, z92, h⟩
              refine PW.if_eq (pc := 139) dX8_isOwnHere_139 (t := 146) (by decide) (fun hc => ?_) (fun hc => ?_)
              · have h := h.1 hc
                refine PW.iconst (pc := 146) dX8_isOwnHere_146 (v := 0) (by decide) ?_
                exact PW.drop (c_X8_isOwnHere_147  _ _ hM91 h) ⟨rfl, trivial⟩
              · have h := h.2 hc
                refine PW.iconst (pc := 142) dX8_isOwnHere_142 (v := 1) (by decide) ?_
                refine PW.goto (pc := 143) dX8_isOwnHere_143 (t := 147) (by decide) ?_
                exact PW.drop (c_X8_isOwnHere_147  _ _ hM91 h) ⟨rfl, trivial⟩
def w_X8_isOwnHere  (M : pm) (Q : Int32 → pm → Prop) : Prop := w_X8_isHere 280 M (fun y2 M1 => ((¬ y2 = 0 → (w_X8_isOwnHere_71 1 M1  Q)) ∧ (y2 = 0 → (w_X8_isHere 281 M1 (fun y94 M93 => ((¬ y94 = 0 → (w_X8_isOwnHere_71 1 M93  Q)) ∧ (y94 = 0 → (w_X8_isHere 282 M93 (fun y98 M97 => ((¬ y98 = 0 → (w_X8_isOwnHere_71 1 M97  Q)) ∧ (y98 = 0 → (w_X8_isHere 283 M97 (fun y102 M101 => ((¬ y102 = 0 → (w_X8_isOwnHere_71 1 M101  Q)) ∧ (y102 = 0 → (w_X8_isHere 284 M101 (fun y106 M105 => ((¬ y106 = 0 → (w_X8_isOwnHere_71 1 M105  Q)) ∧ (y106 = 0 → (w_X8_isHere 285 M105 (fun y110 M109 => ((y110 = 0 → (w_X8_isOwnHere_71 0 M109  Q)) ∧ (¬ y110 = 0 → (w_X8_isOwnHere_71 1 M109  Q))))))))))))))))))))))))
set_option maxRecDepth 4000 in
theorem c_X8_isOwnHere  {M : pm} {Q : Int32 → pm → Prop}  (hM : pG M) (h : w_X8_isOwnHere  M Q) : PW mX8_isOwnHere 3 350 0 (pfr mX8_isOwnHere.2.2.1 [.ref 277]) [] M (qZ Q) := by
  unfold w_X8_isOwnHere at h
  show PW mX8_isOwnHere 3 350 0 [.ref 277, .null] [] M (qZ Q)
  refine PW.aload_n (pc := 0) dX8_isOwnHere_0 rfl ?_
  refine PW.aload_n (pc := 1) dX8_isOwnHere_1 rfl ?_
  refine PW.getR (pc := 2) dX8_isOwnHere_2 (r := 280) lf_X8_20 (ob hM.1 s_277 (by decide)) fx_8_10 (oR_8_10 hM s_277) (pS_ne s_280) ?_
  refine PW.inv (m' := mX8_isHere) (pc := 5) dX8_isOwnHere_5 lm_X8_272 me_X8_isHere mi_X8_isHere (ob hM.1 s_277 (by decide)) rfl (As := [.ref 280]) (st := []) rfl (Nat.le_of_ble_eq_true rfl) (Nat.le_of_ble_eq_true rfl) (Nat.le_of_eq hM.1) (Nat.le_refl _) (PW.deep (by decide) (c_X8_isHere s_280 hM h)) ?_
  rintro _ M1 ⟨hM3, y2, rfl, z4, h⟩
  refine PW.if_ne (pc := 8) dX8_isOwnHere_8 (t := 66) (by decide) (fun hc => ?_) (fun hc => ?_)
  · have h := h.1 hc
    refine PW.iconst (pc := 66) dX8_isOwnHere_66 (v := 1) (by decide) ?_
    refine PW.goto (pc := 67) dX8_isOwnHere_67 (t := 71) (by decide) ?_
    exact PW.drop (c_X8_isOwnHere_71  _ _ hM3 h) ⟨rfl, trivial⟩
  · have h := h.2 hc
    refine PW.aload_n (pc := 11) dX8_isOwnHere_11 rfl ?_
    refine PW.aload_n (pc := 12) dX8_isOwnHere_12 rfl ?_
    refine PW.getR (pc := 13) dX8_isOwnHere_13 (r := 281) lf_X8_24 (ob hM3.1 s_277 (by decide)) fx_8_11 (oR_8_11 hM3 s_277) (pS_ne s_281) ?_
    refine PW.inv (m' := mX8_isHere) (pc := 16) dX8_isOwnHere_16 lm_X8_272 me_X8_isHere mi_X8_isHere (ob hM3.1 s_277 (by decide)) rfl (As := [.ref 281]) (st := []) rfl (Nat.le_of_ble_eq_true rfl) (Nat.le_of_ble_eq_true rfl) (Nat.le_of_eq hM3.1) (Nat.le_refl _) (PW.deep (by decide) (c_X8_isHere s_281 hM3 h)) ?_
    rintro _ M93 ⟨hM95, y94, rfl, z96, h⟩
    refine PW.if_ne (pc := 19) dX8_isOwnHere_19 (t := 66) (by decide) (fun hc => ?_) (fun hc => ?_)
    · have h := h.1 hc
      refine PW.iconst (pc := 66) dX8_isOwnHere_66 (v := 1) (by decide) ?_
      refine PW.goto (pc := 67) dX8_isOwnHere_67 (t := 71) (by decide) ?_
      exact PW.drop (c_X8_isOwnHere_71  _ _ hM95 h) ⟨rfl, trivial⟩
    · have h := h.2 hc
      refine PW.aload_n (pc := 22) dX8_isOwnHere_22 rfl ?_
      refine PW.aload_n (pc := 23) dX8_isOwnHere_23 rfl ?_
      refine PW.getR (pc := 24) dX8_isOwnHere_24 (r := 282) lf_X8_27 (ob hM95.1 s_277 (by decide)) fx_8_12 (oR_8_12 hM95 s_277) (pS_ne s_282) ?_
      refine PW.inv (m' := mX8_isHere) (pc := 27) dX8_isOwnHere_27 lm_X8_272 me_X8_isHere mi_X8_isHere (ob hM95.1 s_277 (by decide)) rfl (As := [.ref 282]) (st := []) rfl (Nat.le_of_ble_eq_true rfl) (Nat.le_of_ble_eq_true rfl) (Nat.le_of_eq hM95.1) (Nat.le_refl _) (PW.deep (by decide) (c_X8_isHere s_282 hM95 h)) ?_
      rintro _ M97 ⟨hM99, y98, rfl, z100, h⟩
      refine PW.if_ne (pc := 30) dX8_isOwnHere_30 (t := 66) (by decide) (fun hc => ?_) (fun hc => ?_)
      · have h := h.1 hc
        refine PW.iconst (pc := 66) dX8_isOwnHere_66 (v := 1) (by decide) ?_
        refine PW.goto (pc := 67) dX8_isOwnHere_67 (t := 71) (by decide) ?_
        exact PW.drop (c_X8_isOwnHere_71  _ _ hM99 h) ⟨rfl, trivial⟩
      · have h := h.2 hc
        refine PW.aload_n (pc := 33) dX8_isOwnHere_33 rfl ?_
        refine PW.aload_n (pc := 34) dX8_isOwnHere_34 rfl ?_
        refine PW.getR (pc := 35) dX8_isOwnHere_35 (r := 283) lf_X8_30 (ob hM99.1 s_277 (by decide)) fx_8_13 (oR_8_13 hM99 s_277) (pS_ne s_283) ?_
        refine PW.inv (m' := mX8_isHere) (pc := 38) dX8_isOwnHere_38 lm_X8_272 me_X8_isHere mi_X8_isHere (ob hM99.1 s_277 (by decide)) rfl (As := [.ref 283]) (st := []) rfl (Nat.le_of_ble_eq_true rfl) (Nat.le_of_ble_eq_true rfl) (Nat.le_of_eq hM99.1) (Nat.le_refl _) (PW.deep (by decide) (c_X8_isHere s_283 hM99 h)) ?_
        rintro _ M101 ⟨hM103, y102, rfl, z104, h⟩
        refine PW.if_ne (pc := 41) dX8_isOwnHere_41 (t := 66) (by decide) (fun hc => ?_) (fun hc => ?_)
        · have h := h.1 hc
          refine PW.iconst (pc := 66) dX8_isOwnHere_66 (v := 1) (by decide) ?_
          refine PW.goto (pc := 67) dX8_isOwnHere_67 (t := 71) (by decide) ?_
          exact PW.drop (c_X8_isOwnHere_71  _ _ hM103 h) ⟨rfl, trivial⟩
        · have h := h.2 hc
          refine PW.aload_n (pc := 44) dX8_isOwnHere_44 rfl ?_
          refine PW.aload_n (pc := 45) dX8_isOwnHere_45 rfl ?_
          refine PW.getR (pc := 46) dX8_isOwnHere_46 (r := 284) lf_X8_33 (ob hM103.1 s_277 (by decide)) fx_8_14 (oR_8_14 hM103 s_277) (pS_ne s_284) ?_
          refine PW.inv (m' := mX8_isHere) (pc := 49) dX8_isOwnHere_49 lm_X8_272 me_X8_isHere mi_X8_isHere (ob hM103.1 s_277 (by decide)) rfl (As := [.ref 284]) (st := []) rfl (Nat.le_of_ble_eq_true rfl) (Nat.le_of_ble_eq_true rfl) (Nat.le_of_eq hM103.1) (Nat.le_refl _) (PW.deep (by decide) (c_X8_isHere s_284 hM103 h)) ?_
          rintro _ M105 ⟨hM107, y106, rfl, z108, h⟩
          refine PW.if_ne (pc := 52) dX8_isOwnHere_52 (t := 66) (by decide) (fun hc => ?_) (fun hc => ?_)
          · have h := h.1 hc
            refine PW.iconst (pc := 66) dX8_isOwnHere_66 (v := 1) (by decide) ?_
            refine PW.goto (pc := 67) dX8_isOwnHere_67 (t := 71) (by decide) ?_
            exact PW.drop (c_X8_isOwnHere_71  _ _ hM107 h) ⟨rfl, trivial⟩
          · have h := h.2 hc
            refine PW.aload_n (pc := 55) dX8_isOwnHere_55 rfl ?_
            refine PW.aload_n (pc := 56) dX8_isOwnHere_56 rfl ?_
            refine PW.getR (pc := 57) dX8_isOwnHere_57 (r := 285) lf_X8_36 (ob hM107.1 s_277 (by decide)) fx_8_15 (oR_8_15 hM107 s_277) (pS_ne s_285) ?_
            refine PW.inv (m' := mX8_isHere) (pc := 60) dX8_isOwnHere_60 lm_X8_272 me_X8_isHere mi_X8_isHere (ob hM107.1 s_277 (by decide)) rfl (As := [.ref 285]) (st := []) rfl (Nat.le_of_ble_eq_true rfl) (Nat.le_of_ble_eq_true rfl) (Nat.le_of_eq hM107.1) (Nat.le_refl _) (PW.deep (by decide) (c_X8_isHere s_285 hM107 h)) ?_
            rintro _ M109 ⟨hM111, y110, rfl, z112, h⟩
            refine PW.if_eq (pc := 63) dX8_isOwnHere_63 (t := 70) (by decide) (fun hc => ?_) (fun hc => ?_)
            · have h := h.1 hc
              refine PW.iconst (pc := 70) dX8_isOwnHere_70 (v := 0) (by decide) ?_
              exact PW.drop (c_X8_isOwnHere_71  _ _ hM111 h) ⟨rfl, trivial⟩
            · have h := h.2 hc
              refine PW.iconst (pc := 66) dX8_isOwnHere_66 (v := 1) (by decide) ?_
              refine PW.goto (pc := 67) dX8_isOwnHere_67 (t := 71) (by decide) ?_
              exact PW.drop (c_X8_isOwnHere_71  _ _ hM111 h) ⟨rfl, trivial⟩
