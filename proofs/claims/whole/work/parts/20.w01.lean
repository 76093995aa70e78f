/-! methods, walked by program: w_ what must hold before, c_ its proof -/
def w_X1_valueOf_65  (a1 : Nat) (x2 : Int32) (x3 : Int32) (x4 : Int32) (x5 : Int32) (M : pm) (r : Nat → Int32 → Int32 → Int32 → pm → Prop)  (Q : Int32 → pm → Prop) : Prop := ((128 ≤ x3 → (r a1 x2 x3 (x4 + 1) M)) ∧ (¬ 128 ≤ x3 → ((10000 ≤ x5 → (w_X1_factOf (x5 - 10100) M (fun y5 M4 => vp_in x3 128 ∧ (r a1 x2 (x3 + 1) (x4 + 1) (sI M4 45 x3.toNatClampNeg y5))))) ∧ (¬ 10000 ≤ x5 → (vp_in x3 128 ∧ (r a1 x2 (x3 + 1) (x4 + 1) (sI M 45 x3.toNatClampNeg x5)))))))
set_option maxRecDepth 4000 in
theorem c_X1_valueOf_65 {r : Nat → Int32 → Int32 → Int32 → pm → Prop}  {Q : Int32 → pm → Prop} (hr : ∀ (a1 : Nat) (x2 : Int32) (x3 : Int32) (x4 : Int32) (M : pm), pS 2 a1 → pG M → r a1 x2 x3 x4 M → PW mX1_valueOf 3 350 21 [.ref 44, .ref a1, .int x2, .int x3, .int x4, .null, .null] [] M (qI Q)) : ∀ (a1 : Nat) (x2 : Int32) (x3 : Int32) (x4 : Int32) (x5 : Int32) (M : pm), pS 2 a1 → pG M → w_X1_valueOf_65 a1 x2 x3 x4 x5 M r Q → PW mX1_valueOf 3 350 65 [.ref 44, .ref a1, .int x2, .int x3, .int x4, .int x5, .null] [] M (qI Q) := by
  intro a1 x2 x3 x4 x5 M hs1 hM h
  unfold w_X1_valueOf_65 at h
  refine PW.iload_n (pc := 65) dX1_valueOf_65 rfl ?_
  refine PW.sipush (pc := 66) dX1_valueOf_66 (v := 128) (by decide) ?_
  refine PW.icmp_ge (pc := 69) dX1_valueOf_69 (t := 212) (by decide) (fun hc => ?_) (fun hc => ?_)
  · have h := h.1 hc
    refine PW.iinc (pc := 212) dX1_valueOf_212 (v := (x4 + 1)) (ls' := [.ref 44, .ref a1, .int x2, .int x3, .int (x4 + 1), .int x5, .null]) rfl rfl (by decide) rfl rfl ?_
    refine PW.goto (pc := 215) dX1_valueOf_215 (t := 21) (by decide) ?_
    exact PW.drop (hr _ _ _ _ _ hs1 hM h) ⟨rfl, rfl, rfl, rfl, rfl, trivial⟩
  · have h := h.2 hc
    refine PW.aload_n (pc := 72) dX1_valueOf_72 rfl ?_
    refine PW.getR (pc := 73) dX1_valueOf_73 (r := 45) lf_X1_11 (ob hM.1 s_44 (by decide)) fx_1_0 (oR_1_0 hM s_44) (pS_ne s_45) ?_
    refine PW.iload_n (pc := 76) dX1_valueOf_76 rfl ?_
    refine PW.iload (pc := 77) dX1_valueOf_77 rfl ?_
    refine PW.sipush (pc := 79) dX1_valueOf_79 (v := 10000) (by decide) ?_
    refine PW.icmp_ge (pc := 82) dX1_valueOf_82 (t := 90) (by decide) (fun hc => ?_) (fun hc => ?_)
    · have h := h.1 hc
      refine PW.aload_n (pc := 90) dX1_valueOf_90 rfl ?_
      refine PW.iload (pc := 91) dX1_valueOf_91 rfl ?_
      refine PW.sipush (pc := 93) dX1_valueOf_93 (v := 10100) (by decide) ?_
      refine PW.isub (pc := 96) dX1_valueOf_96 ?_
      refine PW.inv (m' := mX1_factOf) (pc := 97) dX1_valueOf_97 lm_X1_77 me_X1_factOf mi_X1_factOf (ob hM.1 s_44 (by decide)) rfl (As := [.int (x5 - 10100)]) (st := [.int x3, .ref 45]) rfl (Nat.le_of_ble_eq_true rfl) (Nat.le_of_ble_eq_true rfl) (Nat.le_of_eq hM.1) (Nat.le_refl _) (PW.deep (by decide) (c_X1_factOf  hM h)) ?_
      rintro _ M4 ⟨hM6, y5, rfl, h⟩
      obtain ⟨v7, h⟩ := h
      refine PW.iast (pc := 100) dX1_valueOf_100 (ar hM6.1 s_45) (vpl n_45 v7) ?_
      refine PW.iinc (pc := 101) dX1_valueOf_101 (v := (x3 + 1)) (ls' := [.ref 44, .ref a1, .int x2, .int (x3 + 1), .int x4, .int x5, .null]) rfl rfl (by decide) rfl rfl ?_
      refine PW.goto (pc := 104) dX1_valueOf_104 (t := 212) (by decide) ?_
      refine PW.iinc (pc := 212) dX1_valueOf_212 (v := (x4 + 1)) (ls' := [.ref 44, .ref a1, .int x2, .int (x3 + 1), .int (x4 + 1), .int x5, .null]) rfl rfl (by decide) rfl rfl ?_
      refine PW.goto (pc := 215) dX1_valueOf_215 (t := 21) (by decide) ?_
      exact PW.drop (hr _ _ _ _ _ hs1 (hM6.same rfl rfl) h) ⟨rfl, rfl, rfl, rfl, rfl, trivial⟩
    · have h := h.2 hc
      refine PW.iload (pc := 85) dX1_valueOf_85 rfl ?_
      refine PW.goto (pc := 87) dX1_valueOf_87 (t := 100) (by decide) ?_
      obtain ⟨v8, h⟩ := h
      refine PW.iast (pc := 100) dX1_valueOf_100 (ar hM.1 s_45) (vpl n_45 v8) ?_
      refine PW.iinc (pc := 101) dX1_valueOf_101 (v := (x3 + 1)) (ls' := [.ref 44, .ref a1, .int x2, .int (x3 + 1), .int x4, .int x5, .null]) rfl rfl (by decide) rfl rfl ?_
      refine PW.goto (pc := 104) dX1_valueOf_104 (t := 212) (by decide) ?_
      refine PW.iinc (pc := 212) dX1_valueOf_212 (v := (x4 + 1)) (ls' := [.ref 44, .ref a1, .int x2, .int (x3 + 1), .int (x4 + 1), .int x5, .null]) rfl rfl (by decide) rfl rfl ?_
      refine PW.goto (pc := 215) dX1_valueOf_215 (t := 21) (by decide) ?_
      exact PW.drop (hr _ _ _ _ _ hs1 (hM.same rfl rfl) h) ⟨rfl, rfl, rfl, rfl, rfl, trivial⟩
def w_X1_valueOf_146  (a1 : Nat) (x2 : Int32) (x3 : Int32) (x4 : Int32) (t0 : Int32) (M : pm) (r : Nat → Int32 → Int32 → Int32 → pm → Prop)  (Q : Int32 → pm → Prop) : Prop := vp_in (x3 - 1) 128 ∧ ((¬ (mI M 45 ((x3 - 1).toNatClampNeg)) = t0 → (vp_in (x3 - 1) 128 ∧ (r a1 x2 x3 (x4 + 1) (sI M 45 ((x3 - 1).toNatClampNeg) 0)))) ∧ ((mI M 45 ((x3 - 1).toNatClampNeg)) = t0 → (vp_in (x3 - 1) 128 ∧ (r a1 x2 x3 (x4 + 1) (sI M 45 ((x3 - 1).toNatClampNeg) 1)))))
set_option maxRecDepth 4000 in
theorem c_X1_valueOf_146 {r : Nat → Int32 → Int32 → Int32 → pm → Prop}  {Q : Int32 → pm → Prop} (hr : ∀ (a1 : Nat) (x2 : Int32) (x3 : Int32) (x4 : Int32) (M : pm), pS 2 a1 → pG M → r a1 x2 x3 x4 M → PW mX1_valueOf 3 350 21 [.ref 44, .ref a1, .int x2, .int x3, .int x4, .null, .null] [] M (qI Q)) : ∀ (a1 : Nat) (x2 : Int32) (x3 : Int32) (x4 : Int32) (t0 : Int32) (M : pm), pS 2 a1 → pG M → w_X1_valueOf_146 a1 x2 x3 x4 t0 M r Q → PW mX1_valueOf 3 350 146 [.ref 44, .ref a1, .int x2, .int x3, .int x4, .null, .null] [.int t0] M (qI Q) := by
  intro a1 x2 x3 x4 t0 M hs1 hM h
  unfold w_X1_valueOf_146 at h
  refine PW.istore (pc := 146) dX1_valueOf_146 (ls' := [.ref 44, .ref a1, .int x2, .int x3, .int x4, .null, .int t0]) (by decide) rfl rfl ?_
  refine PW.aload_n (pc := 148) dX1_valueOf_148 rfl ?_
  refine PW.getR (pc := 149) dX1_valueOf_149 (r := 45) lf_X1_11 (ob hM.1 s_44 (by decide)) fx_1_0 (oR_1_0 hM s_44) (pS_ne s_45) ?_
  refine PW.iload_n (pc := 152) dX1_valueOf_152 rfl ?_
  refine PW.iconst (pc := 153) dX1_valueOf_153 (v := 1) (by decide) ?_
  refine PW.isub (pc := 154) dX1_valueOf_154 ?_
  refine PW.aload_n (pc := 155) dX1_valueOf_155 rfl ?_
  refine PW.getR (pc := 156) dX1_valueOf_156 (r := 45) lf_X1_11 (ob hM.1 s_44 (by decide)) fx_1_0 (oR_1_0 hM s_44) (pS_ne s_45) ?_
  refine PW.iload_n (pc := 159) dX1_valueOf_159 rfl ?_
  refine PW.iconst (pc := 160) dX1_valueOf_160 (v := 1) (by decide) ?_
  refine PW.isub (pc := 161) dX1_valueOf_161 ?_
  obtain ⟨v9, h⟩ := h
  refine PW.iald (pc := 162) dX1_valueOf_162 (ar hM.1 s_45) (vpl n_45 v9) ?_
  refine PW.iload (pc := 163) dX1_valueOf_163 rfl ?_
  refine PW.icmp_ne (pc := 165) dX1_valueOf_165 (t := 172) (by decide) (fun hc => ?_) (fun hc => ?_)
  · have h := h.1 hc
    refine PW.iconst (pc := 172) dX1_valueOf_172 (v := 0) (by decide) ?_
    obtain ⟨v10, h⟩ := h
    refine PW.iast (pc := 173) dX1_valueOf_173 (ar hM.1 s_45) (vpl n_45 v10) ?_
    refine PW.goto (pc := 174) dX1_valueOf_174 (t := 212) (by decide) ?_
    refine PW.iinc (pc := 212) dX1_valueOf_212 (v := (x4 + 1)) (ls' := [.ref 44, .ref a1, .int x2, .int x3, .int (x4 + 1), .null, .int t0]) rfl rfl (by decide) rfl rfl ?_
    refine PW.goto (pc := 215) dX1_valueOf_215 (t := 21) (by decide) ?_
    exact PW.drop (hr _ _ _ _ _ hs1 (hM.same rfl rfl) h) ⟨rfl, rfl, rfl, rfl, rfl, trivial⟩
  · have h := h.2 hc
    refine PW.iconst (pc := 168) dX1_valueOf_168 (v := 1) (by decide) ?_
    refine PW.goto (pc := 169) dX1_valueOf_169 (t := 173) (by decide) ?_
    obtain ⟨v11, h⟩ := h
    refine PW.iast (pc := 173) dX1_valueOf_173 (ar hM.1 s_45) (vpl n_45 v11) ?_
    refine PW.goto (pc := 174) dX1_valueOf_174 (t := 212) (by decide) ?_
    refine PW.iinc (pc := 212) dX1_valueOf_212 (v := (x4 + 1)) (ls' := [.ref 44, .ref a1, .int x2, .int x3, .int (x4 + 1), .null, .int t0]) rfl rfl (by decide) rfl rfl ?_
    refine PW.goto (pc := 215) dX1_valueOf_215 (t := 21) (by decide) ?_
    exact PW.drop (hr _ _ _ _ _ hs1 (hM.same rfl rfl) h) ⟨rfl, rfl, rfl, rfl, rfl, trivial⟩
def w_X1_valueOf_123  (a1 : Nat) (x2 : Int32) (x3 : Int32) (x4 : Int32) (x5 : Int32) (M : pm) (r : Nat → Int32 → Int32 → Int32 → pm → Prop)  (Q : Int32 → pm → Prop) : Prop := ((x3 < 1 → (r a1 x2 x3 (x4 + 1) M)) ∧ (¬ x3 < 1 → ((¬ x5 = 10011 → (w_X1_valueOf_146 a1 x2 x3 x4 (mI M 46 5) M r Q)) ∧ (x5 = 10011 → (w_X1_valueOf_146 a1 x2 x3 x4 0 M r Q)))))
set_option maxRecDepth 4000 in
theorem c_X1_valueOf_123 {r : Nat → Int32 → Int32 → Int32 → pm → Prop}  {Q : Int32 → pm → Prop} (hr : ∀ (a1 : Nat) (x2 : Int32) (x3 : Int32) (x4 : Int32) (M : pm), pS 2 a1 → pG M → r a1 x2 x3 x4 M → PW mX1_valueOf 3 350 21 [.ref 44, .ref a1, .int x2, .int x3, .int x4, .null, .null] [] M (qI Q)) : ∀ (a1 : Nat) (x2 : Int32) (x3 : Int32) (x4 : Int32) (x5 : Int32) (M : pm), pS 2 a1 → pG M → w_X1_valueOf_123 a1 x2 x3 x4 x5 M r Q → PW mX1_valueOf 3 350 123 [.ref 44, .ref a1, .int x2, .int x3, .int x4, .int x5, .null] [] M (qI Q) := by
  intro a1 x2 x3 x4 x5 M hs1 hM h
  unfold w_X1_valueOf_123 at h
  refine PW.iload_n (pc := 123) dX1_valueOf_123 rfl ?_
  refine PW.iconst (pc := 124) dX1_valueOf_124 (v := 1) (by decide) ?_
  refine PW.icmp_lt (pc := 125) dX1_valueOf_125 (t := 212) (by decide) (fun hc => ?_) (fun hc => ?_)
  · have h := h.1 hc
    refine PW.iinc (pc := 212) dX1_valueOf_212 (v := (x4 + 1)) (ls' := [.ref 44, .ref a1, .int x2, .int x3, .int (x4 + 1), .int x5, .null]) rfl rfl (by decide) rfl rfl ?_
    refine PW.goto (pc := 215) dX1_valueOf_215 (t := 21) (by decide) ?_
    exact PW.drop (hr _ _ _ _ _ hs1 hM h) ⟨rfl, rfl, rfl, rfl, rfl, trivial⟩
  · have h := h.2 hc
    refine PW.iload (pc := 128) dX1_valueOf_128 rfl ?_
    refine PW.sipush (pc := 130) dX1_valueOf_130 (v := 10011) (by decide) ?_
    refine PW.icmp_ne (pc := 133) dX1_valueOf_133 (t := 140) (by decide) (fun hc => ?_) (fun hc => ?_)
    · have h := h.1 hc
      refine PW.aload_n (pc := 140) dX1_valueOf_140 rfl ?_
      refine PW.getR (pc := 141) dX1_valueOf_141 (r := 46) lf_X1_15 (ob hM.1 s_44 (by decide)) fx_1_1 (oR_1_1 hM s_44) (pS_ne s_46) ?_
      refine PW.iconst (pc := 144) dX1_valueOf_144 (v := 5) (by decide) ?_
      refine PW.iald (pc := 145) dX1_valueOf_145 (ar hM.1 s_46) (vpl n_46 (vp_c (i := 5) (n := 28) (by decide))) ?_
      exact PW.drop (c_X1_valueOf_146 hr _ _ _ _ _ _ hs1 hM h) ⟨rfl, rfl, rfl, rfl, rfl, trivial⟩
    · have h := h.2 hc
      refine PW.iconst (pc := 136) dX1_valueOf_136 (v := 0) (by decide) ?_
      refine PW.goto (pc := 137) dX1_valueOf_137 (t := 146) (by decide) ?_
      exact PW.drop (c_X1_valueOf_146 hr _ _ _ _ _ _ hs1 hM h) ⟨rfl, rfl, rfl, rfl, rfl, trivial⟩
def w_X1_valueOf_21 : Nat → Nat → Int32 → Int32 → Int32 → pm → (Int32 → pm → Prop) → Prop
  | 0, _, _, _, _, _, _ => False
  | n + 1, a1, x2, x3, x4, M, Q => vp_in x2 3 ∧ (((mI M (a1 + 3) x2.toNatClampNeg) ≤ x4 → ((x3 ≤ 0 → (Q 0 M)) ∧ (¬ x3 ≤ 0 → (Q (mI M 45 0) M)))) ∧ (¬ (mI M (a1 + 3) x2.toNatClampNeg) ≤ x4 → ((1600 ≤ x4 → ((x3 ≤ 0 → (Q 0 M)) ∧ (¬ x3 ≤ 0 → (Q (mI M 45 0) M)))) ∧ (¬ 1600 ≤ x4 → (vp_in x4 1600 ∧ (((mI M (a1 + 1) x4.toNatClampNeg) < 10000 → (w_X1_valueOf_65 a1 x2 x3 x4 (mI M (a1 + 1) x4.toNatClampNeg) M (fun a1 x2 x3 x4 M => w_X1_valueOf_21 n a1 x2 x3 x4 M  Q) Q)) ∧ (¬ (mI M (a1 + 1) x4.toNatClampNeg) < 10000 → (((mI M (a1 + 1) x4.toNatClampNeg) < 10100 → (((mI M (a1 + 1) x4.toNatClampNeg) = 10011 → (w_X1_valueOf_123 a1 x2 x3 x4 (mI M (a1 + 1) x4.toNatClampNeg) M (fun a1 x2 x3 x4 M => w_X1_valueOf_21 n a1 x2 x3 x4 M  Q) Q)) ∧ (¬ (mI M (a1 + 1) x4.toNatClampNeg) = 10011 → ((¬ (mI M (a1 + 1) x4.toNatClampNeg) = 10012 → ((x3 < 2 → (w_X1_valueOf_21 n a1 x2 x3 (x4 + 1) M Q)) ∧ (¬ x3 < 2 → (vp_in ((x3 + (-1)) - 1) 128 ∧ (vp_in (x3 + (-1)) 128 ∧ (w_X1_join (mI M (a1 + 1) x4.toNatClampNeg) (mI M 45 (((x3 + (-1)) - 1).toNatClampNeg)) (mI M 45 ((x3 + (-1)).toNatClampNeg)) M (fun y15 M14 => vp_in ((x3 + (-1)) - 1) 128 ∧ (w_X1_valueOf_21 n a1 x2 (x3 + (-1)) (x4 + 1) (sI M14 45 (((x3 + (-1)) - 1).toNatClampNeg) y15) Q)))))))) ∧ ((mI M (a1 + 1) x4.toNatClampNeg) = 10012 → (w_X1_valueOf_123 a1 x2 x3 x4 (mI M (a1 + 1) x4.toNatClampNeg) M (fun a1 x2 x3 x4 M => w_X1_valueOf_21 n a1 x2 x3 x4 M  Q) Q)))))) ∧ (¬ (mI M (a1 + 1) x4.toNatClampNeg) < 10100 → (w_X1_valueOf_65 a1 x2 x3 x4 (mI M (a1 + 1) x4.toNatClampNeg) M (fun a1 x2 x3 x4 M => w_X1_valueOf_21 n a1 x2 x3 x4 M  Q) Q))))))))))
set_option maxRecDepth 4000 in
theorem c_X1_valueOf_21  {Q : Int32 → pm → Prop}  : ∀ (n : Nat) (a1 : Nat) (x2 : Int32) (x3 : Int32) (x4 : Int32) (M : pm), pS 2 a1 → pG M → w_X1_valueOf_21 n a1 x2 x3 x4 M  Q → PW mX1_valueOf 3 350 21 [.ref 44, .ref a1, .int x2, .int x3, .int x4, .null, .null] [] M (qI Q) := by
  intro n
  induction n with
  | zero => intro a1 x2 x3 x4 M hs1 hM h; exact h.elim
  | succ n ih =>
    intro a1 x2 x3 x4 M hs1 hM h
    unfold w_X1_valueOf_21 at h
    refine PW.iload (pc := 21) dX1_valueOf_21 rfl ?_
    refine PW.aload_n (pc := 23) dX1_valueOf_23 rfl ?_
    refine PW.getR (pc := 24) dX1_valueOf_24 (r := (a1 + 3)) lf_X1_71 (ob hM.1 hs1 (by decide)) fx_2_3 (oR_2_3 hM hs1) (pS_ne (oS_2_3 hs1)) ?_
    refine PW.iload_n (pc := 27) dX1_valueOf_27 rfl ?_
    obtain ⟨v2, h⟩ := h
    refine PW.iald (pc := 28) dX1_valueOf_28 (ar hM.1 (oS_2_3 hs1)) (vpl (oN_2_3 hs1) v2) ?_
    refine PW.icmp_ge (pc := 29) dX1_valueOf_29 (t := 218) (by decide) (fun hc => ?_) (fun hc => ?_)
    · have h := h.1 hc
      refine PW.iload_n (pc := 218) dX1_valueOf_218 rfl ?_
      refine PW.if_le (pc := 219) dX1_valueOf_219 (t := 231) (by decide) (fun hc => ?_) (fun hc => ?_)
      · have h := h.1 hc
        refine PW.iconst (pc := 231) dX1_valueOf_231 (v := 0) (by decide) ?_
        exact PW.retI (pc := 232) dX1_valueOf_232 hM.1 rfl rfl ⟨hM, _, rfl, h⟩
      · have h := h.2 hc
        refine PW.aload_n (pc := 222) dX1_valueOf_222 rfl ?_
        refine PW.getR (pc := 223) dX1_valueOf_223 (r := 45) lf_X1_11 (ob hM.1 s_44 (by decide)) fx_1_0 (oR_1_0 hM s_44) (pS_ne s_45) ?_
        refine PW.iconst (pc := 226) dX1_valueOf_226 (v := 0) (by decide) ?_
        refine PW.iald (pc := 227) dX1_valueOf_227 (ar hM.1 s_45) (vpl n_45 (vp_c (i := 0) (n := 128) (by decide))) ?_
        refine PW.goto (pc := 228) dX1_valueOf_228 (t := 232) (by decide) ?_
        exact PW.retI (pc := 232) dX1_valueOf_232 hM.1 rfl rfl ⟨hM, _, rfl, h⟩
    · have h := h.2 hc
      refine PW.iload (pc := 32) dX1_valueOf_32 rfl ?_
      refine PW.sipush (pc := 34) dX1_valueOf_34 (v := 1600) (by decide) ?_
      refine PW.icmp_ge (pc := 37) dX1_valueOf_37 (t := 218) (by decide) (fun hc => ?_) (fun hc => ?_)
      · have h := h.1 hc
        refine PW.iload_n (pc := 218) dX1_valueOf_218 rfl ?_
        refine PW.if_le (pc := 219) dX1_valueOf_219 (t := 231) (by decide) (fun hc => ?_) (fun hc => ?_)
        · have h := h.1 hc
          refine PW.iconst (pc := 231) dX1_valueOf_231 (v := 0) (by decide) ?_
          exact PW.retI (pc := 232) dX1_valueOf_232 hM.1 rfl rfl ⟨hM, _, rfl, h⟩
        · have h := h.2 hc
          refine PW.aload_n (pc := 222) dX1_valueOf_222 rfl ?_
          refine PW.getR (pc := 223) dX1_valueOf_223 (r := 45) lf_X1_11 (ob hM.1 s_44 (by decide)) fx_1_0 (oR_1_0 hM s_44) (pS_ne s_45) ?_
          refine PW.iconst (pc := 226) dX1_valueOf_226 (v := 0) (by decide) ?_
          refine PW.iald (pc := 227) dX1_valueOf_227 (ar hM.1 s_45) (vpl n_45 (vp_c (i := 0) (n := 128) (by decide))) ?_
          refine PW.goto (pc := 228) dX1_valueOf_228 (t := 232) (by decide) ?_
          exact PW.retI (pc := 232) dX1_valueOf_232 hM.1 rfl rfl ⟨hM, _, rfl, h⟩
      · have h := h.2 hc
        refine PW.aload_n (pc := 40) dX1_valueOf_40 rfl ?_
        refine PW.getR (pc := 41) dX1_valueOf_41 (r := (a1 + 1)) lf_X1_74 (ob hM.1 hs1 (by decide)) fx_2_0 (oR_2_0 hM hs1) (pS_ne (oS_2_0 hs1)) ?_
        refine PW.iload (pc := 44) dX1_valueOf_44 rfl ?_
        obtain ⟨v3, h⟩ := h
        refine PW.iald (pc := 46) dX1_valueOf_46 (ar hM.1 (oS_2_0 hs1)) (vpl (oN_2_0 hs1) v3) ?_
        refine PW.istore (pc := 47) dX1_valueOf_47 (ls' := [.ref 44, .ref a1, .int x2, .int x3, .int x4, .int (mI M (a1 + 1) x4.toNatClampNeg), .null]) (by decide) rfl rfl ?_
        refine PW.iload (pc := 49) dX1_valueOf_49 rfl ?_
        refine PW.sipush (pc := 51) dX1_valueOf_51 (v := 10000) (by decide) ?_
        refine PW.icmp_lt (pc := 54) dX1_valueOf_54 (t := 65) (by decide) (fun hc => ?_) (fun hc => ?_)
        · have h := h.1 hc
          exact PW.drop (c_X1_valueOf_65 ih _ _ _ _ _ _ hs1 hM h) ⟨rfl, rfl, rfl, rfl, rfl, rfl, trivial⟩
        · have h := h.2 hc
          refine PW.iload (pc := 57) dX1_valueOf_57 rfl ?_
          refine PW.sipush (pc := 59) dX1_valueOf_59 (v := 10100) (by decide) ?_
          refine PW.icmp_lt (pc := 62) dX1_valueOf_62 (t := 107) (by decide) (fun hc => ?_) (fun hc => ?_)
          · have h := h.1 hc
            refine PW.iload (pc := 107) dX1_valueOf_107 rfl ?_
            refine PW.sipush (pc := 109) dX1_valueOf_109 (v := 10011) (by decide) ?_
            refine PW.icmp_eq (pc := 112) dX1_valueOf_112 (t := 123) (by decide) (fun hc => ?_) (fun hc => ?_)
            · have h := h.1 hc
              exact PW.drop (c_X1_valueOf_123 ih _ _ _ _ _ _ hs1 hM h) ⟨rfl, rfl, rfl, rfl, rfl, rfl, trivial⟩
            · have h := h.2 hc
              refine PW.iload (pc := 115) dX1_valueOf_115 rfl ?_
              refine PW.sipush (pc := 117) dX1_valueOf_117 (v := 10012) (by decide) ?_
              refine PW.icmp_ne (pc := 120) dX1_valueOf_120 (t := 177) (by decide) (fun hc => ?_) (fun hc => ?_)
              · have h := h.1 hc
                refine PW.iload_n (pc := 177) dX1_valueOf_177 rfl ?_
                refine PW.iconst (pc := 178) dX1_valueOf_178 (v := 2) (by decide) ?_
                refine PW.icmp_lt (pc := 179) dX1_valueOf_179 (t := 212) (by decide) (fun hc => ?_) (fun hc => ?_)
                · have h := h.1 hc
                  refine PW.iinc (pc := 212) dX1_valueOf_212 (v := (x4 + 1)) (ls' := [.ref 44, .ref a1, .int x2, .int x3, .int (x4 + 1), .int (mI M (a1 + 1) x4.toNatClampNeg), .null]) rfl rfl (by decide) rfl rfl ?_
                  refine PW.goto (pc := 215) dX1_valueOf_215 (t := 21) (by decide) ?_
                  exact PW.drop (ih _ _ _ _ _ hs1 hM h) ⟨rfl, rfl, rfl, rfl, rfl, trivial⟩
                · have h := h.2 hc
                  refine PW.iinc (pc := 182) dX1_valueOf_182 (v := (x3 + (-1))) (ls' := [.ref 44, .ref a1, .int x2, .int (x3 + (-1)), .int x4, .int (mI M (a1 + 1) x4.toNatClampNeg), .null]) rfl rfl (by decide) rfl rfl ?_
                  refine PW.aload_n (pc := 185) dX1_valueOf_185 rfl ?_
                  refine PW.getR (pc := 186) dX1_valueOf_186 (r := 45) lf_X1_11 (ob hM.1 s_44 (by decide)) fx_1_0 (oR_1_0 hM s_44) (pS_ne s_45) ?_
                  refine PW.iload_n (pc := 189) dX1_valueOf_189 rfl ?_
                  refine PW.iconst (pc := 190) dX1_valueOf_190 (v := 1) (by decide) ?_
                  refine PW.isub (pc := 191) dX1_valueOf_191 ?_
                  refine PW.iload (pc := 192) dX1_valueOf_192 rfl ?_
                  refine PW.aload_n (pc := 194) dX1_valueOf_194 rfl ?_
                  refine PW.getR (pc := 195) dX1_valueOf_195 (r := 45) lf_X1_11 (ob hM.1 s_44 (by decide)) fx_1_0 (oR_1_0 hM s_44) (pS_ne s_45) ?_
                  refine PW.iload_n (pc := 198) dX1_valueOf_198 rfl ?_
                  refine PW.iconst (pc := 199) dX1_valueOf_199 (v := 1) (by decide) ?_
                  refine PW.isub (pc := 200) dX1_valueOf_200 ?_
                  obtain ⟨v12, h⟩ := h
                  refine PW.iald (pc := 201) dX1_valueOf_201 (ar hM.1 s_45) (vpl n_45 v12) ?_
                  refine PW.aload_n (pc := 202) dX1_valueOf_202 rfl ?_
                  refine PW.getR (pc := 203) dX1_valueOf_203 (r := 45) lf_X1_11 (ob hM.1 s_44 (by decide)) fx_1_0 (oR_1_0 hM s_44) (pS_ne s_45) ?_
                  refine PW.iload_n (pc := 206) dX1_valueOf_206 rfl ?_
                  obtain ⟨v13, h⟩ := h
                  refine PW.iald (pc := 207) dX1_valueOf_207 (ar hM.1 s_45) (vpl n_45 v13) ?_
                  refine PW.ins (m' := mX1_join) (pc := 208) dX1_valueOf_208 lm_X1_80 me_X1_join ms_X1_join (As := [.int (mI M (a1 + 1) x4.toNatClampNeg), .int (mI M 45 (((x3 + (-1)) - 1).toNatClampNeg)), .int (mI M 45 ((x3 + (-1)).toNatClampNeg))]) (st := [.int ((x3 + (-1)) - 1), .ref 45]) rfl (Nat.le_of_ble_eq_true rfl) (Nat.le_of_ble_eq_true rfl) (Nat.le_of_eq hM.1) (Nat.le_refl _) (PW.deep (by decide) (c_X1_join  hM h)) ?_
                  rintro _ M14 ⟨hM16, y15, rfl, h⟩
                  obtain ⟨v17, h⟩ := h
                  refine PW.iast (pc := 211) dX1_valueOf_211 (ar hM16.1 s_45) (vpl n_45 v17) ?_
                  refine PW.iinc (pc := 212) dX1_valueOf_212 (v := (x4 + 1)) (ls' := [.ref 44, .ref a1, .int x2, .int (x3 + (-1)), .int (x4 + 1), .int (mI M (a1 + 1) x4.toNatClampNeg), .null]) rfl rfl (by decide) rfl rfl ?_
                  refine PW.goto (pc := 215) dX1_valueOf_215 (t := 21) (by decide) ?_
                  exact PW.drop (ih _ _ _ _ _ hs1 (hM16.same rfl rfl) h) ⟨rfl, rfl, rfl, rfl, rfl, trivial⟩
              · have h := h.2 hc
                exact PW.drop (c_X1_valueOf_123 ih _ _ _ _ _ _ hs1 hM h) ⟨rfl, rfl, rfl, rfl, rfl, rfl, trivial⟩
          · have h := h.2 hc
            exact PW.drop (c_X1_valueOf_65 ih _ _ _ _ _ _ hs1 hM h) ⟨rfl, rfl, rfl, rfl, rfl, rfl, trivial⟩
def w_X1_valueOf (a1 : Nat) (x2 : Int32) (M : pm) (Q : Int32 → pm → Prop) : Prop := ((x2 < 0 → (Q 0 M)) ∧ (¬ x2 < 0 → ((x2 < 3 → (vp_in x2 3 ∧ (∃ n18, w_X1_valueOf_21 n18 a1 x2 0 (mI M (a1 + 2) x2.toNatClampNeg) M  Q))) ∧ (¬ x2 < 3 → (Q 0 M)))))
set_option maxRecDepth 4000 in
theorem c_X1_valueOf {a1 : Nat} {x2 : Int32} {M : pm} {Q : Int32 → pm → Prop} (hs1 : pS 2 a1) (hM : pG M) (h : w_X1_valueOf a1 x2 M Q) : PW mX1_valueOf 3 350 0 (pfr mX1_valueOf.2.2.1 [.ref 44, .ref a1, .int x2]) [] M (qI Q) := by
  unfold w_X1_valueOf at h
  show PW mX1_valueOf 3 350 0 [.ref 44, .ref a1, .int x2, .null, .null, .null, .null] [] M (qI Q)
  refine PW.iload_n (pc := 0) dX1_valueOf_0 rfl ?_
  refine PW.if_lt (pc := 1) dX1_valueOf_1 (t := 9) (by decide) (fun hc => ?_) (fun hc => ?_)
  · have h := h.1 hc
    refine PW.iconst (pc := 9) dX1_valueOf_9 (v := 0) (by decide) ?_
    exact PW.retI (pc := 10) dX1_valueOf_10 hM.1 rfl rfl ⟨hM, _, rfl, h⟩
  · have h := h.2 hc
    refine PW.iload_n (pc := 4) dX1_valueOf_4 rfl ?_
    refine PW.iconst (pc := 5) dX1_valueOf_5 (v := 3) (by decide) ?_
    refine PW.icmp_lt (pc := 6) dX1_valueOf_6 (t := 11) (by decide) (fun hc => ?_) (fun hc => ?_)
    · have h := h.1 hc
      refine PW.iconst (pc := 11) dX1_valueOf_11 (v := 0) (by decide) ?_
      refine PW.istore_n (pc := 12) dX1_valueOf_12 (ls' := [.ref 44, .ref a1, .int x2, .int 0, .null, .null, .null]) (by decide) rfl rfl ?_
      refine PW.aload_n (pc := 13) dX1_valueOf_13 rfl ?_
      refine PW.getR (pc := 14) dX1_valueOf_14 (r := (a1 + 2)) lf_X1_66 (ob hM.1 hs1 (by decide)) fx_2_2 (oR_2_2 hM hs1) (pS_ne (oS_2_2 hs1)) ?_
      refine PW.iload_n (pc := 17) dX1_valueOf_17 rfl ?_
      obtain ⟨v1, h⟩ := h
      refine PW.iald (pc := 18) dX1_valueOf_18 (ar hM.1 (oS_2_2 hs1)) (vpl (oN_2_2 hs1) v1) ?_
      refine PW.istore (pc := 19) dX1_valueOf_19 (ls' := [.ref 44, .ref a1, .int x2, .int 0, .int (mI M (a1 + 2) x2.toNatClampNeg), .null, .null]) (by decide) rfl rfl ?_
      obtain ⟨n18, h⟩ := h
      refine PW.drop (c_X1_valueOf_21  n18 _ _ _ _ _ hs1 hM h) ⟨rfl, rfl, rfl, rfl, rfl, trivial⟩
    · have h := h.2 hc
      refine PW.iconst (pc := 9) dX1_valueOf_9 (v := 0) (by decide) ?_
      exact PW.retI (pc := 10) dX1_valueOf_10 hM.1 rfl rfl ⟨hM, _, rfl, h⟩
def w_X1_canPlay (a1 : Nat) (a2 : Nat) (x3 : Int32) (M : pm) (Q : Int32 → pm → Prop) : Prop := w_X4_isDead a2 x3 M (fun y2 M1 => ((y2 = 0 → (Q 0 M1)) ∧ (¬ y2 = 0 → (vp_in x3 8 ∧ ((¬ (mI M1 (a2 + 3) x3.toNatClampNeg) = 0 → (w_X1_lookAt a1 a2 x3 M1 (fun M6 => w_X1_valueOf (a1 + 10) 1 M6 (fun y10 M9 => ((y10 = 0 → (Q 0 M9)) ∧ (¬ y10 = 0 → (Q 1 M9))))))) ∧ ((mI M1 (a2 + 3) x3.toNatClampNeg) = 0 → (Q 0 M1)))))))
set_option maxRecDepth 4000 in
theorem c_X1_canPlay {a1 : Nat} {a2 : Nat} {x3 : Int32} {M : pm} {Q : Int32 → pm → Prop} (hs1 : pS 5 a1) (hs2 : pS 4 a2) (hM : pG M) (h : w_X1_canPlay a1 a2 x3 M Q) : PW mX1_canPlay 4 350 0 (pfr mX1_canPlay.2.2.1 [.ref 44, .ref a1, .ref a2, .int x3]) [] M (qZ Q) := by
  unfold w_X1_canPlay at h
  show PW mX1_canPlay 4 350 0 [.ref 44, .ref a1, .ref a2, .int x3] [] M (qZ Q)
  refine PW.aload_n (pc := 0) dX1_canPlay_0 rfl ?_
  refine PW.iload_n (pc := 1) dX1_canPlay_1 rfl ?_
  refine PW.inv (m' := mX4_isDead) (pc := 2) dX1_canPlay_2 lm_X1_62 me_X4_isDead mi_X4_isDead (ob hM.1 hs2 (by decide)) rfl (As := [.int x3]) (st := []) rfl (Nat.le_of_ble_eq_true rfl) (Nat.le_of_ble_eq_true rfl) (Nat.le_of_eq hM.1) (Nat.le_refl _) (PW.deep (by decide) (c_X4_isDead hs2 hM h)) ?_
  rintro _ M1 ⟨hM3, y2, rfl, z4, h⟩
  refine PW.if_eq (pc := 5) dX1_canPlay_5 (t := 17) (by decide) (fun hc => ?_) (fun hc => ?_)
  · have h := h.1 hc
    refine PW.iconst (pc := 17) dX1_canPlay_17 (v := 0) (by decide) ?_
    exact PW.retI (pc := 18) dX1_canPlay_18 hM3.1 rfl (bz_n bz0) ⟨hM3, _, rfl, bz0, h⟩
  · have h := h.2 hc
    refine PW.aload_n (pc := 8) dX1_canPlay_8 rfl ?_
    refine PW.getR (pc := 9) dX1_canPlay_9 (r := (a2 + 3)) lf_X1_37 (ob hM3.1 hs2 (by decide)) fx_4_4 (oR_4_4 hM3 hs2) (pS_ne (oS_4_4 hs2)) ?_
    refine PW.iload_n (pc := 12) dX1_canPlay_12 rfl ?_
    obtain ⟨v5, h⟩ := h
    refine PW.iald (pc := 13) dX1_canPlay_13 (ar hM3.1 (oS_4_4 hs2)) (vpl (oN_4_4 hs2) v5) ?_
    refine PW.if_ne (pc := 14) dX1_canPlay_14 (t := 19) (by decide) (fun hc => ?_) (fun hc => ?_)
    · have h := h.1 hc
      refine PW.aload_n (pc := 19) dX1_canPlay_19 rfl ?_
      refine PW.aload_n (pc := 20) dX1_canPlay_20 rfl ?_
      refine PW.aload_n (pc := 21) dX1_canPlay_21 rfl ?_
      refine PW.iload_n (pc := 22) dX1_canPlay_22 rfl ?_
      refine PW.inv (m' := mX1_lookAt) (pc := 23) dX1_canPlay_23 lm_X1_105 me_X1_lookAt mi_X1_lookAt (ob hM3.1 s_44 (by decide)) rfl (As := [.ref a1, .ref a2, .int x3]) (st := []) rfl (Nat.le_of_ble_eq_true rfl) (Nat.le_of_ble_eq_true rfl) (Nat.le_of_eq hM3.1) (Nat.le_refl _) (PW.deep (by decide) (c_X1_lookAt hs1 hs2 hM3 h)) ?_
      rintro _ M6 ⟨hM8, rfl, h⟩
      refine PW.aload_n (pc := 26) dX1_canPlay_26 rfl ?_
      refine PW.aload_n (pc := 27) dX1_canPlay_27 rfl ?_
      refine PW.getR (pc := 28) dX1_canPlay_28 (r := (a1 + 10)) lf_X1_109 (ob hM8.1 hs1 (by decide)) fx_5_16 (oR_5_16 hM8 hs1) (pS_ne (oS_5_16 hs1)) ?_
      refine PW.iconst (pc := 31) dX1_canPlay_31 (v := 1) (by decide) ?_
      refine PW.inv (m' := mX1_valueOf) (pc := 32) dX1_canPlay_32 lm_X1_113 me_X1_valueOf mi_X1_valueOf (ob hM8.1 s_44 (by decide)) rfl (As := [.ref (a1 + 10), .int 1]) (st := []) rfl (Nat.le_of_ble_eq_true rfl) (Nat.le_of_ble_eq_true rfl) (Nat.le_of_eq hM8.1) (Nat.le_refl _) (PW.deep (by decide) (c_X1_valueOf (oS_5_16 hs1) hM8 h)) ?_
      rintro _ M9 ⟨hM11, y10, rfl, h⟩
      refine PW.if_eq (pc := 35) dX1_canPlay_35 (t := 42) (by decide) (fun hc => ?_) (fun hc => ?_)
      · have h := h.1 hc
        refine PW.iconst (pc := 42) dX1_canPlay_42 (v := 0) (by decide) ?_
        exact PW.retI (pc := 43) dX1_canPlay_43 hM11.1 rfl (bz_n bz0) ⟨hM11, _, rfl, bz0, h⟩
      · have h := h.2 hc
        refine PW.iconst (pc := 38) dX1_canPlay_38 (v := 1) (by decide) ?_
        refine PW.goto (pc := 39) dX1_canPlay_39 (t := 43) (by decide) ?_
        exact PW.retI (pc := 43) dX1_canPlay_43 hM11.1 rfl (bz_n bz1) ⟨hM11, _, rfl, bz1, h⟩
    · have h := h.2 hc
      refine PW.iconst (pc := 17) dX1_canPlay_17 (v := 0) (by decide) ?_
      exact PW.retI (pc := 18) dX1_canPlay_18 hM3.1 rfl (bz_n bz0) ⟨hM3, _, rfl, bz0, h⟩
def w_X1_canBits_5 : Nat → Nat → Nat → Int32 → Int32 → pm → (Int32 → pm → Prop) → Prop
  | 0, _, _, _, _, _, _ => False
  | n + 1, a1, a2, x3, x4, M, Q => (((mI M a1 8) ≤ x4 → (Q x3 M)) ∧ (¬ (mI M a1 8) ≤ x4 → (w_X1_canPlay a1 a2 x4 M (fun y2 M1 => ((y2 = 0 → (w_X1_canBits_5 n a1 a2 x3 (x4 + 1) M1 Q)) ∧ (¬ y2 = 0 → (w_X1_canBits_5 n a1 a2 (x3 ||| (1 <<< (x4 &&& 31))) (x4 + 1) M1 Q)))))))
set_option maxRecDepth 4000 in
theorem c_X1_canBits_5  {Q : Int32 → pm → Prop}  : ∀ (n : Nat) (a1 : Nat) (a2 : Nat) (x3 : Int32) (x4 : Int32) (M : pm), pS 5 a1 → pS 4 a2 → pG M → w_X1_canBits_5 n a1 a2 x3 x4 M  Q → PW mX1_canBits 5 350 5 [.ref 44, .ref a1, .ref a2, .int x3, .int x4] [] M (qI Q) := by
  intro n
  induction n with
  | zero => intro a1 a2 x3 x4 M hs1 hs2 hM h; exact h.elim
  | succ n ih =>
    intro a1 a2 x3 x4 M hs1 hs2 hM h
    unfold w_X1_canBits_5 at h
    refine PW.iload (pc := 5) dX1_canBits_5 rfl ?_
    refine PW.aload_n (pc := 7) dX1_canBits_7 rfl ?_
    refine PW.getI (pc := 8) dX1_canBits_8 lf_X1_117 (ob hM.1 hs1 (by decide)) fx_5_8 ?_
    refine PW.icmp_ge (pc := 11) dX1_canBits_11 (t := 38) (by decide) (fun hc => ?_) (fun hc => ?_)
    · have h := h.1 hc
      refine PW.iload_n (pc := 38) dX1_canBits_38 rfl ?_
      exact PW.retI (pc := 39) dX1_canBits_39 hM.1 rfl rfl ⟨hM, _, rfl, h⟩
    · have h := h.2 hc
      refine PW.aload_n (pc := 14) dX1_canBits_14 rfl ?_
      refine PW.aload_n (pc := 15) dX1_canBits_15 rfl ?_
      refine PW.aload_n (pc := 16) dX1_canBits_16 rfl ?_
      refine PW.iload (pc := 17) dX1_canBits_17 rfl ?_
      refine PW.inv (m' := mX1_canPlay) (pc := 19) dX1_canBits_19 lm_X1_120 me_X1_canPlay mi_X1_canPlay (ob hM.1 s_44 (by decide)) rfl (As := [.ref a1, .ref a2, .int x4]) (st := []) rfl (Nat.le_of_ble_eq_true rfl) (Nat.le_of_ble_eq_true rfl) (Nat.le_of_eq hM.1) (Nat.le_refl _) (PW.deep (by decide) (c_X1_canPlay hs1 hs2 hM h)) ?_
      rintro _ M1 ⟨hM3, y2, rfl, z4, h⟩
      refine PW.if_eq (pc := 22) dX1_canBits_22 (t := 32) (by decide) (fun hc => ?_) (fun hc => ?_)
      · have h := h.1 hc
        refine PW.iinc (pc := 32) dX1_canBits_32 (v := (x4 + 1)) (ls' := [.ref 44, .ref a1, .ref a2, .int x3, .int (x4 + 1)]) rfl rfl (by decide) rfl rfl ?_
        refine PW.goto (pc := 35) dX1_canBits_35 (t := 5) (by decide) ?_
        exact PW.drop (ih _ _ _ _ _ hs1 hs2 hM3 h) ⟨rfl, rfl, rfl, rfl, rfl, trivial⟩
      · have h := h.2 hc
        refine PW.iload_n (pc := 25) dX1_canBits_25 rfl ?_
        refine PW.iconst (pc := 26) dX1_canBits_26 (v := 1) (by decide) ?_
        refine PW.iload (pc := 27) dX1_canBits_27 rfl ?_
        refine PW.ishl (pc := 29) dX1_canBits_29 ?_
        refine PW.ior (pc := 30) dX1_canBits_30 ?_
        refine PW.istore_n (pc := 31) dX1_canBits_31 (ls' := [.ref 44, .ref a1, .ref a2, .int (x3 ||| (1 <<< (x4 &&& 31))), .int x4]) (by decide) rfl rfl ?_
        refine PW.iinc (pc := 32) dX1_canBits_32 (v := (x4 + 1)) (ls' := [.ref 44, .ref a1, .ref a2, .int (x3 ||| (1 <<< (x4 &&& 31))), .int (x4 + 1)]) rfl rfl (by decide) rfl rfl ?_
        refine PW.goto (pc := 35) dX1_canBits_35 (t := 5) (by decide) ?_
        exact PW.drop (ih _ _ _ _ _ hs1 hs2 hM3 h) ⟨rfl, rfl, rfl, rfl, rfl, trivial⟩
def w_X1_canBits (a1 : Nat) (a2 : Nat) (M : pm) (Q : Int32 → pm → Prop) : Prop := ∃ n5, w_X1_canBits_5 n5 a1 a2 0 0 M  Q
set_option maxRecDepth 4000 in
theorem c_X1_canBits {a1 : Nat} {a2 : Nat} {M : pm} {Q : Int32 → pm → Prop} (hs1 : pS 5 a1) (hs2 : pS 4 a2) (hM : pG M) (h : w_X1_canBits a1 a2 M Q) : PW mX1_canBits 5 350 0 (pfr mX1_canBits.2.2.1 [.ref 44, .ref a1, .ref a2]) [] M (qI Q) := by
  unfold w_X1_canBits at h
  show PW mX1_canBits 5 350 0 [.ref 44, .ref a1, .ref a2, .null, .null] [] M (qI Q)
  refine PW.iconst (pc := 0) dX1_canBits_0 (v := 0) (by decide) ?_
  refine PW.istore_n (pc := 1) dX1_canBits_1 (ls' := [.ref 44, .ref a1, .ref a2, .int 0, .null]) (by decide) rfl rfl ?_
  refine PW.iconst (pc := 2) dX1_canBits_2 (v := 0) (by decide) ?_
  refine PW.istore (pc := 3) dX1_canBits_3 (ls' := [.ref 44, .ref a1, .ref a2, .int 0, .int 0]) (by decide) rfl rfl ?_
  obtain ⟨n5, h⟩ := h
  refine PW.drop (c_X1_canBits_5  n5 _ _ _ _ _ hs1 hs2 hM h) ⟨rfl, rfl, rfl, rfl, rfl, trivial⟩
def w_X1_worthOf (a1 : Nat) (a2 : Nat) (x3 : Int32) (M : pm) (Q : Int32 → pm → Prop) : Prop := w_X1_lookAt a1 a2 x3 M (fun M1 => w_X1_valueOf (a1 + 10) 2 M1 (fun y5 M4 => Q y5 M4))
set_option maxRecDepth 4000 in
theorem c_X1_worthOf {a1 : Nat} {a2 : Nat} {x3 : Int32} {M : pm} {Q : Int32 → pm → Prop} (hs1 : pS 5 a1) (hs2 : pS 4 a2) (hM : pG M) (h : w_X1_worthOf a1 a2 x3 M Q) : PW mX1_worthOf 4 350 0 (pfr mX1_worthOf.2.2.1 [.ref 44, .ref a1, .ref a2, .int x3]) [] M (qI Q) := by
  unfold w_X1_worthOf at h
  show PW mX1_worthOf 4 350 0 [.ref 44, .ref a1, .ref a2, .int x3] [] M (qI Q)
  refine PW.aload_n (pc := 0) dX1_worthOf_0 rfl ?_
  refine PW.aload_n (pc := 1) dX1_worthOf_1 rfl ?_
  refine PW.aload_n (pc := 2) dX1_worthOf_2 rfl ?_
  refine PW.iload_n (pc := 3) dX1_worthOf_3 rfl ?_
  refine PW.inv (m' := mX1_lookAt) (pc := 4) dX1_worthOf_4 lm_X1_105 me_X1_lookAt mi_X1_lookAt (ob hM.1 s_44 (by decide)) rfl (As := [.ref a1, .ref a2, .int x3]) (st := []) rfl (Nat.le_of_ble_eq_true rfl) (Nat.le_of_ble_eq_true rfl) (Nat.le_of_eq hM.1) (Nat.le_refl _) (PW.deep (by decide) (c_X1_lookAt hs1 hs2 hM h)) ?_
  rintro _ M1 ⟨hM3, rfl, h⟩
  refine PW.aload_n (pc := 7) dX1_worthOf_7 rfl ?_
  refine PW.aload_n (pc := 8) dX1_worthOf_8 rfl ?_
  refine PW.getR (pc := 9) dX1_worthOf_9 (r := (a1 + 10)) lf_X1_109 (ob hM3.1 hs1 (by decide)) fx_5_16 (oR_5_16 hM3 hs1) (pS_ne (oS_5_16 hs1)) ?_
  refine PW.iconst (pc := 12) dX1_worthOf_12 (v := 2) (by decide) ?_
  refine PW.inv (m' := mX1_valueOf) (pc := 13) dX1_worthOf_13 lm_X1_113 me_X1_valueOf mi_X1_valueOf (ob hM3.1 s_44 (by decide)) rfl (As := [.ref (a1 + 10), .int 2]) (st := []) rfl (Nat.le_of_ble_eq_true rfl) (Nat.le_of_ble_eq_true rfl) (Nat.le_of_eq hM3.1) (Nat.le_refl _) (PW.deep (by decide) (c_X1_valueOf (oS_5_16 hs1) hM3 h)) ?_
  rintro _ M4 ⟨hM6, y5, rfl, h⟩
  exact PW.retI (pc := 16) dX1_worthOf_16 hM6.1 rfl rfl ⟨hM6, _, rfl, h⟩
def w_X1_minutesOf_6 : Nat → Nat → Nat → Int32 → Int32 → Int32 → pm → (Int32 → pm → Prop) → Prop
  | 0, _, _, _, _, _, _, _ => False
  | n + 1, a1, a2, x3, x4, x5, M, Q => (((mI M a1 8) ≤ x5 → (Q x4 M)) ∧ (¬ (mI M a1 8) ≤ x5 → ((¬ ((x3 >>> (x5 &&& 31)) &&& 1) = 1 → (w_X1_minutesOf_6 n a1 a2 x3 x4 (x5 + 1) M Q)) ∧ (((x3 >>> (x5 &&& 31)) &&& 1) = 1 → (vp_in x5 8 ∧ (w_X5_longOf a1 (mI M (a2 + 1) x5.toNatClampNeg) M (fun y3 M2 => w_X1_minutesOf_6 n a1 a2 x3 (x4 + y3) (x5 + 1) M2 Q)))))))
set_option maxRecDepth 4000 in
theorem c_X1_minutesOf_6  {Q : Int32 → pm → Prop}  : ∀ (n : Nat) (a1 : Nat) (a2 : Nat) (x3 : Int32) (x4 : Int32) (x5 : Int32) (M : pm), pS 5 a1 → pS 4 a2 → pG M → w_X1_minutesOf_6 n a1 a2 x3 x4 x5 M  Q → PW mX1_minutesOf 2 350 6 [.ref 44, .ref a1, .ref a2, .int x3, .int x4, .int x5] [] M (qI Q) := by
  intro n
  induction n with
  | zero => intro a1 a2 x3 x4 x5 M hs1 hs2 hM h; exact h.elim
  | succ n ih =>
    intro a1 a2 x3 x4 x5 M hs1 hs2 hM h
    unfold w_X1_minutesOf_6 at h
    refine PW.iload (pc := 6) dX1_minutesOf_6 rfl ?_
    refine PW.aload_n (pc := 8) dX1_minutesOf_8 rfl ?_
    refine PW.getI (pc := 9) dX1_minutesOf_9 lf_X1_117 (ob hM.1 hs1 (by decide)) fx_5_8 ?_
    refine PW.icmp_ge (pc := 12) dX1_minutesOf_12 (t := 47) (by decide) (fun hc => ?_) (fun hc => ?_)
    · have h := h.1 hc
      refine PW.iload (pc := 47) dX1_minutesOf_47 rfl ?_
      exact PW.retI (pc := 49) dX1_minutesOf_49 hM.1 rfl rfl ⟨hM, _, rfl, h⟩
    · have h := h.2 hc
      refine PW.iload_n (pc := 15) dX1_minutesOf_15 rfl ?_
      refine PW.iload (pc := 16) dX1_minutesOf_16 rfl ?_
      refine PW.ishr (pc := 18) dX1_minutesOf_18 ?_
      refine PW.iconst (pc := 19) dX1_minutesOf_19 (v := 1) (by decide) ?_
      refine PW.iand (pc := 20) dX1_minutesOf_20 ?_
      refine PW.iconst (pc := 21) dX1_minutesOf_21 (v := 1) (by decide) ?_
      refine PW.icmp_ne (pc := 22) dX1_minutesOf_22 (t := 41) (by decide) (fun hc => ?_) (fun hc => ?_)
      · have h := h.1 hc
        refine PW.iinc (pc := 41) dX1_minutesOf_41 (v := (x5 + 1)) (ls' := [.ref 44, .ref a1, .ref a2, .int x3, .int x4, .int (x5 + 1)]) rfl rfl (by decide) rfl rfl ?_
        refine PW.goto (pc := 44) dX1_minutesOf_44 (t := 6) (by decide) ?_
        exact PW.drop (ih _ _ _ _ _ _ hs1 hs2 hM h) ⟨rfl, rfl, rfl, rfl, rfl, rfl, trivial⟩
      · have h := h.2 hc
        refine PW.iload (pc := 25) dX1_minutesOf_25 rfl ?_
        refine PW.aload_n (pc := 27) dX1_minutesOf_27 rfl ?_
        refine PW.aload_n (pc := 28) dX1_minutesOf_28 rfl ?_
        refine PW.getR (pc := 29) dX1_minutesOf_29 (r := (a2 + 1)) lf_X1_32 (ob hM.1 hs2 (by decide)) fx_4_2 (oR_4_2 hM hs2) (pS_ne (oS_4_2 hs2)) ?_
        refine PW.iload (pc := 32) dX1_minutesOf_32 rfl ?_
        obtain ⟨v1, h⟩ := h
        refine PW.iald (pc := 34) dX1_minutesOf_34 (ar hM.1 (oS_4_2 hs2)) (vpl (oN_4_2 hs2) v1) ?_
        refine PW.inv (m' := mX5_longOf) (pc := 35) dX1_minutesOf_35 lm_X1_54 me_X5_longOf mi_X5_longOf (ob hM.1 hs1 (by decide)) rfl (As := [.int (mI M (a2 + 1) x5.toNatClampNeg)]) (st := [.int x4]) rfl (Nat.le_of_ble_eq_true rfl) (Nat.le_of_ble_eq_true rfl) (Nat.le_of_eq hM.1) (Nat.le_refl _) (PW.deep (by decide) (c_X5_longOf hs1 hM h)) ?_
        rintro _ M2 ⟨hM4, y3, rfl, h⟩
        refine PW.iadd (pc := 38) dX1_minutesOf_38 ?_
        refine PW.istore (pc := 39) dX1_minutesOf_39 (ls' := [.ref 44, .ref a1, .ref a2, .int x3, .int (x4 + y3), .int x5]) (by decide) rfl rfl ?_
        refine PW.iinc (pc := 41) dX1_minutesOf_41 (v := (x5 + 1)) (ls' := [.ref 44, .ref a1, .ref a2, .int x3, .int (x4 + y3), .int (x5 + 1)]) rfl rfl (by decide) rfl rfl ?_
        refine PW.goto (pc := 44) dX1_minutesOf_44 (t := 6) (by decide) ?_
        exact PW.drop (ih _ _ _ _ _ _ hs1 hs2 hM4 h) ⟨rfl, rfl, rfl, rfl, rfl, rfl, trivial⟩
def w_X1_minutesOf (a1 : Nat) (a2 : Nat) (x3 : Int32) (M : pm) (Q : Int32 → pm → Prop) : Prop := ∃ n5, w_X1_minutesOf_6 n5 a1 a2 x3 0 0 M  Q
set_option maxRecDepth 4000 in
theorem c_X1_minutesOf {a1 : Nat} {a2 : Nat} {x3 : Int32} {M : pm} {Q : Int32 → pm → Prop} (hs1 : pS 5 a1) (hs2 : pS 4 a2) (hM : pG M) (h : w_X1_minutesOf a1 a2 x3 M Q) : PW mX1_minutesOf 2 350 0 (pfr mX1_minutesOf.2.2.1 [.ref 44, .ref a1, .ref a2, .int x3]) [] M (qI Q) := by
  unfold w_X1_minutesOf at h
  show PW mX1_minutesOf 2 350 0 [.ref 44, .ref a1, .ref a2, .int x3, .null, .null] [] M (qI Q)
  refine PW.iconst (pc := 0) dX1_minutesOf_0 (v := 0) (by decide) ?_
  refine PW.istore (pc := 1) dX1_minutesOf_1 (ls' := [.ref 44, .ref a1, .ref a2, .int x3, .int 0, .null]) (by decide) rfl rfl ?_
  refine PW.iconst (pc := 3) dX1_minutesOf_3 (v := 0) (by decide) ?_
  refine PW.istore (pc := 4) dX1_minutesOf_4 (ls' := [.ref 44, .ref a1, .ref a2, .int x3, .int 0, .int 0]) (by decide) rfl rfl ?_
  obtain ⟨n5, h⟩ := h
  refine PW.drop (c_X1_minutesOf_6  n5 _ _ _ _ _ _ hs1 hs2 hM h) ⟨rfl, rfl, rfl, rfl, rfl, rfl, trivial⟩
def w_X1_addToSets_3 : Nat → Int32 → Int32 → Int32 → Int32 → pm → (pm → Prop) → Prop
  | 0, _, _, _, _, _, _ => False
  | n + 1, x1, x2, x3, x4, M, Q => ((x1 ≤ x4 → (Q M)) ∧ (¬ x1 ≤ x4 → ((256 ≤ (x1 + x4) → (Q M)) ∧ (¬ 256 ≤ (x1 + x4) → (vp_in x4 256 ∧ (vp_in (x1 + x4) 256 ∧ (vp_in x4 256 ∧ (vp_in (x1 + x4) 256 ∧ (w_X1_addToSets_3 n x1 x2 x3 (x4 + 1) (sI (sI M 48 ((x1 + x4).toNatClampNeg) ((mI M 48 x4.toNatClampNeg) + x2)) 49 ((x1 + x4).toNatClampNeg) ((mI M 49 x4.toNatClampNeg) + x3)) Q)))))))))
set_option maxRecDepth 4000 in
theorem c_X1_addToSets_3  {Q : pm → Prop}  : ∀ (n : Nat) (x1 : Int32) (x2 : Int32) (x3 : Int32) (x4 : Int32) (M : pm), pG M → w_X1_addToSets_3 n x1 x2 x3 x4 M  Q → PW mX1_addToSets 1 350 3 [.ref 44, .int x1, .int x2, .int x3, .int x4] [] M (qV Q) := by
  intro n
  induction n with
  | zero => intro x1 x2 x3 x4 M hM h; exact h.elim
  | succ n ih =>
    intro x1 x2 x3 x4 M hM h
    unfold w_X1_addToSets_3 at h
    refine PW.iload (pc := 3) dX1_addToSets_3 rfl ?_
    refine PW.iload_n (pc := 5) dX1_addToSets_5 rfl ?_
    refine PW.icmp_ge (pc := 6) dX1_addToSets_6 (t := 61) (by decide) (fun hc => ?_) (fun hc => ?_)
    · have h := h.1 hc
      exact PW.ret0 (pc := 61) dX1_addToSets_61 hM.1 rfl ⟨hM, rfl, h⟩
    · have h := h.2 hc
      refine PW.iload_n (pc := 9) dX1_addToSets_9 rfl ?_
      refine PW.iload (pc := 10) dX1_addToSets_10 rfl ?_
      refine PW.iadd (pc := 12) dX1_addToSets_12 ?_
      refine PW.sipush (pc := 13) dX1_addToSets_13 (v := 256) (by decide) ?_
      refine PW.icmp_ge (pc := 16) dX1_addToSets_16 (t := 61) (by decide) (fun hc => ?_) (fun hc => ?_)
      · have h := h.1 hc
        exact PW.ret0 (pc := 61) dX1_addToSets_61 hM.1 rfl ⟨hM, rfl, h⟩
      · have h := h.2 hc
        refine PW.aload_n (pc := 19) dX1_addToSets_19 rfl ?_
        refine PW.getR (pc := 20) dX1_addToSets_20 (r := 48) lf_X1_21 (ob hM.1 s_44 (by decide)) fx_1_3 (oR_1_3 hM s_44) (pS_ne s_48) ?_
        refine PW.iload_n (pc := 23) dX1_addToSets_23 rfl ?_
        refine PW.iload (pc := 24) dX1_addToSets_24 rfl ?_
        refine PW.iadd (pc := 26) dX1_addToSets_26 ?_
        refine PW.aload_n (pc := 27) dX1_addToSets_27 rfl ?_
        refine PW.getR (pc := 28) dX1_addToSets_28 (r := 48) lf_X1_21 (ob hM.1 s_44 (by decide)) fx_1_3 (oR_1_3 hM s_44) (pS_ne s_48) ?_
        refine PW.iload (pc := 31) dX1_addToSets_31 rfl ?_
        obtain ⟨v1, h⟩ := h
        refine PW.iald (pc := 33) dX1_addToSets_33 (ar hM.1 s_48) (vpl n_48 v1) ?_
        refine PW.iload_n (pc := 34) dX1_addToSets_34 rfl ?_
        refine PW.iadd (pc := 35) dX1_addToSets_35 ?_
        obtain ⟨v2, h⟩ := h
        refine PW.iast (pc := 36) dX1_addToSets_36 (ar hM.1 s_48) (vpl n_48 v2) ?_
        refine PW.aload_n (pc := 37) dX1_addToSets_37 rfl ?_
        refine PW.getR (pc := 38) dX1_addToSets_38 (r := 49) lf_X1_24 (ob hM.1 s_44 (by decide)) fx_1_4 (oR_1_4 (hM.same rfl rfl) s_44) (pS_ne s_49) ?_
        refine PW.iload_n (pc := 41) dX1_addToSets_41 rfl ?_
        refine PW.iload (pc := 42) dX1_addToSets_42 rfl ?_
        refine PW.iadd (pc := 44) dX1_addToSets_44 ?_
        refine PW.aload_n (pc := 45) dX1_addToSets_45 rfl ?_
        refine PW.getR (pc := 46) dX1_addToSets_46 (r := 49) lf_X1_24 (ob hM.1 s_44 (by decide)) fx_1_4 (oR_1_4 (hM.same rfl rfl) s_44) (pS_ne s_49) ?_
        refine PW.iload (pc := 49) dX1_addToSets_49 rfl ?_
        obtain ⟨v3, h⟩ := h
        refine PW.iald (pc := 51) dX1_addToSets_51 (ar hM.1 s_49) (vpl n_49 v3) ?_
        refine PW.iload_n (pc := 52) dX1_addToSets_52 rfl ?_
        refine PW.iadd (pc := 53) dX1_addToSets_53 ?_
        obtain ⟨v4, h⟩ := h
        refine PW.iast (pc := 54) dX1_addToSets_54 (ar hM.1 s_49) (vpl n_49 v4) ?_
        refine PW.iinc (pc := 55) dX1_addToSets_55 (v := (x4 + 1)) (ls' := [.ref 44, .int x1, .int x2, .int x3, .int (x4 + 1)]) rfl rfl (by decide) rfl rfl ?_
        refine PW.goto (pc := 58) dX1_addToSets_58 (t := 3) (by decide) ?_
        exact PW.drop (ih _ _ _ _ _ (hM.same rfl rfl) h) ⟨rfl, rfl, rfl, rfl, rfl, trivial⟩
def w_X1_addToSets (x1 : Int32) (x2 : Int32) (x3 : Int32) (M : pm) (Q : pm → Prop) : Prop := ∃ n5, w_X1_addToSets_3 n5 x1 x2 x3 0 M  Q
set_option maxRecDepth 4000 in
theorem c_X1_addToSets {x1 : Int32} {x2 : Int32} {x3 : Int32} {M : pm} {Q : pm → Prop}  (hM : pG M) (h : w_X1_addToSets x1 x2 x3 M Q) : PW mX1_addToSets 1 350 0 (pfr mX1_addToSets.2.2.1 [.ref 44, .int x1, .int x2, .int x3]) [] M (qV Q) := by
  unfold w_X1_addToSets at h
  show PW mX1_addToSets 1 350 0 [.ref 44, .int x1, .int x2, .int x3, .null] [] M (qV Q)
  refine PW.iconst (pc := 0) dX1_addToSets_0 (v := 0) (by decide) ?_
  refine PW.istore (pc := 1) dX1_addToSets_1 (ls' := [.ref 44, .int x1, .int x2, .int x3, .int 0]) (by decide) rfl rfl ?_
  obtain ⟨n5, h⟩ := h
  refine PW.drop (c_X1_addToSets_3  n5 _ _ _ _ _ hM h) ⟨rfl, rfl, rfl, rfl, rfl, trivial⟩
def w_X1_gather_19 : Nat → Nat → Nat → Int32 → Int32 → pm → (Int32 → pm → Prop) → Prop
  | 0, _, _, _, _, _, _ => False
  | n + 1, a1, a2, x3, x4, M, Q => (((mI M a1 8) ≤ x4 → (Q x3 M)) ∧ (¬ (mI M a1 8) ≤ x4 → ((8 ≤ x4 → (Q x3 M)) ∧ (¬ 8 ≤ x4 → (w_X1_canPlay a1 a2 x4 M (fun y2 M1 => ((y2 = 0 → (w_X1_gather_19 n a1 a2 x3 (x4 + 1) M1 Q)) ∧ (¬ y2 = 0 → (vp_in x3 8 ∧ (vp_in x4 8 ∧ (w_X5_longOf a1 (mI (sI M1 47 x3.toNatClampNeg x4) (a2 + 1) x4.toNatClampNeg) (sI M1 47 x3.toNatClampNeg x4) (fun y8 M7 => w_X1_worthOf a1 a2 x4 M7 (fun y11 M10 => w_X1_addToSets (1 <<< (x3 &&& 31)) y8 y11 M10 (fun M13 => w_X1_gather_19 n a1 a2 (x3 + 1) (x4 + 1) M13 Q))))))))))))))
set_option maxRecDepth 4000 in
theorem c_X1_gather_19  {Q : Int32 → pm → Prop}  : ∀ (n : Nat) (a1 : Nat) (a2 : Nat) (x3 : Int32) (x4 : Int32) (M : pm), pS 5 a1 → pS 4 a2 → pG M → w_X1_gather_19 n a1 a2 x3 x4 M  Q → PW mX1_gather 5 350 19 [.ref 44, .ref a1, .ref a2, .int x3, .int x4] [] M (qI Q) := by
  intro n
  induction n with
  | zero => intro a1 a2 x3 x4 M hs1 hs2 hM h; exact h.elim
  | succ n ih =>
    intro a1 a2 x3 x4 M hs1 hs2 hM h
    unfold w_X1_gather_19 at h
    refine PW.iload (pc := 19) dX1_gather_19 rfl ?_
    refine PW.aload_n (pc := 21) dX1_gather_21 rfl ?_
    refine PW.getI (pc := 22) dX1_gather_22 lf_X1_117 (ob hM.1 hs1 (by decide)) fx_5_8 ?_
    refine PW.icmp_ge (pc := 25) dX1_gather_25 (t := 89) (by decide) (fun hc => ?_) (fun hc => ?_)
    · have h := h.1 hc
      refine PW.iload_n (pc := 89) dX1_gather_89 rfl ?_
      exact PW.retI (pc := 90) dX1_gather_90 hM.1 rfl rfl ⟨hM, _, rfl, h⟩
    · have h := h.2 hc
      refine PW.iload (pc := 28) dX1_gather_28 rfl ?_
      refine PW.bipush (pc := 30) dX1_gather_30 (v := 8) (by decide) ?_
      refine PW.icmp_ge (pc := 32) dX1_gather_32 (t := 89) (by decide) (fun hc => ?_) (fun hc => ?_)
      · have h := h.1 hc
        refine PW.iload_n (pc := 89) dX1_gather_89 rfl ?_
        exact PW.retI (pc := 90) dX1_gather_90 hM.1 rfl rfl ⟨hM, _, rfl, h⟩
      · have h := h.2 hc
        refine PW.aload_n (pc := 35) dX1_gather_35 rfl ?_
        refine PW.aload_n (pc := 36) dX1_gather_36 rfl ?_
        refine PW.aload_n (pc := 37) dX1_gather_37 rfl ?_
        refine PW.iload (pc := 38) dX1_gather_38 rfl ?_
        refine PW.inv (m' := mX1_canPlay) (pc := 40) dX1_gather_40 lm_X1_120 me_X1_canPlay mi_X1_canPlay (ob hM.1 s_44 (by decide)) rfl (As := [.ref a1, .ref a2, .int x4]) (st := []) rfl (Nat.le_of_ble_eq_true rfl) (Nat.le_of_ble_eq_true rfl) (Nat.le_of_eq hM.1) (Nat.le_refl _) (PW.deep (by decide) (c_X1_canPlay hs1 hs2 hM h)) ?_
        rintro _ M1 ⟨hM3, y2, rfl, z4, h⟩
        refine PW.if_eq (pc := 43) dX1_gather_43 (t := 83) (by decide) (fun hc => ?_) (fun hc => ?_)
        · have h := h.1 hc
          refine PW.iinc (pc := 83) dX1_gather_83 (v := (x4 + 1)) (ls' := [.ref 44, .ref a1, .ref a2, .int x3, .int (x4 + 1)]) rfl rfl (by decide) rfl rfl ?_
          refine PW.goto (pc := 86) dX1_gather_86 (t := 19) (by decide) ?_
          exact PW.drop (ih _ _ _ _ _ hs1 hs2 hM3 h) ⟨rfl, rfl, rfl, rfl, rfl, trivial⟩
        · have h := h.2 hc
          refine PW.aload_n (pc := 46) dX1_gather_46 rfl ?_
          refine PW.getR (pc := 47) dX1_gather_47 (r := 47) lf_X1_18 (ob hM3.1 s_44 (by decide)) fx_1_2 (oR_1_2 hM3 s_44) (pS_ne s_47) ?_
          refine PW.iload_n (pc := 50) dX1_gather_50 rfl ?_
          refine PW.iload (pc := 51) dX1_gather_51 rfl ?_
          obtain ⟨v5, h⟩ := h
          refine PW.iast (pc := 53) dX1_gather_53 (ar hM3.1 s_47) (vpl n_47 v5) ?_
          refine PW.aload_n (pc := 54) dX1_gather_54 rfl ?_
          refine PW.iconst (pc := 55) dX1_gather_55 (v := 1) (by decide) ?_
          refine PW.iload_n (pc := 56) dX1_gather_56 rfl ?_
          refine PW.ishl (pc := 57) dX1_gather_57 ?_
          refine PW.aload_n (pc := 58) dX1_gather_58 rfl ?_
          refine PW.aload_n (pc := 59) dX1_gather_59 rfl ?_
          refine PW.getR (pc := 60) dX1_gather_60 (r := (a2 + 1)) lf_X1_32 (ob hM3.1 hs2 (by decide)) fx_4_2 (oR_4_2 (hM3.same rfl rfl) hs2) (pS_ne (oS_4_2 hs2)) ?_
          refine PW.iload (pc := 63) dX1_gather_63 rfl ?_
          obtain ⟨v6, h⟩ := h
          refine PW.iald (pc := 65) dX1_gather_65 (ar hM3.1 (oS_4_2 hs2)) (vpl (oN_4_2 hs2) v6) ?_
          refine PW.inv (m' := mX5_longOf) (pc := 66) dX1_gather_66 lm_X1_54 me_X5_longOf mi_X5_longOf (ob hM3.1 hs1 (by decide)) rfl (As := [.int (mI (sI M1 47 x3.toNatClampNeg x4) (a2 + 1) x4.toNatClampNeg)]) (st := [.int (1 <<< (x3 &&& 31)), .ref 44]) rfl (Nat.le_of_ble_eq_true rfl) (Nat.le_of_ble_eq_true rfl) (Nat.le_of_eq hM3.1) (Nat.le_refl _) (PW.deep (by decide) (c_X5_longOf hs1 (hM3.same rfl rfl) h)) ?_
          rintro _ M7 ⟨hM9, y8, rfl, h⟩
          refine PW.aload_n (pc := 69) dX1_gather_69 rfl ?_
          refine PW.aload_n (pc := 70) dX1_gather_70 rfl ?_
          refine PW.aload_n (pc := 71) dX1_gather_71 rfl ?_
          refine PW.iload (pc := 72) dX1_gather_72 rfl ?_
          refine PW.inv (m' := mX1_worthOf) (pc := 74) dX1_gather_74 lm_X1_124 me_X1_worthOf mi_X1_worthOf (ob hM9.1 s_44 (by decide)) rfl (As := [.ref a1, .ref a2, .int x4]) (st := [.int y8, .int (1 <<< (x3 &&& 31)), .ref 44]) rfl (Nat.le_of_ble_eq_true rfl) (Nat.le_of_ble_eq_true rfl) (Nat.le_of_eq hM9.1) (Nat.le_refl _) (PW.deep (by decide) (c_X1_worthOf hs1 hs2 hM9 h)) ?_
          rintro _ M10 ⟨hM12, y11, rfl, h⟩
          refine PW.inv (m' := mX1_addToSets) (pc := 77) dX1_gather_77 lm_X1_128 me_X1_addToSets mi_X1_addToSets (ob hM12.1 s_44 (by decide)) rfl (As := [.int (1 <<< (x3 &&& 31)), .int y8, .int y11]) (st := []) rfl (Nat.le_of_ble_eq_true rfl) (Nat.le_of_ble_eq_true rfl) (Nat.le_of_eq hM12.1) (Nat.le_refl _) (PW.deep (by decide) (c_X1_addToSets  hM12 h)) ?_
          rintro _ M13 ⟨hM15, rfl, h⟩
          refine PW.iinc (pc := 80) dX1_gather_80 (v := (x3 + 1)) (ls' := [.ref 44, .ref a1, .ref a2, .int (x3 + 1), .int x4]) rfl rfl (by decide) rfl rfl ?_
          refine PW.iinc (pc := 83) dX1_gather_83 (v := (x4 + 1)) (ls' := [.ref 44, .ref a1, .ref a2, .int (x3 + 1), .int (x4 + 1)]) rfl rfl (by decide) rfl rfl ?_
          refine PW.goto (pc := 86) dX1_gather_86 (t := 19) (by decide) ?_
          exact PW.drop (ih _ _ _ _ _ hs1 hs2 hM15 h) ⟨rfl, rfl, rfl, rfl, rfl, trivial⟩
def w_X1_gather (a1 : Nat) (a2 : Nat) (M : pm) (Q : Int32 → pm → Prop) : Prop := ∃ n16, w_X1_gather_19 n16 a1 a2 0 0 (sI (sI M 48 0 0) 49 0 0)  Q
set_option maxRecDepth 4000 in
theorem c_X1_gather {a1 : Nat} {a2 : Nat} {M : pm} {Q : Int32 → pm → Prop} (hs1 : pS 5 a1) (hs2 : pS 4 a2) (hM : pG M) (h : w_X1_gather a1 a2 M Q) : PW mX1_gather 5 350 0 (pfr mX1_gather.2.2.1 [.ref 44, .ref a1, .ref a2]) [] M (qI Q) := by
  unfold w_X1_gather at h
  show PW mX1_gather 5 350 0 [.ref 44, .ref a1, .ref a2, .null, .null] [] M (qI Q)
  refine PW.iconst (pc := 0) dX1_gather_0 (v := 0) (by decide) ?_
  refine PW.istore_n (pc := 1) dX1_gather_1 (ls' := [.ref 44, .ref a1, .ref a2, .int 0, .null]) (by decide) rfl rfl ?_
  refine PW.aload_n (pc := 2) dX1_gather_2 rfl ?_
  refine PW.getR (pc := 3) dX1_gather_3 (r := 48) lf_X1_21 (ob hM.1 s_44 (by decide)) fx_1_3 (oR_1_3 hM s_44) (pS_ne s_48) ?_
  refine PW.iconst (pc := 6) dX1_gather_6 (v := 0) (by decide) ?_
  refine PW.iconst (pc := 7) dX1_gather_7 (v := 0) (by decide) ?_
  refine PW.iast (pc := 8) dX1_gather_8 (ar hM.1 s_48) (vpl n_48 (vp_c (i := 0) (n := 256) (by decide))) ?_
  refine PW.aload_n (pc := 9) dX1_gather_9 rfl ?_
  refine PW.getR (pc := 10) dX1_gather_10 (r := 49) lf_X1_24 (ob hM.1 s_44 (by decide)) fx_1_4 (oR_1_4 (hM.same rfl rfl) s_44) (pS_ne s_49) ?_
  refine PW.iconst (pc := 13) dX1_gather_13 (v := 0) (by decide) ?_
  refine PW.iconst (pc := 14) dX1_gather_14 (v := 0) (by decide) ?_
  refine PW.iast (pc := 15) dX1_gather_15 (ar hM.1 s_49) (vpl n_49 (vp_c (i := 0) (n := 256) (by decide))) ?_
  refine PW.iconst (pc := 16) dX1_gather_16 (v := 0) (by decide) ?_
  refine PW.istore (pc := 17) dX1_gather_17 (ls' := [.ref 44, .ref a1, .ref a2, .int 0, .int 0]) (by decide) rfl rfl ?_
  obtain ⟨n16, h⟩ := h
  refine PW.drop (c_X1_gather_19  n16 _ _ _ _ _ hs1 hs2 (hM.same rfl rfl) h) ⟨rfl, rfl, rfl, rfl, rfl, trivial⟩
def w_X1_spread_5 : Nat → Int32 → Int32 → Int32 → Int32 → pm → (Int32 → pm → Prop) → Prop
  | 0, _, _, _, _, _, _ => False
  | n + 1, x1, x2, x3, x4, M, Q => ((x2 ≤ x4 → (Q x3 M)) ∧ (¬ x2 ≤ x4 → ((8 ≤ x4 → (Q x3 M)) ∧ (¬ 8 ≤ x4 → (vp_in x4 8 ∧ (w_X1_spread_5 n x1 x2 (x3 ||| (((x1 >>> (x4 &&& 31)) &&& 1) <<< ((mI M 47 x4.toNatClampNeg) &&& 31))) (x4 + 1) M Q))))))
set_option maxRecDepth 4000 in
theorem c_X1_spread_5  {Q : Int32 → pm → Prop}  : ∀ (n : Nat) (x1 : Int32) (x2 : Int32) (x3 : Int32) (x4 : Int32) (M : pm), pG M → w_X1_spread_5 n x1 x2 x3 x4 M  Q → PW mX1_spread 1 350 5 [.ref 44, .int x1, .int x2, .int x3, .int x4] [] M (qI Q) := by
  intro n
  induction n with
  | zero => intro x1 x2 x3 x4 M hM h; exact h.elim
  | succ n ih =>
    intro x1 x2 x3 x4 M hM h
    unfold w_X1_spread_5 at h
    refine PW.iload (pc := 5) dX1_spread_5 rfl ?_
    refine PW.iload_n (pc := 7) dX1_spread_7 rfl ?_
    refine PW.icmp_ge (pc := 8) dX1_spread_8 (t := 41) (by decide) (fun hc => ?_) (fun hc => ?_)
    · have h := h.1 hc
      refine PW.iload_n (pc := 41) dX1_spread_41 rfl ?_
      exact PW.retI (pc := 42) dX1_spread_42 hM.1 rfl rfl ⟨hM, _, rfl, h⟩
    · have h := h.2 hc
      refine PW.iload (pc := 11) dX1_spread_11 rfl ?_
      refine PW.bipush (pc := 13) dX1_spread_13 (v := 8) (by decide) ?_
      refine PW.icmp_ge (pc := 15) dX1_spread_15 (t := 41) (by decide) (fun hc => ?_) (fun hc => ?_)
      · have h := h.1 hc
        refine PW.iload_n (pc := 41) dX1_spread_41 rfl ?_
        exact PW.retI (pc := 42) dX1_spread_42 hM.1 rfl rfl ⟨hM, _, rfl, h⟩
      · have h := h.2 hc
        refine PW.iload_n (pc := 18) dX1_spread_18 rfl ?_
        refine PW.iload_n (pc := 19) dX1_spread_19 rfl ?_
        refine PW.iload (pc := 20) dX1_spread_20 rfl ?_
        refine PW.ishr (pc := 22) dX1_spread_22 ?_
        refine PW.iconst (pc := 23) dX1_spread_23 (v := 1) (by decide) ?_
        refine PW.iand (pc := 24) dX1_spread_24 ?_
        refine PW.aload_n (pc := 25) dX1_spread_25 rfl ?_
        refine PW.getR (pc := 26) dX1_spread_26 (r := 47) lf_X1_18 (ob hM.1 s_44 (by decide)) fx_1_2 (oR_1_2 hM s_44) (pS_ne s_47) ?_
        refine PW.iload (pc := 29) dX1_spread_29 rfl ?_
        obtain ⟨v1, h⟩ := h
        refine PW.iald (pc := 31) dX1_spread_31 (ar hM.1 s_47) (vpl n_47 v1) ?_
        refine PW.ishl (pc := 32) dX1_spread_32 ?_
        refine PW.ior (pc := 33) dX1_spread_33 ?_
        refine PW.istore_n (pc := 34) dX1_spread_34 (ls' := [.ref 44, .int x1, .int x2, .int (x3 ||| (((x1 >>> (x4 &&& 31)) &&& 1) <<< ((mI M 47 x4.toNatClampNeg) &&& 31))), .int x4]) (by decide) rfl rfl ?_
        refine PW.iinc (pc := 35) dX1_spread_35 (v := (x4 + 1)) (ls' := [.ref 44, .int x1, .int x2, .int (x3 ||| (((x1 >>> (x4 &&& 31)) &&& 1) <<< ((mI M 47 x4.toNatClampNeg) &&& 31))), .int (x4 + 1)]) rfl rfl (by decide) rfl rfl ?_
        refine PW.goto (pc := 38) dX1_spread_38 (t := 5) (by decide) ?_
        exact PW.drop (ih _ _ _ _ _ hM h) ⟨rfl, rfl, rfl, rfl, rfl, trivial⟩
def w_X1_spread (x1 : Int32) (x2 : Int32) (M : pm) (Q : Int32 → pm → Prop) : Prop := ∃ n2, w_X1_spread_5 n2 x1 x2 0 0 M  Q
set_option maxRecDepth 4000 in
theorem c_X1_spread {x1 : Int32} {x2 : Int32} {M : pm} {Q : Int32 → pm → Prop}  (hM : pG M) (h : w_X1_spread x1 x2 M Q) : PW mX1_spread 1 350 0 (pfr mX1_spread.2.2.1 [.ref 44, .int x1, .int x2]) [] M (qI Q) := by
  unfold w_X1_spread at h
  show PW mX1_spread 1 350 0 [.ref 44, .int x1, .int x2, .null, .null] [] M (qI Q)
  refine PW.iconst (pc := 0) dX1_spread_0 (v := 0) (by decide) ?_
  refine PW.istore_n (pc := 1) dX1_spread_1 (ls' := [.ref 44, .int x1, .int x2, .int 0, .null]) (by decide) rfl rfl ?_
  refine PW.iconst (pc := 2) dX1_spread_2 (v := 0) (by decide) ?_
  refine PW.istore (pc := 3) dX1_spread_3 (ls' := [.ref 44, .int x1, .int x2, .int 0, .int 0]) (by decide) rfl rfl ?_
  obtain ⟨n2, h⟩ := h
  refine PW.drop (c_X1_spread_5  n2 _ _ _ _ _ hM h) ⟨rfl, rfl, rfl, rfl, rfl, trivial⟩
def w_X1_isBetter (x1 : Int32) (x2 : Int32) (M : pm) (Q : Int32 → pm → Prop) : Prop := vp_in x1 256 ∧ (vp_in x2 256 ∧ (((mI M 49 x2.toNatClampNeg) < (mI M 49 x1.toNatClampNeg) → (Q 1 M)) ∧ (¬ (mI M 49 x2.toNatClampNeg) < (mI M 49 x1.toNatClampNeg) → (vp_in x1 256 ∧ (vp_in x2 256 ∧ ((¬ (mI M 49 x1.toNatClampNeg) = (mI M 49 x2.toNatClampNeg) → (Q 0 M)) ∧ ((mI M 49 x1.toNatClampNeg) = (mI M 49 x2.toNatClampNeg) → (vp_in x1 256 ∧ (vp_in x2 256 ∧ (((mI M 48 x2.toNatClampNeg) ≤ (mI M 48 x1.toNatClampNeg) → (Q 0 M)) ∧ (¬ (mI M 48 x2.toNatClampNeg) ≤ (mI M 48 x1.toNatClampNeg) → (Q 1 M))))))))))))
set_option maxRecDepth 4000 in
theorem c_X1_isBetter {x1 : Int32} {x2 : Int32} {M : pm} {Q : Int32 → pm → Prop}  (hM : pG M) (h : w_X1_isBetter x1 x2 M Q) : PW mX1_isBetter 1 350 0 (pfr mX1_isBetter.2.2.1 [.ref 44, .int x1, .int x2]) [] M (qZ Q) := by
  unfold w_X1_isBetter at h
  show PW mX1_isBetter 1 350 0 [.ref 44, .int x1, .int x2] [] M (qZ Q)
  refine PW.aload_n (pc := 0) dX1_isBetter_0 rfl ?_
  refine PW.getR (pc := 1) dX1_isBetter_1 (r := 49) lf_X1_24 (ob hM.1 s_44 (by decide)) fx_1_4 (oR_1_4 hM s_44) (pS_ne s_49) ?_
  refine PW.iload_n (pc := 4) dX1_isBetter_4 rfl ?_
  obtain ⟨v1, h⟩ := h
  refine PW.iald (pc := 5) dX1_isBetter_5 (ar hM.1 s_49) (vpl n_49 v1) ?_
  refine PW.aload_n (pc := 6) dX1_isBetter_6 rfl ?_
  refine PW.getR (pc := 7) dX1_isBetter_7 (r := 49) lf_X1_24 (ob hM.1 s_44 (by decide)) fx_1_4 (oR_1_4 hM s_44) (pS_ne s_49) ?_
  refine PW.iload_n (pc := 10) dX1_isBetter_10 rfl ?_
  obtain ⟨v2, h⟩ := h
  refine PW.iald (pc := 11) dX1_isBetter_11 (ar hM.1 s_49) (vpl n_49 v2) ?_
  refine PW.icmp_gt (pc := 12) dX1_isBetter_12 (t := 45) (by decide) (fun hc => ?_) (fun hc => ?_)
  · have h := h.1 hc
    refine PW.iconst (pc := 45) dX1_isBetter_45 (v := 1) (by decide) ?_
    refine PW.goto (pc := 46) dX1_isBetter_46 (t := 50) (by decide) ?_
    exact PW.retI (pc := 50) dX1_isBetter_50 hM.1 rfl (bz_n bz1) ⟨hM, _, rfl, bz1, h⟩
  · have h := h.2 hc
    refine PW.aload_n (pc := 15) dX1_isBetter_15 rfl ?_
    refine PW.getR (pc := 16) dX1_isBetter_16 (r := 49) lf_X1_24 (ob hM.1 s_44 (by decide)) fx_1_4 (oR_1_4 hM s_44) (pS_ne s_49) ?_
    refine PW.iload_n (pc := 19) dX1_isBetter_19 rfl ?_
    obtain ⟨v3, h⟩ := h
    refine PW.iald (pc := 20) dX1_isBetter_20 (ar hM.1 s_49) (vpl n_49 v3) ?_
    refine PW.aload_n (pc := 21) dX1_isBetter_21 rfl ?_
    refine PW.getR (pc := 22) dX1_isBetter_22 (r := 49) lf_X1_24 (ob hM.1 s_44 (by decide)) fx_1_4 (oR_1_4 hM s_44) (pS_ne s_49) ?_
    refine PW.iload_n (pc := 25) dX1_isBetter_25 rfl ?_
    obtain ⟨v4, h⟩ := h
    refine PW.iald (pc := 26) dX1_isBetter_26 (ar hM.1 s_49) (vpl n_49 v4) ?_
    refine PW.icmp_ne (pc := 27) dX1_isBetter_27 (t := 49) (by decide) (fun hc => ?_) (fun hc => ?_)
    · have h := h.1 hc
      refine PW.iconst (pc := 49) dX1_isBetter_49 (v := 0) (by decide) ?_
      exact PW.retI (pc := 50) dX1_isBetter_50 hM.1 rfl (bz_n bz0) ⟨hM, _, rfl, bz0, h⟩
    · have h := h.2 hc
      refine PW.aload_n (pc := 30) dX1_isBetter_30 rfl ?_
      refine PW.getR (pc := 31) dX1_isBetter_31 (r := 48) lf_X1_21 (ob hM.1 s_44 (by decide)) fx_1_3 (oR_1_3 hM s_44) (pS_ne s_48) ?_
      refine PW.iload_n (pc := 34) dX1_isBetter_34 rfl ?_
      obtain ⟨v5, h⟩ := h
      refine PW.iald (pc := 35) dX1_isBetter_35 (ar hM.1 s_48) (vpl n_48 v5) ?_
      refine PW.aload_n (pc := 36) dX1_isBetter_36 rfl ?_
      refine PW.getR (pc := 37) dX1_isBetter_37 (r := 48) lf_X1_21 (ob hM.1 s_44 (by decide)) fx_1_3 (oR_1_3 hM s_44) (pS_ne s_48) ?_
      refine PW.iload_n (pc := 40) dX1_isBetter_40 rfl ?_
      obtain ⟨v6, h⟩ := h
      refine PW.iald (pc := 41) dX1_isBetter_41 (ar hM.1 s_48) (vpl n_48 v6) ?_
      refine PW.icmp_ge (pc := 42) dX1_isBetter_42 (t := 49) (by decide) (fun hc => ?_) (fun hc => ?_)
      · have h := h.1 hc
        refine PW.iconst (pc := 49) dX1_isBetter_49 (v := 0) (by decide) ?_
        exact PW.retI (pc := 50) dX1_isBetter_50 hM.1 rfl (bz_n bz0) ⟨hM, _, rfl, bz0, h⟩
      · have h := h.2 hc
        refine PW.iconst (pc := 45) dX1_isBetter_45 (v := 1) (by decide) ?_
        refine PW.goto (pc := 46) dX1_isBetter_46 (t := 50) (by decide) ?_
        exact PW.retI (pc := 50) dX1_isBetter_50 hM.1 rfl (bz_n bz1) ⟨hM, _, rfl, bz1, h⟩
def w_X1_bestBits_13 : Nat → Nat → Int32 → Int32 → Int32 → pm → (Int32 → pm → Prop) → Prop
  | 0, _, _, _, _, _, _ => False
  | n + 1, a1, x3, x4, x5, M, Q => (((1 <<< (x3 &&& 31)) ≤ x5 → (w_X1_spread x4 x3 M (fun y5 M4 => Q y5 M4))) ∧ (¬ (1 <<< (x3 &&& 31)) ≤ x5 → ((256 ≤ x5 → (w_X1_spread x4 x3 M (fun y8 M7 => Q y8 M7))) ∧ (¬ 256 ≤ x5 → (vp_in x5 256 ∧ (((mI M a1 1) < (mI M 48 x5.toNatClampNeg) → (w_X1_bestBits_13 n a1 x3 x4 (x5 + 1) M Q)) ∧ (¬ (mI M a1 1) < (mI M 48 x5.toNatClampNeg) → (w_X1_isBetter x5 x4 M (fun y12 M11 => ((y12 = 0 → (w_X1_bestBits_13 n a1 x3 x4 (x5 + 1) M11 Q)) ∧ (¬ y12 = 0 → (w_X1_bestBits_13 n a1 x3 x5 (x5 + 1) M11 Q))))))))))))
set_option maxRecDepth 4000 in
theorem c_X1_bestBits_13  {Q : Int32 → pm → Prop}  : ∀ (n : Nat) (a1 : Nat) (x3 : Int32) (x4 : Int32) (x5 : Int32) (M : pm), pS 5 a1 → pG M → w_X1_bestBits_13 n a1 x3 x4 x5 M  Q → PW mX1_bestBits 6 350 13 [.ref 44, .ref a1, .null, .int x3, .int x4, .int x5] [] M (qI Q) := by
  intro n
  induction n with
  | zero => intro a1 x3 x4 x5 M hs1 hM h; exact h.elim
  | succ n ih =>
    intro a1 x3 x4 x5 M hs1 hM h
    unfold w_X1_bestBits_13 at h
    refine PW.iload (pc := 13) dX1_bestBits_13 rfl ?_
    refine PW.iconst (pc := 15) dX1_bestBits_15 (v := 1) (by decide) ?_
    refine PW.iload_n (pc := 16) dX1_bestBits_16 rfl ?_
    refine PW.ishl (pc := 17) dX1_bestBits_17 ?_
    refine PW.icmp_ge (pc := 18) dX1_bestBits_18 (t := 64) (by decide) (fun hc => ?_) (fun hc => ?_)
    · have h := h.1 hc
      refine PW.aload_n (pc := 64) dX1_bestBits_64 rfl ?_
      refine PW.iload (pc := 65) dX1_bestBits_65 rfl ?_
      refine PW.iload_n (pc := 67) dX1_bestBits_67 rfl ?_
      refine PW.inv (m' := mX1_spread) (pc := 68) dX1_bestBits_68 lm_X1_143 me_X1_spread mi_X1_spread (ob hM.1 s_44 (by decide)) rfl (As := [.int x4, .int x3]) (st := []) rfl (Nat.le_of_ble_eq_true rfl) (Nat.le_of_ble_eq_true rfl) (Nat.le_of_eq hM.1) (Nat.le_refl _) (PW.deep (by decide) (c_X1_spread  hM h)) ?_
      rintro _ M4 ⟨hM6, y5, rfl, h⟩
      exact PW.retI (pc := 71) dX1_bestBits_71 hM6.1 rfl rfl ⟨hM6, _, rfl, h⟩
    · have h := h.2 hc
      refine PW.iload (pc := 21) dX1_bestBits_21 rfl ?_
      refine PW.sipush (pc := 23) dX1_bestBits_23 (v := 256) (by decide) ?_
      refine PW.icmp_ge (pc := 26) dX1_bestBits_26 (t := 64) (by decide) (fun hc => ?_) (fun hc => ?_)
      · have h := h.1 hc
        refine PW.aload_n (pc := 64) dX1_bestBits_64 rfl ?_
        refine PW.iload (pc := 65) dX1_bestBits_65 rfl ?_
        refine PW.iload_n (pc := 67) dX1_bestBits_67 rfl ?_
        refine PW.inv (m' := mX1_spread) (pc := 68) dX1_bestBits_68 lm_X1_143 me_X1_spread mi_X1_spread (ob hM.1 s_44 (by decide)) rfl (As := [.int x4, .int x3]) (st := []) rfl (Nat.le_of_ble_eq_true rfl) (Nat.le_of_ble_eq_true rfl) (Nat.le_of_eq hM.1) (Nat.le_refl _) (PW.deep (by decide) (c_X1_spread  hM h)) ?_
        rintro _ M7 ⟨hM9, y8, rfl, h⟩
        exact PW.retI (pc := 71) dX1_bestBits_71 hM9.1 rfl rfl ⟨hM9, _, rfl, h⟩
      · have h := h.2 hc
        refine PW.aload_n (pc := 29) dX1_bestBits_29 rfl ?_
        refine PW.getR (pc := 30) dX1_bestBits_30 (r := 48) lf_X1_21 (ob hM.1 s_44 (by decide)) fx_1_3 (oR_1_3 hM s_44) (pS_ne s_48) ?_
        refine PW.iload (pc := 33) dX1_bestBits_33 rfl ?_
        obtain ⟨v10, h⟩ := h
        refine PW.iald (pc := 35) dX1_bestBits_35 (ar hM.1 s_48) (vpl n_48 v10) ?_
        refine PW.aload_n (pc := 36) dX1_bestBits_36 rfl ?_
        refine PW.getI (pc := 37) dX1_bestBits_37 lf_X1_136 (ob hM.1 hs1 (by decide)) fx_5_1 ?_
        refine PW.icmp_gt (pc := 40) dX1_bestBits_40 (t := 58) (by decide) (fun hc => ?_) (fun hc => ?_)
        · have h := h.1 hc
          refine PW.iinc (pc := 58) dX1_bestBits_58 (v := (x5 + 1)) (ls' := [.ref 44, .ref a1, .null, .int x3, .int x4, .int (x5 + 1)]) rfl rfl (by decide) rfl rfl ?_
          refine PW.goto (pc := 61) dX1_bestBits_61 (t := 13) (by decide) ?_
          exact PW.drop (ih _ _ _ _ _ hs1 hM h) ⟨rfl, rfl, rfl, rfl, rfl, trivial⟩
        · have h := h.2 hc
          refine PW.aload_n (pc := 43) dX1_bestBits_43 rfl ?_
          refine PW.iload (pc := 44) dX1_bestBits_44 rfl ?_
          refine PW.iload (pc := 46) dX1_bestBits_46 rfl ?_
          refine PW.inv (m' := mX1_isBetter) (pc := 48) dX1_bestBits_48 lm_X1_139 me_X1_isBetter mi_X1_isBetter (ob hM.1 s_44 (by decide)) rfl (As := [.int x5, .int x4]) (st := []) rfl (Nat.le_of_ble_eq_true rfl) (Nat.le_of_ble_eq_true rfl) (Nat.le_of_eq hM.1) (Nat.le_refl _) (PW.deep (by decide) (c_X1_isBetter  hM h)) ?_
          rintro _ M11 ⟨hM13, y12, rfl, z14, h⟩
          refine PW.if_eq (pc := 51) dX1_bestBits_51 (t := 58) (by decide) (fun hc => ?_) (fun hc => ?_)
          · have h := h.1 hc
            refine PW.iinc (pc := 58) dX1_bestBits_58 (v := (x5 + 1)) (ls' := [.ref 44, .ref a1, .null, .int x3, .int x4, .int (x5 + 1)]) rfl rfl (by decide) rfl rfl ?_
            refine PW.goto (pc := 61) dX1_bestBits_61 (t := 13) (by decide) ?_
            exact PW.drop (ih _ _ _ _ _ hs1 hM13 h) ⟨rfl, rfl, rfl, rfl, rfl, trivial⟩
          · have h := h.2 hc
            refine PW.iload (pc := 54) dX1_bestBits_54 rfl ?_
            refine PW.istore (pc := 56) dX1_bestBits_56 (ls' := [.ref 44, .ref a1, .null, .int x3, .int x5, .int x5]) (by decide) rfl rfl ?_
            refine PW.iinc (pc := 58) dX1_bestBits_58 (v := (x5 + 1)) (ls' := [.ref 44, .ref a1, .null, .int x3, .int x5, .int (x5 + 1)]) rfl rfl (by decide) rfl rfl ?_
            refine PW.goto (pc := 61) dX1_bestBits_61 (t := 13) (by decide) ?_
            exact PW.drop (ih _ _ _ _ _ hs1 hM13 h) ⟨rfl, rfl, rfl, rfl, rfl, trivial⟩
def w_X1_bestBits (a1 : Nat) (a2 : Nat) (M : pm) (Q : Int32 → pm → Prop) : Prop := w_X1_gather a1 a2 M (fun y2 M1 => ∃ n15, w_X1_bestBits_13 n15 a1 y2 0 1 M1  Q)
set_option maxRecDepth 4000 in
theorem c_X1_bestBits {a1 : Nat} {a2 : Nat} {M : pm} {Q : Int32 → pm → Prop} (hs1 : pS 5 a1) (hs2 : pS 4 a2) (hM : pG M) (h : w_X1_bestBits a1 a2 M Q) : PW mX1_bestBits 6 350 0 (pfr mX1_bestBits.2.2.1 [.ref 44, .ref a1, .ref a2]) [] M (qI Q) := by
  unfold w_X1_bestBits at h
  show PW mX1_bestBits 6 350 0 [.ref 44, .ref a1, .ref a2, .null, .null, .null] [] M (qI Q)
  refine PW.aload_n (pc := 0) dX1_bestBits_0 rfl ?_
  refine PW.aload_n (pc := 1) dX1_bestBits_1 rfl ?_
  refine PW.aload_n (pc := 2) dX1_bestBits_2 rfl ?_
  refine PW.inv (m' := mX1_gather) (pc := 3) dX1_bestBits_3 lm_X1_132 me_X1_gather mi_X1_gather (ob hM.1 s_44 (by decide)) rfl (As := [.ref a1, .ref a2]) (st := []) rfl (Nat.le_of_ble_eq_true rfl) (Nat.le_of_ble_eq_true rfl) (Nat.le_of_eq hM.1) (Nat.le_refl _) (PW.deep (by decide) (c_X1_gather hs1 hs2 hM h)) ?_
  rintro _ M1 ⟨hM3, y2, rfl, h⟩
  refine PW.istore_n (pc := 6) dX1_bestBits_6 (ls' := [.ref 44, .ref a1, .ref a2, .int y2, .null, .null]) (by decide) rfl rfl ?_
  refine PW.iconst (pc := 7) dX1_bestBits_7 (v := 0) (by decide) ?_
  refine PW.istore (pc := 8) dX1_bestBits_8 (ls' := [.ref 44, .ref a1, .ref a2, .int y2, .int 0, .null]) (by decide) rfl rfl ?_
  refine PW.iconst (pc := 10) dX1_bestBits_10 (v := 1) (by decide) ?_
  refine PW.istore (pc := 11) dX1_bestBits_11 (ls' := [.ref 44, .ref a1, .ref a2, .int y2, .int 0, .int 1]) (by decide) rfl rfl ?_
  obtain ⟨n15, h⟩ := h
  refine PW.drop (c_X1_bestBits_13  n15 _ _ _ _ _ hs1 hM3 h) ⟨rfl, rfl, rfl, rfl, rfl, trivial⟩
def w_X1_shareBits_44 : Nat → Int32 → Int32 → Int32 → Int32 → Int32 → pm → (Int32 → pm → Prop) → Prop
  | 0, _, _, _, _, _, _, _ => False
  | n + 1, x3, x4, x5, x6, x7, M, Q => ((x4 < x7 → (w_X1_spread x5 x3 M (fun y12 M11 => Q y12 M11))) ∧ (¬ x4 < x7 → (vp_in x7 256 ∧ (vp_in (x4 - x7) 256 ∧ (w_J9_min_7cf53 (mI M 49 x7.toNatClampNeg) (mI M 49 ((x4 - x7).toNatClampNeg)) M (fun y17 M16 => ((y17 ≤ x6 → (w_X1_shareBits_44 n x3 x4 x5 x6 (x7 + 1) M16 Q)) ∧ (¬ y17 ≤ x6 → (w_X1_shareBits_44 n x3 x4 x7 y17 (x7 + 1) M16 Q)))))))))
set_option maxRecDepth 4000 in
theorem c_X1_shareBits_44  {Q : Int32 → pm → Prop}  : ∀ (n : Nat) (x3 : Int32) (x4 : Int32) (x5 : Int32) (x6 : Int32) (x7 : Int32) (M : pm), pG M → w_X1_shareBits_44 n x3 x4 x5 x6 x7 M  Q → PW mX1_shareBits 6 350 44 [.ref 44, .null, .null, .int x3, .int x4, .int x5, .int x6, .int x7, .null] [] M (qI Q) := by
  intro n
  induction n with
  | zero => intro x3 x4 x5 x6 x7 M hM h; exact h.elim
  | succ n ih =>
    intro x3 x4 x5 x6 x7 M hM h
    unfold w_X1_shareBits_44 at h
    refine PW.iload (pc := 44) dX1_shareBits_44 rfl ?_
    refine PW.iload (pc := 46) dX1_shareBits_46 rfl ?_
    refine PW.icmp_gt (pc := 48) dX1_shareBits_48 (t := 94) (by decide) (fun hc => ?_) (fun hc => ?_)
    · have h := h.1 hc
      refine PW.aload_n (pc := 94) dX1_shareBits_94 rfl ?_
      refine PW.iload (pc := 95) dX1_shareBits_95 rfl ?_
      refine PW.iload_n (pc := 97) dX1_shareBits_97 rfl ?_
      refine PW.inv (m' := mX1_spread) (pc := 98) dX1_shareBits_98 lm_X1_143 me_X1_spread mi_X1_spread (ob hM.1 s_44 (by decide)) rfl (As := [.int x5, .int x3]) (st := []) rfl (Nat.le_of_ble_eq_true rfl) (Nat.le_of_ble_eq_true rfl) (Nat.le_of_eq hM.1) (Nat.le_refl _) (PW.deep (by decide) (c_X1_spread  hM h)) ?_
      rintro _ M11 ⟨hM13, y12, rfl, h⟩
      exact PW.retI (pc := 101) dX1_shareBits_101 hM13.1 rfl rfl ⟨hM13, _, rfl, h⟩
    · have h := h.2 hc
      refine PW.aload_n (pc := 51) dX1_shareBits_51 rfl ?_
      refine PW.getR (pc := 52) dX1_shareBits_52 (r := 49) lf_X1_24 (ob hM.1 s_44 (by decide)) fx_1_4 (oR_1_4 hM s_44) (pS_ne s_49) ?_
      refine PW.iload (pc := 55) dX1_shareBits_55 rfl ?_
      obtain ⟨v14, h⟩ := h
      refine PW.iald (pc := 57) dX1_shareBits_57 (ar hM.1 s_49) (vpl n_49 v14) ?_
      refine PW.aload_n (pc := 58) dX1_shareBits_58 rfl ?_
      refine PW.getR (pc := 59) dX1_shareBits_59 (r := 49) lf_X1_24 (ob hM.1 s_44 (by decide)) fx_1_4 (oR_1_4 hM s_44) (pS_ne s_49) ?_
      refine PW.iload (pc := 62) dX1_shareBits_62 rfl ?_
      refine PW.iload (pc := 64) dX1_shareBits_64 rfl ?_
      refine PW.isub (pc := 66) dX1_shareBits_66 ?_
      obtain ⟨v15, h⟩ := h
      refine PW.iald (pc := 67) dX1_shareBits_67 (ar hM.1 s_49) (vpl n_49 v15) ?_
      refine PW.ins (m' := mJ9_min_7cf53) (pc := 68) dX1_shareBits_68 lm_X1_90 me_J9_min_7cf53 ms_J9_min_7cf53 (As := [.int (mI M 49 x7.toNatClampNeg), .int (mI M 49 ((x4 - x7).toNatClampNeg))]) (st := []) rfl (Nat.le_of_ble_eq_true rfl) (Nat.le_of_ble_eq_true rfl) (Nat.le_of_eq hM.1) (Nat.le_refl _) (PW.deep (by decide) (c_J9_min_7cf53  hM h)) ?_
      rintro _ M16 ⟨hM18, y17, rfl, h⟩
      refine PW.istore (pc := 71) dX1_shareBits_71 (ls' := [.ref 44, .null, .null, .int x3, .int x4, .int x5, .int x6, .int x7, .int y17]) (by decide) rfl rfl ?_
      refine PW.iload (pc := 73) dX1_shareBits_73 rfl ?_
      refine PW.iload (pc := 75) dX1_shareBits_75 rfl ?_
      refine PW.icmp_le (pc := 77) dX1_shareBits_77 (t := 88) (by decide) (fun hc => ?_) (fun hc => ?_)
      · have h := h.1 hc
        refine PW.iinc (pc := 88) dX1_shareBits_88 (v := (x7 + 1)) (ls' := [.ref 44, .null, .null, .int x3, .int x4, .int x5, .int x6, .int (x7 + 1), .int y17]) rfl rfl (by decide) rfl rfl ?_
        refine PW.goto (pc := 91) dX1_shareBits_91 (t := 44) (by decide) ?_
        exact PW.drop (ih _ _ _ _ _ _ hM18 h) ⟨rfl, rfl, rfl, rfl, rfl, rfl, trivial⟩
      · have h := h.2 hc
        refine PW.iload (pc := 80) dX1_shareBits_80 rfl ?_
        refine PW.istore (pc := 82) dX1_shareBits_82 (ls' := [.ref 44, .null, .null, .int x3, .int x4, .int x5, .int y17, .int x7, .int y17]) (by decide) rfl rfl ?_
        refine PW.iload (pc := 84) dX1_shareBits_84 rfl ?_
        refine PW.istore (pc := 86) dX1_shareBits_86 (ls' := [.ref 44, .null, .null, .int x3, .int x4, .int x7, .int y17, .int x7, .int y17]) (by decide) rfl rfl ?_
        refine PW.iinc (pc := 88) dX1_shareBits_88 (v := (x7 + 1)) (ls' := [.ref 44, .null, .null, .int x3, .int x4, .int x7, .int y17, .int (x7 + 1), .int y17]) rfl rfl (by decide) rfl rfl ?_
        refine PW.goto (pc := 91) dX1_shareBits_91 (t := 44) (by decide) ?_
        exact PW.drop (ih _ _ _ _ _ _ hM18 h) ⟨rfl, rfl, rfl, rfl, rfl, rfl, trivial⟩
def w_X1_shareBits (a1 : Nat) (a2 : Nat) (M : pm) (Q : Int32 → pm → Prop) : Prop := w_X1_gather a1 a2 M (fun y2 M1 => w_J9_min_7cf53 (1 <<< (y2 &&& 31)) 256 M1 (fun y5 M4 => vp_in (y5 - 1) 256 ∧ (w_J9_min_7cf53 (mI M4 49 0) (mI M4 49 ((y5 - 1).toNatClampNeg)) M4 (fun y9 M8 => ∃ n19, w_X1_shareBits_44 n19 y2 (y5 - 1) 0 y9 1 M8  Q))))
set_option maxRecDepth 4000 in
theorem c_X1_shareBits {a1 : Nat} {a2 : Nat} {M : pm} {Q : Int32 → pm → Prop} (hs1 : pS 5 a1) (hs2 : pS 4 a2) (hM : pG M) (h : w_X1_shareBits a1 a2 M Q) : PW mX1_shareBits 6 350 0 (pfr mX1_shareBits.2.2.1 [.ref 44, .ref a1, .ref a2]) [] M (qI Q) := by
  unfold w_X1_shareBits at h
  show PW mX1_shareBits 6 350 0 [.ref 44, .ref a1, .ref a2, .null, .null, .null, .null, .null, .null] [] M (qI Q)
  refine PW.aload_n (pc := 0) dX1_shareBits_0 rfl ?_
  refine PW.aload_n (pc := 1) dX1_shareBits_1 rfl ?_
  refine PW.aload_n (pc := 2) dX1_shareBits_2 rfl ?_
  refine PW.inv (m' := mX1_gather) (pc := 3) dX1_shareBits_3 lm_X1_132 me_X1_gather mi_X1_gather (ob hM.1 s_44 (by decide)) rfl (As := [.ref a1, .ref a2]) (st := []) rfl (Nat.le_of_ble_eq_true rfl) (Nat.le_of_ble_eq_true rfl) (Nat.le_of_eq hM.1) (Nat.le_refl _) (PW.deep (by decide) (c_X1_gather hs1 hs2 hM h)) ?_
  rintro _ M1 ⟨hM3, y2, rfl, h⟩
  refine PW.istore_n (pc := 6) dX1_shareBits_6 (ls' := [.ref 44, .ref a1, .ref a2, .int y2, .null, .null, .null, .null, .null]) (by decide) rfl rfl ?_
  refine PW.iconst (pc := 7) dX1_shareBits_7 (v := 1) (by decide) ?_
  refine PW.iload_n (pc := 8) dX1_shareBits_8 rfl ?_
  refine PW.ishl (pc := 9) dX1_shareBits_9 ?_
  refine PW.sipush (pc := 10) dX1_shareBits_10 (v := 256) (by decide) ?_
  refine PW.ins (m' := mJ9_min_7cf53) (pc := 13) dX1_shareBits_13 lm_X1_90 me_J9_min_7cf53 ms_J9_min_7cf53 (As := [.int (1 <<< (y2 &&& 31)), .int 256]) (st := []) rfl (Nat.le_of_ble_eq_true rfl) (Nat.le_of_ble_eq_true rfl) (Nat.le_of_eq hM3.1) (Nat.le_refl _) (PW.deep (by decide) (c_J9_min_7cf53  hM3 h)) ?_
  rintro _ M4 ⟨hM6, y5, rfl, h⟩
  refine PW.iconst (pc := 16) dX1_shareBits_16 (v := 1) (by decide) ?_
  refine PW.isub (pc := 17) dX1_shareBits_17 ?_
  refine PW.istore (pc := 18) dX1_shareBits_18 (ls' := [.ref 44, .ref a1, .ref a2, .int y2, .int (y5 - 1), .null, .null, .null, .null]) (by decide) rfl rfl ?_
  refine PW.iconst (pc := 20) dX1_shareBits_20 (v := 0) (by decide) ?_
  refine PW.istore (pc := 21) dX1_shareBits_21 (ls' := [.ref 44, .ref a1, .ref a2, .int y2, .int (y5 - 1), .int 0, .null, .null, .null]) (by decide) rfl rfl ?_
  refine PW.aload_n (pc := 23) dX1_shareBits_23 rfl ?_
  refine PW.getR (pc := 24) dX1_shareBits_24 (r := 49) lf_X1_24 (ob hM6.1 s_44 (by decide)) fx_1_4 (oR_1_4 hM6 s_44) (pS_ne s_49) ?_
  refine PW.iconst (pc := 27) dX1_shareBits_27 (v := 0) (by decide) ?_
  refine PW.iald (pc := 28) dX1_shareBits_28 (ar hM6.1 s_49) (vpl n_49 (vp_c (i := 0) (n := 256) (by decide))) ?_
  refine PW.aload_n (pc := 29) dX1_shareBits_29 rfl ?_
  refine PW.getR (pc := 30) dX1_shareBits_30 (r := 49) lf_X1_24 (ob hM6.1 s_44 (by decide)) fx_1_4 (oR_1_4 hM6 s_44) (pS_ne s_49) ?_
  refine PW.iload (pc := 33) dX1_shareBits_33 rfl ?_
  obtain ⟨v7, h⟩ := h
  refine PW.iald (pc := 35) dX1_shareBits_35 (ar hM6.1 s_49) (vpl n_49 v7) ?_
  refine PW.ins (m' := mJ9_min_7cf53) (pc := 36) dX1_shareBits_36 lm_X1_90 me_J9_min_7cf53 ms_J9_min_7cf53 (As := [.int (mI M4 49 0), .int (mI M4 49 ((y5 - 1).toNatClampNeg))]) (st := []) rfl (Nat.le_of_ble_eq_true rfl) (Nat.le_of_ble_eq_true rfl) (Nat.le_of_eq hM6.1) (Nat.le_refl _) (PW.deep (by decide) (c_J9_min_7cf53  hM6 h)) ?_
  rintro _ M8 ⟨hM10, y9, rfl, h⟩
  refine PW.istore (pc := 39) dX1_shareBits_39 (ls' := [.ref 44, .ref a1, .ref a2, .int y2, .int (y5 - 1), .int 0, .int y9, .null, .null]) (by decide) rfl rfl ?_
  refine PW.iconst (pc := 41) dX1_shareBits_41 (v := 1) (by decide) ?_
  refine PW.istore (pc := 42) dX1_shareBits_42 (ls' := [.ref 44, .ref a1, .ref a2, .int y2, .int (y5 - 1), .int 0, .int y9, .int 1, .null]) (by decide) rfl rfl ?_
  obtain ⟨n19, h⟩ := h
  refine PW.drop (c_X1_shareBits_44  n19 _ _ _ _ _ _ hM10 h) ⟨rfl, rfl, rfl, rfl, rfl, rfl, trivial⟩
