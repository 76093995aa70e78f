/-! methods, walked by program: w_ what must hold before, c_ its proof -/
def w_X7_answer_39 : Nat → Int32 → Int32 → Int64 → Int32 → pm → (Int64 → pm → Prop) → Prop
  | 0, _, _, _, _, _, _ => False
  | n + 1, x1, x2, x3, x5, M, Q => (((mI M (mR M 3 3) 8) ≤ x5 → (Q x3 M)) ∧ (¬ (mI M (mR M 3 3) 8) ≤ x5 → (w_X1_lookAt (mR M 3 3) 57 x5 M (fun M4 => w_X1_lookOn ((x2 >>> (x5 &&& 31)) &&& 1) M4 (fun M7 => w_X1_valueOf 9 0 M7 (fun y11 M10 => ((¬ x1 = 28 → ((¬ x1 = 29 → ((x1 = 30 → (w_X7_answer_39 n x1 x2 (x3 + (Int32.toInt64 y11)) (x5 + 1) M10 Q)) ∧ (¬ x1 = 30 → ((¬ x1 = 31 → ((¬ x1 = 32 → ((¬ x5 = 0 → (w_J9_min_f86c9 x3 (Int32.toInt64 y11) M10 (fun y14 M13 => w_X7_answer_39 n x1 x2 y14 (x5 + 1) M13 Q))) ∧ (x5 = 0 → (w_X7_answer_39 n x1 x2 (Int32.toInt64 y11) (x5 + 1) M10 Q)))) ∧ (x1 = 32 → ((¬ x5 = 0 → (w_J9_max_f86c9 x3 (Int32.toInt64 y11) M10 (fun y17 M16 => w_X7_answer_39 n x1 x2 y17 (x5 + 1) M16 Q))) ∧ (x5 = 0 → (w_X7_answer_39 n x1 x2 (Int32.toInt64 y11) (x5 + 1) M10 Q)))))) ∧ (x1 = 31 → (w_X7_answer_39 n x1 x2 (x3 + (Int32.toInt64 y11)) (x5 + 1) M10 Q)))))) ∧ (x1 = 29 → (((Int32.toInt64 y11) = (0 : Int64) → (w_X7_answer_39 n x1 x2 x3 (x5 + 1) M10 Q)) ∧ (¬ (Int32.toInt64 y11) = (0 : Int64) → (w_X7_answer_39 n x1 x2 (Int32.toInt64 x5) (x5 + 1) M10 Q)))))) ∧ (x1 = 28 → (((Int32.toInt64 y11) = (0 : Int64) → (w_X7_answer_39 n x1 x2 x3 (x5 + 1) M10 Q)) ∧ (¬ (Int32.toInt64 y11) = (0 : Int64) → ((¬ x3 = (-1 : Int64) → (w_X7_answer_39 n x1 x2 x3 (x5 + 1) M10 Q)) ∧ (x3 = (-1 : Int64) → (w_X7_answer_39 n x1 x2 (Int32.toInt64 x5) (x5 + 1) M10 Q)))))))))))))
set_option maxRecDepth 4000 in
theorem c_X7_answer_39  {Q : Int64 → pm → Prop}  : ∀ (n : Nat) (x1 : Int32) (x2 : Int32) (x3 : Int64) (x5 : Int32) (M : pm), pG M → w_X7_answer_39 n x1 x2 x3 x5 M  Q → PW mX7_answer 7 350 39 [.ref 3, .int x1, .int x2, .long x3, .null, .int x5, .null, .null] [] M (qJ Q) := by
  intro n
  induction n with
  | zero => intro x1 x2 x3 x5 M hM h; exact h.elim
  | succ n ih =>
    intro x1 x2 x3 x5 M hM h
    unfold w_X7_answer_39 at h
    refine PW.iload (pc := 39) dX7_answer_39 rfl ?_
    refine PW.aload_n (pc := 41) dX7_answer_41 rfl ?_
    refine PW.getR (pc := 42) dX7_answer_42 (r := (mR M 3 3)) lf_X7_27 (ob hM.1 s_3 (by decide)) fx_7_3 rfl (pS_ne (hM.2.2.2.2.1)) ?_
    refine PW.getI (pc := 45) dX7_answer_45 lf_X7_138 (ob hM.1 (hM.2.2.2.2.1) (by decide)) fx_5_8 ?_
    refine PW.icmp_ge (pc := 48) dX7_answer_48 (t := 224) (by decide) (fun hc => ?_) (fun hc => ?_)
    · have h := h.1 hc
      refine PW.lload_n (pc := 224) dX7_answer_224 rfl ?_
      exact PW.retJ (pc := 225) dX7_answer_225 hM.1 rfl ⟨hM, _, rfl, h⟩
    · have h := h.2 hc
      refine PW.aload_n (pc := 51) dX7_answer_51 rfl ?_
      refine PW.getR (pc := 52) dX7_answer_52 (r := 44) lf_X7_47 (ob hM.1 s_3 (by decide)) fx_7_8 (oR_7_8 hM s_3) (pS_ne s_44) ?_
      refine PW.aload_n (pc := 55) dX7_answer_55 rfl ?_
      refine PW.getR (pc := 56) dX7_answer_56 (r := (mR M 3 3)) lf_X7_27 (ob hM.1 s_3 (by decide)) fx_7_3 rfl (pS_ne (hM.2.2.2.2.1)) ?_
      refine PW.aload_n (pc := 59) dX7_answer_59 rfl ?_
      refine PW.getR (pc := 60) dX7_answer_60 (r := 57) lf_X7_54 (ob hM.1 s_3 (by decide)) fx_7_9 (oR_7_9 hM s_3) (pS_ne s_57) ?_
      refine PW.iload (pc := 63) dX7_answer_63 rfl ?_
      refine PW.inv (m' := mX1_lookAt) (pc := 65) dX7_answer_65 lm_X7_355 me_X1_lookAt mi_X1_lookAt (ob hM.1 s_44 (by decide)) rfl (As := [.ref (mR M 3 3), .ref 57, .int x5]) (st := []) rfl (Nat.le_of_ble_eq_true rfl) (Nat.le_of_ble_eq_true rfl) (Nat.le_of_eq hM.1) (Nat.le_refl _) (PW.deep (by decide) (c_X1_lookAt (hM.2.2.2.2.1) s_57 hM h)) ?_
      rintro _ M4 ⟨hM6, rfl, h⟩
      refine PW.aload_n (pc := 68) dX7_answer_68 rfl ?_
      refine PW.getR (pc := 69) dX7_answer_69 (r := 44) lf_X7_47 (ob hM6.1 s_3 (by decide)) fx_7_8 (oR_7_8 hM6 s_3) (pS_ne s_44) ?_
      refine PW.iload_n (pc := 72) dX7_answer_72 rfl ?_
      refine PW.iload (pc := 73) dX7_answer_73 rfl ?_
      refine PW.ishr (pc := 75) dX7_answer_75 ?_
      refine PW.iconst (pc := 76) dX7_answer_76 (v := 1) (by decide) ?_
      refine PW.iand (pc := 77) dX7_answer_77 ?_
      refine PW.inv (m' := mX1_lookOn) (pc := 78) dX7_answer_78 lm_X7_358 me_X1_lookOn mi_X1_lookOn (ob hM6.1 s_44 (by decide)) rfl (As := [.int ((x2 >>> (x5 &&& 31)) &&& 1)]) (st := []) rfl (Nat.le_of_ble_eq_true rfl) (Nat.le_of_ble_eq_true rfl) (Nat.le_of_eq hM6.1) (Nat.le_refl _) (PW.deep (by decide) (c_X1_lookOn  hM6 h)) ?_
      rintro _ M7 ⟨hM9, rfl, h⟩
      refine PW.aload_n (pc := 81) dX7_answer_81 rfl ?_
      refine PW.getR (pc := 82) dX7_answer_82 (r := 44) lf_X7_47 (ob hM9.1 s_3 (by decide)) fx_7_8 (oR_7_8 hM9 s_3) (pS_ne s_44) ?_
      refine PW.aload_n (pc := 85) dX7_answer_85 rfl ?_
      refine PW.getR (pc := 86) dX7_answer_86 (r := 5) lf_X7_20 (ob hM9.1 s_3 (by decide)) fx_7_2 (oR_7_2 hM9 s_3) (pS_ne s_5) ?_
      refine PW.getR (pc := 89) dX7_answer_89 (r := 9) lf_X7_361 (ob hM9.1 s_5 (by decide)) fx_3_1 (oR_3_1 hM9 s_5) (pS_ne s_9) ?_
      refine PW.iconst (pc := 92) dX7_answer_92 (v := 0) (by decide) ?_
      refine PW.inv (m' := mX1_valueOf) (pc := 93) dX7_answer_93 lm_X7_365 me_X1_valueOf mi_X1_valueOf (ob hM9.1 s_44 (by decide)) rfl (As := [.ref 9, .int 0]) (st := []) rfl (Nat.le_of_ble_eq_true rfl) (Nat.le_of_ble_eq_true rfl) (Nat.le_of_eq hM9.1) (Nat.le_refl _) (PW.deep (by decide) (c_X1_valueOf s_9 hM9 h)) ?_
      rintro _ M10 ⟨hM12, y11, rfl, h⟩
      refine PW.i2l (pc := 96) dX7_answer_96 ?_
      refine PW.lstore (pc := 97) dX7_answer_97 (ls' := [.ref 3, .int x1, .int x2, .long x3, .null, .int x5, .long (Int32.toInt64 y11), .null]) (by decide) rfl rfl ?_
      refine PW.iload_n (pc := 99) dX7_answer_99 rfl ?_
      refine PW.bipush (pc := 100) dX7_answer_100 (v := 28) (by decide) ?_
      refine PW.icmp_ne (pc := 102) dX7_answer_102 (t := 131) (by decide) (fun hc => ?_) (fun hc => ?_)
      · have h := h.1 hc
        refine PW.iload_n (pc := 131) dX7_answer_131 rfl ?_
        refine PW.bipush (pc := 132) dX7_answer_132 (v := 29) (by decide) ?_
        refine PW.icmp_ne (pc := 134) dX7_answer_134 (t := 155) (by decide) (fun hc => ?_) (fun hc => ?_)
        · have h := h.1 hc
          refine PW.iload_n (pc := 155) dX7_answer_155 rfl ?_
          refine PW.bipush (pc := 156) dX7_answer_156 (v := 30) (by decide) ?_
          refine PW.icmp_eq (pc := 158) dX7_answer_158 (t := 167) (by decide) (fun hc => ?_) (fun hc => ?_)
          · have h := h.1 hc
            refine PW.lload_n (pc := 167) dX7_answer_167 rfl ?_
            refine PW.lload (pc := 168) dX7_answer_168 rfl ?_
            refine PW.ladd (pc := 170) dX7_answer_170 ?_
            refine PW.lstore_n (pc := 171) dX7_answer_171 (ls' := [.ref 3, .int x1, .int x2, .long (x3 + (Int32.toInt64 y11)), .null, .int x5, .long (Int32.toInt64 y11), .null]) (by decide) rfl rfl ?_
            refine PW.goto (pc := 172) dX7_answer_172 (t := 218) (by decide) ?_
            refine PW.iinc (pc := 218) dX7_answer_218 (v := (x5 + 1)) (ls' := [.ref 3, .int x1, .int x2, .long (x3 + (Int32.toInt64 y11)), .null, .int (x5 + 1), .long (Int32.toInt64 y11), .null]) rfl rfl (by decide) rfl rfl ?_
            refine PW.goto (pc := 221) dX7_answer_221 (t := 39) (by decide) ?_
            exact PW.drop (ih _ _ _ _ _ hM12 h) ⟨rfl, rfl, rfl, rfl, rfl, trivial⟩
          · have h := h.2 hc
            refine PW.iload_n (pc := 161) dX7_answer_161 rfl ?_
            refine PW.bipush (pc := 162) dX7_answer_162 (v := 31) (by decide) ?_
            refine PW.icmp_ne (pc := 164) dX7_answer_164 (t := 175) (by decide) (fun hc => ?_) (fun hc => ?_)
            · have h := h.1 hc
              refine PW.iload_n (pc := 175) dX7_answer_175 rfl ?_
              refine PW.bipush (pc := 176) dX7_answer_176 (v := 32) (by decide) ?_
              refine PW.icmp_ne (pc := 178) dX7_answer_178 (t := 201) (by decide) (fun hc => ?_) (fun hc => ?_)
              · have h := h.1 hc
                refine PW.iload (pc := 201) dX7_answer_201 rfl ?_
                refine PW.if_ne (pc := 203) dX7_answer_203 (t := 211) (by decide) (fun hc => ?_) (fun hc => ?_)
                · have h := h.1 hc
                  refine PW.lload_n (pc := 211) dX7_answer_211 rfl ?_
                  refine PW.lload (pc := 212) dX7_answer_212 rfl ?_
                  refine PW.ins (m' := mJ9_min_f86c9) (pc := 214) dX7_answer_214 lm_X7_372 me_J9_min_f86c9 ms_J9_min_f86c9 (As := [.long x3, .long (Int32.toInt64 y11)]) (st := []) rfl (Nat.le_of_ble_eq_true rfl) (Nat.le_of_ble_eq_true rfl) (Nat.le_of_eq hM12.1) (Nat.le_refl _) (PW.deep (by decide) (c_J9_min_f86c9  hM12 h)) ?_
                  rintro _ M13 ⟨hM15, y14, rfl, h⟩
                  refine PW.lstore_n (pc := 217) dX7_answer_217 (ls' := [.ref 3, .int x1, .int x2, .long y14, .null, .int x5, .long (Int32.toInt64 y11), .null]) (by decide) rfl rfl ?_
                  refine PW.iinc (pc := 218) dX7_answer_218 (v := (x5 + 1)) (ls' := [.ref 3, .int x1, .int x2, .long y14, .null, .int (x5 + 1), .long (Int32.toInt64 y11), .null]) rfl rfl (by decide) rfl rfl ?_
                  refine PW.goto (pc := 221) dX7_answer_221 (t := 39) (by decide) ?_
                  exact PW.drop (ih _ _ _ _ _ hM15 h) ⟨rfl, rfl, rfl, rfl, rfl, trivial⟩
                · have h := h.2 hc
                  refine PW.lload (pc := 206) dX7_answer_206 rfl ?_
                  refine PW.goto (pc := 208) dX7_answer_208 (t := 217) (by decide) ?_
                  refine PW.lstore_n (pc := 217) dX7_answer_217 (ls' := [.ref 3, .int x1, .int x2, .long (Int32.toInt64 y11), .null, .int x5, .long (Int32.toInt64 y11), .null]) (by decide) rfl rfl ?_
                  refine PW.iinc (pc := 218) dX7_answer_218 (v := (x5 + 1)) (ls' := [.ref 3, .int x1, .int x2, .long (Int32.toInt64 y11), .null, .int (x5 + 1), .long (Int32.toInt64 y11), .null]) rfl rfl (by decide) rfl rfl ?_
                  refine PW.goto (pc := 221) dX7_answer_221 (t := 39) (by decide) ?_
                  exact PW.drop (ih _ _ _ _ _ hM12 h) ⟨rfl, rfl, rfl, rfl, rfl, trivial⟩
              · have h := h.2 hc
                refine PW.iload (pc := 181) dX7_answer_181 rfl ?_
                refine PW.if_ne (pc := 183) dX7_answer_183 (t := 191) (by decide) (fun hc => ?_) (fun hc => ?_)
                · have h := h.1 hc
                  refine PW.lload_n (pc := 191) dX7_answer_191 rfl ?_
                  refine PW.lload (pc := 192) dX7_answer_192 rfl ?_
                  refine PW.ins (m' := mJ9_max_f86c9) (pc := 194) dX7_answer_194 lm_X7_369 me_J9_max_f86c9 ms_J9_max_f86c9 (As := [.long x3, .long (Int32.toInt64 y11)]) (st := []) rfl (Nat.le_of_ble_eq_true rfl) (Nat.le_of_ble_eq_true rfl) (Nat.le_of_eq hM12.1) (Nat.le_refl _) (PW.deep (by decide) (c_J9_max_f86c9  hM12 h)) ?_
                  rintro _ M16 ⟨hM18, y17, rfl, h⟩
                  refine PW.lstore_n (pc := 197) dX7_answer_197 (ls' := [.ref 3, .int x1, .int x2, .long y17, .null, .int x5, .long (Int32.toInt64 y11), .null]) (by decide) rfl rfl ?_
                  refine PW.goto (pc := 198) dX7_answer_198 (t := 218) (by decide) ?_
                  refine PW.iinc (pc := 218) dX7_answer_218 (v := (x5 + 1)) (ls' := [.ref 3, .int x1, .int x2, .long y17, .null, .int (x5 + 1), .long (Int32.toInt64 y11), .null]) rfl rfl (by decide) rfl rfl ?_
                  refine PW.goto (pc := 221) dX7_answer_221 (t := 39) (by decide) ?_
                  exact PW.drop (ih _ _ _ _ _ hM18 h) ⟨rfl, rfl, rfl, rfl, rfl, trivial⟩
                · have h := h.2 hc
                  refine PW.lload (pc := 186) dX7_answer_186 rfl ?_
                  refine PW.goto (pc := 188) dX7_answer_188 (t := 197) (by decide) ?_
                  refine PW.lstore_n (pc := 197) dX7_answer_197 (ls' := [.ref 3, .int x1, .int x2, .long (Int32.toInt64 y11), .null, .int x5, .long (Int32.toInt64 y11), .null]) (by decide) rfl rfl ?_
                  refine PW.goto (pc := 198) dX7_answer_198 (t := 218) (by decide) ?_
                  refine PW.iinc (pc := 218) dX7_answer_218 (v := (x5 + 1)) (ls' := [.ref 3, .int x1, .int x2, .long (Int32.toInt64 y11), .null, .int (x5 + 1), .long (Int32.toInt64 y11), .null]) rfl rfl (by decide) rfl rfl ?_
                  refine PW.goto (pc := 221) dX7_answer_221 (t := 39) (by decide) ?_
                  exact PW.drop (ih _ _ _ _ _ hM12 h) ⟨rfl, rfl, rfl, rfl, rfl, trivial⟩
            · have h := h.2 hc
              refine PW.lload_n (pc := 167) dX7_answer_167 rfl ?_
              refine PW.lload (pc := 168) dX7_answer_168 rfl ?_
              refine PW.ladd (pc := 170) dX7_answer_170 ?_
              refine PW.lstore_n (pc := 171) dX7_answer_171 (ls' := [.ref 3, .int x1, .int x2, .long (x3 + (Int32.toInt64 y11)), .null, .int x5, .long (Int32.toInt64 y11), .null]) (by decide) rfl rfl ?_
              refine PW.goto (pc := 172) dX7_answer_172 (t := 218) (by decide) ?_
              refine PW.iinc (pc := 218) dX7_answer_218 (v := (x5 + 1)) (ls' := [.ref 3, .int x1, .int x2, .long (x3 + (Int32.toInt64 y11)), .null, .int (x5 + 1), .long (Int32.toInt64 y11), .null]) rfl rfl (by decide) rfl rfl ?_
              refine PW.goto (pc := 221) dX7_answer_221 (t := 39) (by decide) ?_
              exact PW.drop (ih _ _ _ _ _ hM12 h) ⟨rfl, rfl, rfl, rfl, rfl, trivial⟩
        · have h := h.2 hc
          refine PW.lload (pc := 137) dX7_answer_137 rfl ?_
          refine PW.lconst (pc := 139) dX7_answer_139 (v := 0) (by decide) ?_
          refine PW.lcmp (pc := 140) dX7_answer_140 ?_
          refine PW.if_eq (pc := 141) dX7_answer_141 (t := 150) (by decide) (fun hc => ?_) (fun hc => ?_)
          · have h := h.1 ((lg_cmp_eq _ _).mp hc)
            refine PW.lload_n (pc := 150) dX7_answer_150 rfl ?_
            refine PW.lstore_n (pc := 151) dX7_answer_151 (ls' := [.ref 3, .int x1, .int x2, .long x3, .null, .int x5, .long (Int32.toInt64 y11), .null]) (by decide) rfl rfl ?_
            refine PW.goto (pc := 152) dX7_answer_152 (t := 218) (by decide) ?_
            refine PW.iinc (pc := 218) dX7_answer_218 (v := (x5 + 1)) (ls' := [.ref 3, .int x1, .int x2, .long x3, .null, .int (x5 + 1), .long (Int32.toInt64 y11), .null]) rfl rfl (by decide) rfl rfl ?_
            refine PW.goto (pc := 221) dX7_answer_221 (t := 39) (by decide) ?_
            exact PW.drop (ih _ _ _ _ _ hM12 h) ⟨rfl, rfl, rfl, rfl, rfl, trivial⟩
          · have h := h.2 (fun q => hc ((lg_cmp_eq _ _).mpr q))
            refine PW.iload (pc := 144) dX7_answer_144 rfl ?_
            refine PW.i2l (pc := 146) dX7_answer_146 ?_
            refine PW.goto (pc := 147) dX7_answer_147 (t := 151) (by decide) ?_
            refine PW.lstore_n (pc := 151) dX7_answer_151 (ls' := [.ref 3, .int x1, .int x2, .long (Int32.toInt64 x5), .null, .int x5, .long (Int32.toInt64 y11), .null]) (by decide) rfl rfl ?_
            refine PW.goto (pc := 152) dX7_answer_152 (t := 218) (by decide) ?_
            refine PW.iinc (pc := 218) dX7_answer_218 (v := (x5 + 1)) (ls' := [.ref 3, .int x1, .int x2, .long (Int32.toInt64 x5), .null, .int (x5 + 1), .long (Int32.toInt64 y11), .null]) rfl rfl (by decide) rfl rfl ?_
            refine PW.goto (pc := 221) dX7_answer_221 (t := 39) (by decide) ?_
            exact PW.drop (ih _ _ _ _ _ hM12 h) ⟨rfl, rfl, rfl, rfl, rfl, trivial⟩
      · have h := h.2 hc
        refine PW.lload (pc := 105) dX7_answer_105 rfl ?_
        refine PW.lconst (pc := 107) dX7_answer_107 (v := 0) (by decide) ?_
        refine PW.lcmp (pc := 108) dX7_answer_108 ?_
        refine PW.if_eq (pc := 109) dX7_answer_109 (t := 126) (by decide) (fun hc => ?_) (fun hc => ?_)
        · have h := h.1 ((lg_cmp_eq _ _).mp hc)
          refine PW.lload_n (pc := 126) dX7_answer_126 rfl ?_
          refine PW.lstore_n (pc := 127) dX7_answer_127 (ls' := [.ref 3, .int x1, .int x2, .long x3, .null, .int x5, .long (Int32.toInt64 y11), .null]) (by decide) rfl rfl ?_
          refine PW.goto (pc := 128) dX7_answer_128 (t := 218) (by decide) ?_
          refine PW.iinc (pc := 218) dX7_answer_218 (v := (x5 + 1)) (ls' := [.ref 3, .int x1, .int x2, .long x3, .null, .int (x5 + 1), .long (Int32.toInt64 y11), .null]) rfl rfl (by decide) rfl rfl ?_
          refine PW.goto (pc := 221) dX7_answer_221 (t := 39) (by decide) ?_
          exact PW.drop (ih _ _ _ _ _ hM12 h) ⟨rfl, rfl, rfl, rfl, rfl, trivial⟩
        · have h := h.2 (fun q => hc ((lg_cmp_eq _ _).mpr q))
          refine PW.lload_n (pc := 112) dX7_answer_112 rfl ?_
          refine PW.ldc2 (pc := 113) dX7_answer_113 lk_X7_353 ?_
          refine PW.lcmp (pc := 116) dX7_answer_116 ?_
          refine PW.if_ne (pc := 117) dX7_answer_117 (t := 126) (by decide) (fun hc => ?_) (fun hc => ?_)
          · have h := h.1 (fun q => hc ((lg_cmp_eq _ _).mpr q))
            refine PW.lload_n (pc := 126) dX7_answer_126 rfl ?_
            refine PW.lstore_n (pc := 127) dX7_answer_127 (ls' := [.ref 3, .int x1, .int x2, .long x3, .null, .int x5, .long (Int32.toInt64 y11), .null]) (by decide) rfl rfl ?_
            refine PW.goto (pc := 128) dX7_answer_128 (t := 218) (by decide) ?_
            refine PW.iinc (pc := 218) dX7_answer_218 (v := (x5 + 1)) (ls' := [.ref 3, .int x1, .int x2, .long x3, .null, .int (x5 + 1), .long (Int32.toInt64 y11), .null]) rfl rfl (by decide) rfl rfl ?_
            refine PW.goto (pc := 221) dX7_answer_221 (t := 39) (by decide) ?_
            exact PW.drop (ih _ _ _ _ _ hM12 h) ⟨rfl, rfl, rfl, rfl, rfl, trivial⟩
          · have h := h.2 ((lg_cmp_eq _ _).mp hc)
            refine PW.iload (pc := 120) dX7_answer_120 rfl ?_
            refine PW.i2l (pc := 122) dX7_answer_122 ?_
            refine PW.goto (pc := 123) dX7_answer_123 (t := 127) (by decide) ?_
            refine PW.lstore_n (pc := 127) dX7_answer_127 (ls' := [.ref 3, .int x1, .int x2, .long (Int32.toInt64 x5), .null, .int x5, .long (Int32.toInt64 y11), .null]) (by decide) rfl rfl ?_
            refine PW.goto (pc := 128) dX7_answer_128 (t := 218) (by decide) ?_
            refine PW.iinc (pc := 218) dX7_answer_218 (v := (x5 + 1)) (ls' := [.ref 3, .int x1, .int x2, .long (Int32.toInt64 x5), .null, .int (x5 + 1), .long (Int32.toInt64 y11), .null]) rfl rfl (by decide) rfl rfl ?_
            refine PW.goto (pc := 221) dX7_answer_221 (t := 39) (by decide) ?_
            exact PW.drop (ih _ _ _ _ _ hM12 h) ⟨rfl, rfl, rfl, rfl, rfl, trivial⟩
def w_X7_answer (x1 : Int32) (M : pm) (Q : Int64 → pm → Prop) : Prop := w_X1_bestBits (mR M 3 3) 57 M (fun y2 M1 => ((x1 = 28 → (∃ n19, w_X7_answer_39 n19 x1 y2 (-1 : Int64) 0 M1  Q)) ∧ (¬ x1 = 28 → ((¬ x1 = 29 → (∃ n20, w_X7_answer_39 n20 x1 y2 (0 : Int64) 0 M1  Q)) ∧ (x1 = 29 → (∃ n21, w_X7_answer_39 n21 x1 y2 (-1 : Int64) 0 M1  Q))))))
set_option maxRecDepth 4000 in
theorem c_X7_answer {x1 : Int32} {M : pm} {Q : Int64 → pm → Prop}  (hM : pG M) (h : w_X7_answer x1 M Q) : PW mX7_answer 7 350 0 (pfr mX7_answer.2.2.1 [.ref 3, .int x1]) [] M (qJ Q) := by
  unfold w_X7_answer at h
  show PW mX7_answer 7 350 0 [.ref 3, .int x1, .null, .null, .null, .null, .null, .null] [] M (qJ Q)
  refine PW.aload_n (pc := 0) dX7_answer_0 rfl ?_
  refine PW.getR (pc := 1) dX7_answer_1 (r := 44) lf_X7_47 (ob hM.1 s_3 (by decide)) fx_7_8 (oR_7_8 hM s_3) (pS_ne s_44) ?_
  refine PW.aload_n (pc := 4) dX7_answer_4 rfl ?_
  refine PW.getR (pc := 5) dX7_answer_5 (r := (mR M 3 3)) lf_X7_27 (ob hM.1 s_3 (by decide)) fx_7_3 rfl (pS_ne (hM.2.2.2.2.1)) ?_
  refine PW.aload_n (pc := 8) dX7_answer_8 rfl ?_
  refine PW.getR (pc := 9) dX7_answer_9 (r := 57) lf_X7_54 (ob hM.1 s_3 (by decide)) fx_7_9 (oR_7_9 hM s_3) (pS_ne s_57) ?_
  refine PW.inv (m' := mX1_bestBits) (pc := 12) dX7_answer_12 lm_X7_228 me_X1_bestBits mi_X1_bestBits (ob hM.1 s_44 (by decide)) rfl (As := [.ref (mR M 3 3), .ref 57]) (st := []) rfl (Nat.le_of_ble_eq_true rfl) (Nat.le_of_ble_eq_true rfl) (Nat.le_of_eq hM.1) (Nat.le_refl _) (PW.deep (by decide) (c_X1_bestBits (hM.2.2.2.2.1) s_57 hM h)) ?_
  rintro _ M1 ⟨hM3, y2, rfl, h⟩
  refine PW.istore_n (pc := 15) dX7_answer_15 (ls' := [.ref 3, .int x1, .int y2, .null, .null, .null, .null, .null]) (by decide) rfl rfl ?_
  refine PW.iload_n (pc := 16) dX7_answer_16 rfl ?_
  refine PW.bipush (pc := 17) dX7_answer_17 (v := 28) (by decide) ?_
  refine PW.icmp_eq (pc := 19) dX7_answer_19 (t := 28) (by decide) (fun hc => ?_) (fun hc => ?_)
  · have h := h.1 hc
    refine PW.ldc2 (pc := 28) dX7_answer_28 lk_X7_353 ?_
    refine PW.goto (pc := 31) dX7_answer_31 (t := 35) (by decide) ?_
    refine PW.lstore_n (pc := 35) dX7_answer_35 (ls' := [.ref 3, .int x1, .int y2, .long (-1 : Int64), .null, .null, .null, .null]) (by decide) rfl rfl ?_
    refine PW.iconst (pc := 36) dX7_answer_36 (v := 0) (by decide) ?_
    refine PW.istore (pc := 37) dX7_answer_37 (ls' := [.ref 3, .int x1, .int y2, .long (-1 : Int64), .null, .int 0, .null, .null]) (by decide) rfl rfl ?_
    obtain ⟨n19, h⟩ := h
    refine PW.drop (c_X7_answer_39  n19 _ _ _ _ _ hM3 h) ⟨rfl, rfl, rfl, rfl, rfl, trivial⟩
  · have h := h.2 hc
    refine PW.iload_n (pc := 22) dX7_answer_22 rfl ?_
    refine PW.bipush (pc := 23) dX7_answer_23 (v := 29) (by decide) ?_
    refine PW.icmp_ne (pc := 25) dX7_answer_25 (t := 34) (by decide) (fun hc => ?_) (fun hc => ?_)
    · have h := h.1 hc
      refine PW.lconst (pc := 34) dX7_answer_34 (v := 0) (by decide) ?_
      refine PW.lstore_n (pc := 35) dX7_answer_35 (ls' := [.ref 3, .int x1, .int y2, .long (0 : Int64), .null, .null, .null, .null]) (by decide) rfl rfl ?_
      refine PW.iconst (pc := 36) dX7_answer_36 (v := 0) (by decide) ?_
      refine PW.istore (pc := 37) dX7_answer_37 (ls' := [.ref 3, .int x1, .int y2, .long (0 : Int64), .null, .int 0, .null, .null]) (by decide) rfl rfl ?_
      obtain ⟨n20, h⟩ := h
      refine PW.drop (c_X7_answer_39  n20 _ _ _ _ _ hM3 h) ⟨rfl, rfl, rfl, rfl, rfl, trivial⟩
    · have h := h.2 hc
      refine PW.ldc2 (pc := 28) dX7_answer_28 lk_X7_353 ?_
      refine PW.goto (pc := 31) dX7_answer_31 (t := 35) (by decide) ?_
      refine PW.lstore_n (pc := 35) dX7_answer_35 (ls' := [.ref 3, .int x1, .int y2, .long (-1 : Int64), .null, .null, .null, .null]) (by decide) rfl rfl ?_
      refine PW.iconst (pc := 36) dX7_answer_36 (v := 0) (by decide) ?_
      refine PW.istore (pc := 37) dX7_answer_37 (ls' := [.ref 3, .int x1, .int y2, .long (-1 : Int64), .null, .int 0, .null, .null]) (by decide) rfl rfl ?_
      obtain ⟨n21, h⟩ := h
      refine PW.drop (c_X7_answer_39  n21 _ _ _ _ _ hM3 h) ⟨rfl, rfl, rfl, rfl, rfl, trivial⟩
def w_X7_drawByte (x1 : Int32) (M : pm) (Q : pm → Prop) : Prop := ((69 ≤ (mI M 3 16) → (Q M)) ∧ (¬ 69 ≤ (mI M 3 16) → (vp_in (mI M 3 16) 69 ∧ (Q (sI (sI M 275 ((mI M 3 16).toNatClampNeg) (x1 &&& 255)) 3 16 ((mI M 3 16) + 1))))))
set_option maxRecDepth 4000 in
theorem c_X7_drawByte {x1 : Int32} {M : pm} {Q : pm → Prop}  (hM : pG M) (h : w_X7_drawByte x1 M Q) : PW mX7_drawByte 1 350 0 (pfr mX7_drawByte.2.2.1 [.ref 3, .int x1]) [] M (qV Q) := by
  unfold w_X7_drawByte at h
  show PW mX7_drawByte 1 350 0 [.ref 3, .int x1] [] M (qV Q)
  refine PW.aload_n (pc := 0) dX7_drawByte_0 rfl ?_
  refine PW.getI (pc := 1) dX7_drawByte_1 lf_X7_83 (ob hM.1 s_3 (by decide)) fx_7_16 ?_
  refine PW.aload_n (pc := 4) dX7_drawByte_4 rfl ?_
  refine PW.getR (pc := 5) dX7_drawByte_5 (r := 275) lf_X7_80 (ob hM.1 s_3 (by decide)) fx_7_15 (oR_7_15 hM s_3) (pS_ne s_275) ?_
  refine PW.alen (pc := 8) dX7_drawByte_8 (v := 69) (ar hM.1 s_275) (by decide) (by rw [n_275]; rfl) ?_
  refine PW.icmp_ge (pc := 9) dX7_drawByte_9 (t := 36) (by decide) (fun hc => ?_) (fun hc => ?_)
  · have h := h.1 hc
    exact PW.ret0 (pc := 36) dX7_drawByte_36 hM.1 rfl ⟨hM, rfl, h⟩
  · have h := h.2 hc
    refine PW.aload_n (pc := 12) dX7_drawByte_12 rfl ?_
    refine PW.getR (pc := 13) dX7_drawByte_13 (r := 275) lf_X7_80 (ob hM.1 s_3 (by decide)) fx_7_15 (oR_7_15 hM s_3) (pS_ne s_275) ?_
    refine PW.aload_n (pc := 16) dX7_drawByte_16 rfl ?_
    refine PW.getI (pc := 17) dX7_drawByte_17 lf_X7_83 (ob hM.1 s_3 (by decide)) fx_7_16 ?_
    refine PW.iload_n (pc := 20) dX7_drawByte_20 rfl ?_
    refine PW.sipush (pc := 21) dX7_drawByte_21 (v := 255) (by decide) ?_
    refine PW.iand (pc := 24) dX7_drawByte_24 ?_
    obtain ⟨v1, h⟩ := h
    refine PW.iast (pc := 25) dX7_drawByte_25 (ar hM.1 s_275) (vpl n_275 v1) ?_
    refine PW.aload_n (pc := 26) dX7_drawByte_26 rfl ?_
    refine PW.dupR (pc := 27) dX7_drawByte_27 ?_
    refine PW.getI (pc := 28) dX7_drawByte_28 lf_X7_83 (ob hM.1 s_3 (by decide)) fx_7_16 ?_
    refine PW.iconst (pc := 31) dX7_drawByte_31 (v := 1) (by decide) ?_
    refine PW.iadd (pc := 32) dX7_drawByte_32 ?_
    refine PW.putI (pc := 33) dX7_drawByte_33 lf_X7_83 (ob hM.1 s_3 (by decide)) fx_7_16 fw_7_16 rfl rfl ?_
    exact PW.ret0 (pc := 36) dX7_drawByte_36 hM.1 rfl ⟨(hM.same rfl rfl), rfl, h⟩
def w_X7_drawPair (x1 : Int32) (M : pm) (Q : pm → Prop) : Prop := w_X7_drawByte (x1 >>> (8 &&& 31)) M (fun M1 => w_X7_drawByte x1 M1 (fun M4 => Q M4))
set_option maxRecDepth 4000 in
theorem c_X7_drawPair {x1 : Int32} {M : pm} {Q : pm → Prop}  (hM : pG M) (h : w_X7_drawPair x1 M Q) : PW mX7_drawPair 2 350 0 (pfr mX7_drawPair.2.2.1 [.ref 3, .int x1]) [] M (qV Q) := by
  unfold w_X7_drawPair at h
  show PW mX7_drawPair 2 350 0 [.ref 3, .int x1] [] M (qV Q)
  refine PW.aload_n (pc := 0) dX7_drawPair_0 rfl ?_
  refine PW.iload_n (pc := 1) dX7_drawPair_1 rfl ?_
  refine PW.bipush (pc := 2) dX7_drawPair_2 (v := 8) (by decide) ?_
  refine PW.ishr (pc := 4) dX7_drawPair_4 ?_
  refine PW.inv (m' := mX7_drawByte) (pc := 5) dX7_drawPair_5 lm_X7_377 me_X7_drawByte mi_X7_drawByte (ob hM.1 s_3 (by decide)) rfl (As := [.int (x1 >>> (8 &&& 31))]) (st := []) rfl (Nat.le_of_ble_eq_true rfl) (Nat.le_of_ble_eq_true rfl) (Nat.le_of_eq hM.1) (Nat.le_refl _) (PW.deep (by decide) (c_X7_drawByte  hM h)) ?_
  rintro _ M1 ⟨hM3, rfl, h⟩
  refine PW.aload_n (pc := 8) dX7_drawPair_8 rfl ?_
  refine PW.iload_n (pc := 9) dX7_drawPair_9 rfl ?_
  refine PW.inv (m' := mX7_drawByte) (pc := 10) dX7_drawPair_10 lm_X7_377 me_X7_drawByte mi_X7_drawByte (ob hM3.1 s_3 (by decide)) rfl (As := [.int x1]) (st := []) rfl (Nat.le_of_ble_eq_true rfl) (Nat.le_of_ble_eq_true rfl) (Nat.le_of_eq hM3.1) (Nat.le_refl _) (PW.deep (by decide) (c_X7_drawByte  hM3 h)) ?_
  rintro _ M4 ⟨hM6, rfl, h⟩
  exact PW.ret0 (pc := 13) dX7_drawPair_13 hM6.1 rfl ⟨hM6, rfl, h⟩
def w_X7_image_29 : Nat → Int32 → pm → (pm → Prop) → (Int32 → pm → Prop) → Prop
  | 0, _, _, _, _ => False
  | n + 1, x1, M, k113, Q => (((mI M (mR M 3 3) 8) ≤ x1 → (k113  M)) ∧ (¬ (mI M (mR M 3 3) 8) ≤ x1 → (vp_in x1 8 ∧ (w_X7_drawByte (mI M 58 x1.toNatClampNeg) M (fun M8 => vp_in x1 8 ∧ (w_X7_drawPair (mI M8 59 x1.toNatClampNeg) M8 (fun M12 => vp_in x1 8 ∧ (w_X7_drawByte (mI M12 60 x1.toNatClampNeg) M12 (fun M16 => vp_in x1 8 ∧ (w_X7_drawPair ((mI M16 61 x1.toNatClampNeg) + 1) M16 (fun M20 => vp_in x1 8 ∧ (w_X7_drawPair (mI M20 62 x1.toNatClampNeg) M20 (fun M24 => w_X7_image_29 n (x1 + 1) M24 k113 Q)))))))))))))
set_option maxRecDepth 4000 in
theorem c_X7_image_29 {k113 : pm → Prop} {Q : Int32 → pm → Prop} (hk113 : ∀  (M : pm), pG M → k113  M → PW mX7_image 3 350 113 [.ref 3, .null, .null] [] M (qI Q)) : ∀ (n : Nat) (x1 : Int32) (M : pm), pG M → w_X7_image_29 n x1 M k113 Q → PW mX7_image 3 350 29 [.ref 3, .int x1, .null] [] M (qI Q) := by
  intro n
  induction n with
  | zero => intro x1 M hM h; exact h.elim
  | succ n ih =>
    intro x1 M hM h
    unfold w_X7_image_29 at h
    refine PW.iload_n (pc := 29) dX7_image_29 rfl ?_
    refine PW.aload_n (pc := 30) dX7_image_30 rfl ?_
    refine PW.getR (pc := 31) dX7_image_31 (r := (mR M 3 3)) lf_X7_27 (ob hM.1 s_3 (by decide)) fx_7_3 rfl (pS_ne (hM.2.2.2.2.1)) ?_
    refine PW.getI (pc := 34) dX7_image_34 lf_X7_138 (ob hM.1 (hM.2.2.2.2.1) (by decide)) fx_5_8 ?_
    refine PW.icmp_ge (pc := 37) dX7_image_37 (t := 113) (by decide) (fun hc => ?_) (fun hc => ?_)
    · have h := h.1 hc
      exact PW.drop (hk113 _ hM h) ⟨rfl, trivial⟩
    · have h := h.2 hc
      refine PW.aload_n (pc := 40) dX7_image_40 rfl ?_
      refine PW.aload_n (pc := 41) dX7_image_41 rfl ?_
      refine PW.getR (pc := 42) dX7_image_42 (r := 57) lf_X7_54 (ob hM.1 s_3 (by decide)) fx_7_9 (oR_7_9 hM s_3) (pS_ne s_57) ?_
      refine PW.getR (pc := 45) dX7_image_45 (r := 58) lf_X7_206 (ob hM.1 s_57 (by decide)) fx_4_2 (oR_4_2 hM s_57) (pS_ne s_58) ?_
      refine PW.iload_n (pc := 48) dX7_image_48 rfl ?_
      obtain ⟨v7, h⟩ := h
      refine PW.iald (pc := 49) dX7_image_49 (ar hM.1 s_58) (vpl n_58 v7) ?_
      refine PW.inv (m' := mX7_drawByte) (pc := 50) dX7_image_50 lm_X7_377 me_X7_drawByte mi_X7_drawByte (ob hM.1 s_3 (by decide)) rfl (As := [.int (mI M 58 x1.toNatClampNeg)]) (st := []) rfl (Nat.le_of_ble_eq_true rfl) (Nat.le_of_ble_eq_true rfl) (Nat.le_of_eq hM.1) (Nat.le_refl _) (PW.deep (by decide) (c_X7_drawByte  hM h)) ?_
      rintro _ M8 ⟨hM10, rfl, h⟩
      refine PW.aload_n (pc := 53) dX7_image_53 rfl ?_
      refine PW.aload_n (pc := 54) dX7_image_54 rfl ?_
      refine PW.getR (pc := 55) dX7_image_55 (r := 57) lf_X7_54 (ob hM10.1 s_3 (by decide)) fx_7_9 (oR_7_9 hM10 s_3) (pS_ne s_57) ?_
      refine PW.getR (pc := 58) dX7_image_58 (r := 59) lf_X7_209 (ob hM10.1 s_57 (by decide)) fx_4_3 (oR_4_3 hM10 s_57) (pS_ne s_59) ?_
      refine PW.iload_n (pc := 61) dX7_image_61 rfl ?_
      obtain ⟨v11, h⟩ := h
      refine PW.iald (pc := 62) dX7_image_62 (ar hM10.1 s_59) (vpl n_59 v11) ?_
      refine PW.inv (m' := mX7_drawPair) (pc := 63) dX7_image_63 lm_X7_374 me_X7_drawPair mi_X7_drawPair (ob hM10.1 s_3 (by decide)) rfl (As := [.int (mI M8 59 x1.toNatClampNeg)]) (st := []) rfl (Nat.le_of_ble_eq_true rfl) (Nat.le_of_ble_eq_true rfl) (Nat.le_of_eq hM10.1) (Nat.le_refl _) (PW.deep (by decide) (c_X7_drawPair  hM10 h)) ?_
      rintro _ M12 ⟨hM14, rfl, h⟩
      refine PW.aload_n (pc := 66) dX7_image_66 rfl ?_
      refine PW.aload_n (pc := 67) dX7_image_67 rfl ?_
      refine PW.getR (pc := 68) dX7_image_68 (r := 57) lf_X7_54 (ob hM14.1 s_3 (by decide)) fx_7_9 (oR_7_9 hM14 s_3) (pS_ne s_57) ?_
      refine PW.getR (pc := 71) dX7_image_71 (r := 60) lf_X7_175 (ob hM14.1 s_57 (by decide)) fx_4_4 (oR_4_4 hM14 s_57) (pS_ne s_60) ?_
      refine PW.iload_n (pc := 74) dX7_image_74 rfl ?_
      obtain ⟨v15, h⟩ := h
      refine PW.iald (pc := 75) dX7_image_75 (ar hM14.1 s_60) (vpl n_60 v15) ?_
      refine PW.inv (m' := mX7_drawByte) (pc := 76) dX7_image_76 lm_X7_377 me_X7_drawByte mi_X7_drawByte (ob hM14.1 s_3 (by decide)) rfl (As := [.int (mI M12 60 x1.toNatClampNeg)]) (st := []) rfl (Nat.le_of_ble_eq_true rfl) (Nat.le_of_ble_eq_true rfl) (Nat.le_of_eq hM14.1) (Nat.le_refl _) (PW.deep (by decide) (c_X7_drawByte  hM14 h)) ?_
      rintro _ M16 ⟨hM18, rfl, h⟩
      refine PW.aload_n (pc := 79) dX7_image_79 rfl ?_
      refine PW.aload_n (pc := 80) dX7_image_80 rfl ?_
      refine PW.getR (pc := 81) dX7_image_81 (r := 57) lf_X7_54 (ob hM18.1 s_3 (by decide)) fx_7_9 (oR_7_9 hM18 s_3) (pS_ne s_57) ?_
      refine PW.getR (pc := 84) dX7_image_84 (r := 61) lf_X7_380 (ob hM18.1 s_57 (by decide)) fx_4_5 (oR_4_5 hM18 s_57) (pS_ne s_61) ?_
      refine PW.iload_n (pc := 87) dX7_image_87 rfl ?_
      obtain ⟨v19, h⟩ := h
      refine PW.iald (pc := 88) dX7_image_88 (ar hM18.1 s_61) (vpl n_61 v19) ?_
      refine PW.iconst (pc := 89) dX7_image_89 (v := 1) (by decide) ?_
      refine PW.iadd (pc := 90) dX7_image_90 ?_
      refine PW.inv (m' := mX7_drawPair) (pc := 91) dX7_image_91 lm_X7_374 me_X7_drawPair mi_X7_drawPair (ob hM18.1 s_3 (by decide)) rfl (As := [.int ((mI M16 61 x1.toNatClampNeg) + 1)]) (st := []) rfl (Nat.le_of_ble_eq_true rfl) (Nat.le_of_ble_eq_true rfl) (Nat.le_of_eq hM18.1) (Nat.le_refl _) (PW.deep (by decide) (c_X7_drawPair  hM18 h)) ?_
      rintro _ M20 ⟨hM22, rfl, h⟩
      refine PW.aload_n (pc := 94) dX7_image_94 rfl ?_
      refine PW.aload_n (pc := 95) dX7_image_95 rfl ?_
      refine PW.getR (pc := 96) dX7_image_96 (r := 57) lf_X7_54 (ob hM22.1 s_3 (by decide)) fx_7_9 (oR_7_9 hM22 s_3) (pS_ne s_57) ?_
      refine PW.getR (pc := 99) dX7_image_99 (r := 62) lf_X7_212 (ob hM22.1 s_57 (by decide)) fx_4_6 (oR_4_6 hM22 s_57) (pS_ne s_62) ?_
      refine PW.iload_n (pc := 102) dX7_image_102 rfl ?_
      obtain ⟨v23, h⟩ := h
      refine PW.iald (pc := 103) dX7_image_103 (ar hM22.1 s_62) (vpl n_62 v23) ?_
      refine PW.inv (m' := mX7_drawPair) (pc := 104) dX7_image_104 lm_X7_374 me_X7_drawPair mi_X7_drawPair (ob hM22.1 s_3 (by decide)) rfl (As := [.int (mI M20 62 x1.toNatClampNeg)]) (st := []) rfl (Nat.le_of_ble_eq_true rfl) (Nat.le_of_ble_eq_true rfl) (Nat.le_of_eq hM22.1) (Nat.le_refl _) (PW.deep (by decide) (c_X7_drawPair  hM22 h)) ?_
      rintro _ M24 ⟨hM26, rfl, h⟩
      refine PW.iinc (pc := 107) dX7_image_107 (v := (x1 + 1)) (ls' := [.ref 3, .int (x1 + 1), .null]) rfl rfl (by decide) rfl rfl ?_
      refine PW.goto (pc := 110) dX7_image_110 (t := 29) (by decide) ?_
      exact PW.drop (ih _ _ hM26 h) ⟨rfl, rfl, trivial⟩
def w_X7_image_119 : Nat → Int32 → Int32 → pm → (Int32 → pm → Prop) → Prop
  | 0, _, _, _, _ => False
  | n + 1, x1, x2, M, Q => (((mI M 3 16) ≤ x2 → (w_X7_drawByte x1 M (fun M29 => Q (mI M29 3 16) M29))) ∧ (¬ (mI M 3 16) ≤ x2 → (vp_in x2 69 ∧ (w_X7_image_119 n (irm ((3 * x1) + (mI M 275 x2.toNatClampNeg)) 251) (x2 + 1) M Q))))
set_option maxRecDepth 4000 in
theorem c_X7_image_119  {Q : Int32 → pm → Prop}  : ∀ (n : Nat) (x1 : Int32) (x2 : Int32) (M : pm), pG M → w_X7_image_119 n x1 x2 M  Q → PW mX7_image 3 350 119 [.ref 3, .int x1, .int x2] [] M (qI Q) := by
  intro n
  induction n with
  | zero => intro x1 x2 M hM h; exact h.elim
  | succ n ih =>
    intro x1 x2 M hM h
    unfold w_X7_image_119 at h
    refine PW.iload_n (pc := 119) dX7_image_119 rfl ?_
    refine PW.aload_n (pc := 120) dX7_image_120 rfl ?_
    refine PW.getI (pc := 121) dX7_image_121 lf_X7_83 (ob hM.1 s_3 (by decide)) fx_7_16 ?_
    refine PW.icmp_ge (pc := 124) dX7_image_124 (t := 148) (by decide) (fun hc => ?_) (fun hc => ?_)
    · have h := h.1 hc
      refine PW.aload_n (pc := 148) dX7_image_148 rfl ?_
      refine PW.iload_n (pc := 149) dX7_image_149 rfl ?_
      refine PW.inv (m' := mX7_drawByte) (pc := 150) dX7_image_150 lm_X7_377 me_X7_drawByte mi_X7_drawByte (ob hM.1 s_3 (by decide)) rfl (As := [.int x1]) (st := []) rfl (Nat.le_of_ble_eq_true rfl) (Nat.le_of_ble_eq_true rfl) (Nat.le_of_eq hM.1) (Nat.le_refl _) (PW.deep (by decide) (c_X7_drawByte  hM h)) ?_
      rintro _ M29 ⟨hM31, rfl, h⟩
      refine PW.aload_n (pc := 153) dX7_image_153 rfl ?_
      refine PW.getI (pc := 154) dX7_image_154 lf_X7_83 (ob hM31.1 s_3 (by decide)) fx_7_16 ?_
      exact PW.retI (pc := 157) dX7_image_157 hM31.1 rfl rfl ⟨hM31, _, rfl, h⟩
    · have h := h.2 hc
      refine PW.iconst (pc := 127) dX7_image_127 (v := 3) (by decide) ?_
      refine PW.iload_n (pc := 128) dX7_image_128 rfl ?_
      refine PW.imul (pc := 129) dX7_image_129 ?_
      refine PW.aload_n (pc := 130) dX7_image_130 rfl ?_
      refine PW.getR (pc := 131) dX7_image_131 (r := 275) lf_X7_80 (ob hM.1 s_3 (by decide)) fx_7_15 (oR_7_15 hM s_3) (pS_ne s_275) ?_
      refine PW.iload_n (pc := 134) dX7_image_134 rfl ?_
      obtain ⟨v32, h⟩ := h
      refine PW.iald (pc := 135) dX7_image_135 (ar hM.1 s_275) (vpl n_275 v32) ?_
      refine PW.iadd (pc := 136) dX7_image_136 ?_
      refine PW.sipush (pc := 137) dX7_image_137 (v := 251) (by decide) ?_
      refine PW.irem (pc := 140) dX7_image_140 (by decide) ?_
      refine PW.istore_n (pc := 141) dX7_image_141 (ls' := [.ref 3, .int (irm ((3 * x1) + (mI M 275 x2.toNatClampNeg)) 251), .int x2]) (by decide) rfl rfl ?_
      refine PW.iinc (pc := 142) dX7_image_142 (v := (x2 + 1)) (ls' := [.ref 3, .int (irm ((3 * x1) + (mI M 275 x2.toNatClampNeg)) 251), .int (x2 + 1)]) rfl rfl (by decide) rfl rfl ?_
      refine PW.goto (pc := 145) dX7_image_145 (t := 119) (by decide) ?_
      exact PW.drop (ih _ _ _ hM h) ⟨rfl, rfl, rfl, trivial⟩
def w_X7_image  (M : pm) (Q : Int32 → pm → Prop) : Prop := w_X7_drawPair (mI M 57 0) (sI M 3 16 0) (fun M1 => w_X7_drawPair (mI M1 57 1) M1 (fun M4 => ∃ n27, w_X7_image_29 n27 0 M4 (fun M28 => ∃ n33, w_X7_image_119 n33 151 0 M28  Q) Q))
set_option maxRecDepth 4000 in
theorem c_X7_image  {M : pm} {Q : Int32 → pm → Prop}  (hM : pG M) (h : w_X7_image  M Q) : PW mX7_image 3 350 0 (pfr mX7_image.2.2.1 [.ref 3]) [] M (qI Q) := by
  unfold w_X7_image at h
  show PW mX7_image 3 350 0 [.ref 3, .null, .null] [] M (qI Q)
  refine PW.aload_n (pc := 0) dX7_image_0 rfl ?_
  refine PW.iconst (pc := 1) dX7_image_1 (v := 0) (by decide) ?_
  refine PW.putI (pc := 2) dX7_image_2 lf_X7_83 (ob hM.1 s_3 (by decide)) fx_7_16 fw_7_16 rfl rfl ?_
  refine PW.aload_n (pc := 5) dX7_image_5 rfl ?_
  refine PW.aload_n (pc := 6) dX7_image_6 rfl ?_
  refine PW.getR (pc := 7) dX7_image_7 (r := 57) lf_X7_54 (ob hM.1 s_3 (by decide)) fx_7_9 (oR_7_9 (hM.same rfl rfl) s_3) (pS_ne s_57) ?_
  refine PW.getI (pc := 10) dX7_image_10 lf_X7_144 (ob hM.1 s_57 (by decide)) fx_4_0 ?_
  refine PW.inv (m' := mX7_drawPair) (pc := 13) dX7_image_13 lm_X7_374 me_X7_drawPair mi_X7_drawPair (ob hM.1 s_3 (by decide)) rfl (As := [.int (mI M 57 0)]) (st := []) rfl (Nat.le_of_ble_eq_true rfl) (Nat.le_of_ble_eq_true rfl) (Nat.le_of_eq hM.1) (Nat.le_refl _) (PW.deep (by decide) (c_X7_drawPair  (hM.same rfl rfl) h)) ?_
  rintro _ M1 ⟨hM3, rfl, h⟩
  refine PW.aload_n (pc := 16) dX7_image_16 rfl ?_
  refine PW.aload_n (pc := 17) dX7_image_17 rfl ?_
  refine PW.getR (pc := 18) dX7_image_18 (r := 57) lf_X7_54 (ob hM3.1 s_3 (by decide)) fx_7_9 (oR_7_9 hM3 s_3) (pS_ne s_57) ?_
  refine PW.getI (pc := 21) dX7_image_21 lf_X7_147 (ob hM3.1 s_57 (by decide)) fx_4_1 ?_
  refine PW.inv (m' := mX7_drawPair) (pc := 24) dX7_image_24 lm_X7_374 me_X7_drawPair mi_X7_drawPair (ob hM3.1 s_3 (by decide)) rfl (As := [.int (mI M1 57 1)]) (st := []) rfl (Nat.le_of_ble_eq_true rfl) (Nat.le_of_ble_eq_true rfl) (Nat.le_of_eq hM3.1) (Nat.le_refl _) (PW.deep (by decide) (c_X7_drawPair  hM3 h)) ?_
  rintro _ M4 ⟨hM6, rfl, h⟩
  refine PW.iconst (pc := 27) dX7_image_27 (v := 0) (by decide) ?_
  refine PW.istore_n (pc := 28) dX7_image_28 (ls' := [.ref 3, .int 0, .null]) (by decide) rfl rfl ?_
  obtain ⟨n27, h⟩ := h
  refine PW.drop (c_X7_image_29 ?_ n27 _ _ hM6 h) ⟨rfl, rfl, trivial⟩
  · intro M28 hM h
    refine PW.sipush (pc := 113) dX7_image_113 (v := 151) (by decide) ?_
    refine PW.istore_n (pc := 116) dX7_image_116 (ls' := [.ref 3, .int 151, .null]) (by decide) rfl rfl ?_
    refine PW.iconst (pc := 117) dX7_image_117 (v := 0) (by decide) ?_
    refine PW.istore_n (pc := 118) dX7_image_118 (ls' := [.ref 3, .int 151, .int 0]) (by decide) rfl rfl ?_
    obtain ⟨n33, h⟩ := h
    refine PW.drop (c_X7_image_119  n33 _ _ _ hM h) ⟨rfl, rfl, rfl, trivial⟩
def w_X7_octet (x1 : Int32) (M : pm) (Q : Int32 → pm → Prop) : Prop := ((x1 < 0 → (Q (-1) M)) ∧ (¬ x1 < 0 → (((mI M 3 16) ≤ x1 → (Q (-1) M)) ∧ (¬ (mI M 3 16) ≤ x1 → ((69 ≤ x1 → (Q (-1) M)) ∧ (¬ 69 ≤ x1 → (vp_in x1 69 ∧ (Q (mI M 275 x1.toNatClampNeg) M))))))))
set_option maxRecDepth 4000 in
theorem c_X7_octet {x1 : Int32} {M : pm} {Q : Int32 → pm → Prop}  (hM : pG M) (h : w_X7_octet x1 M Q) : PW mX7_octet 1 350 0 (pfr mX7_octet.2.2.1 [.ref 3, .int x1]) [] M (qI Q) := by
  unfold w_X7_octet at h
  show PW mX7_octet 1 350 0 [.ref 3, .int x1] [] M (qI Q)
  refine PW.iload_n (pc := 0) dX7_octet_0 rfl ?_
  refine PW.if_lt (pc := 1) dX7_octet_1 (t := 27) (by decide) (fun hc => ?_) (fun hc => ?_)
  · have h := h.1 hc
    refine PW.iconst (pc := 27) dX7_octet_27 (v := (-1)) (by decide) ?_
    exact PW.retI (pc := 28) dX7_octet_28 hM.1 rfl rfl ⟨hM, _, rfl, h⟩
  · have h := h.2 hc
    refine PW.iload_n (pc := 4) dX7_octet_4 rfl ?_
    refine PW.aload_n (pc := 5) dX7_octet_5 rfl ?_
    refine PW.getI (pc := 6) dX7_octet_6 lf_X7_83 (ob hM.1 s_3 (by decide)) fx_7_16 ?_
    refine PW.icmp_ge (pc := 9) dX7_octet_9 (t := 27) (by decide) (fun hc => ?_) (fun hc => ?_)
    · have h := h.1 hc
      refine PW.iconst (pc := 27) dX7_octet_27 (v := (-1)) (by decide) ?_
      exact PW.retI (pc := 28) dX7_octet_28 hM.1 rfl rfl ⟨hM, _, rfl, h⟩
    · have h := h.2 hc
      refine PW.iload_n (pc := 12) dX7_octet_12 rfl ?_
      refine PW.bipush (pc := 13) dX7_octet_13 (v := 69) (by decide) ?_
      refine PW.icmp_ge (pc := 15) dX7_octet_15 (t := 27) (by decide) (fun hc => ?_) (fun hc => ?_)
      · have h := h.1 hc
        refine PW.iconst (pc := 27) dX7_octet_27 (v := (-1)) (by decide) ?_
        exact PW.retI (pc := 28) dX7_octet_28 hM.1 rfl rfl ⟨hM, _, rfl, h⟩
      · have h := h.2 hc
        refine PW.aload_n (pc := 18) dX7_octet_18 rfl ?_
        refine PW.getR (pc := 19) dX7_octet_19 (r := 275) lf_X7_80 (ob hM.1 s_3 (by decide)) fx_7_15 (oR_7_15 hM s_3) (pS_ne s_275) ?_
        refine PW.iload_n (pc := 22) dX7_octet_22 rfl ?_
        obtain ⟨v1, h⟩ := h
        refine PW.iald (pc := 23) dX7_octet_23 (ar hM.1 s_275) (vpl n_275 v1) ?_
        refine PW.goto (pc := 24) dX7_octet_24 (t := 28) (by decide) ?_
        exact PW.retI (pc := 28) dX7_octet_28 hM.1 rfl rfl ⟨hM, _, rfl, h⟩
def w_X7_isImageTape_26 : Nat → Int32 → Int32 → Int32 → pm → (Int32 → Int32 → pm → Prop) → (Int32 → pm → Prop) → Prop
  | 0, _, _, _, _, _, _ => False
  | n + 1, x1, x2, x3, M, k53, Q => (((x1 - 1) ≤ x3 → (k53 x1 x2 M)) ∧ (¬ (x1 - 1) ≤ x3 → (w_X7_tapeByte x3 M (fun y2 M1 => w_X7_isImageTape_26 n x1 (irm ((3 * x2) + y2) 251) (x3 + 1) M1 k53 Q))))
set_option maxRecDepth 4000 in
theorem c_X7_isImageTape_26 {k53 : Int32 → Int32 → pm → Prop} {Q : Int32 → pm → Prop} (hk53 : ∀ (x1 : Int32) (x2 : Int32) (M : pm), pG M → k53 x1 x2 M → PW mX7_isImageTape 3 350 53 [.ref 3, .int x1, .int x2, .null, .null] [] M (qZ Q)) : ∀ (n : Nat) (x1 : Int32) (x2 : Int32) (x3 : Int32) (M : pm), pG M → w_X7_isImageTape_26 n x1 x2 x3 M k53 Q → PW mX7_isImageTape 3 350 26 [.ref 3, .int x1, .int x2, .int x3, .null] [] M (qZ Q) := by
  intro n
  induction n with
  | zero => intro x1 x2 x3 M hM h; exact h.elim
  | succ n ih =>
    intro x1 x2 x3 M hM h
    unfold w_X7_isImageTape_26 at h
    refine PW.iload_n (pc := 26) dX7_isImageTape_26 rfl ?_
    refine PW.iload_n (pc := 27) dX7_isImageTape_27 rfl ?_
    refine PW.iconst (pc := 28) dX7_isImageTape_28 (v := 1) (by decide) ?_
    refine PW.isub (pc := 29) dX7_isImageTape_29 ?_
    refine PW.icmp_ge (pc := 30) dX7_isImageTape_30 (t := 53) (by decide) (fun hc => ?_) (fun hc => ?_)
    · have h := h.1 hc
      exact PW.drop (hk53 _ _ _ hM h) ⟨rfl, rfl, rfl, trivial⟩
    · have h := h.2 hc
      refine PW.iconst (pc := 33) dX7_isImageTape_33 (v := 3) (by decide) ?_
      refine PW.iload_n (pc := 34) dX7_isImageTape_34 rfl ?_
      refine PW.imul (pc := 35) dX7_isImageTape_35 ?_
      refine PW.aload_n (pc := 36) dX7_isImageTape_36 rfl ?_
      refine PW.iload_n (pc := 37) dX7_isImageTape_37 rfl ?_
      refine PW.inv (m' := mX7_tapeByte) (pc := 38) dX7_isImageTape_38 lm_X7_99 me_X7_tapeByte mi_X7_tapeByte (ob hM.1 s_3 (by decide)) rfl (As := [.int x3]) (st := [.int (3 * x2)]) rfl (Nat.le_of_ble_eq_true rfl) (Nat.le_of_ble_eq_true rfl) (Nat.le_of_eq hM.1) (Nat.le_refl _) (PW.deep (by decide) (c_X7_tapeByte  hM h)) ?_
      rintro _ M1 ⟨hM3, y2, rfl, h⟩
      refine PW.iadd (pc := 41) dX7_isImageTape_41 ?_
      refine PW.sipush (pc := 42) dX7_isImageTape_42 (v := 251) (by decide) ?_
      refine PW.irem (pc := 45) dX7_isImageTape_45 (by decide) ?_
      refine PW.istore_n (pc := 46) dX7_isImageTape_46 (ls' := [.ref 3, .int x1, .int (irm ((3 * x2) + y2) 251), .int x3, .null]) (by decide) rfl rfl ?_
      refine PW.iinc (pc := 47) dX7_isImageTape_47 (v := (x3 + 1)) (ls' := [.ref 3, .int x1, .int (irm ((3 * x2) + y2) 251), .int (x3 + 1), .null]) rfl rfl (by decide) rfl rfl ?_
      refine PW.goto (pc := 50) dX7_isImageTape_50 (t := 26) (by decide) ?_
      exact PW.drop (ih _ _ _ _ hM3 h) ⟨rfl, rfl, rfl, rfl, trivial⟩
def w_X7_isImageTape_90 : Nat → Int32 → pm → (Int32 → pm → Prop) → Prop
  | 0, _, _, _ => False
  | n + 1, x3, M, Q => (((mI M (mR M 3 3) 8) ≤ x3 → (Q 1 M)) ∧ (¬ (mI M (mR M 3 3) 8) ≤ x3 → (w_X7_tapeByte (4 + (8 * x3)) M (fun y16 M15 => w_X7_isSong y16 M15 (fun y19 M18 => ((y19 = 0 → (Q 0 M18)) ∧ (¬ y19 = 0 → (w_X7_tapePair ((4 + (8 * x3)) + 1) M18 (fun y23 M22 => ((999 < y23 → (Q 0 M22)) ∧ (¬ 999 < y23 → (w_X7_tapeByte ((4 + (8 * x3)) + 3) M22 (fun y26 M25 => ((99 < y26 → (Q 0 M25)) ∧ (¬ 99 < y26 → (w_X7_tapePair ((4 + (8 * x3)) + 4) M25 (fun y29 M28 => w_X7_tapePair 0 M28 (fun y32 M31 => ((y32 < (y29 - 1) → (Q 0 M31)) ∧ (¬ y32 < (y29 - 1) → (w_X7_tapePair ((4 + (8 * x3)) + 6) M31 (fun y35 M34 => ((y35 ≤ 999 → (w_X7_isImageTape_90 n (x3 + 1) M34 Q)) ∧ (¬ y35 ≤ 999 → (Q 0 M34)))))))))))))))))))))))))
set_option maxRecDepth 4000 in
theorem c_X7_isImageTape_90  {Q : Int32 → pm → Prop}  : ∀ (n : Nat) (x3 : Int32) (M : pm), pG M → w_X7_isImageTape_90 n x3 M  Q → PW mX7_isImageTape 3 350 90 [.ref 3, .null, .null, .int x3, .null] [] M (qZ Q) := by
  intro n
  induction n with
  | zero => intro x3 M hM h; exact h.elim
  | succ n ih =>
    intro x3 M hM h
    unfold w_X7_isImageTape_90 at h
    refine PW.iload_n (pc := 90) dX7_isImageTape_90 rfl ?_
    refine PW.aload_n (pc := 91) dX7_isImageTape_91 rfl ?_
    refine PW.getR (pc := 92) dX7_isImageTape_92 (r := (mR M 3 3)) lf_X7_27 (ob hM.1 s_3 (by decide)) fx_7_3 rfl (pS_ne (hM.2.2.2.2.1)) ?_
    refine PW.getI (pc := 95) dX7_isImageTape_95 lf_X7_138 (ob hM.1 (hM.2.2.2.2.1) (by decide)) fx_5_8 ?_
    refine PW.icmp_ge (pc := 98) dX7_isImageTape_98 (t := 190) (by decide) (fun hc => ?_) (fun hc => ?_)
    · have h := h.1 hc
      refine PW.iconst (pc := 190) dX7_isImageTape_190 (v := 1) (by decide) ?_
      exact PW.retI (pc := 191) dX7_isImageTape_191 hM.1 rfl (bz_n bz1) ⟨hM, _, rfl, bz1, h⟩
    · have h := h.2 hc
      refine PW.iconst (pc := 101) dX7_isImageTape_101 (v := 4) (by decide) ?_
      refine PW.bipush (pc := 102) dX7_isImageTape_102 (v := 8) (by decide) ?_
      refine PW.iload_n (pc := 104) dX7_isImageTape_104 rfl ?_
      refine PW.imul (pc := 105) dX7_isImageTape_105 ?_
      refine PW.iadd (pc := 106) dX7_isImageTape_106 ?_
      refine PW.istore (pc := 107) dX7_isImageTape_107 (ls' := [.ref 3, .null, .null, .int x3, .int (4 + (8 * x3))]) (by decide) rfl rfl ?_
      refine PW.aload_n (pc := 109) dX7_isImageTape_109 rfl ?_
      refine PW.aload_n (pc := 110) dX7_isImageTape_110 rfl ?_
      refine PW.iload (pc := 111) dX7_isImageTape_111 rfl ?_
      refine PW.inv (m' := mX7_tapeByte) (pc := 113) dX7_isImageTape_113 lm_X7_99 me_X7_tapeByte mi_X7_tapeByte (ob hM.1 s_3 (by decide)) rfl (As := [.int (4 + (8 * x3))]) (st := [.ref 3]) rfl (Nat.le_of_ble_eq_true rfl) (Nat.le_of_ble_eq_true rfl) (Nat.le_of_eq hM.1) (Nat.le_refl _) (PW.deep (by decide) (c_X7_tapeByte  hM h)) ?_
      rintro _ M15 ⟨hM17, y16, rfl, h⟩
      refine PW.inv (m' := mX7_isSong) (pc := 116) dX7_isImageTape_116 lm_X7_178 me_X7_isSong mi_X7_isSong (ob hM17.1 s_3 (by decide)) rfl (As := [.int y16]) (st := []) rfl (Nat.le_of_ble_eq_true rfl) (Nat.le_of_ble_eq_true rfl) (Nat.le_of_eq hM17.1) (Nat.le_refl _) (PW.deep (by decide) (c_X7_isSong  hM17 h)) ?_
      rintro _ M18 ⟨hM20, y19, rfl, z21, h⟩
      refine PW.if_eq (pc := 119) dX7_isImageTape_119 (t := 182) (by decide) (fun hc => ?_) (fun hc => ?_)
      · have h := h.1 hc
        refine PW.iconst (pc := 182) dX7_isImageTape_182 (v := 0) (by decide) ?_
        exact PW.retI (pc := 183) dX7_isImageTape_183 hM20.1 rfl (bz_n bz0) ⟨hM20, _, rfl, bz0, h⟩
      · have h := h.2 hc
        refine PW.aload_n (pc := 122) dX7_isImageTape_122 rfl ?_
        refine PW.iload (pc := 123) dX7_isImageTape_123 rfl ?_
        refine PW.iconst (pc := 125) dX7_isImageTape_125 (v := 1) (by decide) ?_
        refine PW.iadd (pc := 126) dX7_isImageTape_126 ?_
        refine PW.inv (m' := mX7_tapePair) (pc := 127) dX7_isImageTape_127 lm_X7_386 me_X7_tapePair mi_X7_tapePair (ob hM20.1 s_3 (by decide)) rfl (As := [.int ((4 + (8 * x3)) + 1)]) (st := []) rfl (Nat.le_of_ble_eq_true rfl) (Nat.le_of_ble_eq_true rfl) (Nat.le_of_eq hM20.1) (Nat.le_refl _) (PW.deep (by decide) (c_X7_tapePair  hM20 h)) ?_
        rintro _ M22 ⟨hM24, y23, rfl, h⟩
        refine PW.sipush (pc := 130) dX7_isImageTape_130 (v := 999) (by decide) ?_
        refine PW.icmp_gt (pc := 133) dX7_isImageTape_133 (t := 182) (by decide) (fun hc => ?_) (fun hc => ?_)
        · have h := h.1 hc
          refine PW.iconst (pc := 182) dX7_isImageTape_182 (v := 0) (by decide) ?_
          exact PW.retI (pc := 183) dX7_isImageTape_183 hM24.1 rfl (bz_n bz0) ⟨hM24, _, rfl, bz0, h⟩
        · have h := h.2 hc
          refine PW.aload_n (pc := 136) dX7_isImageTape_136 rfl ?_
          refine PW.iload (pc := 137) dX7_isImageTape_137 rfl ?_
          refine PW.iconst (pc := 139) dX7_isImageTape_139 (v := 3) (by decide) ?_
          refine PW.iadd (pc := 140) dX7_isImageTape_140 ?_
          refine PW.inv (m' := mX7_tapeByte) (pc := 141) dX7_isImageTape_141 lm_X7_99 me_X7_tapeByte mi_X7_tapeByte (ob hM24.1 s_3 (by decide)) rfl (As := [.int ((4 + (8 * x3)) + 3)]) (st := []) rfl (Nat.le_of_ble_eq_true rfl) (Nat.le_of_ble_eq_true rfl) (Nat.le_of_eq hM24.1) (Nat.le_refl _) (PW.deep (by decide) (c_X7_tapeByte  hM24 h)) ?_
          rintro _ M25 ⟨hM27, y26, rfl, h⟩
          refine PW.bipush (pc := 144) dX7_isImageTape_144 (v := 99) (by decide) ?_
          refine PW.icmp_gt (pc := 146) dX7_isImageTape_146 (t := 182) (by decide) (fun hc => ?_) (fun hc => ?_)
          · have h := h.1 hc
            refine PW.iconst (pc := 182) dX7_isImageTape_182 (v := 0) (by decide) ?_
            exact PW.retI (pc := 183) dX7_isImageTape_183 hM27.1 rfl (bz_n bz0) ⟨hM27, _, rfl, bz0, h⟩
          · have h := h.2 hc
            refine PW.aload_n (pc := 149) dX7_isImageTape_149 rfl ?_
            refine PW.iload (pc := 150) dX7_isImageTape_150 rfl ?_
            refine PW.iconst (pc := 152) dX7_isImageTape_152 (v := 4) (by decide) ?_
            refine PW.iadd (pc := 153) dX7_isImageTape_153 ?_
            refine PW.inv (m' := mX7_tapePair) (pc := 154) dX7_isImageTape_154 lm_X7_386 me_X7_tapePair mi_X7_tapePair (ob hM27.1 s_3 (by decide)) rfl (As := [.int ((4 + (8 * x3)) + 4)]) (st := []) rfl (Nat.le_of_ble_eq_true rfl) (Nat.le_of_ble_eq_true rfl) (Nat.le_of_eq hM27.1) (Nat.le_refl _) (PW.deep (by decide) (c_X7_tapePair  hM27 h)) ?_
            rintro _ M28 ⟨hM30, y29, rfl, h⟩
            refine PW.iconst (pc := 157) dX7_isImageTape_157 (v := 1) (by decide) ?_
            refine PW.isub (pc := 158) dX7_isImageTape_158 ?_
            refine PW.aload_n (pc := 159) dX7_isImageTape_159 rfl ?_
            refine PW.iconst (pc := 160) dX7_isImageTape_160 (v := 0) (by decide) ?_
            refine PW.inv (m' := mX7_tapePair) (pc := 161) dX7_isImageTape_161 lm_X7_386 me_X7_tapePair mi_X7_tapePair (ob hM30.1 s_3 (by decide)) rfl (As := [.int 0]) (st := [.int (y29 - 1)]) rfl (Nat.le_of_ble_eq_true rfl) (Nat.le_of_ble_eq_true rfl) (Nat.le_of_eq hM30.1) (Nat.le_refl _) (PW.deep (by decide) (c_X7_tapePair  hM30 h)) ?_
            rintro _ M31 ⟨hM33, y32, rfl, h⟩
            refine PW.icmp_gt (pc := 164) dX7_isImageTape_164 (t := 182) (by decide) (fun hc => ?_) (fun hc => ?_)
            · have h := h.1 hc
              refine PW.iconst (pc := 182) dX7_isImageTape_182 (v := 0) (by decide) ?_
              exact PW.retI (pc := 183) dX7_isImageTape_183 hM33.1 rfl (bz_n bz0) ⟨hM33, _, rfl, bz0, h⟩
            · have h := h.2 hc
              refine PW.aload_n (pc := 167) dX7_isImageTape_167 rfl ?_
              refine PW.iload (pc := 168) dX7_isImageTape_168 rfl ?_
              refine PW.bipush (pc := 170) dX7_isImageTape_170 (v := 6) (by decide) ?_
              refine PW.iadd (pc := 172) dX7_isImageTape_172 ?_
              refine PW.inv (m' := mX7_tapePair) (pc := 173) dX7_isImageTape_173 lm_X7_386 me_X7_tapePair mi_X7_tapePair (ob hM33.1 s_3 (by decide)) rfl (As := [.int ((4 + (8 * x3)) + 6)]) (st := []) rfl (Nat.le_of_ble_eq_true rfl) (Nat.le_of_ble_eq_true rfl) (Nat.le_of_eq hM33.1) (Nat.le_refl _) (PW.deep (by decide) (c_X7_tapePair  hM33 h)) ?_
              rintro _ M34 ⟨hM36, y35, rfl, h⟩
              refine PW.sipush (pc := 176) dX7_isImageTape_176 (v := 999) (by decide) ?_
              refine PW.icmp_le (pc := 179) dX7_isImageTape_179 (t := 184) (by decide) (fun hc => ?_) (fun hc => ?_)
              · have h := h.1 hc
                refine PW.iinc (pc := 184) dX7_isImageTape_184 (v := (x3 + 1)) (ls' := [.ref 3, .null, .null, .int (x3 + 1), .int (4 + (8 * x3))]) rfl rfl (by decide) rfl rfl ?_
                refine PW.goto (pc := 187) dX7_isImageTape_187 (t := 90) (by decide) ?_
                exact PW.drop (ih _ _ hM36 h) ⟨rfl, rfl, trivial⟩
              · have h := h.2 hc
                refine PW.iconst (pc := 182) dX7_isImageTape_182 (v := 0) (by decide) ?_
                exact PW.retI (pc := 183) dX7_isImageTape_183 hM36.1 rfl (bz_n bz0) ⟨hM36, _, rfl, bz0, h⟩
def w_X7_isImageTape (x1 : Int32) (M : pm) (Q : Int32 → pm → Prop) : Prop := ((x1 = ((4 + (8 * (mI M (mR M 3 3) 8))) + 1) → (∃ n4, w_X7_isImageTape_26 n4 x1 151 0 M (fun x1 x2 M5 => w_X7_tapeByte (x1 - 1) M5 (fun y7 M6 => ((¬ x2 = y7 → (Q 0 M6)) ∧ (x2 = y7 → (w_X7_tapePair 0 M6 (fun y10 M9 => ((999 < y10 → (Q 0 M9)) ∧ (¬ 999 < y10 → (w_X7_tapePair 2 M9 (fun y13 M12 => ((y13 ≤ 999 → (∃ n37, w_X7_isImageTape_90 n37 0 M12  Q)) ∧ (¬ y13 ≤ 999 → (Q 0 M12))))))))))))) Q)) ∧ (¬ x1 = ((4 + (8 * (mI M (mR M 3 3) 8))) + 1) → (Q 0 M)))
set_option maxRecDepth 4000 in
theorem c_X7_isImageTape {x1 : Int32} {M : pm} {Q : Int32 → pm → Prop}  (hM : pG M) (h : w_X7_isImageTape x1 M Q) : PW mX7_isImageTape 3 350 0 (pfr mX7_isImageTape.2.2.1 [.ref 3, .int x1]) [] M (qZ Q) := by
  unfold w_X7_isImageTape at h
  show PW mX7_isImageTape 3 350 0 [.ref 3, .int x1, .null, .null, .null] [] M (qZ Q)
  refine PW.iload_n (pc := 0) dX7_isImageTape_0 rfl ?_
  refine PW.iconst (pc := 1) dX7_isImageTape_1 (v := 4) (by decide) ?_
  refine PW.bipush (pc := 2) dX7_isImageTape_2 (v := 8) (by decide) ?_
  refine PW.aload_n (pc := 4) dX7_isImageTape_4 rfl ?_
  refine PW.getR (pc := 5) dX7_isImageTape_5 (r := (mR M 3 3)) lf_X7_27 (ob hM.1 s_3 (by decide)) fx_7_3 rfl (pS_ne (hM.2.2.2.2.1)) ?_
  refine PW.getI (pc := 8) dX7_isImageTape_8 lf_X7_138 (ob hM.1 (hM.2.2.2.2.1) (by decide)) fx_5_8 ?_
  refine PW.imul (pc := 11) dX7_isImageTape_11 ?_
  refine PW.iadd (pc := 12) dX7_isImageTape_12 ?_
  refine PW.iconst (pc := 13) dX7_isImageTape_13 (v := 1) (by decide) ?_
  refine PW.iadd (pc := 14) dX7_isImageTape_14 ?_
  refine PW.icmp_eq (pc := 15) dX7_isImageTape_15 (t := 20) (by decide) (fun hc => ?_) (fun hc => ?_)
  · have h := h.1 hc
    refine PW.sipush (pc := 20) dX7_isImageTape_20 (v := 151) (by decide) ?_
    refine PW.istore_n (pc := 23) dX7_isImageTape_23 (ls' := [.ref 3, .int x1, .int 151, .null, .null]) (by decide) rfl rfl ?_
    refine PW.iconst (pc := 24) dX7_isImageTape_24 (v := 0) (by decide) ?_
    refine PW.istore_n (pc := 25) dX7_isImageTape_25 (ls' := [.ref 3, .int x1, .int 151, .int 0, .null]) (by decide) rfl rfl ?_
    obtain ⟨n4, h⟩ := h
    refine PW.drop (c_X7_isImageTape_26 ?_ n4 _ _ _ _ hM h) ⟨rfl, rfl, rfl, rfl, trivial⟩
    · intro x1 x2 M5 hM h
      refine PW.iload_n (pc := 53) dX7_isImageTape_53 rfl ?_
      refine PW.aload_n (pc := 54) dX7_isImageTape_54 rfl ?_
      refine PW.iload_n (pc := 55) dX7_isImageTape_55 rfl ?_
      refine PW.iconst (pc := 56) dX7_isImageTape_56 (v := 1) (by decide) ?_
      refine PW.isub (pc := 57) dX7_isImageTape_57 ?_
      refine PW.inv (m' := mX7_tapeByte) (pc := 58) dX7_isImageTape_58 lm_X7_99 me_X7_tapeByte mi_X7_tapeByte (ob hM.1 s_3 (by decide)) rfl (As := [.int (x1 - 1)]) (st := [.int x2]) rfl (Nat.le_of_ble_eq_true rfl) (Nat.le_of_ble_eq_true rfl) (Nat.le_of_eq hM.1) (Nat.le_refl _) (PW.deep (by decide) (c_X7_tapeByte  hM h)) ?_
      rintro _ M6 ⟨hM8, y7, rfl, h⟩
      refine PW.icmp_ne (pc := 61) dX7_isImageTape_61 (t := 86) (by decide) (fun hc => ?_) (fun hc => ?_)
      · have h := h.1 hc
        refine PW.iconst (pc := 86) dX7_isImageTape_86 (v := 0) (by decide) ?_
        exact PW.retI (pc := 87) dX7_isImageTape_87 hM8.1 rfl (bz_n bz0) ⟨hM8, _, rfl, bz0, h⟩
      · have h := h.2 hc
        refine PW.aload_n (pc := 64) dX7_isImageTape_64 rfl ?_
        refine PW.iconst (pc := 65) dX7_isImageTape_65 (v := 0) (by decide) ?_
        refine PW.inv (m' := mX7_tapePair) (pc := 66) dX7_isImageTape_66 lm_X7_386 me_X7_tapePair mi_X7_tapePair (ob hM8.1 s_3 (by decide)) rfl (As := [.int 0]) (st := []) rfl (Nat.le_of_ble_eq_true rfl) (Nat.le_of_ble_eq_true rfl) (Nat.le_of_eq hM8.1) (Nat.le_refl _) (PW.deep (by decide) (c_X7_tapePair  hM8 h)) ?_
        rintro _ M9 ⟨hM11, y10, rfl, h⟩
        refine PW.sipush (pc := 69) dX7_isImageTape_69 (v := 999) (by decide) ?_
        refine PW.icmp_gt (pc := 72) dX7_isImageTape_72 (t := 86) (by decide) (fun hc => ?_) (fun hc => ?_)
        · have h := h.1 hc
          refine PW.iconst (pc := 86) dX7_isImageTape_86 (v := 0) (by decide) ?_
          exact PW.retI (pc := 87) dX7_isImageTape_87 hM11.1 rfl (bz_n bz0) ⟨hM11, _, rfl, bz0, h⟩
        · have h := h.2 hc
          refine PW.aload_n (pc := 75) dX7_isImageTape_75 rfl ?_
          refine PW.iconst (pc := 76) dX7_isImageTape_76 (v := 2) (by decide) ?_
          refine PW.inv (m' := mX7_tapePair) (pc := 77) dX7_isImageTape_77 lm_X7_386 me_X7_tapePair mi_X7_tapePair (ob hM11.1 s_3 (by decide)) rfl (As := [.int 2]) (st := []) rfl (Nat.le_of_ble_eq_true rfl) (Nat.le_of_ble_eq_true rfl) (Nat.le_of_eq hM11.1) (Nat.le_refl _) (PW.deep (by decide) (c_X7_tapePair  hM11 h)) ?_
          rintro _ M12 ⟨hM14, y13, rfl, h⟩
          refine PW.sipush (pc := 80) dX7_isImageTape_80 (v := 999) (by decide) ?_
          refine PW.icmp_le (pc := 83) dX7_isImageTape_83 (t := 88) (by decide) (fun hc => ?_) (fun hc => ?_)
          · have h := h.1 hc
            refine PW.iconst (pc := 88) dX7_isImageTape_88 (v := 0) (by decide) ?_
            refine PW.istore_n (pc := 89) dX7_isImageTape_89 (ls' := [.ref 3, .int x1, .int x2, .int 0, .null]) (by decide) rfl rfl ?_
            obtain ⟨n37, h⟩ := h
            refine PW.drop (c_X7_isImageTape_90  n37 _ _ hM14 h) ⟨rfl, rfl, trivial⟩
          · have h := h.2 hc
            refine PW.iconst (pc := 86) dX7_isImageTape_86 (v := 0) (by decide) ?_
            exact PW.retI (pc := 87) dX7_isImageTape_87 hM14.1 rfl (bz_n bz0) ⟨hM14, _, rfl, bz0, h⟩
  · have h := h.2 hc
    refine PW.iconst (pc := 18) dX7_isImageTape_18 (v := 0) (by decide) ?_
    exact PW.retI (pc := 19) dX7_isImageTape_19 hM.1 rfl (bz_n bz0) ⟨hM, _, rfl, bz0, h⟩
def w_X7_on_53 : Nat → Int32 → pm → (Int32 → pm → Prop) → Prop
  | 0, _, _, _ => False
  | n + 1, x2, M, Q => (((mI M (mR M 3 3) 8) ≤ x2 → (w_X0_forget  (sI M 57 7 0) (fun M17 => Q 1 M17))) ∧ (¬ (mI M (mR M 3 3) 8) ≤ x2 → (w_X7_tapeByte (4 + (8 * x2)) M (fun y21 M20 => vp_in x2 8 ∧ (w_X7_tapePair ((4 + (8 * x2)) + 1) (sI M20 58 x2.toNatClampNeg y21) (fun y25 M24 => vp_in x2 8 ∧ (w_X7_tapeByte ((4 + (8 * x2)) + 3) (sI M24 59 x2.toNatClampNeg y25) (fun y29 M28 => vp_in x2 8 ∧ (w_X7_tapePair ((4 + (8 * x2)) + 4) (sI M28 60 x2.toNatClampNeg y29) (fun y33 M32 => vp_in x2 8 ∧ (w_X7_tapePair ((4 + (8 * x2)) + 6) (sI M32 61 x2.toNatClampNeg (y33 - 1)) (fun y37 M36 => vp_in x2 8 ∧ (w_X7_on_53 n (x2 + 1) (sI M36 62 x2.toNatClampNeg y37) Q)))))))))))))
set_option maxRecDepth 4000 in
theorem c_X7_on_53  {Q : Int32 → pm → Prop}  : ∀ (n : Nat) (x2 : Int32) (M : pm), pG M → w_X7_on_53 n x2 M  Q → PW mX7_on 4 350 53 [.ref 3, .null, .int x2, .null] [] M (qZ Q) := by
  intro n
  induction n with
  | zero => intro x2 M hM h; exact h.elim
  | succ n ih =>
    intro x2 M hM h
    unfold w_X7_on_53 at h
    refine PW.iload_n (pc := 53) dX7_on_53 rfl ?_
    refine PW.aload_n (pc := 54) dX7_on_54 rfl ?_
    refine PW.getR (pc := 55) dX7_on_55 (r := (mR M 3 3)) lf_X7_27 (ob hM.1 s_3 (by decide)) fx_7_3 rfl (pS_ne (hM.2.2.2.2.1)) ?_
    refine PW.getI (pc := 58) dX7_on_58 lf_X7_138 (ob hM.1 (hM.2.2.2.2.1) (by decide)) fx_5_8 ?_
    refine PW.icmp_ge (pc := 61) dX7_on_61 (t := 158) (by decide) (fun hc => ?_) (fun hc => ?_)
    · have h := h.1 hc
      refine PW.aload_n (pc := 158) dX7_on_158 rfl ?_
      refine PW.getR (pc := 159) dX7_on_159 (r := 57) lf_X7_54 (ob hM.1 s_3 (by decide)) fx_7_9 (oR_7_9 hM s_3) (pS_ne s_57) ?_
      refine PW.iconst (pc := 162) dX7_on_162 (v := 0) (by decide) ?_
      refine PW.putI (pc := 163) dX7_on_163 lf_X7_165 (ob hM.1 s_57 (by decide)) fx_4_7 fw_4_7 rfl rfl ?_
      refine PW.aload_n (pc := 166) dX7_on_166 rfl ?_
      refine PW.getR (pc := 167) dX7_on_167 (r := 75) lf_X7_64 (ob hM.1 s_3 (by decide)) fx_7_11 (oR_7_11 (hM.same rfl rfl) s_3) (pS_ne s_75) ?_
      refine PW.inv (m' := mX0_forget) (pc := 170) dX7_on_170 lm_X7_118 me_X0_forget mi_X0_forget (ob hM.1 s_75 (by decide)) rfl (As := []) (st := []) rfl (Nat.le_of_ble_eq_true rfl) (Nat.le_of_ble_eq_true rfl) (Nat.le_of_eq hM.1) (Nat.le_refl _) (PW.deep (by decide) (c_X0_forget  (hM.same rfl rfl) h)) ?_
      rintro _ M17 ⟨hM19, rfl, h⟩
      refine PW.iconst (pc := 173) dX7_on_173 (v := 1) (by decide) ?_
      exact PW.retI (pc := 174) dX7_on_174 hM19.1 rfl (bz_n bz1) ⟨hM19, _, rfl, bz1, h⟩
    · have h := h.2 hc
      refine PW.iconst (pc := 64) dX7_on_64 (v := 4) (by decide) ?_
      refine PW.bipush (pc := 65) dX7_on_65 (v := 8) (by decide) ?_
      refine PW.iload_n (pc := 67) dX7_on_67 rfl ?_
      refine PW.imul (pc := 68) dX7_on_68 ?_
      refine PW.iadd (pc := 69) dX7_on_69 ?_
      refine PW.istore_n (pc := 70) dX7_on_70 (ls' := [.ref 3, .null, .int x2, .int (4 + (8 * x2))]) (by decide) rfl rfl ?_
      refine PW.aload_n (pc := 71) dX7_on_71 rfl ?_
      refine PW.getR (pc := 72) dX7_on_72 (r := 57) lf_X7_54 (ob hM.1 s_3 (by decide)) fx_7_9 (oR_7_9 hM s_3) (pS_ne s_57) ?_
      refine PW.getR (pc := 75) dX7_on_75 (r := 58) lf_X7_206 (ob hM.1 s_57 (by decide)) fx_4_2 (oR_4_2 hM s_57) (pS_ne s_58) ?_
      refine PW.iload_n (pc := 78) dX7_on_78 rfl ?_
      refine PW.aload_n (pc := 79) dX7_on_79 rfl ?_
      refine PW.iload_n (pc := 80) dX7_on_80 rfl ?_
      refine PW.inv (m' := mX7_tapeByte) (pc := 81) dX7_on_81 lm_X7_99 me_X7_tapeByte mi_X7_tapeByte (ob hM.1 s_3 (by decide)) rfl (As := [.int (4 + (8 * x2))]) (st := [.int x2, .ref 58]) rfl (Nat.le_of_ble_eq_true rfl) (Nat.le_of_ble_eq_true rfl) (Nat.le_of_eq hM.1) (Nat.le_refl _) (PW.deep (by decide) (c_X7_tapeByte  hM h)) ?_
      rintro _ M20 ⟨hM22, y21, rfl, h⟩
      obtain ⟨v23, h⟩ := h
      refine PW.iast (pc := 84) dX7_on_84 (ar hM22.1 s_58) (vpl n_58 v23) ?_
      refine PW.aload_n (pc := 85) dX7_on_85 rfl ?_
      refine PW.getR (pc := 86) dX7_on_86 (r := 57) lf_X7_54 (ob hM22.1 s_3 (by decide)) fx_7_9 (oR_7_9 (hM22.same rfl rfl) s_3) (pS_ne s_57) ?_
      refine PW.getR (pc := 89) dX7_on_89 (r := 59) lf_X7_209 (ob hM22.1 s_57 (by decide)) fx_4_3 (oR_4_3 (hM22.same rfl rfl) s_57) (pS_ne s_59) ?_
      refine PW.iload_n (pc := 92) dX7_on_92 rfl ?_
      refine PW.aload_n (pc := 93) dX7_on_93 rfl ?_
      refine PW.iload_n (pc := 94) dX7_on_94 rfl ?_
      refine PW.iconst (pc := 95) dX7_on_95 (v := 1) (by decide) ?_
      refine PW.iadd (pc := 96) dX7_on_96 ?_
      refine PW.inv (m' := mX7_tapePair) (pc := 97) dX7_on_97 lm_X7_386 me_X7_tapePair mi_X7_tapePair (ob hM22.1 s_3 (by decide)) rfl (As := [.int ((4 + (8 * x2)) + 1)]) (st := [.int x2, .ref 59]) rfl (Nat.le_of_ble_eq_true rfl) (Nat.le_of_ble_eq_true rfl) (Nat.le_of_eq hM22.1) (Nat.le_refl _) (PW.deep (by decide) (c_X7_tapePair  (hM22.same rfl rfl) h)) ?_
      rintro _ M24 ⟨hM26, y25, rfl, h⟩
      obtain ⟨v27, h⟩ := h
      refine PW.iast (pc := 100) dX7_on_100 (ar hM26.1 s_59) (vpl n_59 v27) ?_
      refine PW.aload_n (pc := 101) dX7_on_101 rfl ?_
      refine PW.getR (pc := 102) dX7_on_102 (r := 57) lf_X7_54 (ob hM26.1 s_3 (by decide)) fx_7_9 (oR_7_9 (hM26.same rfl rfl) s_3) (pS_ne s_57) ?_
      refine PW.getR (pc := 105) dX7_on_105 (r := 60) lf_X7_175 (ob hM26.1 s_57 (by decide)) fx_4_4 (oR_4_4 (hM26.same rfl rfl) s_57) (pS_ne s_60) ?_
      refine PW.iload_n (pc := 108) dX7_on_108 rfl ?_
      refine PW.aload_n (pc := 109) dX7_on_109 rfl ?_
      refine PW.iload_n (pc := 110) dX7_on_110 rfl ?_
      refine PW.iconst (pc := 111) dX7_on_111 (v := 3) (by decide) ?_
      refine PW.iadd (pc := 112) dX7_on_112 ?_
      refine PW.inv (m' := mX7_tapeByte) (pc := 113) dX7_on_113 lm_X7_99 me_X7_tapeByte mi_X7_tapeByte (ob hM26.1 s_3 (by decide)) rfl (As := [.int ((4 + (8 * x2)) + 3)]) (st := [.int x2, .ref 60]) rfl (Nat.le_of_ble_eq_true rfl) (Nat.le_of_ble_eq_true rfl) (Nat.le_of_eq hM26.1) (Nat.le_refl _) (PW.deep (by decide) (c_X7_tapeByte  (hM26.same rfl rfl) h)) ?_
      rintro _ M28 ⟨hM30, y29, rfl, h⟩
      obtain ⟨v31, h⟩ := h
      refine PW.iast (pc := 116) dX7_on_116 (ar hM30.1 s_60) (vpl n_60 v31) ?_
      refine PW.aload_n (pc := 117) dX7_on_117 rfl ?_
      refine PW.getR (pc := 118) dX7_on_118 (r := 57) lf_X7_54 (ob hM30.1 s_3 (by decide)) fx_7_9 (oR_7_9 (hM30.same rfl rfl) s_3) (pS_ne s_57) ?_
      refine PW.getR (pc := 121) dX7_on_121 (r := 61) lf_X7_380 (ob hM30.1 s_57 (by decide)) fx_4_5 (oR_4_5 (hM30.same rfl rfl) s_57) (pS_ne s_61) ?_
      refine PW.iload_n (pc := 124) dX7_on_124 rfl ?_
      refine PW.aload_n (pc := 125) dX7_on_125 rfl ?_
      refine PW.iload_n (pc := 126) dX7_on_126 rfl ?_
      refine PW.iconst (pc := 127) dX7_on_127 (v := 4) (by decide) ?_
      refine PW.iadd (pc := 128) dX7_on_128 ?_
      refine PW.inv (m' := mX7_tapePair) (pc := 129) dX7_on_129 lm_X7_386 me_X7_tapePair mi_X7_tapePair (ob hM30.1 s_3 (by decide)) rfl (As := [.int ((4 + (8 * x2)) + 4)]) (st := [.int x2, .ref 61]) rfl (Nat.le_of_ble_eq_true rfl) (Nat.le_of_ble_eq_true rfl) (Nat.le_of_eq hM30.1) (Nat.le_refl _) (PW.deep (by decide) (c_X7_tapePair  (hM30.same rfl rfl) h)) ?_
      rintro _ M32 ⟨hM34, y33, rfl, h⟩
      refine PW.iconst (pc := 132) dX7_on_132 (v := 1) (by decide) ?_
      refine PW.isub (pc := 133) dX7_on_133 ?_
      obtain ⟨v35, h⟩ := h
      refine PW.iast (pc := 134) dX7_on_134 (ar hM34.1 s_61) (vpl n_61 v35) ?_
      refine PW.aload_n (pc := 135) dX7_on_135 rfl ?_
      refine PW.getR (pc := 136) dX7_on_136 (r := 57) lf_X7_54 (ob hM34.1 s_3 (by decide)) fx_7_9 (oR_7_9 (hM34.same rfl rfl) s_3) (pS_ne s_57) ?_
      refine PW.getR (pc := 139) dX7_on_139 (r := 62) lf_X7_212 (ob hM34.1 s_57 (by decide)) fx_4_6 (oR_4_6 (hM34.same rfl rfl) s_57) (pS_ne s_62) ?_
      refine PW.iload_n (pc := 142) dX7_on_142 rfl ?_
      refine PW.aload_n (pc := 143) dX7_on_143 rfl ?_
      refine PW.iload_n (pc := 144) dX7_on_144 rfl ?_
      refine PW.bipush (pc := 145) dX7_on_145 (v := 6) (by decide) ?_
      refine PW.iadd (pc := 147) dX7_on_147 ?_
      refine PW.inv (m' := mX7_tapePair) (pc := 148) dX7_on_148 lm_X7_386 me_X7_tapePair mi_X7_tapePair (ob hM34.1 s_3 (by decide)) rfl (As := [.int ((4 + (8 * x2)) + 6)]) (st := [.int x2, .ref 62]) rfl (Nat.le_of_ble_eq_true rfl) (Nat.le_of_ble_eq_true rfl) (Nat.le_of_eq hM34.1) (Nat.le_refl _) (PW.deep (by decide) (c_X7_tapePair  (hM34.same rfl rfl) h)) ?_
      rintro _ M36 ⟨hM38, y37, rfl, h⟩
      obtain ⟨v39, h⟩ := h
      refine PW.iast (pc := 151) dX7_on_151 (ar hM38.1 s_62) (vpl n_62 v39) ?_
      refine PW.iinc (pc := 152) dX7_on_152 (v := (x2 + 1)) (ls' := [.ref 3, .null, .int (x2 + 1), .int (4 + (8 * x2))]) rfl rfl (by decide) rfl rfl ?_
      refine PW.goto (pc := 155) dX7_on_155 (t := 53) (by decide) ?_
      exact PW.drop (ih _ _ (hM38.same rfl rfl) h) ⟨rfl, rfl, trivial⟩
def w_X7_on  (M : pm) (Q : Int32 → pm → Prop) : Prop := w_X7_takeTape  M (fun y2 M1 => (((mI M1 3 5) = 0 → (w_X7_refuse 5 M1 (fun M4 => Q 0 M4))) ∧ (¬ (mI M1 3 5) = 0 → (w_X7_isImageTape y2 M1 (fun y8 M7 => ((¬ y8 = 0 → (w_X7_tapePair 0 M7 (fun y12 M11 => w_X7_tapePair 2 (sI M11 57 0 y12) (fun y15 M14 => ∃ n40, w_X7_on_53 n40 0 (sI M14 57 1 y15)  Q)))) ∧ (y8 = 0 → (w_X7_refuse 5 M7 (fun M41 => Q 0 M41)))))))))
set_option maxRecDepth 4000 in
theorem c_X7_on  {M : pm} {Q : Int32 → pm → Prop}  (hM : pG M) (h : w_X7_on  M Q) : PW mX7_on 4 350 0 (pfr mX7_on.2.2.1 [.ref 3]) [] M (qZ Q) := by
  unfold w_X7_on at h
  show PW mX7_on 4 350 0 [.ref 3, .null, .null, .null] [] M (qZ Q)
  refine PW.aload_n (pc := 0) dX7_on_0 rfl ?_
  refine PW.inv (m' := mX7_takeTape) (pc := 1) dX7_on_1 lm_X7_103 me_X7_takeTape mi_X7_takeTape (ob hM.1 s_3 (by decide)) rfl (As := []) (st := []) rfl (Nat.le_of_ble_eq_true rfl) (Nat.le_of_ble_eq_true rfl) (Nat.le_of_eq hM.1) (Nat.le_refl _) (PW.deep (by decide) (c_X7_takeTape  hM h)) ?_
  rintro _ M1 ⟨hM3, y2, rfl, h⟩
  refine PW.istore_n (pc := 4) dX7_on_4 (ls' := [.ref 3, .int y2, .null, .null]) (by decide) rfl rfl ?_
  refine PW.aload_n (pc := 5) dX7_on_5 rfl ?_
  refine PW.getI (pc := 6) dX7_on_6 lf_X7_34 (ob hM3.1 s_3 (by decide)) fx_7_5 ?_
  refine PW.if_eq (pc := 9) dX7_on_9 (t := 20) (by decide) (fun hc => ?_) (fun hc => ?_)
  · have h := h.1 hc
    refine PW.aload_n (pc := 20) dX7_on_20 rfl ?_
    refine PW.iconst (pc := 21) dX7_on_21 (v := 5) (by decide) ?_
    refine PW.inv (m' := mX7_refuse) (pc := 22) dX7_on_22 lm_X7_92 me_X7_refuse mi_X7_refuse (ob hM3.1 s_3 (by decide)) rfl (As := [.int 5]) (st := []) rfl (Nat.le_of_ble_eq_true rfl) (Nat.le_of_ble_eq_true rfl) (Nat.le_of_eq hM3.1) (Nat.le_refl _) (PW.deep (by decide) (c_X7_refuse  hM3 h)) ?_
    rintro _ M4 ⟨hM6, rfl, h⟩
    refine PW.iconst (pc := 25) dX7_on_25 (v := 0) (by decide) ?_
    exact PW.retI (pc := 26) dX7_on_26 hM6.1 rfl (bz_n bz0) ⟨hM6, _, rfl, bz0, h⟩
  · have h := h.2 hc
    refine PW.aload_n (pc := 12) dX7_on_12 rfl ?_
    refine PW.iload_n (pc := 13) dX7_on_13 rfl ?_
    refine PW.inv (m' := mX7_isImageTape) (pc := 14) dX7_on_14 lm_X7_383 me_X7_isImageTape mi_X7_isImageTape (ob hM3.1 s_3 (by decide)) rfl (As := [.int y2]) (st := []) rfl (Nat.le_of_ble_eq_true rfl) (Nat.le_of_ble_eq_true rfl) (Nat.le_of_eq hM3.1) (Nat.le_refl _) (PW.deep (by decide) (c_X7_isImageTape  hM3 h)) ?_
    rintro _ M7 ⟨hM9, y8, rfl, z10, h⟩
    refine PW.if_ne (pc := 17) dX7_on_17 (t := 27) (by decide) (fun hc => ?_) (fun hc => ?_)
    · have h := h.1 hc
      refine PW.aload_n (pc := 27) dX7_on_27 rfl ?_
      refine PW.getR (pc := 28) dX7_on_28 (r := 57) lf_X7_54 (ob hM9.1 s_3 (by decide)) fx_7_9 (oR_7_9 hM9 s_3) (pS_ne s_57) ?_
      refine PW.aload_n (pc := 31) dX7_on_31 rfl ?_
      refine PW.iconst (pc := 32) dX7_on_32 (v := 0) (by decide) ?_
      refine PW.inv (m' := mX7_tapePair) (pc := 33) dX7_on_33 lm_X7_386 me_X7_tapePair mi_X7_tapePair (ob hM9.1 s_3 (by decide)) rfl (As := [.int 0]) (st := [.ref 57]) rfl (Nat.le_of_ble_eq_true rfl) (Nat.le_of_ble_eq_true rfl) (Nat.le_of_eq hM9.1) (Nat.le_refl _) (PW.deep (by decide) (c_X7_tapePair  hM9 h)) ?_
      rintro _ M11 ⟨hM13, y12, rfl, h⟩
      refine PW.putI (pc := 36) dX7_on_36 lf_X7_144 (ob hM13.1 s_57 (by decide)) fx_4_0 fw_4_0 rfl rfl ?_
      refine PW.aload_n (pc := 39) dX7_on_39 rfl ?_
      refine PW.getR (pc := 40) dX7_on_40 (r := 57) lf_X7_54 (ob hM13.1 s_3 (by decide)) fx_7_9 (oR_7_9 (hM13.same rfl rfl) s_3) (pS_ne s_57) ?_
      refine PW.aload_n (pc := 43) dX7_on_43 rfl ?_
      refine PW.iconst (pc := 44) dX7_on_44 (v := 2) (by decide) ?_
      refine PW.inv (m' := mX7_tapePair) (pc := 45) dX7_on_45 lm_X7_386 me_X7_tapePair mi_X7_tapePair (ob hM13.1 s_3 (by decide)) rfl (As := [.int 2]) (st := [.ref 57]) rfl (Nat.le_of_ble_eq_true rfl) (Nat.le_of_ble_eq_true rfl) (Nat.le_of_eq hM13.1) (Nat.le_refl _) (PW.deep (by decide) (c_X7_tapePair  (hM13.same rfl rfl) h)) ?_
      rintro _ M14 ⟨hM16, y15, rfl, h⟩
      refine PW.putI (pc := 48) dX7_on_48 lf_X7_147 (ob hM16.1 s_57 (by decide)) fx_4_1 fw_4_1 rfl rfl ?_
      refine PW.iconst (pc := 51) dX7_on_51 (v := 0) (by decide) ?_
      refine PW.istore_n (pc := 52) dX7_on_52 (ls' := [.ref 3, .int y2, .int 0, .null]) (by decide) rfl rfl ?_
      obtain ⟨n40, h⟩ := h
      refine PW.drop (c_X7_on_53  n40 _ _ (hM16.same rfl rfl) h) ⟨rfl, rfl, trivial⟩
    · have h := h.2 hc
      refine PW.aload_n (pc := 20) dX7_on_20 rfl ?_
      refine PW.iconst (pc := 21) dX7_on_21 (v := 5) (by decide) ?_
      refine PW.inv (m' := mX7_refuse) (pc := 22) dX7_on_22 lm_X7_92 me_X7_refuse mi_X7_refuse (ob hM9.1 s_3 (by decide)) rfl (As := [.int 5]) (st := []) rfl (Nat.le_of_ble_eq_true rfl) (Nat.le_of_ble_eq_true rfl) (Nat.le_of_eq hM9.1) (Nat.le_refl _) (PW.deep (by decide) (c_X7_refuse  hM9 h)) ?_
      rintro _ M41 ⟨hM43, rfl, h⟩
      refine PW.iconst (pc := 25) dX7_on_25 (v := 0) (by decide) ?_
      exact PW.retI (pc := 26) dX7_on_26 hM43.1 rfl (bz_n bz0) ⟨hM43, _, rfl, bz0, h⟩
def w_X7_status (x1 : Int32) (M : pm) (Q : Int32 → pm → Prop) : Prop := ((x1 < 0 → (Q (-1) M)) ∧ (¬ x1 < 0 → ((6 ≤ x1 → (Q (-1) M)) ∧ (¬ 6 ≤ x1 → (vp_in x1 6 ∧ (Q (mI M 276 x1.toNatClampNeg) M))))))
set_option maxRecDepth 4000 in
theorem c_X7_status {x1 : Int32} {M : pm} {Q : Int32 → pm → Prop}  (hM : pG M) (h : w_X7_status x1 M Q) : PW mX7_status 1 350 0 (pfr mX7_status.2.2.1 [.ref 3, .int x1]) [] M (qI Q) := by
  unfold w_X7_status at h
  show PW mX7_status 1 350 0 [.ref 3, .int x1] [] M (qI Q)
  refine PW.iload_n (pc := 0) dX7_status_0 rfl ?_
  refine PW.if_lt (pc := 1) dX7_status_1 (t := 19) (by decide) (fun hc => ?_) (fun hc => ?_)
  · have h := h.1 hc
    refine PW.iconst (pc := 19) dX7_status_19 (v := (-1)) (by decide) ?_
    exact PW.retI (pc := 20) dX7_status_20 hM.1 rfl rfl ⟨hM, _, rfl, h⟩
  · have h := h.2 hc
    refine PW.iload_n (pc := 4) dX7_status_4 rfl ?_
    refine PW.bipush (pc := 5) dX7_status_5 (v := 6) (by decide) ?_
    refine PW.icmp_ge (pc := 7) dX7_status_7 (t := 19) (by decide) (fun hc => ?_) (fun hc => ?_)
    · have h := h.1 hc
      refine PW.iconst (pc := 19) dX7_status_19 (v := (-1)) (by decide) ?_
      exact PW.retI (pc := 20) dX7_status_20 hM.1 rfl rfl ⟨hM, _, rfl, h⟩
    · have h := h.2 hc
      refine PW.aload_n (pc := 10) dX7_status_10 rfl ?_
      refine PW.getR (pc := 11) dX7_status_11 (r := 276) lf_X7_86 (ob hM.1 s_3 (by decide)) fx_7_17 (oR_7_17 hM s_3) (pS_ne s_276) ?_
      refine PW.iload_n (pc := 14) dX7_status_14 rfl ?_
      obtain ⟨v1, h⟩ := h
      refine PW.iald (pc := 15) dX7_status_15 (ar hM.1 s_276) (vpl n_276 v1) ?_
      refine PW.goto (pc := 16) dX7_status_16 (t := 20) (by decide) ?_
      exact PW.retI (pc := 20) dX7_status_20 hM.1 rfl rfl ⟨hM, _, rfl, h⟩
def w_X8_isIn (x0 : Int64) (x2 : Int64) (x4 : Int64) (M : pm) (Q : Int32 → pm → Prop) : Prop := ((x0 < x2 → (Q 0 M)) ∧ (¬ x0 < x2 → ((x4 < x0 → (Q 0 M)) ∧ (¬ x4 < x0 → (Q 1 M)))))
set_option maxRecDepth 4000 in
theorem c_X8_isIn {x0 : Int64} {x2 : Int64} {x4 : Int64} {M : pm} {Q : Int32 → pm → Prop}  (hM : pG M) (h : w_X8_isIn x0 x2 x4 M Q) : PW mX8_isIn 1 350 0 (pfr mX8_isIn.2.2.1 [.long x0, .long x2, .long x4]) [] M (qZ Q) := by
  unfold w_X8_isIn at h
  show PW mX8_isIn 1 350 0 [.long x0, .null, .long x2, .null, .long x4, .null] [] M (qZ Q)
  refine PW.lload_n (pc := 0) dX8_isIn_0 rfl ?_
  refine PW.lload_n (pc := 1) dX8_isIn_1 rfl ?_
  refine PW.lcmp (pc := 2) dX8_isIn_2 ?_
  refine PW.if_lt (pc := 3) dX8_isIn_3 (t := 17) (by decide) (fun hc => ?_) (fun hc => ?_)
  · have h := h.1 ((lg_cmp_lt _ _).mp hc)
    refine PW.iconst (pc := 17) dX8_isIn_17 (v := 0) (by decide) ?_
    exact PW.retI (pc := 18) dX8_isIn_18 hM.1 rfl (bz_n bz0) ⟨hM, _, rfl, bz0, h⟩
  · have h := h.2 (fun q => hc ((lg_cmp_lt _ _).mpr q))
    refine PW.lload_n (pc := 6) dX8_isIn_6 rfl ?_
    refine PW.lload (pc := 7) dX8_isIn_7 rfl ?_
    refine PW.lcmp (pc := 9) dX8_isIn_9 ?_
    refine PW.if_gt (pc := 10) dX8_isIn_10 (t := 17) (by decide) (fun hc => ?_) (fun hc => ?_)
    · have h := h.1 ((lg_cmp_gt _ _).mp hc)
      refine PW.iconst (pc := 17) dX8_isIn_17 (v := 0) (by decide) ?_
      exact PW.retI (pc := 18) dX8_isIn_18 hM.1 rfl (bz_n bz0) ⟨hM, _, rfl, bz0, h⟩
    · have h := h.2 (fun q => hc ((lg_cmp_gt _ _).mpr q))
      refine PW.iconst (pc := 13) dX8_isIn_13 (v := 1) (by decide) ?_
      refine PW.goto (pc := 14) dX8_isIn_14 (t := 18) (by decide) ?_
      exact PW.retI (pc := 18) dX8_isIn_18 hM.1 rfl (bz_n bz1) ⟨hM, _, rfl, bz1, h⟩
def w_X8_feed_81  (x1 : Int32) (x2 : Int32) (x3 : Int32) (x4 : Int32) (x5 : Int32) (x6 : Int32) (t0 : Int32) (M : pm) (r : Int32 → Int32 → Int32 → Int32 → Int32 → Int32 → pm → Prop)  (Q : Int32 → pm → Prop) : Prop := vp_in (mI M 277 1) 1600 ∧ (r x1 x2 x3 x4 x5 (x6 + 1) (sI (sI M 278 ((mI M 277 1).toNatClampNeg) ((t0 >>> ((8 * (3 - (irm x6 4))) &&& 31)) &&& 255)) 277 1 ((mI M 277 1) + 1)))
set_option maxRecDepth 4000 in
theorem c_X8_feed_81 {r : Int32 → Int32 → Int32 → Int32 → Int32 → Int32 → pm → Prop}  {Q : Int32 → pm → Prop} (hr : ∀ (x1 : Int32) (x2 : Int32) (x3 : Int32) (x4 : Int32) (x5 : Int32) (x6 : Int32) (M : pm), pG M → r x1 x2 x3 x4 x5 x6 M → PW mX8_feed 1 350 28 [.ref 277, .int x1, .int x2, .int x3, .int x4, .int x5, .int x6, .null] [] M (qI Q)) : ∀ (x1 : Int32) (x2 : Int32) (x3 : Int32) (x4 : Int32) (x5 : Int32) (x6 : Int32) (t0 : Int32) (M : pm), pG M → w_X8_feed_81 x1 x2 x3 x4 x5 x6 t0 M r Q → PW mX8_feed 1 350 81 [.ref 277, .int x1, .int x2, .int x3, .int x4, .int x5, .int x6, .null] [.int t0] M (qI Q) := by
  intro x1 x2 x3 x4 x5 x6 t0 M hM h
  unfold w_X8_feed_81 at h
  refine PW.istore (pc := 81) dX8_feed_81 (ls' := [.ref 277, .int x1, .int x2, .int x3, .int x4, .int x5, .int x6, .int t0]) (by decide) rfl rfl ?_
  refine PW.aload_n (pc := 83) dX8_feed_83 rfl ?_
  refine PW.getR (pc := 84) dX8_feed_84 (r := 278) lf_X8_7 (ob hM.1 s_277 (by decide)) fx_8_0 (oR_8_0 hM s_277) (pS_ne s_278) ?_
  refine PW.aload_n (pc := 87) dX8_feed_87 rfl ?_
  refine PW.getI (pc := 88) dX8_feed_88 lf_X8_246 (ob hM.1 s_277 (by decide)) fx_8_1 ?_
  refine PW.iload (pc := 91) dX8_feed_91 rfl ?_
  refine PW.bipush (pc := 93) dX8_feed_93 (v := 8) (by decide) ?_
  refine PW.iconst (pc := 95) dX8_feed_95 (v := 3) (by decide) ?_
  refine PW.iload (pc := 96) dX8_feed_96 rfl ?_
  refine PW.iconst (pc := 98) dX8_feed_98 (v := 4) (by decide) ?_
  refine PW.irem (pc := 99) dX8_feed_99 (by decide) ?_
  refine PW.isub (pc := 100) dX8_feed_100 ?_
  refine PW.imul (pc := 101) dX8_feed_101 ?_
  refine PW.ishr (pc := 102) dX8_feed_102 ?_
  refine PW.sipush (pc := 103) dX8_feed_103 (v := 255) (by decide) ?_
  refine PW.iand (pc := 106) dX8_feed_106 ?_
  obtain ⟨v1, h⟩ := h
  refine PW.iast (pc := 107) dX8_feed_107 (ar hM.1 s_278) (vpl n_278 v1) ?_
  refine PW.aload_n (pc := 108) dX8_feed_108 rfl ?_
  refine PW.dupR (pc := 109) dX8_feed_109 ?_
  refine PW.getI (pc := 110) dX8_feed_110 lf_X8_246 (ob hM.1 s_277 (by decide)) fx_8_1 ?_
  refine PW.iconst (pc := 113) dX8_feed_113 (v := 1) (by decide) ?_
  refine PW.iadd (pc := 114) dX8_feed_114 ?_
  refine PW.putI (pc := 115) dX8_feed_115 lf_X8_246 (ob hM.1 s_277 (by decide)) fx_8_1 fw_8_1 rfl rfl ?_
  refine PW.iinc (pc := 118) dX8_feed_118 (v := (x6 + 1)) (ls' := [.ref 277, .int x1, .int x2, .int x3, .int x4, .int x5, .int (x6 + 1), .int t0]) rfl rfl (by decide) rfl rfl ?_
  refine PW.goto (pc := 121) dX8_feed_121 (t := 28) (by decide) ?_
  exact PW.drop (hr _ _ _ _ _ _ _ (hM.same rfl rfl) h) ⟨rfl, rfl, rfl, rfl, rfl, rfl, rfl, trivial⟩
def w_X8_feed_28 : Nat → Int32 → Int32 → Int32 → Int32 → Int32 → Int32 → pm → (Int32 → pm → Prop) → Prop
  | 0, _, _, _, _, _, _, _, _ => False
  | n + 1, x1, x2, x3, x4, x5, x6, M, Q => ((20 ≤ x6 → (Q (mI M 277 1) M)) ∧ (¬ 20 ≤ x6 → ((4 ≤ x6 → ((8 ≤ x6 → ((12 ≤ x6 → ((16 ≤ x6 → (w_X8_feed_81 x1 x2 x3 x4 x5 x6 x5 M (fun x1 x2 x3 x4 x5 x6 M => w_X8_feed_28 n x1 x2 x3 x4 x5 x6 M  Q) Q)) ∧ (¬ 16 ≤ x6 → (w_X8_feed_81 x1 x2 x3 x4 x5 x6 x4 M (fun x1 x2 x3 x4 x5 x6 M => w_X8_feed_28 n x1 x2 x3 x4 x5 x6 M  Q) Q)))) ∧ (¬ 12 ≤ x6 → (w_X8_feed_81 x1 x2 x3 x4 x5 x6 x3 M (fun x1 x2 x3 x4 x5 x6 M => w_X8_feed_28 n x1 x2 x3 x4 x5 x6 M  Q) Q)))) ∧ (¬ 8 ≤ x6 → (w_X8_feed_81 x1 x2 x3 x4 x5 x6 x2 M (fun x1 x2 x3 x4 x5 x6 M => w_X8_feed_28 n x1 x2 x3 x4 x5 x6 M  Q) Q)))) ∧ (¬ 4 ≤ x6 → (w_X8_feed_81 x1 x2 x3 x4 x5 x6 x1 M (fun x1 x2 x3 x4 x5 x6 M => w_X8_feed_28 n x1 x2 x3 x4 x5 x6 M  Q) Q)))))
set_option maxRecDepth 4000 in
theorem c_X8_feed_28  {Q : Int32 → pm → Prop}  : ∀ (n : Nat) (x1 : Int32) (x2 : Int32) (x3 : Int32) (x4 : Int32) (x5 : Int32) (x6 : Int32) (M : pm), pG M → w_X8_feed_28 n x1 x2 x3 x4 x5 x6 M  Q → PW mX8_feed 1 350 28 [.ref 277, .int x1, .int x2, .int x3, .int x4, .int x5, .int x6, .null] [] M (qI Q) := by
  intro n
  induction n with
  | zero => intro x1 x2 x3 x4 x5 x6 M hM h; exact h.elim
  | succ n ih =>
    intro x1 x2 x3 x4 x5 x6 M hM h
    unfold w_X8_feed_28 at h
    refine PW.iload (pc := 28) dX8_feed_28 rfl ?_
    refine PW.bipush (pc := 30) dX8_feed_30 (v := 20) (by decide) ?_
    refine PW.icmp_ge (pc := 32) dX8_feed_32 (t := 124) (by decide) (fun hc => ?_) (fun hc => ?_)
    · have h := h.1 hc
      refine PW.aload_n (pc := 124) dX8_feed_124 rfl ?_
      refine PW.getI (pc := 125) dX8_feed_125 lf_X8_246 (ob hM.1 s_277 (by decide)) fx_8_1 ?_
      exact PW.retI (pc := 128) dX8_feed_128 hM.1 rfl rfl ⟨hM, _, rfl, h⟩
    · have h := h.2 hc
      refine PW.iload (pc := 35) dX8_feed_35 rfl ?_
      refine PW.iconst (pc := 37) dX8_feed_37 (v := 4) (by decide) ?_
      refine PW.icmp_ge (pc := 38) dX8_feed_38 (t := 45) (by decide) (fun hc => ?_) (fun hc => ?_)
      · have h := h.1 hc
        refine PW.iload (pc := 45) dX8_feed_45 rfl ?_
        refine PW.bipush (pc := 47) dX8_feed_47 (v := 8) (by decide) ?_
        refine PW.icmp_ge (pc := 49) dX8_feed_49 (t := 56) (by decide) (fun hc => ?_) (fun hc => ?_)
        · have h := h.1 hc
          refine PW.iload (pc := 56) dX8_feed_56 rfl ?_
          refine PW.bipush (pc := 58) dX8_feed_58 (v := 12) (by decide) ?_
          refine PW.icmp_ge (pc := 60) dX8_feed_60 (t := 67) (by decide) (fun hc => ?_) (fun hc => ?_)
          · have h := h.1 hc
            refine PW.iload (pc := 67) dX8_feed_67 rfl ?_
            refine PW.bipush (pc := 69) dX8_feed_69 (v := 16) (by decide) ?_
            refine PW.icmp_ge (pc := 71) dX8_feed_71 (t := 79) (by decide) (fun hc => ?_) (fun hc => ?_)
            · have h := h.1 hc
              refine PW.iload (pc := 79) dX8_feed_79 rfl ?_
              exact PW.drop (c_X8_feed_81 ih _ _ _ _ _ _ _ _ hM h) ⟨rfl, rfl, rfl, rfl, rfl, rfl, rfl, trivial⟩
            · have h := h.2 hc
              refine PW.iload (pc := 74) dX8_feed_74 rfl ?_
              refine PW.goto (pc := 76) dX8_feed_76 (t := 81) (by decide) ?_
              exact PW.drop (c_X8_feed_81 ih _ _ _ _ _ _ _ _ hM h) ⟨rfl, rfl, rfl, rfl, rfl, rfl, rfl, trivial⟩
          · have h := h.2 hc
            refine PW.iload_n (pc := 63) dX8_feed_63 rfl ?_
            refine PW.goto (pc := 64) dX8_feed_64 (t := 81) (by decide) ?_
            exact PW.drop (c_X8_feed_81 ih _ _ _ _ _ _ _ _ hM h) ⟨rfl, rfl, rfl, rfl, rfl, rfl, rfl, trivial⟩
        · have h := h.2 hc
          refine PW.iload_n (pc := 52) dX8_feed_52 rfl ?_
          refine PW.goto (pc := 53) dX8_feed_53 (t := 81) (by decide) ?_
          exact PW.drop (c_X8_feed_81 ih _ _ _ _ _ _ _ _ hM h) ⟨rfl, rfl, rfl, rfl, rfl, rfl, rfl, trivial⟩
      · have h := h.2 hc
        refine PW.iload_n (pc := 41) dX8_feed_41 rfl ?_
        refine PW.goto (pc := 42) dX8_feed_42 (t := 81) (by decide) ?_
        exact PW.drop (c_X8_feed_81 ih _ _ _ _ _ _ _ _ hM h) ⟨rfl, rfl, rfl, rfl, rfl, rfl, rfl, trivial⟩
def w_X8_feed (x1 : Int32) (x2 : Int32) (x3 : Int32) (x4 : Int32) (x5 : Int32) (M : pm) (Q : Int32 → pm → Prop) : Prop := ((((mI M 277 1) + 20) ≤ 1600 → (∃ n2, w_X8_feed_28 n2 x1 x2 x3 x4 x5 0 M  Q)) ∧ (¬ ((mI M 277 1) + 20) ≤ 1600 → (Q (-1) (sI M 279 0 ((mI M 279 0) + 1)))))
set_option maxRecDepth 4000 in
theorem c_X8_feed {x1 : Int32} {x2 : Int32} {x3 : Int32} {x4 : Int32} {x5 : Int32} {M : pm} {Q : Int32 → pm → Prop}  (hM : pG M) (h : w_X8_feed x1 x2 x3 x4 x5 M Q) : PW mX8_feed 1 350 0 (pfr mX8_feed.2.2.1 [.ref 277, .int x1, .int x2, .int x3, .int x4, .int x5]) [] M (qI Q) := by
  unfold w_X8_feed at h
  show PW mX8_feed 1 350 0 [.ref 277, .int x1, .int x2, .int x3, .int x4, .int x5, .null, .null] [] M (qI Q)
  refine PW.aload_n (pc := 0) dX8_feed_0 rfl ?_
  refine PW.getI (pc := 1) dX8_feed_1 lf_X8_246 (ob hM.1 s_277 (by decide)) fx_8_1 ?_
  refine PW.bipush (pc := 4) dX8_feed_4 (v := 20) (by decide) ?_
  refine PW.iadd (pc := 6) dX8_feed_6 ?_
  refine PW.sipush (pc := 7) dX8_feed_7 (v := 1600) (by decide) ?_
  refine PW.icmp_le (pc := 10) dX8_feed_10 (t := 25) (by decide) (fun hc => ?_) (fun hc => ?_)
  · have h := h.1 hc
    refine PW.iconst (pc := 25) dX8_feed_25 (v := 0) (by decide) ?_
    refine PW.istore (pc := 26) dX8_feed_26 (ls' := [.ref 277, .int x1, .int x2, .int x3, .int x4, .int x5, .int 0, .null]) (by decide) rfl rfl ?_
    obtain ⟨n2, h⟩ := h
    refine PW.drop (c_X8_feed_28  n2 _ _ _ _ _ _ _ hM h) ⟨rfl, rfl, rfl, rfl, rfl, rfl, rfl, trivial⟩
  · have h := h.2 hc
    refine PW.aload_n (pc := 13) dX8_feed_13 rfl ?_
    refine PW.getR (pc := 14) dX8_feed_14 (r := 279) lf_X8_17 (ob hM.1 s_277 (by decide)) fx_8_9 (oR_8_9 hM s_277) (pS_ne s_279) ?_
    refine PW.iconst (pc := 17) dX8_feed_17 (v := 0) (by decide) ?_
    refine PW.dup2IR (pc := 18) dX8_feed_18 ?_
    refine PW.iald (pc := 19) dX8_feed_19 (ar hM.1 s_279) (vpl n_279 (vp_c (i := 0) (n := 6) (by decide))) ?_
    refine PW.iconst (pc := 20) dX8_feed_20 (v := 1) (by decide) ?_
    refine PW.iadd (pc := 21) dX8_feed_21 ?_
    refine PW.iast (pc := 22) dX8_feed_22 (ar hM.1 s_279) (vpl n_279 (vp_c (i := 0) (n := 6) (by decide))) ?_
    refine PW.iconst (pc := 23) dX8_feed_23 (v := (-1)) (by decide) ?_
    exact PW.retI (pc := 24) dX8_feed_24 hM.1 rfl rfl ⟨(hM.same rfl rfl), _, rfl, h⟩
def w_X8_end (x1 : Int32) (M : pm) (Q : Int32 → pm → Prop) : Prop := ((x1 < 0 → (Q 0 (sI M 279 0 ((mI M 279 0) + 1)))) ∧ (¬ x1 < 0 → ((x1 ≤ (mI M 277 1) → (Q 1 (sI M 277 1 x1))) ∧ (¬ x1 ≤ (mI M 277 1) → (Q 0 (sI M 279 0 ((mI M 279 0) + 1)))))))
set_option maxRecDepth 4000 in
theorem c_X8_end {x1 : Int32} {M : pm} {Q : Int32 → pm → Prop}  (hM : pG M) (h : w_X8_end x1 M Q) : PW mX8_end 1 350 0 (pfr mX8_end.2.2.1 [.ref 277, .int x1]) [] M (qZ Q) := by
  unfold w_X8_end at h
  show PW mX8_end 1 350 0 [.ref 277, .int x1] [] M (qZ Q)
  refine PW.iload_n (pc := 0) dX8_end_0 rfl ?_
  refine PW.if_lt (pc := 1) dX8_end_1 (t := 12) (by decide) (fun hc => ?_) (fun hc => ?_)
  · have h := h.1 hc
    refine PW.aload_n (pc := 12) dX8_end_12 rfl ?_
    refine PW.getR (pc := 13) dX8_end_13 (r := 279) lf_X8_17 (ob hM.1 s_277 (by decide)) fx_8_9 (oR_8_9 hM s_277) (pS_ne s_279) ?_
    refine PW.iconst (pc := 16) dX8_end_16 (v := 0) (by decide) ?_
    refine PW.dup2IR (pc := 17) dX8_end_17 ?_
    refine PW.iald (pc := 18) dX8_end_18 (ar hM.1 s_279) (vpl n_279 (vp_c (i := 0) (n := 6) (by decide))) ?_
    refine PW.iconst (pc := 19) dX8_end_19 (v := 1) (by decide) ?_
    refine PW.iadd (pc := 20) dX8_end_20 ?_
    refine PW.iast (pc := 21) dX8_end_21 (ar hM.1 s_279) (vpl n_279 (vp_c (i := 0) (n := 6) (by decide))) ?_
    refine PW.iconst (pc := 22) dX8_end_22 (v := 0) (by decide) ?_
    exact PW.retI (pc := 23) dX8_end_23 hM.1 rfl (bz_n bz0) ⟨(hM.same rfl rfl), _, rfl, bz0, h⟩
  · have h := h.2 hc
    refine PW.iload_n (pc := 4) dX8_end_4 rfl ?_
    refine PW.aload_n (pc := 5) dX8_end_5 rfl ?_
    refine PW.getI (pc := 6) dX8_end_6 lf_X8_246 (ob hM.1 s_277 (by decide)) fx_8_1 ?_
    refine PW.icmp_le (pc := 9) dX8_end_9 (t := 24) (by decide) (fun hc => ?_) (fun hc => ?_)
    · have h := h.1 hc
      refine PW.aload_n (pc := 24) dX8_end_24 rfl ?_
      refine PW.iload_n (pc := 25) dX8_end_25 rfl ?_
      refine PW.putI (pc := 26) dX8_end_26 lf_X8_246 (ob hM.1 s_277 (by decide)) fx_8_1 fw_8_1 rfl rfl ?_
      refine PW.iconst (pc := 29) dX8_end_29 (v := 1) (by decide) ?_
      exact PW.retI (pc := 30) dX8_end_30 hM.1 rfl (bz_n bz1) ⟨(hM.same rfl rfl), _, rfl, bz1, h⟩
    · have h := h.2 hc
      refine PW.aload_n (pc := 12) dX8_end_12 rfl ?_
      refine PW.getR (pc := 13) dX8_end_13 (r := 279) lf_X8_17 (ob hM.1 s_277 (by decide)) fx_8_9 (oR_8_9 hM s_277) (pS_ne s_279) ?_
      refine PW.iconst (pc := 16) dX8_end_16 (v := 0) (by decide) ?_
      refine PW.dup2IR (pc := 17) dX8_end_17 ?_
      refine PW.iald (pc := 18) dX8_end_18 (ar hM.1 s_279) (vpl n_279 (vp_c (i := 0) (n := 6) (by decide))) ?_
      refine PW.iconst (pc := 19) dX8_end_19 (v := 1) (by decide) ?_
      refine PW.iadd (pc := 20) dX8_end_20 ?_
      refine PW.iast (pc := 21) dX8_end_21 (ar hM.1 s_279) (vpl n_279 (vp_c (i := 0) (n := 6) (by decide))) ?_
      refine PW.iconst (pc := 22) dX8_end_22 (v := 0) (by decide) ?_
      exact PW.retI (pc := 23) dX8_end_23 hM.1 rfl (bz_n bz0) ⟨(hM.same rfl rfl), _, rfl, bz0, h⟩
def w_X8_fail (x1 : Int32) (x2 : Int32) (M : pm) (Q : pm → Prop) : Prop := (((mI M 277 5) = 0 → (Q (sI (sI M 277 5 x1) 277 6 x2))) ∧ (¬ (mI M 277 5) = 0 → (Q M)))
set_option maxRecDepth 4000 in
theorem c_X8_fail {x1 : Int32} {x2 : Int32} {M : pm} {Q : pm → Prop}  (hM : pG M) (h : w_X8_fail x1 x2 M Q) : PW mX8_fail 1 350 0 (pfr mX8_fail.2.2.1 [.ref 277, .int x1, .int x2]) [] M (qV Q) := by
  unfold w_X8_fail at h
  show PW mX8_fail 1 350 0 [.ref 277, .int x1, .int x2] [] M (qV Q)
  refine PW.aload_n (pc := 0) dX8_fail_0 rfl ?_
  refine PW.getI (pc := 1) dX8_fail_1 lf_X8_249 (ob hM.1 s_277 (by decide)) fx_8_5 ?_
  refine PW.if_eq (pc := 4) dX8_fail_4 (t := 8) (by decide) (fun hc => ?_) (fun hc => ?_)
  · have h := h.1 hc
    refine PW.aload_n (pc := 8) dX8_fail_8 rfl ?_
    refine PW.iload_n (pc := 9) dX8_fail_9 rfl ?_
    refine PW.putI (pc := 10) dX8_fail_10 lf_X8_249 (ob hM.1 s_277 (by decide)) fx_8_5 fw_8_5 rfl rfl ?_
    refine PW.aload_n (pc := 13) dX8_fail_13 rfl ?_
    refine PW.iload_n (pc := 14) dX8_fail_14 rfl ?_
    refine PW.putI (pc := 15) dX8_fail_15 lf_X8_252 (ob hM.1 s_277 (by decide)) fx_8_6 fw_8_6 rfl rfl ?_
    exact PW.ret0 (pc := 18) dX8_fail_18 hM.1 rfl ⟨(hM.same rfl rfl), rfl, h⟩
  · have h := h.2 hc
    exact PW.ret0 (pc := 7) dX8_fail_7 hM.1 rfl ⟨hM, rfl, h⟩
