/-! methods, walked by program: w_ what must hold before, c_ its proof -/
def w_X6_take_37 : Nat → Int32 → Int32 → pm → (Int32 → Int32 → pm → Prop) → (pm → Prop) → Prop
  | 0, _, _, _, _, _ => False
  | n + 1, x1, x2, M, k73, Q => (((mI M 6 2) ≤ x2 → (k73 x1 x2 M)) ∧ (¬ (mI M 6 2) ≤ x2 → (vp_in x2 (lay (mR M 6 1)).2 ∧ (((mI M (mR M 6 1) x2.toNatClampNeg) = 32 → (w_X6_take_37 n x1 (x2 + 1) M k73 Q)) ∧ (¬ (mI M (mR M 6 1) x2.toNatClampNeg) = 32 → (vp_in x2 (lay (mR M 6 1)).2 ∧ ((¬ (mI M (mR M 6 1) x2.toNatClampNeg) = 10 → (k73 x1 x2 M)) ∧ ((mI M (mR M 6 1) x2.toNatClampNeg) = 10 → (w_X6_take_37 n x1 (x2 + 1) M k73 Q)))))))))
set_option maxRecDepth 4000 in
theorem c_X6_take_37 {k73 : Int32 → Int32 → pm → Prop} {Q : pm → Prop} (hk73 : ∀ (x1 : Int32) (x2 : Int32) (M : pm), pG M → k73 x1 x2 M → PW mX6_take 1 350 73 [.ref 6, .int x1, .int x2, .null, .null, .null, .null, .null] [] M (qV Q)) : ∀ (n : Nat) (x1 : Int32) (x2 : Int32) (M : pm), pG M → w_X6_take_37 n x1 x2 M k73 Q → PW mX6_take 1 350 37 [.ref 6, .int x1, .int x2, .null, .null, .null, .null, .null] [] M (qV Q) := by
  intro n
  induction n with
  | zero => intro x1 x2 M hM h; exact h.elim
  | succ n ih =>
    intro x1 x2 M hM h
    unfold w_X6_take_37 at h
    refine PW.iload_n (pc := 37) dX6_take_37 rfl ?_
    refine PW.aload_n (pc := 38) dX6_take_38 rfl ?_
    refine PW.getI (pc := 39) dX6_take_39 lf_X6_19 (ob hM.1 s_6 (by decide)) fx_6_2 ?_
    refine PW.icmp_ge (pc := 42) dX6_take_42 (t := 73) (by decide) (fun hc => ?_) (fun hc => ?_)
    · have h := h.1 hc
      exact PW.drop (hk73 _ _ _ hM h) ⟨rfl, rfl, rfl, trivial⟩
    · have h := h.2 hc
      refine PW.aload_n (pc := 45) dX6_take_45 rfl ?_
      refine PW.getR (pc := 46) dX6_take_46 (r := (mR M 6 1)) lf_X6_15 (ob hM.1 s_6 (by decide)) fx_6_1 rfl (pS_ne (hM.2.2.2.2.2.2.1)) ?_
      refine PW.iload_n (pc := 49) dX6_take_49 rfl ?_
      obtain ⟨v1, h⟩ := h
      refine PW.bald (pc := 50) dX6_take_50 (ar hM.1 (hM.2.2.2.2.2.2.1)) v1 ?_
      refine PW.bipush (pc := 51) dX6_take_51 (v := 32) (by decide) ?_
      refine PW.icmp_eq (pc := 53) dX6_take_53 (t := 67) (by decide) (fun hc => ?_) (fun hc => ?_)
      · have h := h.1 hc
        refine PW.iinc (pc := 67) dX6_take_67 (v := (x2 + 1)) (ls' := [.ref 6, .int x1, .int (x2 + 1), .null, .null, .null, .null, .null]) rfl rfl (by decide) rfl rfl ?_
        refine PW.goto (pc := 70) dX6_take_70 (t := 37) (by decide) ?_
        exact PW.drop (ih _ _ _ hM h) ⟨rfl, rfl, rfl, trivial⟩
      · have h := h.2 hc
        refine PW.aload_n (pc := 56) dX6_take_56 rfl ?_
        refine PW.getR (pc := 57) dX6_take_57 (r := (mR M 6 1)) lf_X6_15 (ob hM.1 s_6 (by decide)) fx_6_1 rfl (pS_ne (hM.2.2.2.2.2.2.1)) ?_
        refine PW.iload_n (pc := 60) dX6_take_60 rfl ?_
        obtain ⟨v2, h⟩ := h
        refine PW.bald (pc := 61) dX6_take_61 (ar hM.1 (hM.2.2.2.2.2.2.1)) v2 ?_
        refine PW.bipush (pc := 62) dX6_take_62 (v := 10) (by decide) ?_
        refine PW.icmp_ne (pc := 64) dX6_take_64 (t := 73) (by decide) (fun hc => ?_) (fun hc => ?_)
        · have h := h.1 hc
          exact PW.drop (hk73 _ _ _ hM h) ⟨rfl, rfl, rfl, trivial⟩
        · have h := h.2 hc
          refine PW.iinc (pc := 67) dX6_take_67 (v := (x2 + 1)) (ls' := [.ref 6, .int x1, .int (x2 + 1), .null, .null, .null, .null, .null]) rfl rfl (by decide) rfl rfl ?_
          refine PW.goto (pc := 70) dX6_take_70 (t := 37) (by decide) ?_
          exact PW.drop (ih _ _ _ hM h) ⟨rfl, rfl, rfl, trivial⟩
def w_X6_take_301 : Nat → Int32 → pm → (pm → Prop) → Prop
  | 0, _, _, _ => False
  | n + 1, x2, M, Q => (((mI M 6 2) ≤ x2 → (Q (sI M 6 5 x2))) ∧ (¬ (mI M 6 2) ≤ x2 → (vp_in x2 (lay (mR M 6 1)).2 ∧ (((mI M (mR M 6 1) x2.toNatClampNeg) < 48 → (Q (sI M 6 5 x2))) ∧ (¬ (mI M (mR M 6 1) x2.toNatClampNeg) < 48 → (vp_in x2 (lay (mR M 6 1)).2 ∧ ((57 < (mI M (mR M 6 1) x2.toNatClampNeg) → (Q (sI M 6 5 x2))) ∧ (¬ 57 < (mI M (mR M 6 1) x2.toNatClampNeg) → (w_X6_take_301 n (x2 + 1) M Q)))))))))
set_option maxRecDepth 4000 in
theorem c_X6_take_301  {Q : pm → Prop}  : ∀ (n : Nat) (x2 : Int32) (M : pm), pG M → w_X6_take_301 n x2 M  Q → PW mX6_take 1 350 301 [.ref 6, .null, .int x2, .null, .null, .null, .null, .null] [] M (qV Q) := by
  intro n
  induction n with
  | zero => intro x2 M hM h; exact h.elim
  | succ n ih =>
    intro x2 M hM h
    unfold w_X6_take_301 at h
    refine PW.iload_n (pc := 301) dX6_take_301 rfl ?_
    refine PW.aload_n (pc := 302) dX6_take_302 rfl ?_
    refine PW.getI (pc := 303) dX6_take_303 lf_X6_19 (ob hM.1 s_6 (by decide)) fx_6_2 ?_
    refine PW.icmp_ge (pc := 306) dX6_take_306 (t := 345) (by decide) (fun hc => ?_) (fun hc => ?_)
    · have h := h.1 hc
      refine PW.aload_n (pc := 345) dX6_take_345 rfl ?_
      refine PW.iload_n (pc := 346) dX6_take_346 rfl ?_
      refine PW.putI (pc := 347) dX6_take_347 lf_X6_29 (ob hM.1 s_6 (by decide)) fx_6_5 fw_6_5 rfl rfl ?_
      exact PW.ret0 (pc := 350) dX6_take_350 hM.1 rfl ⟨(hM.same rfl rfl), rfl, h⟩
    · have h := h.2 hc
      refine PW.aload_n (pc := 309) dX6_take_309 rfl ?_
      refine PW.getR (pc := 310) dX6_take_310 (r := (mR M 6 1)) lf_X6_15 (ob hM.1 s_6 (by decide)) fx_6_1 rfl (pS_ne (hM.2.2.2.2.2.2.1)) ?_
      refine PW.iload_n (pc := 313) dX6_take_313 rfl ?_
      obtain ⟨v5, h⟩ := h
      refine PW.bald (pc := 314) dX6_take_314 (ar hM.1 (hM.2.2.2.2.2.2.1)) v5 ?_
      refine PW.bipush (pc := 315) dX6_take_315 (v := 48) (by decide) ?_
      refine PW.icmp_lt (pc := 317) dX6_take_317 (t := 345) (by decide) (fun hc => ?_) (fun hc => ?_)
      · have h := h.1 hc
        refine PW.aload_n (pc := 345) dX6_take_345 rfl ?_
        refine PW.iload_n (pc := 346) dX6_take_346 rfl ?_
        refine PW.putI (pc := 347) dX6_take_347 lf_X6_29 (ob hM.1 s_6 (by decide)) fx_6_5 fw_6_5 rfl rfl ?_
        exact PW.ret0 (pc := 350) dX6_take_350 hM.1 rfl ⟨(hM.same rfl rfl), rfl, h⟩
      · have h := h.2 hc
        refine PW.aload_n (pc := 320) dX6_take_320 rfl ?_
        refine PW.getR (pc := 321) dX6_take_321 (r := (mR M 6 1)) lf_X6_15 (ob hM.1 s_6 (by decide)) fx_6_1 rfl (pS_ne (hM.2.2.2.2.2.2.1)) ?_
        refine PW.iload_n (pc := 324) dX6_take_324 rfl ?_
        obtain ⟨v6, h⟩ := h
        refine PW.bald (pc := 325) dX6_take_325 (ar hM.1 (hM.2.2.2.2.2.2.1)) v6 ?_
        refine PW.bipush (pc := 326) dX6_take_326 (v := 57) (by decide) ?_
        refine PW.icmp_gt (pc := 328) dX6_take_328 (t := 345) (by decide) (fun hc => ?_) (fun hc => ?_)
        · have h := h.1 hc
          refine PW.aload_n (pc := 345) dX6_take_345 rfl ?_
          refine PW.iload_n (pc := 346) dX6_take_346 rfl ?_
          refine PW.putI (pc := 347) dX6_take_347 lf_X6_29 (ob hM.1 s_6 (by decide)) fx_6_5 fw_6_5 rfl rfl ?_
          exact PW.ret0 (pc := 350) dX6_take_350 hM.1 rfl ⟨(hM.same rfl rfl), rfl, h⟩
        · have h := h.2 hc
          refine PW.iinc (pc := 331) dX6_take_331 (v := (x2 + 1)) (ls' := [.ref 6, .null, .int (x2 + 1), .null, .null, .null, .null, .null]) rfl rfl (by decide) rfl rfl ?_
          refine PW.goto (pc := 334) dX6_take_334 (t := 301) (by decide) ?_
          exact PW.drop (ih _ _ hM h) ⟨rfl, rfl, trivial⟩
def w_X6_take_211 : Nat → Int32 → pm → (pm → Prop) → Prop
  | 0, _, _, _ => False
  | n + 1, x2, M, Q => (((mI M 6 2) ≤ x2 → (Q (sI M 6 5 x2))) ∧ (¬ (mI M 6 2) ≤ x2 → (vp_in x2 (lay (mR M 6 1)).2 ∧ (((mI M (mR M 6 1) x2.toNatClampNeg) < 97 → (Q (sI M 6 5 x2))) ∧ (¬ (mI M (mR M 6 1) x2.toNatClampNeg) < 97 → (vp_in x2 (lay (mR M 6 1)).2 ∧ ((122 < (mI M (mR M 6 1) x2.toNatClampNeg) → (Q (sI M 6 5 x2))) ∧ (¬ 122 < (mI M (mR M 6 1) x2.toNatClampNeg) → ((6 ≤ (x2 - (mI M 6 4)) → (w_X6_take_211 n (x2 + 1) (sI M 6 6 ((mI M 6 6) ||| 0)) Q)) ∧ (¬ 6 ≤ (x2 - (mI M 6 4)) → (vp_in x2 (lay (mR M 6 1)).2 ∧ (w_X6_take_211 n (x2 + 1) (sI M 6 6 ((mI M 6 6) ||| ((((mI M (mR M 6 1) x2.toNatClampNeg) - 97) + 1) <<< ((5 * (x2 - (mI M 6 4))) &&& 31)))) Q))))))))))))
set_option maxRecDepth 4000 in
theorem c_X6_take_211  {Q : pm → Prop}  : ∀ (n : Nat) (x2 : Int32) (M : pm), pG M → w_X6_take_211 n x2 M  Q → PW mX6_take 1 350 211 [.ref 6, .null, .int x2, .null, .null, .null, .null, .null] [] M (qV Q) := by
  intro n
  induction n with
  | zero => intro x2 M hM h; exact h.elim
  | succ n ih =>
    intro x2 M hM h
    unfold w_X6_take_211 at h
    refine PW.iload_n (pc := 211) dX6_take_211 rfl ?_
    refine PW.aload_n (pc := 212) dX6_take_212 rfl ?_
    refine PW.getI (pc := 213) dX6_take_213 lf_X6_19 (ob hM.1 s_6 (by decide)) fx_6_2 ?_
    refine PW.icmp_ge (pc := 216) dX6_take_216 (t := 345) (by decide) (fun hc => ?_) (fun hc => ?_)
    · have h := h.1 hc
      refine PW.aload_n (pc := 345) dX6_take_345 rfl ?_
      refine PW.iload_n (pc := 346) dX6_take_346 rfl ?_
      refine PW.putI (pc := 347) dX6_take_347 lf_X6_29 (ob hM.1 s_6 (by decide)) fx_6_5 fw_6_5 rfl rfl ?_
      exact PW.ret0 (pc := 350) dX6_take_350 hM.1 rfl ⟨(hM.same rfl rfl), rfl, h⟩
    · have h := h.2 hc
      refine PW.aload_n (pc := 219) dX6_take_219 rfl ?_
      refine PW.getR (pc := 220) dX6_take_220 (r := (mR M 6 1)) lf_X6_15 (ob hM.1 s_6 (by decide)) fx_6_1 rfl (pS_ne (hM.2.2.2.2.2.2.1)) ?_
      refine PW.iload_n (pc := 223) dX6_take_223 rfl ?_
      obtain ⟨v8, h⟩ := h
      refine PW.bald (pc := 224) dX6_take_224 (ar hM.1 (hM.2.2.2.2.2.2.1)) v8 ?_
      refine PW.bipush (pc := 225) dX6_take_225 (v := 97) (by decide) ?_
      refine PW.icmp_lt (pc := 227) dX6_take_227 (t := 345) (by decide) (fun hc => ?_) (fun hc => ?_)
      · have h := h.1 hc
        refine PW.aload_n (pc := 345) dX6_take_345 rfl ?_
        refine PW.iload_n (pc := 346) dX6_take_346 rfl ?_
        refine PW.putI (pc := 347) dX6_take_347 lf_X6_29 (ob hM.1 s_6 (by decide)) fx_6_5 fw_6_5 rfl rfl ?_
        exact PW.ret0 (pc := 350) dX6_take_350 hM.1 rfl ⟨(hM.same rfl rfl), rfl, h⟩
      · have h := h.2 hc
        refine PW.aload_n (pc := 230) dX6_take_230 rfl ?_
        refine PW.getR (pc := 231) dX6_take_231 (r := (mR M 6 1)) lf_X6_15 (ob hM.1 s_6 (by decide)) fx_6_1 rfl (pS_ne (hM.2.2.2.2.2.2.1)) ?_
        refine PW.iload_n (pc := 234) dX6_take_234 rfl ?_
        obtain ⟨v9, h⟩ := h
        refine PW.bald (pc := 235) dX6_take_235 (ar hM.1 (hM.2.2.2.2.2.2.1)) v9 ?_
        refine PW.bipush (pc := 236) dX6_take_236 (v := 122) (by decide) ?_
        refine PW.icmp_gt (pc := 238) dX6_take_238 (t := 345) (by decide) (fun hc => ?_) (fun hc => ?_)
        · have h := h.1 hc
          refine PW.aload_n (pc := 345) dX6_take_345 rfl ?_
          refine PW.iload_n (pc := 346) dX6_take_346 rfl ?_
          refine PW.putI (pc := 347) dX6_take_347 lf_X6_29 (ob hM.1 s_6 (by decide)) fx_6_5 fw_6_5 rfl rfl ?_
          exact PW.ret0 (pc := 350) dX6_take_350 hM.1 rfl ⟨(hM.same rfl rfl), rfl, h⟩
        · have h := h.2 hc
          refine PW.iload_n (pc := 241) dX6_take_241 rfl ?_
          refine PW.aload_n (pc := 242) dX6_take_242 rfl ?_
          refine PW.getI (pc := 243) dX6_take_243 lf_X6_26 (ob hM.1 s_6 (by decide)) fx_6_4 ?_
          refine PW.isub (pc := 246) dX6_take_246 ?_
          refine PW.istore (pc := 247) dX6_take_247 (ls' := [.ref 6, .null, .int x2, .null, .null, .null, .null, .int (x2 - (mI M 6 4))]) (by decide) rfl rfl ?_
          refine PW.aload_n (pc := 249) dX6_take_249 rfl ?_
          refine PW.dupR (pc := 250) dX6_take_250 ?_
          refine PW.getI (pc := 251) dX6_take_251 lf_X6_32 (ob hM.1 s_6 (by decide)) fx_6_6 ?_
          refine PW.iload (pc := 254) dX6_take_254 rfl ?_
          refine PW.bipush (pc := 256) dX6_take_256 (v := 6) (by decide) ?_
          refine PW.icmp_ge (pc := 258) dX6_take_258 (t := 280) (by decide) (fun hc => ?_) (fun hc => ?_)
          · have h := h.1 hc
            refine PW.iconst (pc := 280) dX6_take_280 (v := 0) (by decide) ?_
            refine PW.ior (pc := 281) dX6_take_281 ?_
            refine PW.putI (pc := 282) dX6_take_282 lf_X6_32 (ob hM.1 s_6 (by decide)) fx_6_6 fw_6_6 rfl rfl ?_
            refine PW.iinc (pc := 285) dX6_take_285 (v := (x2 + 1)) (ls' := [.ref 6, .null, .int (x2 + 1), .null, .null, .null, .null, .int (x2 - (mI M 6 4))]) rfl rfl (by decide) rfl rfl ?_
            refine PW.goto (pc := 288) dX6_take_288 (t := 211) (by decide) ?_
            exact PW.drop (ih _ _ (hM.same rfl rfl) h) ⟨rfl, rfl, trivial⟩
          · have h := h.2 hc
            refine PW.aload_n (pc := 261) dX6_take_261 rfl ?_
            refine PW.getR (pc := 262) dX6_take_262 (r := (mR M 6 1)) lf_X6_15 (ob hM.1 s_6 (by decide)) fx_6_1 rfl (pS_ne (hM.2.2.2.2.2.2.1)) ?_
            refine PW.iload_n (pc := 265) dX6_take_265 rfl ?_
            obtain ⟨v10, h⟩ := h
            refine PW.bald (pc := 266) dX6_take_266 (ar hM.1 (hM.2.2.2.2.2.2.1)) v10 ?_
            refine PW.bipush (pc := 267) dX6_take_267 (v := 97) (by decide) ?_
            refine PW.isub (pc := 269) dX6_take_269 ?_
            refine PW.iconst (pc := 270) dX6_take_270 (v := 1) (by decide) ?_
            refine PW.iadd (pc := 271) dX6_take_271 ?_
            refine PW.iconst (pc := 272) dX6_take_272 (v := 5) (by decide) ?_
            refine PW.iload (pc := 273) dX6_take_273 rfl ?_
            refine PW.imul (pc := 275) dX6_take_275 ?_
            refine PW.ishl (pc := 276) dX6_take_276 ?_
            refine PW.goto (pc := 277) dX6_take_277 (t := 281) (by decide) ?_
            refine PW.ior (pc := 281) dX6_take_281 ?_
            refine PW.putI (pc := 282) dX6_take_282 lf_X6_32 (ob hM.1 s_6 (by decide)) fx_6_6 fw_6_6 rfl rfl ?_
            refine PW.iinc (pc := 285) dX6_take_285 (v := (x2 + 1)) (ls' := [.ref 6, .null, .int (x2 + 1), .null, .null, .null, .null, .int (x2 - (mI M 6 4))]) rfl rfl (by decide) rfl rfl ?_
            refine PW.goto (pc := 288) dX6_take_288 (t := 211) (by decide) ?_
            exact PW.drop (ih _ _ (hM.same rfl rfl) h) ⟨rfl, rfl, trivial⟩
def w_X6_take_201  (x2 : Int32) (x4 : Int32) (x5 : Int32) (M : pm)  (Q : pm → Prop) : Prop := ((x4 = 0 → ((x5 = 0 → (Q (sI (sI M 6 3 3) 6 5 (x2 + 1)))) ∧ (¬ x5 = 0 → (∃ n7, w_X6_take_301 n7 x2 (sI M 6 3 2)  Q)))) ∧ (¬ x4 = 0 → (∃ n11, w_X6_take_211 n11 x2 (sI M 6 3 1)  Q)))
set_option maxRecDepth 4000 in
theorem c_X6_take_201  {Q : pm → Prop}  : ∀ (x2 : Int32) (x4 : Int32) (x5 : Int32) (M : pm), pG M → w_X6_take_201 x2 x4 x5 M  Q → PW mX6_take 1 350 201 [.ref 6, .null, .int x2, .null, .int x4, .int x5, .null, .null] [] M (qV Q) := by
  intro x2 x4 x5 M hM h
  unfold w_X6_take_201 at h
  refine PW.iload (pc := 201) dX6_take_201 rfl ?_
  refine PW.if_eq (pc := 203) dX6_take_203 (t := 291) (by decide) (fun hc => ?_) (fun hc => ?_)
  · have h := h.1 hc
    refine PW.iload (pc := 291) dX6_take_291 rfl ?_
    refine PW.if_eq (pc := 293) dX6_take_293 (t := 337) (by decide) (fun hc => ?_) (fun hc => ?_)
    · have h := h.1 hc
      refine PW.aload_n (pc := 337) dX6_take_337 rfl ?_
      refine PW.iconst (pc := 338) dX6_take_338 (v := 3) (by decide) ?_
      refine PW.putI (pc := 339) dX6_take_339 lf_X6_23 (ob hM.1 s_6 (by decide)) fx_6_3 fw_6_3 rfl rfl ?_
      refine PW.iinc (pc := 342) dX6_take_342 (v := (x2 + 1)) (ls' := [.ref 6, .null, .int (x2 + 1), .null, .int x4, .int x5, .null, .null]) rfl rfl (by decide) rfl rfl ?_
      refine PW.aload_n (pc := 345) dX6_take_345 rfl ?_
      refine PW.iload_n (pc := 346) dX6_take_346 rfl ?_
      refine PW.putI (pc := 347) dX6_take_347 lf_X6_29 (ob hM.1 s_6 (by decide)) fx_6_5 fw_6_5 rfl rfl ?_
      exact PW.ret0 (pc := 350) dX6_take_350 hM.1 rfl ⟨(hM.same rfl rfl), rfl, h⟩
    · have h := h.2 hc
      refine PW.aload_n (pc := 296) dX6_take_296 rfl ?_
      refine PW.iconst (pc := 297) dX6_take_297 (v := 2) (by decide) ?_
      refine PW.putI (pc := 298) dX6_take_298 lf_X6_23 (ob hM.1 s_6 (by decide)) fx_6_3 fw_6_3 rfl rfl ?_
      obtain ⟨n7, h⟩ := h
      refine PW.drop (c_X6_take_301  n7 _ _ (hM.same rfl rfl) h) ⟨rfl, rfl, trivial⟩
  · have h := h.2 hc
    refine PW.aload_n (pc := 206) dX6_take_206 rfl ?_
    refine PW.iconst (pc := 207) dX6_take_207 (v := 1) (by decide) ?_
    refine PW.putI (pc := 208) dX6_take_208 lf_X6_23 (ob hM.1 s_6 (by decide)) fx_6_3 fw_6_3 rfl rfl ?_
    obtain ⟨n11, h⟩ := h
    refine PW.drop (c_X6_take_211  n11 _ _ (hM.same rfl rfl) h) ⟨rfl, rfl, trivial⟩
def w_X6_take_147  (x2 : Int32) (x4 : Int32) (x5 : Int32) (t0 : Int32) (M : pm)  (Q : pm → Prop) : Prop := ((x2 < (mI M 6 2) → ((t0 = 0 → (w_X6_take_201 x2 x4 x5 (sI (sI M 6 4 x2) 6 6 0)  Q)) ∧ (¬ t0 = 0 → ((¬ x4 = 0 → (Q (sI (sI (sI (sI M 6 4 x2) 6 6 0) 6 3 4) 6 5 (x2 + 1)))) ∧ (x4 = 0 → ((x5 = 0 → (w_X6_take_201 x2 x4 x5 (sI (sI M 6 4 x2) 6 6 0)  Q)) ∧ (¬ x5 = 0 → (Q (sI (sI (sI (sI M 6 4 x2) 6 6 0) 6 3 4) 6 5 (x2 + 1)))))))))) ∧ (¬ x2 < (mI M 6 2) → (Q (sI (sI (sI (sI M 6 4 x2) 6 6 0) 6 3 5) 6 5 x2))))
set_option maxRecDepth 4000 in
theorem c_X6_take_147  {Q : pm → Prop}  : ∀ (x2 : Int32) (x4 : Int32) (x5 : Int32) (t0 : Int32) (M : pm), pG M → w_X6_take_147 x2 x4 x5 t0 M  Q → PW mX6_take 1 350 147 [.ref 6, .null, .int x2, .null, .int x4, .int x5, .null, .null] [.int t0] M (qV Q) := by
  intro x2 x4 x5 t0 M hM h
  unfold w_X6_take_147 at h
  refine PW.istore (pc := 147) dX6_take_147 (ls' := [.ref 6, .null, .int x2, .null, .int x4, .int x5, .int t0, .null]) (by decide) rfl rfl ?_
  refine PW.aload_n (pc := 149) dX6_take_149 rfl ?_
  refine PW.iload_n (pc := 150) dX6_take_150 rfl ?_
  refine PW.putI (pc := 151) dX6_take_151 lf_X6_26 (ob hM.1 s_6 (by decide)) fx_6_4 fw_6_4 rfl rfl ?_
  refine PW.aload_n (pc := 154) dX6_take_154 rfl ?_
  refine PW.iconst (pc := 155) dX6_take_155 (v := 0) (by decide) ?_
  refine PW.putI (pc := 156) dX6_take_156 lf_X6_32 (ob hM.1 s_6 (by decide)) fx_6_6 fw_6_6 rfl rfl ?_
  refine PW.iload_n (pc := 159) dX6_take_159 rfl ?_
  refine PW.aload_n (pc := 160) dX6_take_160 rfl ?_
  refine PW.getI (pc := 161) dX6_take_161 lf_X6_19 (ob hM.1 s_6 (by decide)) fx_6_2 ?_
  refine PW.icmp_lt (pc := 164) dX6_take_164 (t := 175) (by decide) (fun hc => ?_) (fun hc => ?_)
  · have h := h.1 hc
    refine PW.iload (pc := 175) dX6_take_175 rfl ?_
    refine PW.if_eq (pc := 177) dX6_take_177 (t := 201) (by decide) (fun hc => ?_) (fun hc => ?_)
    · have h := h.1 hc
      exact PW.drop (c_X6_take_201  _ _ _ _ (hM.same rfl rfl) h) ⟨rfl, rfl, rfl, rfl, trivial⟩
    · have h := h.2 hc
      refine PW.iload (pc := 180) dX6_take_180 rfl ?_
      refine PW.if_ne (pc := 182) dX6_take_182 (t := 190) (by decide) (fun hc => ?_) (fun hc => ?_)
      · have h := h.1 hc
        refine PW.aload_n (pc := 190) dX6_take_190 rfl ?_
        refine PW.iconst (pc := 191) dX6_take_191 (v := 4) (by decide) ?_
        refine PW.putI (pc := 192) dX6_take_192 lf_X6_23 (ob hM.1 s_6 (by decide)) fx_6_3 fw_6_3 rfl rfl ?_
        refine PW.iinc (pc := 195) dX6_take_195 (v := (x2 + 1)) (ls' := [.ref 6, .null, .int (x2 + 1), .null, .int x4, .int x5, .int t0, .null]) rfl rfl (by decide) rfl rfl ?_
        refine PW.goto (pc := 198) dX6_take_198 (t := 345) (by decide) ?_
        refine PW.aload_n (pc := 345) dX6_take_345 rfl ?_
        refine PW.iload_n (pc := 346) dX6_take_346 rfl ?_
        refine PW.putI (pc := 347) dX6_take_347 lf_X6_29 (ob hM.1 s_6 (by decide)) fx_6_5 fw_6_5 rfl rfl ?_
        exact PW.ret0 (pc := 350) dX6_take_350 hM.1 rfl ⟨(hM.same rfl rfl), rfl, h⟩
      · have h := h.2 hc
        refine PW.iload (pc := 185) dX6_take_185 rfl ?_
        refine PW.if_eq (pc := 187) dX6_take_187 (t := 201) (by decide) (fun hc => ?_) (fun hc => ?_)
        · have h := h.1 hc
          exact PW.drop (c_X6_take_201  _ _ _ _ (hM.same rfl rfl) h) ⟨rfl, rfl, rfl, rfl, trivial⟩
        · have h := h.2 hc
          refine PW.aload_n (pc := 190) dX6_take_190 rfl ?_
          refine PW.iconst (pc := 191) dX6_take_191 (v := 4) (by decide) ?_
          refine PW.putI (pc := 192) dX6_take_192 lf_X6_23 (ob hM.1 s_6 (by decide)) fx_6_3 fw_6_3 rfl rfl ?_
          refine PW.iinc (pc := 195) dX6_take_195 (v := (x2 + 1)) (ls' := [.ref 6, .null, .int (x2 + 1), .null, .int x4, .int x5, .int t0, .null]) rfl rfl (by decide) rfl rfl ?_
          refine PW.goto (pc := 198) dX6_take_198 (t := 345) (by decide) ?_
          refine PW.aload_n (pc := 345) dX6_take_345 rfl ?_
          refine PW.iload_n (pc := 346) dX6_take_346 rfl ?_
          refine PW.putI (pc := 347) dX6_take_347 lf_X6_29 (ob hM.1 s_6 (by decide)) fx_6_5 fw_6_5 rfl rfl ?_
          exact PW.ret0 (pc := 350) dX6_take_350 hM.1 rfl ⟨(hM.same rfl rfl), rfl, h⟩
  · have h := h.2 hc
    refine PW.aload_n (pc := 167) dX6_take_167 rfl ?_
    refine PW.iconst (pc := 168) dX6_take_168 (v := 5) (by decide) ?_
    refine PW.putI (pc := 169) dX6_take_169 lf_X6_23 (ob hM.1 s_6 (by decide)) fx_6_3 fw_6_3 rfl rfl ?_
    refine PW.goto (pc := 172) dX6_take_172 (t := 345) (by decide) ?_
    refine PW.aload_n (pc := 345) dX6_take_345 rfl ?_
    refine PW.iload_n (pc := 346) dX6_take_346 rfl ?_
    refine PW.putI (pc := 347) dX6_take_347 lf_X6_29 (ob hM.1 s_6 (by decide)) fx_6_5 fw_6_5 rfl rfl ?_
    exact PW.ret0 (pc := 350) dX6_take_350 hM.1 rfl ⟨(hM.same rfl rfl), rfl, h⟩
def w_X6_take_128  (x1 : Int32) (x2 : Int32) (x4 : Int32) (t0 : Int32) (M : pm)  (Q : pm → Prop) : Prop := ((x1 = 0 → (w_X6_take_147 x2 x4 t0 0 M  Q)) ∧ (¬ x1 = 0 → ((¬ x2 = (mI M 6 5) → (w_X6_take_147 x2 x4 t0 0 M  Q)) ∧ (x2 = (mI M 6 5) → (w_X6_take_147 x2 x4 t0 1 M  Q)))))
set_option maxRecDepth 4000 in
theorem c_X6_take_128  {Q : pm → Prop}  : ∀ (x1 : Int32) (x2 : Int32) (x4 : Int32) (t0 : Int32) (M : pm), pG M → w_X6_take_128 x1 x2 x4 t0 M  Q → PW mX6_take 1 350 128 [.ref 6, .int x1, .int x2, .null, .int x4, .null, .null, .null] [.int t0] M (qV Q) := by
  intro x1 x2 x4 t0 M hM h
  unfold w_X6_take_128 at h
  refine PW.istore (pc := 128) dX6_take_128 (ls' := [.ref 6, .int x1, .int x2, .null, .int x4, .int t0, .null, .null]) (by decide) rfl rfl ?_
  refine PW.iload_n (pc := 130) dX6_take_130 rfl ?_
  refine PW.if_eq (pc := 131) dX6_take_131 (t := 146) (by decide) (fun hc => ?_) (fun hc => ?_)
  · have h := h.1 hc
    refine PW.iconst (pc := 146) dX6_take_146 (v := 0) (by decide) ?_
    exact PW.drop (c_X6_take_147  _ _ _ _ _ hM h) ⟨rfl, rfl, rfl, rfl, trivial⟩
  · have h := h.2 hc
    refine PW.iload_n (pc := 134) dX6_take_134 rfl ?_
    refine PW.aload_n (pc := 135) dX6_take_135 rfl ?_
    refine PW.getI (pc := 136) dX6_take_136 lf_X6_29 (ob hM.1 s_6 (by decide)) fx_6_5 ?_
    refine PW.icmp_ne (pc := 139) dX6_take_139 (t := 146) (by decide) (fun hc => ?_) (fun hc => ?_)
    · have h := h.1 hc
      refine PW.iconst (pc := 146) dX6_take_146 (v := 0) (by decide) ?_
      exact PW.drop (c_X6_take_147  _ _ _ _ _ hM h) ⟨rfl, rfl, rfl, rfl, trivial⟩
    · have h := h.2 hc
      refine PW.iconst (pc := 142) dX6_take_142 (v := 1) (by decide) ?_
      refine PW.goto (pc := 143) dX6_take_143 (t := 147) (by decide) ?_
      exact PW.drop (c_X6_take_147  _ _ _ _ _ hM h) ⟨rfl, rfl, rfl, rfl, trivial⟩
def w_X6_take_109  (x1 : Int32) (x2 : Int32) (x3 : Int32) (t0 : Int32) (M : pm)  (Q : pm → Prop) : Prop := ((x3 < 48 → (w_X6_take_128 x1 x2 t0 0 M  Q)) ∧ (¬ x3 < 48 → ((57 < x3 → (w_X6_take_128 x1 x2 t0 0 M  Q)) ∧ (¬ 57 < x3 → (w_X6_take_128 x1 x2 t0 1 M  Q)))))
set_option maxRecDepth 4000 in
theorem c_X6_take_109  {Q : pm → Prop}  : ∀ (x1 : Int32) (x2 : Int32) (x3 : Int32) (t0 : Int32) (M : pm), pG M → w_X6_take_109 x1 x2 x3 t0 M  Q → PW mX6_take 1 350 109 [.ref 6, .int x1, .int x2, .int x3, .null, .null, .null, .null] [.int t0] M (qV Q) := by
  intro x1 x2 x3 t0 M hM h
  unfold w_X6_take_109 at h
  refine PW.istore (pc := 109) dX6_take_109 (ls' := [.ref 6, .int x1, .int x2, .int x3, .int t0, .null, .null, .null]) (by decide) rfl rfl ?_
  refine PW.iload_n (pc := 111) dX6_take_111 rfl ?_
  refine PW.bipush (pc := 112) dX6_take_112 (v := 48) (by decide) ?_
  refine PW.icmp_lt (pc := 114) dX6_take_114 (t := 127) (by decide) (fun hc => ?_) (fun hc => ?_)
  · have h := h.1 hc
    refine PW.iconst (pc := 127) dX6_take_127 (v := 0) (by decide) ?_
    exact PW.drop (c_X6_take_128  _ _ _ _ _ hM h) ⟨rfl, rfl, rfl, rfl, trivial⟩
  · have h := h.2 hc
    refine PW.iload_n (pc := 117) dX6_take_117 rfl ?_
    refine PW.bipush (pc := 118) dX6_take_118 (v := 57) (by decide) ?_
    refine PW.icmp_gt (pc := 120) dX6_take_120 (t := 127) (by decide) (fun hc => ?_) (fun hc => ?_)
    · have h := h.1 hc
      refine PW.iconst (pc := 127) dX6_take_127 (v := 0) (by decide) ?_
      exact PW.drop (c_X6_take_128  _ _ _ _ _ hM h) ⟨rfl, rfl, rfl, rfl, trivial⟩
    · have h := h.2 hc
      refine PW.iconst (pc := 123) dX6_take_123 (v := 1) (by decide) ?_
      refine PW.goto (pc := 124) dX6_take_124 (t := 128) (by decide) ?_
      exact PW.drop (c_X6_take_128  _ _ _ _ _ hM h) ⟨rfl, rfl, rfl, rfl, trivial⟩
def w_X6_take_91  (x1 : Int32) (x2 : Int32) (t0 : Int32) (M : pm)  (Q : pm → Prop) : Prop := ((t0 < 97 → (w_X6_take_109 x1 x2 t0 0 M  Q)) ∧ (¬ t0 < 97 → ((122 < t0 → (w_X6_take_109 x1 x2 t0 0 M  Q)) ∧ (¬ 122 < t0 → (w_X6_take_109 x1 x2 t0 1 M  Q)))))
set_option maxRecDepth 4000 in
theorem c_X6_take_91  {Q : pm → Prop}  : ∀ (x1 : Int32) (x2 : Int32) (t0 : Int32) (M : pm), pG M → w_X6_take_91 x1 x2 t0 M  Q → PW mX6_take 1 350 91 [.ref 6, .int x1, .int x2, .null, .null, .null, .null, .null] [.int t0] M (qV Q) := by
  intro x1 x2 t0 M hM h
  unfold w_X6_take_91 at h
  refine PW.istore_n (pc := 91) dX6_take_91 (ls' := [.ref 6, .int x1, .int x2, .int t0, .null, .null, .null, .null]) (by decide) rfl rfl ?_
  refine PW.iload_n (pc := 92) dX6_take_92 rfl ?_
  refine PW.bipush (pc := 93) dX6_take_93 (v := 97) (by decide) ?_
  refine PW.icmp_lt (pc := 95) dX6_take_95 (t := 108) (by decide) (fun hc => ?_) (fun hc => ?_)
  · have h := h.1 hc
    refine PW.iconst (pc := 108) dX6_take_108 (v := 0) (by decide) ?_
    exact PW.drop (c_X6_take_109  _ _ _ _ _ hM h) ⟨rfl, rfl, rfl, rfl, trivial⟩
  · have h := h.2 hc
    refine PW.iload_n (pc := 98) dX6_take_98 rfl ?_
    refine PW.bipush (pc := 99) dX6_take_99 (v := 122) (by decide) ?_
    refine PW.icmp_gt (pc := 101) dX6_take_101 (t := 108) (by decide) (fun hc => ?_) (fun hc => ?_)
    · have h := h.1 hc
      refine PW.iconst (pc := 108) dX6_take_108 (v := 0) (by decide) ?_
      exact PW.drop (c_X6_take_109  _ _ _ _ _ hM h) ⟨rfl, rfl, rfl, rfl, trivial⟩
    · have h := h.2 hc
      refine PW.iconst (pc := 104) dX6_take_104 (v := 1) (by decide) ?_
      refine PW.goto (pc := 105) dX6_take_105 (t := 109) (by decide) ?_
      exact PW.drop (c_X6_take_109  _ _ _ _ _ hM h) ⟨rfl, rfl, rfl, rfl, trivial⟩
def w_X6_take  (M : pm) (Q : pm → Prop) : Prop := ((¬ (mI M 6 3) = 6 → (((mI M 6 3) = 1 → (∃ n3, w_X6_take_37 n3 1 (mI M 6 5) M (fun x1 x2 M4 => (((mI M4 6 2) ≤ x2 → (w_X6_take_91 x1 x2 0 M4  Q)) ∧ (¬ (mI M4 6 2) ≤ x2 → (vp_in x2 (lay (mR M4 6 1)).2 ∧ (w_X6_take_91 x1 x2 (mI M4 (mR M4 6 1) x2.toNatClampNeg) M4  Q))))) Q)) ∧ (¬ (mI M 6 3) = 1 → ((¬ (mI M 6 3) = 2 → (∃ n13, w_X6_take_37 n13 0 (mI M 6 5) M (fun x1 x2 M14 => (((mI M14 6 2) ≤ x2 → (w_X6_take_91 x1 x2 0 M14  Q)) ∧ (¬ (mI M14 6 2) ≤ x2 → (vp_in x2 (lay (mR M14 6 1)).2 ∧ (w_X6_take_91 x1 x2 (mI M14 (mR M14 6 1) x2.toNatClampNeg) M14  Q))))) Q)) ∧ ((mI M 6 3) = 2 → (∃ n16, w_X6_take_37 n16 1 (mI M 6 5) M (fun x1 x2 M17 => (((mI M17 6 2) ≤ x2 → (w_X6_take_91 x1 x2 0 M17  Q)) ∧ (¬ (mI M17 6 2) ≤ x2 → (vp_in x2 (lay (mR M17 6 1)).2 ∧ (w_X6_take_91 x1 x2 (mI M17 (mR M17 6 1) x2.toNatClampNeg) M17  Q))))) Q)))))) ∧ ((mI M 6 3) = 6 → (Q M)))
set_option maxRecDepth 4000 in
theorem c_X6_take  {M : pm} {Q : pm → Prop}  (hM : pG M) (h : w_X6_take  M Q) : PW mX6_take 1 350 0 (pfr mX6_take.2.2.1 [.ref 6]) [] M (qV Q) := by
  unfold w_X6_take at h
  show PW mX6_take 1 350 0 [.ref 6, .null, .null, .null, .null, .null, .null, .null] [] M (qV Q)
  refine PW.aload_n (pc := 0) dX6_take_0 rfl ?_
  refine PW.getI (pc := 1) dX6_take_1 lf_X6_23 (ob hM.1 s_6 (by decide)) fx_6_3 ?_
  refine PW.bipush (pc := 4) dX6_take_4 (v := 6) (by decide) ?_
  refine PW.icmp_ne (pc := 6) dX6_take_6 (t := 10) (by decide) (fun hc => ?_) (fun hc => ?_)
  · have h := h.1 hc
    refine PW.aload_n (pc := 10) dX6_take_10 rfl ?_
    refine PW.getI (pc := 11) dX6_take_11 lf_X6_23 (ob hM.1 s_6 (by decide)) fx_6_3 ?_
    refine PW.iconst (pc := 14) dX6_take_14 (v := 1) (by decide) ?_
    refine PW.icmp_eq (pc := 15) dX6_take_15 (t := 26) (by decide) (fun hc => ?_) (fun hc => ?_)
    · have h := h.1 hc
      refine PW.iconst (pc := 26) dX6_take_26 (v := 1) (by decide) ?_
      refine PW.goto (pc := 27) dX6_take_27 (t := 31) (by decide) ?_
      refine PW.istore_n (pc := 31) dX6_take_31 (ls' := [.ref 6, .int 1, .null, .null, .null, .null, .null, .null]) (by decide) rfl rfl ?_
      refine PW.aload_n (pc := 32) dX6_take_32 rfl ?_
      refine PW.getI (pc := 33) dX6_take_33 lf_X6_29 (ob hM.1 s_6 (by decide)) fx_6_5 ?_
      refine PW.istore_n (pc := 36) dX6_take_36 (ls' := [.ref 6, .int 1, .int (mI M 6 5), .null, .null, .null, .null, .null]) (by decide) rfl rfl ?_
      obtain ⟨n3, h⟩ := h
      refine PW.drop (c_X6_take_37 ?_ n3 _ _ _ hM h) ⟨rfl, rfl, rfl, trivial⟩
      · intro x1 x2 M4 hM h
        refine PW.iload_n (pc := 73) dX6_take_73 rfl ?_
        refine PW.aload_n (pc := 74) dX6_take_74 rfl ?_
        refine PW.getI (pc := 75) dX6_take_75 lf_X6_19 (ob hM.1 s_6 (by decide)) fx_6_2 ?_
        refine PW.icmp_ge (pc := 78) dX6_take_78 (t := 90) (by decide) (fun hc => ?_) (fun hc => ?_)
        · have h := h.1 hc
          refine PW.iconst (pc := 90) dX6_take_90 (v := 0) (by decide) ?_
          exact PW.drop (c_X6_take_91  _ _ _ _ hM h) ⟨rfl, rfl, rfl, trivial⟩
        · have h := h.2 hc
          refine PW.aload_n (pc := 81) dX6_take_81 rfl ?_
          refine PW.getR (pc := 82) dX6_take_82 (r := (mR M4 6 1)) lf_X6_15 (ob hM.1 s_6 (by decide)) fx_6_1 rfl (pS_ne (hM.2.2.2.2.2.2.1)) ?_
          refine PW.iload_n (pc := 85) dX6_take_85 rfl ?_
          obtain ⟨v12, h⟩ := h
          refine PW.bald (pc := 86) dX6_take_86 (ar hM.1 (hM.2.2.2.2.2.2.1)) v12 ?_
          refine PW.goto (pc := 87) dX6_take_87 (t := 91) (by decide) ?_
          exact PW.drop (c_X6_take_91  _ _ _ _ hM h) ⟨rfl, rfl, rfl, trivial⟩
    · have h := h.2 hc
      refine PW.aload_n (pc := 18) dX6_take_18 rfl ?_
      refine PW.getI (pc := 19) dX6_take_19 lf_X6_23 (ob hM.1 s_6 (by decide)) fx_6_3 ?_
      refine PW.iconst (pc := 22) dX6_take_22 (v := 2) (by decide) ?_
      refine PW.icmp_ne (pc := 23) dX6_take_23 (t := 30) (by decide) (fun hc => ?_) (fun hc => ?_)
      · have h := h.1 hc
        refine PW.iconst (pc := 30) dX6_take_30 (v := 0) (by decide) ?_
        refine PW.istore_n (pc := 31) dX6_take_31 (ls' := [.ref 6, .int 0, .null, .null, .null, .null, .null, .null]) (by decide) rfl rfl ?_
        refine PW.aload_n (pc := 32) dX6_take_32 rfl ?_
        refine PW.getI (pc := 33) dX6_take_33 lf_X6_29 (ob hM.1 s_6 (by decide)) fx_6_5 ?_
        refine PW.istore_n (pc := 36) dX6_take_36 (ls' := [.ref 6, .int 0, .int (mI M 6 5), .null, .null, .null, .null, .null]) (by decide) rfl rfl ?_
        obtain ⟨n13, h⟩ := h
        refine PW.drop (c_X6_take_37 ?_ n13 _ _ _ hM h) ⟨rfl, rfl, rfl, trivial⟩
        · intro x1 x2 M14 hM h
          refine PW.iload_n (pc := 73) dX6_take_73 rfl ?_
          refine PW.aload_n (pc := 74) dX6_take_74 rfl ?_
          refine PW.getI (pc := 75) dX6_take_75 lf_X6_19 (ob hM.1 s_6 (by decide)) fx_6_2 ?_
          refine PW.icmp_ge (pc := 78) dX6_take_78 (t := 90) (by decide) (fun hc => ?_) (fun hc => ?_)
          · have h := h.1 hc
            refine PW.iconst (pc := 90) dX6_take_90 (v := 0) (by decide) ?_
            exact PW.drop (c_X6_take_91  _ _ _ _ hM h) ⟨rfl, rfl, rfl, trivial⟩
          · have h := h.2 hc
            refine PW.aload_n (pc := 81) dX6_take_81 rfl ?_
            refine PW.getR (pc := 82) dX6_take_82 (r := (mR M14 6 1)) lf_X6_15 (ob hM.1 s_6 (by decide)) fx_6_1 rfl (pS_ne (hM.2.2.2.2.2.2.1)) ?_
            refine PW.iload_n (pc := 85) dX6_take_85 rfl ?_
            obtain ⟨v15, h⟩ := h
            refine PW.bald (pc := 86) dX6_take_86 (ar hM.1 (hM.2.2.2.2.2.2.1)) v15 ?_
            refine PW.goto (pc := 87) dX6_take_87 (t := 91) (by decide) ?_
            exact PW.drop (c_X6_take_91  _ _ _ _ hM h) ⟨rfl, rfl, rfl, trivial⟩
      · have h := h.2 hc
        refine PW.iconst (pc := 26) dX6_take_26 (v := 1) (by decide) ?_
        refine PW.goto (pc := 27) dX6_take_27 (t := 31) (by decide) ?_
        refine PW.istore_n (pc := 31) dX6_take_31 (ls' := [.ref 6, .int 1, .null, .null, .null, .null, .null, .null]) (by decide) rfl rfl ?_
        refine PW.aload_n (pc := 32) dX6_take_32 rfl ?_
        refine PW.getI (pc := 33) dX6_take_33 lf_X6_29 (ob hM.1 s_6 (by decide)) fx_6_5 ?_
        refine PW.istore_n (pc := 36) dX6_take_36 (ls' := [.ref 6, .int 1, .int (mI M 6 5), .null, .null, .null, .null, .null]) (by decide) rfl rfl ?_
        obtain ⟨n16, h⟩ := h
        refine PW.drop (c_X6_take_37 ?_ n16 _ _ _ hM h) ⟨rfl, rfl, rfl, trivial⟩
        · intro x1 x2 M17 hM h
          refine PW.iload_n (pc := 73) dX6_take_73 rfl ?_
          refine PW.aload_n (pc := 74) dX6_take_74 rfl ?_
          refine PW.getI (pc := 75) dX6_take_75 lf_X6_19 (ob hM.1 s_6 (by decide)) fx_6_2 ?_
          refine PW.icmp_ge (pc := 78) dX6_take_78 (t := 90) (by decide) (fun hc => ?_) (fun hc => ?_)
          · have h := h.1 hc
            refine PW.iconst (pc := 90) dX6_take_90 (v := 0) (by decide) ?_
            exact PW.drop (c_X6_take_91  _ _ _ _ hM h) ⟨rfl, rfl, rfl, trivial⟩
          · have h := h.2 hc
            refine PW.aload_n (pc := 81) dX6_take_81 rfl ?_
            refine PW.getR (pc := 82) dX6_take_82 (r := (mR M17 6 1)) lf_X6_15 (ob hM.1 s_6 (by decide)) fx_6_1 rfl (pS_ne (hM.2.2.2.2.2.2.1)) ?_
            refine PW.iload_n (pc := 85) dX6_take_85 rfl ?_
            obtain ⟨v18, h⟩ := h
            refine PW.bald (pc := 86) dX6_take_86 (ar hM.1 (hM.2.2.2.2.2.2.1)) v18 ?_
            refine PW.goto (pc := 87) dX6_take_87 (t := 91) (by decide) ?_
            exact PW.drop (c_X6_take_91  _ _ _ _ hM h) ⟨rfl, rfl, rfl, trivial⟩
  · have h := h.2 hc
    exact PW.ret0 (pc := 9) dX6_take_9 hM.1 rfl ⟨hM, rfl, h⟩
def w_X6_knownWord_24 : Nat → Int32 → pm → (Int32 → pm → Prop) → Prop
  | 0, _, _, _ => False
  | n + 1, x1, M, Q => ((34 ≤ x1 → (Q (-1) M)) ∧ (¬ 34 ≤ x1 → (vp_in x1 34 ∧ ((¬ (mI M 7 x1.toNatClampNeg) = (mI M 6 6) → (w_X6_knownWord_24 n (x1 + 1) M Q)) ∧ ((mI M 7 x1.toNatClampNeg) = (mI M 6 6) → (Q x1 M))))))
set_option maxRecDepth 4000 in
theorem c_X6_knownWord_24  {Q : Int32 → pm → Prop}  : ∀ (n : Nat) (x1 : Int32) (M : pm), pG M → w_X6_knownWord_24 n x1 M  Q → PW mX6_knownWord 1 350 24 [.ref 6, .int x1] [] M (qI Q) := by
  intro n
  induction n with
  | zero => intro x1 M hM h; exact h.elim
  | succ n ih =>
    intro x1 M hM h
    unfold w_X6_knownWord_24 at h
    refine PW.iload_n (pc := 24) dX6_knownWord_24 rfl ?_
    refine PW.bipush (pc := 25) dX6_knownWord_25 (v := 34) (by decide) ?_
    refine PW.icmp_ge (pc := 27) dX6_knownWord_27 (t := 51) (by decide) (fun hc => ?_) (fun hc => ?_)
    · have h := h.1 hc
      refine PW.iconst (pc := 51) dX6_knownWord_51 (v := (-1)) (by decide) ?_
      exact PW.retI (pc := 52) dX6_knownWord_52 hM.1 rfl rfl ⟨hM, _, rfl, h⟩
    · have h := h.2 hc
      refine PW.aload_n (pc := 30) dX6_knownWord_30 rfl ?_
      refine PW.getR (pc := 31) dX6_knownWord_31 (r := 7) lf_X6_9 (ob hM.1 s_6 (by decide)) fx_6_0 (oR_6_0 hM s_6) (pS_ne s_7) ?_
      refine PW.iload_n (pc := 34) dX6_knownWord_34 rfl ?_
      obtain ⟨v1, h⟩ := h
      refine PW.iald (pc := 35) dX6_knownWord_35 (ar hM.1 s_7) (vpl n_7 v1) ?_
      refine PW.aload_n (pc := 36) dX6_knownWord_36 rfl ?_
      refine PW.getI (pc := 37) dX6_knownWord_37 lf_X6_32 (ob hM.1 s_6 (by decide)) fx_6_6 ?_
      refine PW.icmp_ne (pc := 40) dX6_knownWord_40 (t := 45) (by decide) (fun hc => ?_) (fun hc => ?_)
      · have h := h.1 hc
        refine PW.iinc (pc := 45) dX6_knownWord_45 (v := (x1 + 1)) (ls' := [.ref 6, .int (x1 + 1)]) rfl rfl (by decide) rfl rfl ?_
        refine PW.goto (pc := 48) dX6_knownWord_48 (t := 24) (by decide) ?_
        exact PW.drop (ih _ _ hM h) ⟨rfl, rfl, trivial⟩
      · have h := h.2 hc
        refine PW.iload_n (pc := 43) dX6_knownWord_43 rfl ?_
        exact PW.retI (pc := 44) dX6_knownWord_44 hM.1 rfl rfl ⟨hM, _, rfl, h⟩
def w_X6_knownWord  (M : pm) (Q : Int32 → pm → Prop) : Prop := ((¬ (mI M 6 3) = 1 → (Q (-1) M)) ∧ ((mI M 6 3) = 1 → ((6 < ((mI M 6 5) - (mI M 6 4)) → (Q (-1) M)) ∧ (¬ 6 < ((mI M 6 5) - (mI M 6 4)) → (∃ n2, w_X6_knownWord_24 n2 0 M  Q)))))
set_option maxRecDepth 4000 in
theorem c_X6_knownWord  {M : pm} {Q : Int32 → pm → Prop}  (hM : pG M) (h : w_X6_knownWord  M Q) : PW mX6_knownWord 1 350 0 (pfr mX6_knownWord.2.2.1 [.ref 6]) [] M (qI Q) := by
  unfold w_X6_knownWord at h
  show PW mX6_knownWord 1 350 0 [.ref 6, .null] [] M (qI Q)
  refine PW.aload_n (pc := 0) dX6_knownWord_0 rfl ?_
  refine PW.getI (pc := 1) dX6_knownWord_1 lf_X6_23 (ob hM.1 s_6 (by decide)) fx_6_3 ?_
  refine PW.iconst (pc := 4) dX6_knownWord_4 (v := 1) (by decide) ?_
  refine PW.icmp_ne (pc := 5) dX6_knownWord_5 (t := 51) (by decide) (fun hc => ?_) (fun hc => ?_)
  · have h := h.1 hc
    refine PW.iconst (pc := 51) dX6_knownWord_51 (v := (-1)) (by decide) ?_
    exact PW.retI (pc := 52) dX6_knownWord_52 hM.1 rfl rfl ⟨hM, _, rfl, h⟩
  · have h := h.2 hc
    refine PW.aload_n (pc := 8) dX6_knownWord_8 rfl ?_
    refine PW.getI (pc := 9) dX6_knownWord_9 lf_X6_29 (ob hM.1 s_6 (by decide)) fx_6_5 ?_
    refine PW.aload_n (pc := 12) dX6_knownWord_12 rfl ?_
    refine PW.getI (pc := 13) dX6_knownWord_13 lf_X6_26 (ob hM.1 s_6 (by decide)) fx_6_4 ?_
    refine PW.isub (pc := 16) dX6_knownWord_16 ?_
    refine PW.bipush (pc := 17) dX6_knownWord_17 (v := 6) (by decide) ?_
    refine PW.icmp_gt (pc := 19) dX6_knownWord_19 (t := 51) (by decide) (fun hc => ?_) (fun hc => ?_)
    · have h := h.1 hc
      refine PW.iconst (pc := 51) dX6_knownWord_51 (v := (-1)) (by decide) ?_
      exact PW.retI (pc := 52) dX6_knownWord_52 hM.1 rfl rfl ⟨hM, _, rfl, h⟩
    · have h := h.2 hc
      refine PW.iconst (pc := 22) dX6_knownWord_22 (v := 0) (by decide) ?_
      refine PW.istore_n (pc := 23) dX6_knownWord_23 (ls' := [.ref 6, .int 0]) (by decide) rfl rfl ?_
      obtain ⟨n2, h⟩ := h
      refine PW.drop (c_X6_knownWord_24  n2 _ _ hM h) ⟨rfl, rfl, trivial⟩
def w_X6_standsName_23   (M : pm)  (Q : Int32 → pm → Prop) : Prop := w_X6_fail 1 (mI M 6 4) M (fun M4 => ((¬ (mI M4 6 3) = 1 → (Q 0 M4)) ∧ ((mI M4 6 3) = 1 → (Q 1 M4))))
set_option maxRecDepth 4000 in
theorem c_X6_standsName_23  {Q : Int32 → pm → Prop}  : ∀  (M : pm), pG M → w_X6_standsName_23  M  Q → PW mX6_standsName 2 350 23 [.ref 6, .null] [] M (qZ Q) := by
  intro M hM h
  unfold w_X6_standsName_23 at h
  refine PW.aload_n (pc := 23) dX6_standsName_23 rfl ?_
  refine PW.iconst (pc := 24) dX6_standsName_24 (v := 1) (by decide) ?_
  refine PW.aload_n (pc := 25) dX6_standsName_25 rfl ?_
  refine PW.getI (pc := 26) dX6_standsName_26 lf_X6_26 (ob hM.1 s_6 (by decide)) fx_6_4 ?_
  refine PW.inv (m' := mX6_fail) (pc := 29) dX6_standsName_29 lm_X6_72 me_X6_fail mi_X6_fail (ob hM.1 s_6 (by decide)) rfl (As := [.int 1, .int (mI M 6 4)]) (st := []) rfl (Nat.le_of_ble_eq_true rfl) (Nat.le_of_ble_eq_true rfl) (Nat.le_of_eq hM.1) (Nat.le_refl _) (PW.deep (by decide) (c_X6_fail  hM h)) ?_
  rintro _ M4 ⟨hM6, rfl, h⟩
  refine PW.goto (pc := 32) dX6_standsName_32 (t := 61) (by decide) ?_
  refine PW.aload_n (pc := 61) dX6_standsName_61 rfl ?_
  refine PW.getI (pc := 62) dX6_standsName_62 lf_X6_23 (ob hM6.1 s_6 (by decide)) fx_6_3 ?_
  refine PW.iconst (pc := 65) dX6_standsName_65 (v := 1) (by decide) ?_
  refine PW.icmp_ne (pc := 66) dX6_standsName_66 (t := 73) (by decide) (fun hc => ?_) (fun hc => ?_)
  · have h := h.1 hc
    refine PW.iconst (pc := 73) dX6_standsName_73 (v := 0) (by decide) ?_
    exact PW.retI (pc := 74) dX6_standsName_74 hM6.1 rfl (bz_n bz0) ⟨hM6, _, rfl, bz0, h⟩
  · have h := h.2 hc
    refine PW.iconst (pc := 69) dX6_standsName_69 (v := 1) (by decide) ?_
    refine PW.goto (pc := 70) dX6_standsName_70 (t := 74) (by decide) ?_
    exact PW.retI (pc := 74) dX6_standsName_74 hM6.1 rfl (bz_n bz1) ⟨hM6, _, rfl, bz1, h⟩
def w_X6_standsName_35   (M : pm)  (Q : Int32 → pm → Prop) : Prop := ((((mI M 6 5) - (mI M 6 4)) ≤ 6 → ((¬ (mI M 6 3) = 1 → (Q 0 M)) ∧ ((mI M 6 3) = 1 → (Q 1 M)))) ∧ (¬ ((mI M 6 5) - (mI M 6 4)) ≤ 6 → (w_X6_fail 1 ((mI M 6 4) + 6) M (fun M7 => ((¬ (mI M7 6 3) = 1 → (Q 0 M7)) ∧ ((mI M7 6 3) = 1 → (Q 1 M7)))))))
set_option maxRecDepth 4000 in
theorem c_X6_standsName_35  {Q : Int32 → pm → Prop}  : ∀  (M : pm), pG M → w_X6_standsName_35  M  Q → PW mX6_standsName 2 350 35 [.ref 6, .null] [] M (qZ Q) := by
  intro M hM h
  unfold w_X6_standsName_35 at h
  refine PW.aload_n (pc := 35) dX6_standsName_35 rfl ?_
  refine PW.getI (pc := 36) dX6_standsName_36 lf_X6_29 (ob hM.1 s_6 (by decide)) fx_6_5 ?_
  refine PW.aload_n (pc := 39) dX6_standsName_39 rfl ?_
  refine PW.getI (pc := 40) dX6_standsName_40 lf_X6_26 (ob hM.1 s_6 (by decide)) fx_6_4 ?_
  refine PW.isub (pc := 43) dX6_standsName_43 ?_
  refine PW.bipush (pc := 44) dX6_standsName_44 (v := 6) (by decide) ?_
  refine PW.icmp_le (pc := 46) dX6_standsName_46 (t := 61) (by decide) (fun hc => ?_) (fun hc => ?_)
  · have h := h.1 hc
    refine PW.aload_n (pc := 61) dX6_standsName_61 rfl ?_
    refine PW.getI (pc := 62) dX6_standsName_62 lf_X6_23 (ob hM.1 s_6 (by decide)) fx_6_3 ?_
    refine PW.iconst (pc := 65) dX6_standsName_65 (v := 1) (by decide) ?_
    refine PW.icmp_ne (pc := 66) dX6_standsName_66 (t := 73) (by decide) (fun hc => ?_) (fun hc => ?_)
    · have h := h.1 hc
      refine PW.iconst (pc := 73) dX6_standsName_73 (v := 0) (by decide) ?_
      exact PW.retI (pc := 74) dX6_standsName_74 hM.1 rfl (bz_n bz0) ⟨hM, _, rfl, bz0, h⟩
    · have h := h.2 hc
      refine PW.iconst (pc := 69) dX6_standsName_69 (v := 1) (by decide) ?_
      refine PW.goto (pc := 70) dX6_standsName_70 (t := 74) (by decide) ?_
      exact PW.retI (pc := 74) dX6_standsName_74 hM.1 rfl (bz_n bz1) ⟨hM, _, rfl, bz1, h⟩
  · have h := h.2 hc
    refine PW.aload_n (pc := 49) dX6_standsName_49 rfl ?_
    refine PW.iconst (pc := 50) dX6_standsName_50 (v := 1) (by decide) ?_
    refine PW.aload_n (pc := 51) dX6_standsName_51 rfl ?_
    refine PW.getI (pc := 52) dX6_standsName_52 lf_X6_26 (ob hM.1 s_6 (by decide)) fx_6_4 ?_
    refine PW.bipush (pc := 55) dX6_standsName_55 (v := 6) (by decide) ?_
    refine PW.iadd (pc := 57) dX6_standsName_57 ?_
    refine PW.inv (m' := mX6_fail) (pc := 58) dX6_standsName_58 lm_X6_72 me_X6_fail mi_X6_fail (ob hM.1 s_6 (by decide)) rfl (As := [.int 1, .int ((mI M 6 4) + 6)]) (st := []) rfl (Nat.le_of_ble_eq_true rfl) (Nat.le_of_ble_eq_true rfl) (Nat.le_of_eq hM.1) (Nat.le_refl _) (PW.deep (by decide) (c_X6_fail  hM h)) ?_
    rintro _ M7 ⟨hM9, rfl, h⟩
    refine PW.aload_n (pc := 61) dX6_standsName_61 rfl ?_
    refine PW.getI (pc := 62) dX6_standsName_62 lf_X6_23 (ob hM9.1 s_6 (by decide)) fx_6_3 ?_
    refine PW.iconst (pc := 65) dX6_standsName_65 (v := 1) (by decide) ?_
    refine PW.icmp_ne (pc := 66) dX6_standsName_66 (t := 73) (by decide) (fun hc => ?_) (fun hc => ?_)
    · have h := h.1 hc
      refine PW.iconst (pc := 73) dX6_standsName_73 (v := 0) (by decide) ?_
      exact PW.retI (pc := 74) dX6_standsName_74 hM9.1 rfl (bz_n bz0) ⟨hM9, _, rfl, bz0, h⟩
    · have h := h.2 hc
      refine PW.iconst (pc := 69) dX6_standsName_69 (v := 1) (by decide) ?_
      refine PW.goto (pc := 70) dX6_standsName_70 (t := 74) (by decide) ?_
      exact PW.retI (pc := 74) dX6_standsName_74 hM9.1 rfl (bz_n bz1) ⟨hM9, _, rfl, bz1, h⟩
def w_X6_standsName  (M : pm) (Q : Int32 → pm → Prop) : Prop := w_X6_knownWord  M (fun y2 M1 => ((¬ (mI M1 6 3) = 1 → (w_X6_standsName_23  M1  Q)) ∧ ((mI M1 6 3) = 1 → ((y2 < 0 → (w_X6_standsName_35  M1  Q)) ∧ (¬ y2 < 0 → ((28 ≤ y2 → (w_X6_standsName_35  M1  Q)) ∧ (¬ 28 ≤ y2 → (w_X6_standsName_23  M1  Q))))))))
set_option maxRecDepth 4000 in
theorem c_X6_standsName  {M : pm} {Q : Int32 → pm → Prop}  (hM : pG M) (h : w_X6_standsName  M Q) : PW mX6_standsName 2 350 0 (pfr mX6_standsName.2.2.1 [.ref 6]) [] M (qZ Q) := by
  unfold w_X6_standsName at h
  show PW mX6_standsName 2 350 0 [.ref 6, .null] [] M (qZ Q)
  refine PW.aload_n (pc := 0) dX6_standsName_0 rfl ?_
  refine PW.inv (m' := mX6_knownWord) (pc := 1) dX6_standsName_1 lm_X6_80 me_X6_knownWord mi_X6_knownWord (ob hM.1 s_6 (by decide)) rfl (As := []) (st := []) rfl (Nat.le_of_ble_eq_true rfl) (Nat.le_of_ble_eq_true rfl) (Nat.le_of_eq hM.1) (Nat.le_refl _) (PW.deep (by decide) (c_X6_knownWord  hM h)) ?_
  rintro _ M1 ⟨hM3, y2, rfl, h⟩
  refine PW.istore_n (pc := 4) dX6_standsName_4 (ls' := [.ref 6, .int y2]) (by decide) rfl rfl ?_
  refine PW.aload_n (pc := 5) dX6_standsName_5 rfl ?_
  refine PW.getI (pc := 6) dX6_standsName_6 lf_X6_23 (ob hM3.1 s_6 (by decide)) fx_6_3 ?_
  refine PW.iconst (pc := 9) dX6_standsName_9 (v := 1) (by decide) ?_
  refine PW.icmp_ne (pc := 10) dX6_standsName_10 (t := 23) (by decide) (fun hc => ?_) (fun hc => ?_)
  · have h := h.1 hc
    exact PW.drop (c_X6_standsName_23  _ hM3 h) ⟨rfl, trivial⟩
  · have h := h.2 hc
    refine PW.iload_n (pc := 13) dX6_standsName_13 rfl ?_
    refine PW.if_lt (pc := 14) dX6_standsName_14 (t := 35) (by decide) (fun hc => ?_) (fun hc => ?_)
    · have h := h.1 hc
      exact PW.drop (c_X6_standsName_35  _ hM3 h) ⟨rfl, trivial⟩
    · have h := h.2 hc
      refine PW.iload_n (pc := 17) dX6_standsName_17 rfl ?_
      refine PW.bipush (pc := 18) dX6_standsName_18 (v := 28) (by decide) ?_
      refine PW.icmp_ge (pc := 20) dX6_standsName_20 (t := 35) (by decide) (fun hc => ?_) (fun hc => ?_)
      · have h := h.1 hc
        exact PW.drop (c_X6_standsName_35  _ hM3 h) ⟨rfl, trivial⟩
      · have h := h.2 hc
        exact PW.drop (c_X6_standsName_23  _ hM3 h) ⟨rfl, trivial⟩
def w_X5_findSong_2 : Nat → Nat → Int32 → Int32 → pm → (Int32 → pm → Prop) → Prop
  | 0, _, _, _, _, _ => False
  | n + 1, a0, x1, x2, M, Q => (((mI M a0 4) ≤ x2 → (Q (-1) M)) ∧ (¬ (mI M a0 4) ≤ x2 → (vp_in x2 6 ∧ ((¬ (mI M (a0 + 1) x2.toNatClampNeg) = x1 → (w_X5_findSong_2 n a0 x1 (x2 + 1) M Q)) ∧ ((mI M (a0 + 1) x2.toNatClampNeg) = x1 → (Q x2 M))))))
set_option maxRecDepth 4000 in
theorem c_X5_findSong_2  {Q : Int32 → pm → Prop}  : ∀ (n : Nat) (a0 : Nat) (x1 : Int32) (x2 : Int32) (M : pm), pS 5 a0 → pG M → w_X5_findSong_2 n a0 x1 x2 M  Q → PW mX5_findSong 1 350 2 [.ref a0, .int x1, .int x2] [] M (qI Q) := by
  intro n
  induction n with
  | zero => intro a0 x1 x2 M hs0 hM h; exact h.elim
  | succ n ih =>
    intro a0 x1 x2 M hs0 hM h
    unfold w_X5_findSong_2 at h
    refine PW.iload_n (pc := 2) dX5_findSong_2 rfl ?_
    refine PW.aload_n (pc := 3) dX5_findSong_3 rfl ?_
    refine PW.getI (pc := 4) dX5_findSong_4 lf_X5_24 (ob hM.1 hs0 (by decide)) fx_5_4 ?_
    refine PW.icmp_ge (pc := 7) dX5_findSong_7 (t := 28) (by decide) (fun hc => ?_) (fun hc => ?_)
    · have h := h.1 hc
      refine PW.iconst (pc := 28) dX5_findSong_28 (v := (-1)) (by decide) ?_
      exact PW.retI (pc := 29) dX5_findSong_29 hM.1 rfl rfl ⟨hM, _, rfl, h⟩
    · have h := h.2 hc
      refine PW.aload_n (pc := 10) dX5_findSong_10 rfl ?_
      refine PW.getR (pc := 11) dX5_findSong_11 (r := (a0 + 1)) lf_X5_27 (ob hM.1 hs0 (by decide)) fx_5_5 (oR_5_5 hM hs0) (pS_ne (oS_5_5 hs0)) ?_
      refine PW.iload_n (pc := 14) dX5_findSong_14 rfl ?_
      obtain ⟨v1, h⟩ := h
      refine PW.iald (pc := 15) dX5_findSong_15 (ar hM.1 (oS_5_5 hs0)) (vpl (oN_5_5 hs0) v1) ?_
      refine PW.iload_n (pc := 16) dX5_findSong_16 rfl ?_
      refine PW.icmp_ne (pc := 17) dX5_findSong_17 (t := 22) (by decide) (fun hc => ?_) (fun hc => ?_)
      · have h := h.1 hc
        refine PW.iinc (pc := 22) dX5_findSong_22 (v := (x2 + 1)) (ls' := [.ref a0, .int x1, .int (x2 + 1)]) rfl rfl (by decide) rfl rfl ?_
        refine PW.goto (pc := 25) dX5_findSong_25 (t := 2) (by decide) ?_
        exact PW.drop (ih _ _ _ _ hs0 hM h) ⟨rfl, rfl, rfl, trivial⟩
      · have h := h.2 hc
        refine PW.iload_n (pc := 20) dX5_findSong_20 rfl ?_
        exact PW.retI (pc := 21) dX5_findSong_21 hM.1 rfl rfl ⟨hM, _, rfl, h⟩
def w_X5_findSong (a0 : Nat) (x1 : Int32) (M : pm) (Q : Int32 → pm → Prop) : Prop := ∃ n2, w_X5_findSong_2 n2 a0 x1 0 M  Q
set_option maxRecDepth 4000 in
theorem c_X5_findSong {a0 : Nat} {x1 : Int32} {M : pm} {Q : Int32 → pm → Prop} (hs0 : pS 5 a0) (hM : pG M) (h : w_X5_findSong a0 x1 M Q) : PW mX5_findSong 1 350 0 (pfr mX5_findSong.2.2.1 [.ref a0, .int x1]) [] M (qI Q) := by
  unfold w_X5_findSong at h
  show PW mX5_findSong 1 350 0 [.ref a0, .int x1, .null] [] M (qI Q)
  refine PW.iconst (pc := 0) dX5_findSong_0 (v := 0) (by decide) ?_
  refine PW.istore_n (pc := 1) dX5_findSong_1 (ls' := [.ref a0, .int x1, .int 0]) (by decide) rfl rfl ?_
  obtain ⟨n2, h⟩ := h
  refine PW.drop (c_X5_findSong_2  n2 _ _ _ _ hs0 hM h) ⟨rfl, rfl, rfl, trivial⟩
def w_X5_hasName_13 : Nat → Nat → Int32 → Int32 → pm → (Nat → Int32 → pm → Prop) → (Int32 → pm → Prop) → Prop
  | 0, _, _, _, _, _, _ => False
  | n + 1, a0, x1, x2, M, k39, Q => (((mI M a0 8) ≤ x2 → (k39 a0 x1 M)) ∧ (¬ (mI M a0 8) ≤ x2 → (vp_in x2 8 ∧ ((¬ (mI M (a0 + 4) x2.toNatClampNeg) = x1 → (w_X5_hasName_13 n a0 x1 (x2 + 1) M k39 Q)) ∧ ((mI M (a0 + 4) x2.toNatClampNeg) = x1 → (Q 1 M))))))
set_option maxRecDepth 4000 in
theorem c_X5_hasName_13 {k39 : Nat → Int32 → pm → Prop} {Q : Int32 → pm → Prop} (hk39 : ∀ (a0 : Nat) (x1 : Int32) (M : pm), pS 5 a0 → pG M → k39 a0 x1 M → PW mX5_hasName 2 350 39 [.ref a0, .int x1, .null] [] M (qZ Q)) : ∀ (n : Nat) (a0 : Nat) (x1 : Int32) (x2 : Int32) (M : pm), pS 5 a0 → pG M → w_X5_hasName_13 n a0 x1 x2 M k39 Q → PW mX5_hasName 2 350 13 [.ref a0, .int x1, .int x2] [] M (qZ Q) := by
  intro n
  induction n with
  | zero => intro a0 x1 x2 M hs0 hM h; exact h.elim
  | succ n ih =>
    intro a0 x1 x2 M hs0 hM h
    unfold w_X5_hasName_13 at h
    refine PW.iload_n (pc := 13) dX5_hasName_13 rfl ?_
    refine PW.aload_n (pc := 14) dX5_hasName_14 rfl ?_
    refine PW.getI (pc := 15) dX5_hasName_15 lf_X5_37 (ob hM.1 hs0 (by decide)) fx_5_8 ?_
    refine PW.icmp_ge (pc := 18) dX5_hasName_18 (t := 39) (by decide) (fun hc => ?_) (fun hc => ?_)
    · have h := h.1 hc
      exact PW.drop (hk39 _ _ _ hs0 hM h) ⟨rfl, rfl, trivial⟩
    · have h := h.2 hc
      refine PW.aload_n (pc := 21) dX5_hasName_21 rfl ?_
      refine PW.getR (pc := 22) dX5_hasName_22 (r := (a0 + 4)) lf_X5_40 (ob hM.1 hs0 (by decide)) fx_5_9 (oR_5_9 hM hs0) (pS_ne (oS_5_9 hs0)) ?_
      refine PW.iload_n (pc := 25) dX5_hasName_25 rfl ?_
      obtain ⟨v4, h⟩ := h
      refine PW.iald (pc := 26) dX5_hasName_26 (ar hM.1 (oS_5_9 hs0)) (vpl (oN_5_9 hs0) v4) ?_
      refine PW.iload_n (pc := 27) dX5_hasName_27 rfl ?_
      refine PW.icmp_ne (pc := 28) dX5_hasName_28 (t := 33) (by decide) (fun hc => ?_) (fun hc => ?_)
      · have h := h.1 hc
        refine PW.iinc (pc := 33) dX5_hasName_33 (v := (x2 + 1)) (ls' := [.ref a0, .int x1, .int (x2 + 1)]) rfl rfl (by decide) rfl rfl ?_
        refine PW.goto (pc := 36) dX5_hasName_36 (t := 13) (by decide) ?_
        exact PW.drop (ih _ _ _ _ hs0 hM h) ⟨rfl, rfl, rfl, trivial⟩
      · have h := h.2 hc
        refine PW.iconst (pc := 31) dX5_hasName_31 (v := 1) (by decide) ?_
        exact PW.retI (pc := 32) dX5_hasName_32 hM.1 rfl (bz_n bz1) ⟨hM, _, rfl, bz1, h⟩
def w_X5_hasName_41 : Nat → Nat → Int32 → Int32 → pm → (Int32 → pm → Prop) → Prop
  | 0, _, _, _, _, _ => False
  | n + 1, a0, x1, x2, M, Q => (((mI M a0 13) ≤ x2 → (Q 0 M)) ∧ (¬ (mI M a0 13) ≤ x2 → (vp_in x2 5 ∧ ((¬ (mI M (a0 + 8) x2.toNatClampNeg) = x1 → (w_X5_hasName_41 n a0 x1 (x2 + 1) M Q)) ∧ ((mI M (a0 + 8) x2.toNatClampNeg) = x1 → (Q 1 M))))))
set_option maxRecDepth 4000 in
theorem c_X5_hasName_41  {Q : Int32 → pm → Prop}  : ∀ (n : Nat) (a0 : Nat) (x1 : Int32) (x2 : Int32) (M : pm), pS 5 a0 → pG M → w_X5_hasName_41 n a0 x1 x2 M  Q → PW mX5_hasName 2 350 41 [.ref a0, .int x1, .int x2] [] M (qZ Q) := by
  intro n
  induction n with
  | zero => intro a0 x1 x2 M hs0 hM h; exact h.elim
  | succ n ih =>
    intro a0 x1 x2 M hs0 hM h
    unfold w_X5_hasName_41 at h
    refine PW.iload_n (pc := 41) dX5_hasName_41 rfl ?_
    refine PW.aload_n (pc := 42) dX5_hasName_42 rfl ?_
    refine PW.getI (pc := 43) dX5_hasName_43 lf_X5_52 (ob hM.1 hs0 (by decide)) fx_5_13 ?_
    refine PW.icmp_ge (pc := 46) dX5_hasName_46 (t := 67) (by decide) (fun hc => ?_) (fun hc => ?_)
    · have h := h.1 hc
      refine PW.iconst (pc := 67) dX5_hasName_67 (v := 0) (by decide) ?_
      exact PW.retI (pc := 68) dX5_hasName_68 hM.1 rfl (bz_n bz0) ⟨hM, _, rfl, bz0, h⟩
    · have h := h.2 hc
      refine PW.aload_n (pc := 49) dX5_hasName_49 rfl ?_
      refine PW.getR (pc := 50) dX5_hasName_50 (r := (a0 + 8)) lf_X5_55 (ob hM.1 hs0 (by decide)) fx_5_14 (oR_5_14 hM hs0) (pS_ne (oS_5_14 hs0)) ?_
      refine PW.iload_n (pc := 53) dX5_hasName_53 rfl ?_
      obtain ⟨v7, h⟩ := h
      refine PW.iald (pc := 54) dX5_hasName_54 (ar hM.1 (oS_5_14 hs0)) (vpl (oN_5_14 hs0) v7) ?_
      refine PW.iload_n (pc := 55) dX5_hasName_55 rfl ?_
      refine PW.icmp_ne (pc := 56) dX5_hasName_56 (t := 61) (by decide) (fun hc => ?_) (fun hc => ?_)
      · have h := h.1 hc
        refine PW.iinc (pc := 61) dX5_hasName_61 (v := (x2 + 1)) (ls' := [.ref a0, .int x1, .int (x2 + 1)]) rfl rfl (by decide) rfl rfl ?_
        refine PW.goto (pc := 64) dX5_hasName_64 (t := 41) (by decide) ?_
        exact PW.drop (ih _ _ _ _ hs0 hM h) ⟨rfl, rfl, rfl, trivial⟩
      · have h := h.2 hc
        refine PW.iconst (pc := 59) dX5_hasName_59 (v := 1) (by decide) ?_
        exact PW.retI (pc := 60) dX5_hasName_60 hM.1 rfl (bz_n bz1) ⟨hM, _, rfl, bz1, h⟩
def w_X5_hasName (a0 : Nat) (x1 : Int32) (M : pm) (Q : Int32 → pm → Prop) : Prop := w_X5_findSong a0 x1 M (fun y2 M1 => ((y2 = (-1) → (∃ n5, w_X5_hasName_13 n5 a0 x1 0 M1 (fun a0 x1 M6 => ∃ n8, w_X5_hasName_41 n8 a0 x1 0 M6  Q) Q)) ∧ (¬ y2 = (-1) → (Q 1 M1))))
set_option maxRecDepth 4000 in
theorem c_X5_hasName {a0 : Nat} {x1 : Int32} {M : pm} {Q : Int32 → pm → Prop} (hs0 : pS 5 a0) (hM : pG M) (h : w_X5_hasName a0 x1 M Q) : PW mX5_hasName 2 350 0 (pfr mX5_hasName.2.2.1 [.ref a0, .int x1]) [] M (qZ Q) := by
  unfold w_X5_hasName at h
  show PW mX5_hasName 2 350 0 [.ref a0, .int x1, .null] [] M (qZ Q)
  refine PW.aload_n (pc := 0) dX5_hasName_0 rfl ?_
  refine PW.iload_n (pc := 1) dX5_hasName_1 rfl ?_
  refine PW.inv (m' := mX5_findSong) (pc := 2) dX5_hasName_2 lm_X5_71 me_X5_findSong mi_X5_findSong (ob hM.1 hs0 (by decide)) rfl (As := [.int x1]) (st := []) rfl (Nat.le_of_ble_eq_true rfl) (Nat.le_of_ble_eq_true rfl) (Nat.le_of_eq hM.1) (Nat.le_refl _) (PW.deep (by decide) (c_X5_findSong hs0 hM h)) ?_
  rintro _ M1 ⟨hM3, y2, rfl, h⟩
  refine PW.iconst (pc := 5) dX5_hasName_5 (v := (-1)) (by decide) ?_
  refine PW.icmp_eq (pc := 6) dX5_hasName_6 (t := 11) (by decide) (fun hc => ?_) (fun hc => ?_)
  · have h := h.1 hc
    refine PW.iconst (pc := 11) dX5_hasName_11 (v := 0) (by decide) ?_
    refine PW.istore_n (pc := 12) dX5_hasName_12 (ls' := [.ref a0, .int x1, .int 0]) (by decide) rfl rfl ?_
    obtain ⟨n5, h⟩ := h
    refine PW.drop (c_X5_hasName_13 ?_ n5 _ _ _ _ hs0 hM3 h) ⟨rfl, rfl, rfl, trivial⟩
    · intro a0 x1 M6 hs0 hM h
      refine PW.iconst (pc := 39) dX5_hasName_39 (v := 0) (by decide) ?_
      refine PW.istore_n (pc := 40) dX5_hasName_40 (ls' := [.ref a0, .int x1, .int 0]) (by decide) rfl rfl ?_
      obtain ⟨n8, h⟩ := h
      refine PW.drop (c_X5_hasName_41  n8 _ _ _ _ hs0 hM h) ⟨rfl, rfl, rfl, trivial⟩
  · have h := h.2 hc
    refine PW.iconst (pc := 9) dX5_hasName_9 (v := 1) (by decide) ?_
    exact PW.retI (pc := 10) dX5_hasName_10 hM3.1 rfl (bz_n bz1) ⟨hM3, _, rfl, bz1, h⟩
def w_X3_readNewName (a1 : Nat) (M : pm) (Q : Int32 → pm → Prop) : Prop := w_X6_standsName  M (fun y2 M1 => ((¬ y2 = 0 → (w_X5_hasName a1 (mI M1 6 6) M1 (fun y6 M5 => ((y6 = 0 → (w_X6_take  M5 (fun M9 => Q (mI M1 6 6) M9))) ∧ (¬ y6 = 0 → (w_X6_fail 3 (mI M5 6 4) M5 (fun M12 => w_X6_take  M12 (fun M15 => Q (mI M1 6 6) M15)))))))) ∧ (y2 = 0 → (Q 0 M1))))
set_option maxRecDepth 4000 in
theorem c_X3_readNewName {a1 : Nat} {M : pm} {Q : Int32 → pm → Prop} (hs1 : pS 5 a1) (hM : pG M) (h : w_X3_readNewName a1 M Q) : PW mX3_readNewName 3 350 0 (pfr mX3_readNewName.2.2.1 [.ref 5, .ref a1]) [] M (qI Q) := by
  unfold w_X3_readNewName at h
  show PW mX3_readNewName 3 350 0 [.ref 5, .ref a1, .null] [] M (qI Q)
  refine PW.aload_n (pc := 0) dX3_readNewName_0 rfl ?_
  refine PW.getR (pc := 1) dX3_readNewName_1 (r := 6) lf_X3_12 (ob hM.1 s_5 (by decide)) fx_3_0 (oR_3_0 hM s_5) (pS_ne s_6) ?_
  refine PW.inv (m' := mX6_standsName) (pc := 4) dX3_readNewName_4 lm_X3_159 me_X6_standsName mi_X6_standsName (ob hM.1 s_6 (by decide)) rfl (As := []) (st := []) rfl (Nat.le_of_ble_eq_true rfl) (Nat.le_of_ble_eq_true rfl) (Nat.le_of_eq hM.1) (Nat.le_refl _) (PW.deep (by decide) (c_X6_standsName  hM h)) ?_
  rintro _ M1 ⟨hM3, y2, rfl, z4, h⟩
  refine PW.if_ne (pc := 7) dX3_readNewName_7 (t := 12) (by decide) (fun hc => ?_) (fun hc => ?_)
  · have h := h.1 hc
    refine PW.aload_n (pc := 12) dX3_readNewName_12 rfl ?_
    refine PW.getR (pc := 13) dX3_readNewName_13 (r := 6) lf_X3_12 (ob hM3.1 s_5 (by decide)) fx_3_0 (oR_3_0 hM3 s_5) (pS_ne s_6) ?_
    refine PW.getI (pc := 16) dX3_readNewName_16 lf_X3_162 (ob hM3.1 s_6 (by decide)) fx_6_6 ?_
    refine PW.istore_n (pc := 19) dX3_readNewName_19 (ls' := [.ref 5, .ref a1, .int (mI M1 6 6)]) (by decide) rfl rfl ?_
    refine PW.aload_n (pc := 20) dX3_readNewName_20 rfl ?_
    refine PW.iload_n (pc := 21) dX3_readNewName_21 rfl ?_
    refine PW.inv (m' := mX5_hasName) (pc := 22) dX3_readNewName_22 lm_X3_165 me_X5_hasName mi_X5_hasName (ob hM3.1 hs1 (by decide)) rfl (As := [.int (mI M1 6 6)]) (st := []) rfl (Nat.le_of_ble_eq_true rfl) (Nat.le_of_ble_eq_true rfl) (Nat.le_of_eq hM3.1) (Nat.le_refl _) (PW.deep (by decide) (c_X5_hasName hs1 hM3 h)) ?_
    rintro _ M5 ⟨hM7, y6, rfl, z8, h⟩
    refine PW.if_eq (pc := 25) dX3_readNewName_25 (t := 43) (by decide) (fun hc => ?_) (fun hc => ?_)
    · have h := h.1 hc
      refine PW.aload_n (pc := 43) dX3_readNewName_43 rfl ?_
      refine PW.getR (pc := 44) dX3_readNewName_44 (r := 6) lf_X3_12 (ob hM7.1 s_5 (by decide)) fx_3_0 (oR_3_0 hM7 s_5) (pS_ne s_6) ?_
      refine PW.inv (m' := mX6_take) (pc := 47) dX3_readNewName_47 lm_X3_77 me_X6_take mi_X6_take (ob hM7.1 s_6 (by decide)) rfl (As := []) (st := []) rfl (Nat.le_of_ble_eq_true rfl) (Nat.le_of_ble_eq_true rfl) (Nat.le_of_eq hM7.1) (Nat.le_refl _) (PW.deep (by decide) (c_X6_take  hM7 h)) ?_
      rintro _ M9 ⟨hM11, rfl, h⟩
      refine PW.iload_n (pc := 50) dX3_readNewName_50 rfl ?_
      exact PW.retI (pc := 51) dX3_readNewName_51 hM11.1 rfl rfl ⟨hM11, _, rfl, h⟩
    · have h := h.2 hc
      refine PW.aload_n (pc := 28) dX3_readNewName_28 rfl ?_
      refine PW.getR (pc := 29) dX3_readNewName_29 (r := 6) lf_X3_12 (ob hM7.1 s_5 (by decide)) fx_3_0 (oR_3_0 hM7 s_5) (pS_ne s_6) ?_
      refine PW.iconst (pc := 32) dX3_readNewName_32 (v := 3) (by decide) ?_
      refine PW.aload_n (pc := 33) dX3_readNewName_33 rfl ?_
      refine PW.getR (pc := 34) dX3_readNewName_34 (r := 6) lf_X3_12 (ob hM7.1 s_5 (by decide)) fx_3_0 (oR_3_0 hM7 s_5) (pS_ne s_6) ?_
      refine PW.getI (pc := 37) dX3_readNewName_37 lf_X3_55 (ob hM7.1 s_6 (by decide)) fx_6_4 ?_
      refine PW.inv (m' := mX6_fail) (pc := 40) dX3_readNewName_40 lm_X3_58 me_X6_fail mi_X6_fail (ob hM7.1 s_6 (by decide)) rfl (As := [.int 3, .int (mI M5 6 4)]) (st := []) rfl (Nat.le_of_ble_eq_true rfl) (Nat.le_of_ble_eq_true rfl) (Nat.le_of_eq hM7.1) (Nat.le_refl _) (PW.deep (by decide) (c_X6_fail  hM7 h)) ?_
      rintro _ M12 ⟨hM14, rfl, h⟩
      refine PW.aload_n (pc := 43) dX3_readNewName_43 rfl ?_
      refine PW.getR (pc := 44) dX3_readNewName_44 (r := 6) lf_X3_12 (ob hM14.1 s_5 (by decide)) fx_3_0 (oR_3_0 hM14 s_5) (pS_ne s_6) ?_
      refine PW.inv (m' := mX6_take) (pc := 47) dX3_readNewName_47 lm_X3_77 me_X6_take mi_X6_take (ob hM14.1 s_6 (by decide)) rfl (As := []) (st := []) rfl (Nat.le_of_ble_eq_true rfl) (Nat.le_of_ble_eq_true rfl) (Nat.le_of_eq hM14.1) (Nat.le_refl _) (PW.deep (by decide) (c_X6_take  hM14 h)) ?_
      rintro _ M15 ⟨hM17, rfl, h⟩
      refine PW.iload_n (pc := 50) dX3_readNewName_50 rfl ?_
      exact PW.retI (pc := 51) dX3_readNewName_51 hM17.1 rfl rfl ⟨hM17, _, rfl, h⟩
  · have h := h.2 hc
    refine PW.iconst (pc := 10) dX3_readNewName_10 (v := 0) (by decide) ?_
    exact PW.retI (pc := 11) dX3_readNewName_11 hM3.1 rfl rfl ⟨hM3, _, rfl, h⟩
def w_X6_isWord (x1 : Int32) (M : pm) (Q : Int32 → pm → Prop) : Prop := ((¬ (mI M 6 3) = 1 → (Q 0 M)) ∧ ((mI M 6 3) = 1 → ((6 < ((mI M 6 5) - (mI M 6 4)) → (Q 0 M)) ∧ (¬ 6 < ((mI M 6 5) - (mI M 6 4)) → ((x1 < 0 → (Q 0 M)) ∧ (¬ x1 < 0 → ((34 ≤ x1 → (Q 0 M)) ∧ (¬ 34 ≤ x1 → (vp_in x1 34 ∧ ((¬ (mI M 7 x1.toNatClampNeg) = (mI M 6 6) → (Q 0 M)) ∧ ((mI M 7 x1.toNatClampNeg) = (mI M 6 6) → (Q 1 M))))))))))))
set_option maxRecDepth 4000 in
theorem c_X6_isWord {x1 : Int32} {M : pm} {Q : Int32 → pm → Prop}  (hM : pG M) (h : w_X6_isWord x1 M Q) : PW mX6_isWord 1 350 0 (pfr mX6_isWord.2.2.1 [.ref 6, .int x1]) [] M (qZ Q) := by
  unfold w_X6_isWord at h
  show PW mX6_isWord 1 350 0 [.ref 6, .int x1] [] M (qZ Q)
  refine PW.aload_n (pc := 0) dX6_isWord_0 rfl ?_
  refine PW.getI (pc := 1) dX6_isWord_1 lf_X6_23 (ob hM.1 s_6 (by decide)) fx_6_3 ?_
  refine PW.iconst (pc := 4) dX6_isWord_4 (v := 1) (by decide) ?_
  refine PW.icmp_ne (pc := 5) dX6_isWord_5 (t := 49) (by decide) (fun hc => ?_) (fun hc => ?_)
  · have h := h.1 hc
    refine PW.iconst (pc := 49) dX6_isWord_49 (v := 0) (by decide) ?_
    exact PW.retI (pc := 50) dX6_isWord_50 hM.1 rfl (bz_n bz0) ⟨hM, _, rfl, bz0, h⟩
  · have h := h.2 hc
    refine PW.aload_n (pc := 8) dX6_isWord_8 rfl ?_
    refine PW.getI (pc := 9) dX6_isWord_9 lf_X6_29 (ob hM.1 s_6 (by decide)) fx_6_5 ?_
    refine PW.aload_n (pc := 12) dX6_isWord_12 rfl ?_
    refine PW.getI (pc := 13) dX6_isWord_13 lf_X6_26 (ob hM.1 s_6 (by decide)) fx_6_4 ?_
    refine PW.isub (pc := 16) dX6_isWord_16 ?_
    refine PW.bipush (pc := 17) dX6_isWord_17 (v := 6) (by decide) ?_
    refine PW.icmp_gt (pc := 19) dX6_isWord_19 (t := 49) (by decide) (fun hc => ?_) (fun hc => ?_)
    · have h := h.1 hc
      refine PW.iconst (pc := 49) dX6_isWord_49 (v := 0) (by decide) ?_
      exact PW.retI (pc := 50) dX6_isWord_50 hM.1 rfl (bz_n bz0) ⟨hM, _, rfl, bz0, h⟩
    · have h := h.2 hc
      refine PW.iload_n (pc := 22) dX6_isWord_22 rfl ?_
      refine PW.if_lt (pc := 23) dX6_isWord_23 (t := 49) (by decide) (fun hc => ?_) (fun hc => ?_)
      · have h := h.1 hc
        refine PW.iconst (pc := 49) dX6_isWord_49 (v := 0) (by decide) ?_
        exact PW.retI (pc := 50) dX6_isWord_50 hM.1 rfl (bz_n bz0) ⟨hM, _, rfl, bz0, h⟩
      · have h := h.2 hc
        refine PW.iload_n (pc := 26) dX6_isWord_26 rfl ?_
        refine PW.bipush (pc := 27) dX6_isWord_27 (v := 34) (by decide) ?_
        refine PW.icmp_ge (pc := 29) dX6_isWord_29 (t := 49) (by decide) (fun hc => ?_) (fun hc => ?_)
        · have h := h.1 hc
          refine PW.iconst (pc := 49) dX6_isWord_49 (v := 0) (by decide) ?_
          exact PW.retI (pc := 50) dX6_isWord_50 hM.1 rfl (bz_n bz0) ⟨hM, _, rfl, bz0, h⟩
        · have h := h.2 hc
          refine PW.aload_n (pc := 32) dX6_isWord_32 rfl ?_
          refine PW.getR (pc := 33) dX6_isWord_33 (r := 7) lf_X6_9 (ob hM.1 s_6 (by decide)) fx_6_0 (oR_6_0 hM s_6) (pS_ne s_7) ?_
          refine PW.iload_n (pc := 36) dX6_isWord_36 rfl ?_
          obtain ⟨v1, h⟩ := h
          refine PW.iald (pc := 37) dX6_isWord_37 (ar hM.1 s_7) (vpl n_7 v1) ?_
          refine PW.aload_n (pc := 38) dX6_isWord_38 rfl ?_
          refine PW.getI (pc := 39) dX6_isWord_39 lf_X6_32 (ob hM.1 s_6 (by decide)) fx_6_6 ?_
          refine PW.icmp_ne (pc := 42) dX6_isWord_42 (t := 49) (by decide) (fun hc => ?_) (fun hc => ?_)
          · have h := h.1 hc
            refine PW.iconst (pc := 49) dX6_isWord_49 (v := 0) (by decide) ?_
            exact PW.retI (pc := 50) dX6_isWord_50 hM.1 rfl (bz_n bz0) ⟨hM, _, rfl, bz0, h⟩
          · have h := h.2 hc
            refine PW.iconst (pc := 45) dX6_isWord_45 (v := 1) (by decide) ?_
            refine PW.goto (pc := 46) dX6_isWord_46 (t := 50) (by decide) ?_
            exact PW.retI (pc := 50) dX6_isWord_50 hM.1 rfl (bz_n bz1) ⟨hM, _, rfl, bz1, h⟩
def w_X6_needWord (x1 : Int32) (M : pm) (Q : pm → Prop) : Prop := w_X6_isWord x1 M (fun y2 M1 => ((y2 = 0 → (w_X6_fail 1 (mI M1 6 4) M1 (fun M5 => Q M5))) ∧ (¬ y2 = 0 → (w_X6_take  M1 (fun M8 => Q M8)))))
set_option maxRecDepth 4000 in
theorem c_X6_needWord {x1 : Int32} {M : pm} {Q : pm → Prop}  (hM : pG M) (h : w_X6_needWord x1 M Q) : PW mX6_needWord 2 350 0 (pfr mX6_needWord.2.2.1 [.ref 6, .int x1]) [] M (qV Q) := by
  unfold w_X6_needWord at h
  show PW mX6_needWord 2 350 0 [.ref 6, .int x1] [] M (qV Q)
  refine PW.aload_n (pc := 0) dX6_needWord_0 rfl ?_
  refine PW.iload_n (pc := 1) dX6_needWord_1 rfl ?_
  refine PW.inv (m' := mX6_isWord) (pc := 2) dX6_needWord_2 lm_X6_76 me_X6_isWord mi_X6_isWord (ob hM.1 s_6 (by decide)) rfl (As := [.int x1]) (st := []) rfl (Nat.le_of_ble_eq_true rfl) (Nat.le_of_ble_eq_true rfl) (Nat.le_of_eq hM.1) (Nat.le_refl _) (PW.deep (by decide) (c_X6_isWord  hM h)) ?_
  rintro _ M1 ⟨hM3, y2, rfl, z4, h⟩
  refine PW.if_eq (pc := 5) dX6_needWord_5 (t := 15) (by decide) (fun hc => ?_) (fun hc => ?_)
  · have h := h.1 hc
    refine PW.aload_n (pc := 15) dX6_needWord_15 rfl ?_
    refine PW.iconst (pc := 16) dX6_needWord_16 (v := 1) (by decide) ?_
    refine PW.aload_n (pc := 17) dX6_needWord_17 rfl ?_
    refine PW.getI (pc := 18) dX6_needWord_18 lf_X6_26 (ob hM3.1 s_6 (by decide)) fx_6_4 ?_
    refine PW.inv (m' := mX6_fail) (pc := 21) dX6_needWord_21 lm_X6_72 me_X6_fail mi_X6_fail (ob hM3.1 s_6 (by decide)) rfl (As := [.int 1, .int (mI M1 6 4)]) (st := []) rfl (Nat.le_of_ble_eq_true rfl) (Nat.le_of_ble_eq_true rfl) (Nat.le_of_eq hM3.1) (Nat.le_refl _) (PW.deep (by decide) (c_X6_fail  hM3 h)) ?_
    rintro _ M5 ⟨hM7, rfl, h⟩
    exact PW.ret0 (pc := 24) dX6_needWord_24 hM7.1 rfl ⟨hM7, rfl, h⟩
  · have h := h.2 hc
    refine PW.aload_n (pc := 8) dX6_needWord_8 rfl ?_
    refine PW.inv (m' := mX6_take) (pc := 9) dX6_needWord_9 lm_X6_65 me_X6_take mi_X6_take (ob hM3.1 s_6 (by decide)) rfl (As := []) (st := []) rfl (Nat.le_of_ble_eq_true rfl) (Nat.le_of_ble_eq_true rfl) (Nat.le_of_eq hM3.1) (Nat.le_refl _) (PW.deep (by decide) (c_X6_take  hM3 h)) ?_
    rintro _ M8 ⟨hM10, rfl, h⟩
    refine PW.goto (pc := 12) dX6_needWord_12 (t := 24) (by decide) ?_
    exact PW.ret0 (pc := 24) dX6_needWord_24 hM10.1 rfl ⟨hM10, rfl, h⟩
def w_X6_needNumber_27 : Nat → Int32 → Int32 → Int32 → Int32 → pm → (Int32 → Int32 → Int32 → pm → Prop) → (Int32 → pm → Prop) → Prop
  | 0, _, _, _, _, _, _, _ => False
  | n + 1, x1, x2, x3, x4, M, k78, Q => (((mI M 6 5) ≤ x4 → (k78 x1 x2 x3 M)) ∧ (¬ (mI M 6 5) ≤ x4 → (((mI M 6 2) ≤ x4 → (k78 x1 x2 x3 M)) ∧ (¬ (mI M 6 2) ≤ x4 → ((((mI M 6 4) + 4) ≤ x4 → (k78 x1 x2 x3 M)) ∧ (¬ ((mI M 6 4) + 4) ≤ x4 → (vp_in x4 (lay (mR M 6 1)).2 ∧ (w_X6_needNumber_27 n x1 x2 (((10 * x3) + (mI M (mR M 6 1) x4.toNatClampNeg)) - 48) (x4 + 1) M k78 Q))))))))
set_option maxRecDepth 4000 in
theorem c_X6_needNumber_27 {k78 : Int32 → Int32 → Int32 → pm → Prop} {Q : Int32 → pm → Prop} (hk78 : ∀ (x1 : Int32) (x2 : Int32) (x3 : Int32) (M : pm), pG M → k78 x1 x2 x3 M → PW mX6_needNumber 2 350 78 [.ref 6, .int x1, .int x2, .int x3, .null] [] M (qI Q)) : ∀ (n : Nat) (x1 : Int32) (x2 : Int32) (x3 : Int32) (x4 : Int32) (M : pm), pG M → w_X6_needNumber_27 n x1 x2 x3 x4 M k78 Q → PW mX6_needNumber 2 350 27 [.ref 6, .int x1, .int x2, .int x3, .int x4] [] M (qI Q) := by
  intro n
  induction n with
  | zero => intro x1 x2 x3 x4 M hM h; exact h.elim
  | succ n ih =>
    intro x1 x2 x3 x4 M hM h
    unfold w_X6_needNumber_27 at h
    refine PW.iload (pc := 27) dX6_needNumber_27 rfl ?_
    refine PW.aload_n (pc := 29) dX6_needNumber_29 rfl ?_
    refine PW.getI (pc := 30) dX6_needNumber_30 lf_X6_29 (ob hM.1 s_6 (by decide)) fx_6_5 ?_
    refine PW.icmp_ge (pc := 33) dX6_needNumber_33 (t := 78) (by decide) (fun hc => ?_) (fun hc => ?_)
    · have h := h.1 hc
      exact PW.drop (hk78 _ _ _ _ hM h) ⟨rfl, rfl, rfl, rfl, trivial⟩
    · have h := h.2 hc
      refine PW.iload (pc := 36) dX6_needNumber_36 rfl ?_
      refine PW.aload_n (pc := 38) dX6_needNumber_38 rfl ?_
      refine PW.getI (pc := 39) dX6_needNumber_39 lf_X6_19 (ob hM.1 s_6 (by decide)) fx_6_2 ?_
      refine PW.icmp_ge (pc := 42) dX6_needNumber_42 (t := 78) (by decide) (fun hc => ?_) (fun hc => ?_)
      · have h := h.1 hc
        exact PW.drop (hk78 _ _ _ _ hM h) ⟨rfl, rfl, rfl, rfl, trivial⟩
      · have h := h.2 hc
        refine PW.iload (pc := 45) dX6_needNumber_45 rfl ?_
        refine PW.aload_n (pc := 47) dX6_needNumber_47 rfl ?_
        refine PW.getI (pc := 48) dX6_needNumber_48 lf_X6_26 (ob hM.1 s_6 (by decide)) fx_6_4 ?_
        refine PW.iconst (pc := 51) dX6_needNumber_51 (v := 4) (by decide) ?_
        refine PW.iadd (pc := 52) dX6_needNumber_52 ?_
        refine PW.icmp_ge (pc := 53) dX6_needNumber_53 (t := 78) (by decide) (fun hc => ?_) (fun hc => ?_)
        · have h := h.1 hc
          exact PW.drop (hk78 _ _ _ _ hM h) ⟨rfl, rfl, rfl, rfl, trivial⟩
        · have h := h.2 hc
          refine PW.bipush (pc := 56) dX6_needNumber_56 (v := 10) (by decide) ?_
          refine PW.iload_n (pc := 58) dX6_needNumber_58 rfl ?_
          refine PW.imul (pc := 59) dX6_needNumber_59 ?_
          refine PW.aload_n (pc := 60) dX6_needNumber_60 rfl ?_
          refine PW.getR (pc := 61) dX6_needNumber_61 (r := (mR M 6 1)) lf_X6_15 (ob hM.1 s_6 (by decide)) fx_6_1 rfl (pS_ne (hM.2.2.2.2.2.2.1)) ?_
          refine PW.iload (pc := 64) dX6_needNumber_64 rfl ?_
          obtain ⟨v1, h⟩ := h
          refine PW.bald (pc := 66) dX6_needNumber_66 (ar hM.1 (hM.2.2.2.2.2.2.1)) v1 ?_
          refine PW.iadd (pc := 67) dX6_needNumber_67 ?_
          refine PW.bipush (pc := 68) dX6_needNumber_68 (v := 48) (by decide) ?_
          refine PW.isub (pc := 70) dX6_needNumber_70 ?_
          refine PW.istore_n (pc := 71) dX6_needNumber_71 (ls' := [.ref 6, .int x1, .int x2, .int (((10 * x3) + (mI M (mR M 6 1) x4.toNatClampNeg)) - 48), .int x4]) (by decide) rfl rfl ?_
          refine PW.iinc (pc := 72) dX6_needNumber_72 (v := (x4 + 1)) (ls' := [.ref 6, .int x1, .int x2, .int (((10 * x3) + (mI M (mR M 6 1) x4.toNatClampNeg)) - 48), .int (x4 + 1)]) rfl rfl (by decide) rfl rfl ?_
          refine PW.goto (pc := 75) dX6_needNumber_75 (t := 27) (by decide) ?_
          exact PW.drop (ih _ _ _ _ _ hM h) ⟨rfl, rfl, rfl, rfl, rfl, trivial⟩
def w_X6_needNumber_78  (x1 : Int32) (x2 : Int32) (x3 : Int32) (M : pm)  (Q : Int32 → pm → Prop) : Prop := ((((mI M 6 5) - (mI M 6 4)) ≤ 4 → ((x3 < x1 → (w_X6_fail 2 (mI M 6 4) M (fun M4 => Q x3 M4))) ∧ (¬ x3 < x1 → ((x3 ≤ x2 → (w_X6_take  M (fun M7 => Q x3 M7))) ∧ (¬ x3 ≤ x2 → (w_X6_fail 2 (mI M 6 4) M (fun M10 => Q x3 M10))))))) ∧ (¬ ((mI M 6 5) - (mI M 6 4)) ≤ 4 → (w_X6_fail 1 ((mI M 6 4) + 4) M (fun M13 => Q x3 M13))))
set_option maxRecDepth 4000 in
theorem c_X6_needNumber_78  {Q : Int32 → pm → Prop}  : ∀ (x1 : Int32) (x2 : Int32) (x3 : Int32) (M : pm), pG M → w_X6_needNumber_78 x1 x2 x3 M  Q → PW mX6_needNumber 2 350 78 [.ref 6, .int x1, .int x2, .int x3, .null] [] M (qI Q) := by
  intro x1 x2 x3 M hM h
  unfold w_X6_needNumber_78 at h
  refine PW.aload_n (pc := 78) dX6_needNumber_78 rfl ?_
  refine PW.getI (pc := 79) dX6_needNumber_79 lf_X6_29 (ob hM.1 s_6 (by decide)) fx_6_5 ?_
  refine PW.aload_n (pc := 82) dX6_needNumber_82 rfl ?_
  refine PW.getI (pc := 83) dX6_needNumber_83 lf_X6_26 (ob hM.1 s_6 (by decide)) fx_6_4 ?_
  refine PW.isub (pc := 86) dX6_needNumber_86 ?_
  refine PW.iconst (pc := 87) dX6_needNumber_87 (v := 4) (by decide) ?_
  refine PW.icmp_le (pc := 88) dX6_needNumber_88 (t := 105) (by decide) (fun hc => ?_) (fun hc => ?_)
  · have h := h.1 hc
    refine PW.iload_n (pc := 105) dX6_needNumber_105 rfl ?_
    refine PW.iload_n (pc := 106) dX6_needNumber_106 rfl ?_
    refine PW.icmp_lt (pc := 107) dX6_needNumber_107 (t := 115) (by decide) (fun hc => ?_) (fun hc => ?_)
    · have h := h.1 hc
      refine PW.aload_n (pc := 115) dX6_needNumber_115 rfl ?_
      refine PW.iconst (pc := 116) dX6_needNumber_116 (v := 2) (by decide) ?_
      refine PW.aload_n (pc := 117) dX6_needNumber_117 rfl ?_
      refine PW.getI (pc := 118) dX6_needNumber_118 lf_X6_26 (ob hM.1 s_6 (by decide)) fx_6_4 ?_
      refine PW.inv (m' := mX6_fail) (pc := 121) dX6_needNumber_121 lm_X6_72 me_X6_fail mi_X6_fail (ob hM.1 s_6 (by decide)) rfl (As := [.int 2, .int (mI M 6 4)]) (st := []) rfl (Nat.le_of_ble_eq_true rfl) (Nat.le_of_ble_eq_true rfl) (Nat.le_of_eq hM.1) (Nat.le_refl _) (PW.deep (by decide) (c_X6_fail  hM h)) ?_
      rintro _ M4 ⟨hM6, rfl, h⟩
      refine PW.goto (pc := 124) dX6_needNumber_124 (t := 131) (by decide) ?_
      refine PW.iload_n (pc := 131) dX6_needNumber_131 rfl ?_
      exact PW.retI (pc := 132) dX6_needNumber_132 hM6.1 rfl rfl ⟨hM6, _, rfl, h⟩
    · have h := h.2 hc
      refine PW.iload_n (pc := 110) dX6_needNumber_110 rfl ?_
      refine PW.iload_n (pc := 111) dX6_needNumber_111 rfl ?_
      refine PW.icmp_le (pc := 112) dX6_needNumber_112 (t := 127) (by decide) (fun hc => ?_) (fun hc => ?_)
      · have h := h.1 hc
        refine PW.aload_n (pc := 127) dX6_needNumber_127 rfl ?_
        refine PW.inv (m' := mX6_take) (pc := 128) dX6_needNumber_128 lm_X6_65 me_X6_take mi_X6_take (ob hM.1 s_6 (by decide)) rfl (As := []) (st := []) rfl (Nat.le_of_ble_eq_true rfl) (Nat.le_of_ble_eq_true rfl) (Nat.le_of_eq hM.1) (Nat.le_refl _) (PW.deep (by decide) (c_X6_take  hM h)) ?_
        rintro _ M7 ⟨hM9, rfl, h⟩
        refine PW.iload_n (pc := 131) dX6_needNumber_131 rfl ?_
        exact PW.retI (pc := 132) dX6_needNumber_132 hM9.1 rfl rfl ⟨hM9, _, rfl, h⟩
      · have h := h.2 hc
        refine PW.aload_n (pc := 115) dX6_needNumber_115 rfl ?_
        refine PW.iconst (pc := 116) dX6_needNumber_116 (v := 2) (by decide) ?_
        refine PW.aload_n (pc := 117) dX6_needNumber_117 rfl ?_
        refine PW.getI (pc := 118) dX6_needNumber_118 lf_X6_26 (ob hM.1 s_6 (by decide)) fx_6_4 ?_
        refine PW.inv (m' := mX6_fail) (pc := 121) dX6_needNumber_121 lm_X6_72 me_X6_fail mi_X6_fail (ob hM.1 s_6 (by decide)) rfl (As := [.int 2, .int (mI M 6 4)]) (st := []) rfl (Nat.le_of_ble_eq_true rfl) (Nat.le_of_ble_eq_true rfl) (Nat.le_of_eq hM.1) (Nat.le_refl _) (PW.deep (by decide) (c_X6_fail  hM h)) ?_
        rintro _ M10 ⟨hM12, rfl, h⟩
        refine PW.goto (pc := 124) dX6_needNumber_124 (t := 131) (by decide) ?_
        refine PW.iload_n (pc := 131) dX6_needNumber_131 rfl ?_
        exact PW.retI (pc := 132) dX6_needNumber_132 hM12.1 rfl rfl ⟨hM12, _, rfl, h⟩
  · have h := h.2 hc
    refine PW.aload_n (pc := 91) dX6_needNumber_91 rfl ?_
    refine PW.iconst (pc := 92) dX6_needNumber_92 (v := 1) (by decide) ?_
    refine PW.aload_n (pc := 93) dX6_needNumber_93 rfl ?_
    refine PW.getI (pc := 94) dX6_needNumber_94 lf_X6_26 (ob hM.1 s_6 (by decide)) fx_6_4 ?_
    refine PW.iconst (pc := 97) dX6_needNumber_97 (v := 4) (by decide) ?_
    refine PW.iadd (pc := 98) dX6_needNumber_98 ?_
    refine PW.inv (m' := mX6_fail) (pc := 99) dX6_needNumber_99 lm_X6_72 me_X6_fail mi_X6_fail (ob hM.1 s_6 (by decide)) rfl (As := [.int 1, .int ((mI M 6 4) + 4)]) (st := []) rfl (Nat.le_of_ble_eq_true rfl) (Nat.le_of_ble_eq_true rfl) (Nat.le_of_eq hM.1) (Nat.le_refl _) (PW.deep (by decide) (c_X6_fail  hM h)) ?_
    rintro _ M13 ⟨hM15, rfl, h⟩
    refine PW.goto (pc := 102) dX6_needNumber_102 (t := 131) (by decide) ?_
    refine PW.iload_n (pc := 131) dX6_needNumber_131 rfl ?_
    exact PW.retI (pc := 132) dX6_needNumber_132 hM15.1 rfl rfl ⟨hM15, _, rfl, h⟩
def w_X6_needNumber (x1 : Int32) (x2 : Int32) (M : pm) (Q : Int32 → pm → Prop) : Prop := (((mI M 6 3) = 2 → (∃ n2, w_X6_needNumber_27 n2 x1 x2 0 (mI M 6 4) M (fun x1 x2 x3 M3 => w_X6_needNumber_78 x1 x2 x3 M3  Q) Q)) ∧ (¬ (mI M 6 3) = 2 → (w_X6_fail 1 (mI M 6 4) M (fun M16 => Q 0 M16))))
set_option maxRecDepth 4000 in
theorem c_X6_needNumber {x1 : Int32} {x2 : Int32} {M : pm} {Q : Int32 → pm → Prop}  (hM : pG M) (h : w_X6_needNumber x1 x2 M Q) : PW mX6_needNumber 2 350 0 (pfr mX6_needNumber.2.2.1 [.ref 6, .int x1, .int x2]) [] M (qI Q) := by
  unfold w_X6_needNumber at h
  show PW mX6_needNumber 2 350 0 [.ref 6, .int x1, .int x2, .null, .null] [] M (qI Q)
  refine PW.aload_n (pc := 0) dX6_needNumber_0 rfl ?_
  refine PW.getI (pc := 1) dX6_needNumber_1 lf_X6_23 (ob hM.1 s_6 (by decide)) fx_6_3 ?_
  refine PW.iconst (pc := 4) dX6_needNumber_4 (v := 2) (by decide) ?_
  refine PW.icmp_eq (pc := 5) dX6_needNumber_5 (t := 19) (by decide) (fun hc => ?_) (fun hc => ?_)
  · have h := h.1 hc
    refine PW.iconst (pc := 19) dX6_needNumber_19 (v := 0) (by decide) ?_
    refine PW.istore_n (pc := 20) dX6_needNumber_20 (ls' := [.ref 6, .int x1, .int x2, .int 0, .null]) (by decide) rfl rfl ?_
    refine PW.aload_n (pc := 21) dX6_needNumber_21 rfl ?_
    refine PW.getI (pc := 22) dX6_needNumber_22 lf_X6_26 (ob hM.1 s_6 (by decide)) fx_6_4 ?_
    refine PW.istore (pc := 25) dX6_needNumber_25 (ls' := [.ref 6, .int x1, .int x2, .int 0, .int (mI M 6 4)]) (by decide) rfl rfl ?_
    obtain ⟨n2, h⟩ := h
    refine PW.drop (c_X6_needNumber_27 ?_ n2 _ _ _ _ _ hM h) ⟨rfl, rfl, rfl, rfl, rfl, trivial⟩
    · intro x1 x2 x3 M3 hM h
      exact PW.drop (c_X6_needNumber_78  _ _ _ _ hM h) ⟨rfl, rfl, rfl, rfl, trivial⟩
  · have h := h.2 hc
    refine PW.aload_n (pc := 8) dX6_needNumber_8 rfl ?_
    refine PW.iconst (pc := 9) dX6_needNumber_9 (v := 1) (by decide) ?_
    refine PW.aload_n (pc := 10) dX6_needNumber_10 rfl ?_
    refine PW.getI (pc := 11) dX6_needNumber_11 lf_X6_26 (ob hM.1 s_6 (by decide)) fx_6_4 ?_
    refine PW.inv (m' := mX6_fail) (pc := 14) dX6_needNumber_14 lm_X6_72 me_X6_fail mi_X6_fail (ob hM.1 s_6 (by decide)) rfl (As := [.int 1, .int (mI M 6 4)]) (st := []) rfl (Nat.le_of_ble_eq_true rfl) (Nat.le_of_ble_eq_true rfl) (Nat.le_of_eq hM.1) (Nat.le_refl _) (PW.deep (by decide) (c_X6_fail  hM h)) ?_
    rintro _ M16 ⟨hM18, rfl, h⟩
    refine PW.iconst (pc := 17) dX6_needNumber_17 (v := 0) (by decide) ?_
    exact PW.retI (pc := 18) dX6_needNumber_18 hM18.1 rfl rfl ⟨hM18, _, rfl, h⟩
def w_X5_addSong (a0 : Nat) (x1 : Int32) (x2 : Int32) (x3 : Int32) (M : pm) (Q : pm → Prop) : Prop := ((6 ≤ (mI M a0 4) → (Q M)) ∧ (¬ 6 ≤ (mI M a0 4) → (vp_in (mI M a0 4) 6 ∧ (vp_in (mI (sI M (a0 + 1) ((mI M a0 4).toNatClampNeg) x1) a0 4) 6 ∧ (vp_in (mI (sI (sI M (a0 + 1) ((mI M a0 4).toNatClampNeg) x1) (a0 + 2) ((mI (sI M (a0 + 1) ((mI M a0 4).toNatClampNeg) x1) a0 4).toNatClampNeg) x2) a0 4) 6 ∧ (Q (sI (sI (sI (sI M (a0 + 1) ((mI M a0 4).toNatClampNeg) x1) (a0 + 2) ((mI (sI M (a0 + 1) ((mI M a0 4).toNatClampNeg) x1) a0 4).toNatClampNeg) x2) (a0 + 3) ((mI (sI (sI M (a0 + 1) ((mI M a0 4).toNatClampNeg) x1) (a0 + 2) ((mI (sI M (a0 + 1) ((mI M a0 4).toNatClampNeg) x1) a0 4).toNatClampNeg) x2) a0 4).toNatClampNeg) x3) a0 4 ((mI (sI (sI (sI M (a0 + 1) ((mI M a0 4).toNatClampNeg) x1) (a0 + 2) ((mI (sI M (a0 + 1) ((mI M a0 4).toNatClampNeg) x1) a0 4).toNatClampNeg) x2) (a0 + 3) ((mI (sI (sI M (a0 + 1) ((mI M a0 4).toNatClampNeg) x1) (a0 + 2) ((mI (sI M (a0 + 1) ((mI M a0 4).toNatClampNeg) x1) a0 4).toNatClampNeg) x2) a0 4).toNatClampNeg) x3) a0 4) + 1))))))))
set_option maxRecDepth 4000 in
theorem c_X5_addSong {a0 : Nat} {x1 : Int32} {x2 : Int32} {x3 : Int32} {M : pm} {Q : pm → Prop} (hs0 : pS 5 a0) (hM : pG M) (h : w_X5_addSong a0 x1 x2 x3 M Q) : PW mX5_addSong 1 350 0 (pfr mX5_addSong.2.2.1 [.ref a0, .int x1, .int x2, .int x3]) [] M (qV Q) := by
  unfold w_X5_addSong at h
  show PW mX5_addSong 1 350 0 [.ref a0, .int x1, .int x2, .int x3] [] M (qV Q)
  refine PW.aload_n (pc := 0) dX5_addSong_0 rfl ?_
  refine PW.getI (pc := 1) dX5_addSong_1 lf_X5_24 (ob hM.1 hs0 (by decide)) fx_5_4 ?_
  refine PW.bipush (pc := 4) dX5_addSong_4 (v := 6) (by decide) ?_
  refine PW.icmp_ge (pc := 6) dX5_addSong_6 (t := 49) (by decide) (fun hc => ?_) (fun hc => ?_)
  · have h := h.1 hc
    exact PW.ret0 (pc := 49) dX5_addSong_49 hM.1 rfl ⟨hM, rfl, h⟩
  · have h := h.2 hc
    refine PW.aload_n (pc := 9) dX5_addSong_9 rfl ?_
    refine PW.getR (pc := 10) dX5_addSong_10 (r := (a0 + 1)) lf_X5_27 (ob hM.1 hs0 (by decide)) fx_5_5 (oR_5_5 hM hs0) (pS_ne (oS_5_5 hs0)) ?_
    refine PW.aload_n (pc := 13) dX5_addSong_13 rfl ?_
    refine PW.getI (pc := 14) dX5_addSong_14 lf_X5_24 (ob hM.1 hs0 (by decide)) fx_5_4 ?_
    refine PW.iload_n (pc := 17) dX5_addSong_17 rfl ?_
    obtain ⟨v1, h⟩ := h
    refine PW.iast (pc := 18) dX5_addSong_18 (ar hM.1 (oS_5_5 hs0)) (vpl (oN_5_5 hs0) v1) ?_
    refine PW.aload_n (pc := 19) dX5_addSong_19 rfl ?_
    refine PW.getR (pc := 20) dX5_addSong_20 (r := (a0 + 2)) lf_X5_31 (ob hM.1 hs0 (by decide)) fx_5_6 (oR_5_6 (hM.same rfl rfl) hs0) (pS_ne (oS_5_6 hs0)) ?_
    refine PW.aload_n (pc := 23) dX5_addSong_23 rfl ?_
    refine PW.getI (pc := 24) dX5_addSong_24 lf_X5_24 (ob hM.1 hs0 (by decide)) fx_5_4 ?_
    refine PW.iload_n (pc := 27) dX5_addSong_27 rfl ?_
    obtain ⟨v2, h⟩ := h
    refine PW.iast (pc := 28) dX5_addSong_28 (ar hM.1 (oS_5_6 hs0)) (vpl (oN_5_6 hs0) v2) ?_
    refine PW.aload_n (pc := 29) dX5_addSong_29 rfl ?_
    refine PW.getR (pc := 30) dX5_addSong_30 (r := (a0 + 3)) lf_X5_34 (ob hM.1 hs0 (by decide)) fx_5_7 (oR_5_7 (hM.same rfl rfl) hs0) (pS_ne (oS_5_7 hs0)) ?_
    refine PW.aload_n (pc := 33) dX5_addSong_33 rfl ?_
    refine PW.getI (pc := 34) dX5_addSong_34 lf_X5_24 (ob hM.1 hs0 (by decide)) fx_5_4 ?_
    refine PW.iload_n (pc := 37) dX5_addSong_37 rfl ?_
    obtain ⟨v3, h⟩ := h
    refine PW.iast (pc := 38) dX5_addSong_38 (ar hM.1 (oS_5_7 hs0)) (vpl (oN_5_7 hs0) v3) ?_
    refine PW.aload_n (pc := 39) dX5_addSong_39 rfl ?_
    refine PW.dupR (pc := 40) dX5_addSong_40 ?_
    refine PW.getI (pc := 41) dX5_addSong_41 lf_X5_24 (ob hM.1 hs0 (by decide)) fx_5_4 ?_
    refine PW.iconst (pc := 44) dX5_addSong_44 (v := 1) (by decide) ?_
    refine PW.iadd (pc := 45) dX5_addSong_45 ?_
    refine PW.putI (pc := 46) dX5_addSong_46 lf_X5_24 (ob hM.1 hs0 (by decide)) fx_5_4 fw_5_4 rfl rfl ?_
    exact PW.ret0 (pc := 49) dX5_addSong_49 hM.1 rfl ⟨(hM.same rfl rfl), rfl, h⟩
def w_X3_readSong (a1 : Nat) (M : pm) (Q : pm → Prop) : Prop := (((mI M a1 4) < 6 → (w_X6_take  M (fun M1 => w_X3_readNewName a1 M1 (fun y5 M4 => w_X6_needWord 2 M4 (fun M7 => w_X6_needNumber 1 60 M7 (fun y11 M10 => w_X6_needWord 3 M10 (fun M13 => w_X6_needNumber 0 9 M13 (fun y17 M16 => w_X5_addSong a1 y5 y11 y17 M16 (fun M19 => Q M19))))))))) ∧ (¬ (mI M a1 4) < 6 → (w_X6_fail 5 (mI M 6 4) M (fun M22 => Q M22))))
set_option maxRecDepth 4000 in
theorem c_X3_readSong {a1 : Nat} {M : pm} {Q : pm → Prop} (hs1 : pS 5 a1) (hM : pG M) (h : w_X3_readSong a1 M Q) : PW mX3_readSong 4 350 0 (pfr mX3_readSong.2.2.1 [.ref 5, .ref a1]) [] M (qV Q) := by
  unfold w_X3_readSong at h
  show PW mX3_readSong 4 350 0 [.ref 5, .ref a1, .null, .null, .null] [] M (qV Q)
  refine PW.aload_n (pc := 0) dX3_readSong_0 rfl ?_
  refine PW.getI (pc := 1) dX3_readSong_1 lf_X3_125 (ob hM.1 hs1 (by decide)) fx_5_4 ?_
  refine PW.bipush (pc := 4) dX3_readSong_4 (v := 6) (by decide) ?_
  refine PW.icmp_lt (pc := 6) dX3_readSong_6 (t := 25) (by decide) (fun hc => ?_) (fun hc => ?_)
  · have h := h.1 hc
    refine PW.aload_n (pc := 25) dX3_readSong_25 rfl ?_
    refine PW.getR (pc := 26) dX3_readSong_26 (r := 6) lf_X3_12 (ob hM.1 s_5 (by decide)) fx_3_0 (oR_3_0 hM s_5) (pS_ne s_6) ?_
    refine PW.inv (m' := mX6_take) (pc := 29) dX3_readSong_29 lm_X3_77 me_X6_take mi_X6_take (ob hM.1 s_6 (by decide)) rfl (As := []) (st := []) rfl (Nat.le_of_ble_eq_true rfl) (Nat.le_of_ble_eq_true rfl) (Nat.le_of_eq hM.1) (Nat.le_refl _) (PW.deep (by decide) (c_X6_take  hM h)) ?_
    rintro _ M1 ⟨hM3, rfl, h⟩
    refine PW.aload_n (pc := 32) dX3_readSong_32 rfl ?_
    refine PW.aload_n (pc := 33) dX3_readSong_33 rfl ?_
    refine PW.inv (m' := mX3_readNewName) (pc := 34) dX3_readSong_34 lm_X3_128 me_X3_readNewName mi_X3_readNewName (ob hM3.1 s_5 (by decide)) rfl (As := [.ref a1]) (st := []) rfl (Nat.le_of_ble_eq_true rfl) (Nat.le_of_ble_eq_true rfl) (Nat.le_of_eq hM3.1) (Nat.le_refl _) (PW.deep (by decide) (c_X3_readNewName hs1 hM3 h)) ?_
    rintro _ M4 ⟨hM6, y5, rfl, h⟩
    refine PW.istore_n (pc := 37) dX3_readSong_37 (ls' := [.ref 5, .ref a1, .int y5, .null, .null]) (by decide) rfl rfl ?_
    refine PW.aload_n (pc := 38) dX3_readSong_38 rfl ?_
    refine PW.getR (pc := 39) dX3_readSong_39 (r := 6) lf_X3_12 (ob hM6.1 s_5 (by decide)) fx_3_0 (oR_3_0 hM6 s_5) (pS_ne s_6) ?_
    refine PW.iconst (pc := 42) dX3_readSong_42 (v := 2) (by decide) ?_
    refine PW.inv (m' := mX6_needWord) (pc := 43) dX3_readSong_43 lm_X3_132 me_X6_needWord mi_X6_needWord (ob hM6.1 s_6 (by decide)) rfl (As := [.int 2]) (st := []) rfl (Nat.le_of_ble_eq_true rfl) (Nat.le_of_ble_eq_true rfl) (Nat.le_of_eq hM6.1) (Nat.le_refl _) (PW.deep (by decide) (c_X6_needWord  hM6 h)) ?_
    rintro _ M7 ⟨hM9, rfl, h⟩
    refine PW.aload_n (pc := 46) dX3_readSong_46 rfl ?_
    refine PW.getR (pc := 47) dX3_readSong_47 (r := 6) lf_X3_12 (ob hM9.1 s_5 (by decide)) fx_3_0 (oR_3_0 hM9 s_5) (pS_ne s_6) ?_
    refine PW.iconst (pc := 50) dX3_readSong_50 (v := 1) (by decide) ?_
    refine PW.bipush (pc := 51) dX3_readSong_51 (v := 60) (by decide) ?_
    refine PW.inv (m' := mX6_needNumber) (pc := 53) dX3_readSong_53 lm_X3_96 me_X6_needNumber mi_X6_needNumber (ob hM9.1 s_6 (by decide)) rfl (As := [.int 1, .int 60]) (st := []) rfl (Nat.le_of_ble_eq_true rfl) (Nat.le_of_ble_eq_true rfl) (Nat.le_of_eq hM9.1) (Nat.le_refl _) (PW.deep (by decide) (c_X6_needNumber  hM9 h)) ?_
    rintro _ M10 ⟨hM12, y11, rfl, h⟩
    refine PW.istore_n (pc := 56) dX3_readSong_56 (ls' := [.ref 5, .ref a1, .int y5, .int y11, .null]) (by decide) rfl rfl ?_
    refine PW.aload_n (pc := 57) dX3_readSong_57 rfl ?_
    refine PW.getR (pc := 58) dX3_readSong_58 (r := 6) lf_X3_12 (ob hM12.1 s_5 (by decide)) fx_3_0 (oR_3_0 hM12 s_5) (pS_ne s_6) ?_
    refine PW.iconst (pc := 61) dX3_readSong_61 (v := 3) (by decide) ?_
    refine PW.inv (m' := mX6_needWord) (pc := 62) dX3_readSong_62 lm_X3_132 me_X6_needWord mi_X6_needWord (ob hM12.1 s_6 (by decide)) rfl (As := [.int 3]) (st := []) rfl (Nat.le_of_ble_eq_true rfl) (Nat.le_of_ble_eq_true rfl) (Nat.le_of_eq hM12.1) (Nat.le_refl _) (PW.deep (by decide) (c_X6_needWord  hM12 h)) ?_
    rintro _ M13 ⟨hM15, rfl, h⟩
    refine PW.aload_n (pc := 65) dX3_readSong_65 rfl ?_
    refine PW.getR (pc := 66) dX3_readSong_66 (r := 6) lf_X3_12 (ob hM15.1 s_5 (by decide)) fx_3_0 (oR_3_0 hM15 s_5) (pS_ne s_6) ?_
    refine PW.iconst (pc := 69) dX3_readSong_69 (v := 0) (by decide) ?_
    refine PW.bipush (pc := 70) dX3_readSong_70 (v := 9) (by decide) ?_
    refine PW.inv (m' := mX6_needNumber) (pc := 72) dX3_readSong_72 lm_X3_96 me_X6_needNumber mi_X6_needNumber (ob hM15.1 s_6 (by decide)) rfl (As := [.int 0, .int 9]) (st := []) rfl (Nat.le_of_ble_eq_true rfl) (Nat.le_of_ble_eq_true rfl) (Nat.le_of_eq hM15.1) (Nat.le_refl _) (PW.deep (by decide) (c_X6_needNumber  hM15 h)) ?_
    rintro _ M16 ⟨hM18, y17, rfl, h⟩
    refine PW.istore (pc := 75) dX3_readSong_75 (ls' := [.ref 5, .ref a1, .int y5, .int y11, .int y17]) (by decide) rfl rfl ?_
    refine PW.aload_n (pc := 77) dX3_readSong_77 rfl ?_
    refine PW.iload_n (pc := 78) dX3_readSong_78 rfl ?_
    refine PW.iload_n (pc := 79) dX3_readSong_79 rfl ?_
    refine PW.iload (pc := 80) dX3_readSong_80 rfl ?_
    refine PW.inv (m' := mX5_addSong) (pc := 82) dX3_readSong_82 lm_X3_135 me_X5_addSong mi_X5_addSong (ob hM18.1 hs1 (by decide)) rfl (As := [.int y5, .int y11, .int y17]) (st := []) rfl (Nat.le_of_ble_eq_true rfl) (Nat.le_of_ble_eq_true rfl) (Nat.le_of_eq hM18.1) (Nat.le_refl _) (PW.deep (by decide) (c_X5_addSong hs1 hM18 h)) ?_
    rintro _ M19 ⟨hM21, rfl, h⟩
    exact PW.ret0 (pc := 85) dX3_readSong_85 hM21.1 rfl ⟨hM21, rfl, h⟩
  · have h := h.2 hc
    refine PW.aload_n (pc := 9) dX3_readSong_9 rfl ?_
    refine PW.getR (pc := 10) dX3_readSong_10 (r := 6) lf_X3_12 (ob hM.1 s_5 (by decide)) fx_3_0 (oR_3_0 hM s_5) (pS_ne s_6) ?_
    refine PW.iconst (pc := 13) dX3_readSong_13 (v := 5) (by decide) ?_
    refine PW.aload_n (pc := 14) dX3_readSong_14 rfl ?_
    refine PW.getR (pc := 15) dX3_readSong_15 (r := 6) lf_X3_12 (ob hM.1 s_5 (by decide)) fx_3_0 (oR_3_0 hM s_5) (pS_ne s_6) ?_
    refine PW.getI (pc := 18) dX3_readSong_18 lf_X3_55 (ob hM.1 s_6 (by decide)) fx_6_4 ?_
    refine PW.inv (m' := mX6_fail) (pc := 21) dX3_readSong_21 lm_X3_58 me_X6_fail mi_X6_fail (ob hM.1 s_6 (by decide)) rfl (As := [.int 5, .int (mI M 6 4)]) (st := []) rfl (Nat.le_of_ble_eq_true rfl) (Nat.le_of_ble_eq_true rfl) (Nat.le_of_eq hM.1) (Nat.le_refl _) (PW.deep (by decide) (c_X6_fail  hM h)) ?_
    rintro _ M22 ⟨hM24, rfl, h⟩
    exact PW.ret0 (pc := 24) dX3_readSong_24 hM24.1 rfl ⟨hM24, rfl, h⟩
