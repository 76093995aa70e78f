/-! methods, walked by program: w_ what must hold before, c_ its proof -/
def w_X8_qDrops  (M : pm) (Q : pm → Prop) : Prop := vp_in ((mI M 277 98) - 1) 1700 ∧ (w_X8_qCode (mI M 350 (((mI M 277 98) - 1).toNatClampNeg)) (sI M 277 98 ((mI M 277 98) - 1)) (fun M2 => Q M2))
set_option maxRecDepth 4000 in
theorem c_X8_qDrops  {M : pm} {Q : pm → Prop}  (hM : pG M) (h : w_X8_qDrops  M Q) : PW mX8_qDrops 2 350 0 (pfr mX8_qDrops.2.2.1 [.ref 277]) [] M (qV Q) := by
  unfold w_X8_qDrops at h
  show PW mX8_qDrops 2 350 0 [.ref 277] [] M (qV Q)
  refine PW.aload_n (pc := 0) dX8_qDrops_0 rfl ?_
  refine PW.dupR (pc := 1) dX8_qDrops_1 ?_
  refine PW.getI (pc := 2) dX8_qDrops_2 lf_X8_340 (ob hM.1 s_277 (by decide)) fx_8_98 ?_
  refine PW.iconst (pc := 5) dX8_qDrops_5 (v := 1) (by decide) ?_
  refine PW.isub (pc := 6) dX8_qDrops_6 ?_
  refine PW.putI (pc := 7) dX8_qDrops_7 lf_X8_340 (ob hM.1 s_277 (by decide)) fx_8_98 fw_8_98 rfl rfl ?_
  refine PW.aload_n (pc := 10) dX8_qDrops_10 rfl ?_
  refine PW.aload_n (pc := 11) dX8_qDrops_11 rfl ?_
  refine PW.getR (pc := 12) dX8_qDrops_12 (r := 350) lf_X8_237 (ob hM.1 s_277 (by decide)) fx_8_97 (oR_8_97 (hM.same rfl rfl) s_277) (pS_ne s_350) ?_
  refine PW.aload_n (pc := 15) dX8_qDrops_15 rfl ?_
  refine PW.getI (pc := 16) dX8_qDrops_16 lf_X8_340 (ob hM.1 s_277 (by decide)) fx_8_98 ?_
  obtain ⟨v1, h⟩ := h
  refine PW.iald (pc := 19) dX8_qDrops_19 (ar hM.1 s_350) (vpl n_350 v1) ?_
  refine PW.inv (m' := mX8_qCode) (pc := 20) dX8_qDrops_20 lm_X8_583 me_X8_qCode mi_X8_qCode (ob hM.1 s_277 (by decide)) rfl (As := [.int (mI M 350 (((mI M 277 98) - 1).toNatClampNeg))]) (st := []) rfl (Nat.le_of_ble_eq_true rfl) (Nat.le_of_ble_eq_true rfl) (Nat.le_of_eq hM.1) (Nat.le_refl _) (PW.deep (by decide) (c_X8_qCode  (hM.same rfl rfl) h)) ?_
  rintro _ M2 ⟨hM, rfl, h⟩
  exact PW.ret0 (pc := 23) dX8_qDrops_23 hM.1 rfl ⟨hM, rfl, h⟩
def w_X8_qEndsPart_0 : Nat → pm → (pm → Prop) → Prop
  | 0, _, _ => False
  | n + 1, M, Q => ((¬ (mI M 277 5) = 0 → (Q M)) ∧ ((mI M 277 5) = 0 → (((mI M 277 98) ≤ (mI M 277 100) → (Q M)) ∧ (¬ (mI M 277 98) ≤ (mI M 277 100) → (vp_in ((mI M 277 98) - 1) 1700 ∧ (((mI M 350 (((mI M 277 98) - 1).toNatClampNeg)) < 60 → (Q M)) ∧ (¬ (mI M 350 (((mI M 277 98) - 1).toNatClampNeg)) < 60 → (w_X8_qDrops  (sI M 277 99 ((mI M 277 99) - 1)) (fun M2 => w_X8_qEndsPart_0 n M2 Q)))))))))
set_option maxRecDepth 4000 in
theorem c_X8_qEndsPart_0  {Q : pm → Prop}  : ∀ (n : Nat)  (M : pm), pG M → w_X8_qEndsPart_0 n  M  Q → PW mX8_qEndsPart 3 350 0 [.ref 277] [] M (qV Q) := by
  intro n
  induction n with
  | zero => intro M hM h; exact h.elim
  | succ n ih =>
    intro M hM h
    unfold w_X8_qEndsPart_0 at h
    refine PW.aload_n (pc := 0) dX8_qEndsPart_0 rfl ?_
    refine PW.getI (pc := 1) dX8_qEndsPart_1 lf_X8_249 (ob hM.1 s_277 (by decide)) fx_8_5 ?_
    refine PW.if_ne (pc := 4) dX8_qEndsPart_4 (t := 51) (by decide) (fun hc => ?_) (fun hc => ?_)
    · have h := h.1 hc
      exact PW.ret0 (pc := 51) dX8_qEndsPart_51 hM.1 rfl ⟨hM, rfl, h⟩
    · have h := h.2 hc
      refine PW.aload_n (pc := 7) dX8_qEndsPart_7 rfl ?_
      refine PW.getI (pc := 8) dX8_qEndsPart_8 lf_X8_340 (ob hM.1 s_277 (by decide)) fx_8_98 ?_
      refine PW.aload_n (pc := 11) dX8_qEndsPart_11 rfl ?_
      refine PW.getI (pc := 12) dX8_qEndsPart_12 lf_X8_346 (ob hM.1 s_277 (by decide)) fx_8_100 ?_
      refine PW.icmp_le (pc := 15) dX8_qEndsPart_15 (t := 51) (by decide) (fun hc => ?_) (fun hc => ?_)
      · have h := h.1 hc
        exact PW.ret0 (pc := 51) dX8_qEndsPart_51 hM.1 rfl ⟨hM, rfl, h⟩
      · have h := h.2 hc
        refine PW.aload_n (pc := 18) dX8_qEndsPart_18 rfl ?_
        refine PW.getR (pc := 19) dX8_qEndsPart_19 (r := 350) lf_X8_237 (ob hM.1 s_277 (by decide)) fx_8_97 (oR_8_97 hM s_277) (pS_ne s_350) ?_
        refine PW.aload_n (pc := 22) dX8_qEndsPart_22 rfl ?_
        refine PW.getI (pc := 23) dX8_qEndsPart_23 lf_X8_340 (ob hM.1 s_277 (by decide)) fx_8_98 ?_
        refine PW.iconst (pc := 26) dX8_qEndsPart_26 (v := 1) (by decide) ?_
        refine PW.isub (pc := 27) dX8_qEndsPart_27 ?_
        obtain ⟨v1, h⟩ := h
        refine PW.iald (pc := 28) dX8_qEndsPart_28 (ar hM.1 s_350) (vpl n_350 v1) ?_
        refine PW.bipush (pc := 29) dX8_qEndsPart_29 (v := 60) (by decide) ?_
        refine PW.icmp_lt (pc := 31) dX8_qEndsPart_31 (t := 51) (by decide) (fun hc => ?_) (fun hc => ?_)
        · have h := h.1 hc
          exact PW.ret0 (pc := 51) dX8_qEndsPart_51 hM.1 rfl ⟨hM, rfl, h⟩
        · have h := h.2 hc
          refine PW.aload_n (pc := 34) dX8_qEndsPart_34 rfl ?_
          refine PW.dupR (pc := 35) dX8_qEndsPart_35 ?_
          refine PW.getI (pc := 36) dX8_qEndsPart_36 lf_X8_343 (ob hM.1 s_277 (by decide)) fx_8_99 ?_
          refine PW.iconst (pc := 39) dX8_qEndsPart_39 (v := 1) (by decide) ?_
          refine PW.isub (pc := 40) dX8_qEndsPart_40 ?_
          refine PW.putI (pc := 41) dX8_qEndsPart_41 lf_X8_343 (ob hM.1 s_277 (by decide)) fx_8_99 fw_8_99 rfl rfl ?_
          refine PW.aload_n (pc := 44) dX8_qEndsPart_44 rfl ?_
          refine PW.inv (m' := mX8_qDrops) (pc := 45) dX8_qEndsPart_45 lm_X8_589 me_X8_qDrops mi_X8_qDrops (ob hM.1 s_277 (by decide)) rfl (As := []) (st := []) rfl (Nat.le_of_ble_eq_true rfl) (Nat.le_of_ble_eq_true rfl) (Nat.le_of_eq hM.1) (Nat.le_refl _) (PW.deep (by decide) (c_X8_qDrops  (hM.same rfl rfl) h)) ?_
          rintro _ M2 ⟨hM, rfl, h⟩
          refine PW.goto (pc := 48) dX8_qEndsPart_48 (t := 0) (by decide) ?_
          exact PW.drop (ih _ hM h) ⟨rfl, trivial⟩
def w_X8_qEndsPart  (M : pm) (Q : pm → Prop) : Prop := ∃ n4, w_X8_qEndsPart_0 n4  M  Q
set_option maxRecDepth 4000 in
theorem c_X8_qEndsPart  {M : pm} {Q : pm → Prop}  (hM : pG M) (h : w_X8_qEndsPart  M Q) : PW mX8_qEndsPart 3 350 0 (pfr mX8_qEndsPart.2.2.1 [.ref 277]) [] M (qV Q) := by
  unfold w_X8_qEndsPart at h
  show PW mX8_qEndsPart 3 350 0 [.ref 277] [] M (qV Q)
  obtain ⟨n4, h⟩ := h
  refine PW.drop (c_X8_qEndsPart_0  n4 _ hM h) ⟨rfl, trivial⟩
def w_X8_qPartTold_118  (x1 : Int32) (x4 : Int32) (t0 : Int32) (M : pm) (r : Int32 → pm → Prop) (k186 : pm → Prop) (Q : pm → Prop) : Prop := ((t0 = (-1) → (w_X8_asksSign 40 M (fun M13 => r x1 M13))) ∧ (¬ t0 = (-1) → ((x4 = 0 → (w_X8_qOpens 22 t0 M (fun M15 => w_X8_asksSign 40 M15 (fun M17 => r x1 M17)))) ∧ (¬ x4 = 0 → (w_X8_qOpens 21 t0 M (fun M19 => w_X8_asksSign 40 M19 (fun M21 => r x1 M21)))))))
set_option maxRecDepth 4000 in
theorem c_X8_qPartTold_118 {r : Int32 → pm → Prop} {k186 : pm → Prop} {Q : pm → Prop} (hr : ∀ (x1 : Int32) (M : pm), pG M → r x1 M → PW mX8_qPartTold 6 350 2 [.ref 277, .int x1, .null, .null, .null, .null] [] M (qV Q)) (hk186 : ∀  (M : pm), pG M → k186  M → PW mX8_qPartTold 6 350 186 [.ref 277, .null, .null, .null, .null, .null] [] M (qV Q)) : ∀ (x1 : Int32) (x4 : Int32) (t0 : Int32) (M : pm), pG M → w_X8_qPartTold_118 x1 x4 t0 M r k186 Q → PW mX8_qPartTold 6 350 118 [.ref 277, .int x1, .null, .null, .int x4, .null] [.int t0] M (qV Q) := by
  intro x1 x4 t0 M hM h
  unfold w_X8_qPartTold_118 at h
  refine PW.istore (pc := 118) dX8_qPartTold_118 (ls' := [.ref 277, .int x1, .null, .null, .int x4, .int t0]) (by decide) rfl rfl ?_
  refine PW.iload (pc := 120) dX8_qPartTold_120 rfl ?_
  refine PW.iconst (pc := 122) dX8_qPartTold_122 (v := (-1)) (by decide) ?_
  refine PW.icmp_eq (pc := 123) dX8_qPartTold_123 (t := 144) (by decide) (fun hc => ?_) (fun hc => ?_)
  · have h := h.1 hc
    refine PW.aload_n (pc := 144) dX8_qPartTold_144 rfl ?_
    refine PW.bipush (pc := 145) dX8_qPartTold_145 (v := 40) (by decide) ?_
    refine PW.inv (m' := mX8_asksSign) (pc := 147) dX8_qPartTold_147 lm_X8_319 me_X8_asksSign mi_X8_asksSign (ob hM.1 s_277 (by decide)) rfl (As := [.int 40]) (st := []) rfl (Nat.le_of_ble_eq_true rfl) (Nat.le_of_ble_eq_true rfl) (Nat.le_of_eq hM.1) (Nat.le_refl _) (PW.deep (by decide) (c_X8_asksSign  hM h)) ?_
    rintro _ M13 ⟨hM, rfl, h⟩
    refine PW.goto (pc := 150) dX8_qPartTold_150 (t := 183) (by decide) ?_
    refine PW.goto (pc := 183) dX8_qPartTold_183 (t := 2) (by decide) ?_
    exact PW.drop (hr _ _ hM h) ⟨rfl, rfl, trivial⟩
  · have h := h.2 hc
    refine PW.aload_n (pc := 126) dX8_qPartTold_126 rfl ?_
    refine PW.iload (pc := 127) dX8_qPartTold_127 rfl ?_
    refine PW.if_eq (pc := 129) dX8_qPartTold_129 (t := 137) (by decide) (fun hc => ?_) (fun hc => ?_)
    · have h := h.1 hc
      refine PW.bipush (pc := 137) dX8_qPartTold_137 (v := 22) (by decide) ?_
      refine PW.iload (pc := 139) dX8_qPartTold_139 rfl ?_
      refine PW.inv (m' := mX8_qOpens) (pc := 141) dX8_qPartTold_141 lm_X8_601 me_X8_qOpens mi_X8_qOpens (ob hM.1 s_277 (by decide)) rfl (As := [.int 22, .int t0]) (st := []) rfl (Nat.le_of_ble_eq_true rfl) (Nat.le_of_ble_eq_true rfl) (Nat.le_of_eq hM.1) (Nat.le_refl _) (PW.deep (by decide) (c_X8_qOpens  hM h)) ?_
      rintro _ M15 ⟨hM, rfl, h⟩
      refine PW.aload_n (pc := 144) dX8_qPartTold_144 rfl ?_
      refine PW.bipush (pc := 145) dX8_qPartTold_145 (v := 40) (by decide) ?_
      refine PW.inv (m' := mX8_asksSign) (pc := 147) dX8_qPartTold_147 lm_X8_319 me_X8_asksSign mi_X8_asksSign (ob hM.1 s_277 (by decide)) rfl (As := [.int 40]) (st := []) rfl (Nat.le_of_ble_eq_true rfl) (Nat.le_of_ble_eq_true rfl) (Nat.le_of_eq hM.1) (Nat.le_refl _) (PW.deep (by decide) (c_X8_asksSign  hM h)) ?_
      rintro _ M17 ⟨hM, rfl, h⟩
      refine PW.goto (pc := 150) dX8_qPartTold_150 (t := 183) (by decide) ?_
      refine PW.goto (pc := 183) dX8_qPartTold_183 (t := 2) (by decide) ?_
      exact PW.drop (hr _ _ hM h) ⟨rfl, rfl, trivial⟩
    · have h := h.2 hc
      refine PW.bipush (pc := 132) dX8_qPartTold_132 (v := 21) (by decide) ?_
      refine PW.goto (pc := 134) dX8_qPartTold_134 (t := 139) (by decide) ?_
      refine PW.iload (pc := 139) dX8_qPartTold_139 rfl ?_
      refine PW.inv (m' := mX8_qOpens) (pc := 141) dX8_qPartTold_141 lm_X8_601 me_X8_qOpens mi_X8_qOpens (ob hM.1 s_277 (by decide)) rfl (As := [.int 21, .int t0]) (st := []) rfl (Nat.le_of_ble_eq_true rfl) (Nat.le_of_ble_eq_true rfl) (Nat.le_of_eq hM.1) (Nat.le_refl _) (PW.deep (by decide) (c_X8_qOpens  hM h)) ?_
      rintro _ M19 ⟨hM, rfl, h⟩
      refine PW.aload_n (pc := 144) dX8_qPartTold_144 rfl ?_
      refine PW.bipush (pc := 145) dX8_qPartTold_145 (v := 40) (by decide) ?_
      refine PW.inv (m' := mX8_asksSign) (pc := 147) dX8_qPartTold_147 lm_X8_319 me_X8_asksSign mi_X8_asksSign (ob hM.1 s_277 (by decide)) rfl (As := [.int 40]) (st := []) rfl (Nat.le_of_ble_eq_true rfl) (Nat.le_of_ble_eq_true rfl) (Nat.le_of_eq hM.1) (Nat.le_refl _) (PW.deep (by decide) (c_X8_asksSign  hM h)) ?_
      rintro _ M21 ⟨hM, rfl, h⟩
      refine PW.goto (pc := 150) dX8_qPartTold_150 (t := 183) (by decide) ?_
      refine PW.goto (pc := 183) dX8_qPartTold_183 (t := 2) (by decide) ?_
      exact PW.drop (hr _ _ hM h) ⟨rfl, rfl, trivial⟩
def w_X8_qPartTold_78  (x1 : Int32) (M : pm) (r : Int32 → pm → Prop) (k186 : pm → Prop) (Q : pm → Prop) : Prop := w_X8_takes 336 M (fun y9 M8 => ((¬ y9 = 0 → (w_X8_look  M8 (fun y12 M11 => ((¬ y12 = 40 → (w_X8_qPartTold_118 x1 y9 (-1) M11 r k186 Q)) ∧ (y12 = 40 → (w_X8_qPartTold_118 x1 y9 (mI M11 277 2) M11 r k186 Q)))))) ∧ (y9 = 0 → (w_X8_asks 337 M8 (fun M23 => w_X8_look  M23 (fun y26 M25 => ((¬ y26 = 40 → (w_X8_qPartTold_118 x1 y9 (-1) M25 r k186 Q)) ∧ (y26 = 40 → (w_X8_qPartTold_118 x1 y9 (mI M25 277 2) M25 r k186 Q)))))))))
set_option maxRecDepth 4000 in
theorem c_X8_qPartTold_78 {r : Int32 → pm → Prop} {k186 : pm → Prop} {Q : pm → Prop} (hr : ∀ (x1 : Int32) (M : pm), pG M → r x1 M → PW mX8_qPartTold 6 350 2 [.ref 277, .int x1, .null, .null, .null, .null] [] M (qV Q)) (hk186 : ∀  (M : pm), pG M → k186  M → PW mX8_qPartTold 6 350 186 [.ref 277, .null, .null, .null, .null, .null] [] M (qV Q)) : ∀ (x1 : Int32) (M : pm), pG M → w_X8_qPartTold_78 x1 M r k186 Q → PW mX8_qPartTold 6 350 78 [.ref 277, .int x1, .null, .null, .null, .null] [] M (qV Q) := by
  intro x1 M hM h
  unfold w_X8_qPartTold_78 at h
  refine PW.aload_n (pc := 78) dX8_qPartTold_78 rfl ?_
  refine PW.aload_n (pc := 79) dX8_qPartTold_79 rfl ?_
  refine PW.getR (pc := 80) dX8_qPartTold_80 (r := 336) lf_X8_195 (ob hM.1 s_277 (by decide)) fx_8_82 (oR_8_82 hM s_277) (pS_ne s_336) ?_
  refine PW.inv (m' := mX8_takes) (pc := 83) dX8_qPartTold_83 lm_X8_276 me_X8_takes mi_X8_takes (ob hM.1 s_277 (by decide)) rfl (As := [.ref 336]) (st := []) rfl (Nat.le_of_ble_eq_true rfl) (Nat.le_of_ble_eq_true rfl) (Nat.le_of_eq hM.1) (Nat.le_refl _) (PW.deep (by decide) (c_X8_takes s_336 hM h)) ?_
  rintro _ M8 ⟨hM, y9, rfl, z10, h⟩
  refine PW.istore (pc := 86) dX8_qPartTold_86 (ls' := [.ref 277, .int x1, .null, .null, .int y9, .null]) (by decide) rfl rfl ?_
  refine PW.iload (pc := 88) dX8_qPartTold_88 rfl ?_
  refine PW.if_ne (pc := 90) dX8_qPartTold_90 (t := 101) (by decide) (fun hc => ?_) (fun hc => ?_)
  · have h := h.1 hc
    refine PW.aload_n (pc := 101) dX8_qPartTold_101 rfl ?_
    refine PW.inv (m' := mX8_look) (pc := 102) dX8_qPartTold_102 lm_X8_261 me_X8_look mi_X8_look (ob hM.1 s_277 (by decide)) rfl (As := []) (st := []) rfl (Nat.le_of_ble_eq_true rfl) (Nat.le_of_ble_eq_true rfl) (Nat.le_of_eq hM.1) (Nat.le_refl _) (PW.deep (by decide) (c_X8_look  hM h)) ?_
    rintro _ M11 ⟨hM, y12, rfl, h⟩
    refine PW.bipush (pc := 105) dX8_qPartTold_105 (v := 40) (by decide) ?_
    refine PW.icmp_ne (pc := 107) dX8_qPartTold_107 (t := 117) (by decide) (fun hc => ?_) (fun hc => ?_)
    · have h := h.1 hc
      refine PW.iconst (pc := 117) dX8_qPartTold_117 (v := (-1)) (by decide) ?_
      exact PW.drop (c_X8_qPartTold_118 hr hk186 _ _ _ _ hM h) ⟨rfl, rfl, rfl, trivial⟩
    · have h := h.2 hc
      refine PW.aload_n (pc := 110) dX8_qPartTold_110 rfl ?_
      refine PW.getI (pc := 111) dX8_qPartTold_111 lf_X8_255 (ob hM.1 s_277 (by decide)) fx_8_2 ?_
      refine PW.goto (pc := 114) dX8_qPartTold_114 (t := 118) (by decide) ?_
      exact PW.drop (c_X8_qPartTold_118 hr hk186 _ _ _ _ hM h) ⟨rfl, rfl, rfl, trivial⟩
  · have h := h.2 hc
    refine PW.aload_n (pc := 93) dX8_qPartTold_93 rfl ?_
    refine PW.aload_n (pc := 94) dX8_qPartTold_94 rfl ?_
    refine PW.getR (pc := 95) dX8_qPartTold_95 (r := 337) lf_X8_198 (ob hM.1 s_277 (by decide)) fx_8_83 (oR_8_83 hM s_277) (pS_ne s_337) ?_
    refine PW.inv (m' := mX8_asks) (pc := 98) dX8_qPartTold_98 lm_X8_311 me_X8_asks mi_X8_asks (ob hM.1 s_277 (by decide)) rfl (As := [.ref 337]) (st := []) rfl (Nat.le_of_ble_eq_true rfl) (Nat.le_of_ble_eq_true rfl) (Nat.le_of_eq hM.1) (Nat.le_refl _) (PW.deep (by decide) (c_X8_asks s_337 hM h)) ?_
    rintro _ M23 ⟨hM, rfl, h⟩
    refine PW.aload_n (pc := 101) dX8_qPartTold_101 rfl ?_
    refine PW.inv (m' := mX8_look) (pc := 102) dX8_qPartTold_102 lm_X8_261 me_X8_look mi_X8_look (ob hM.1 s_277 (by decide)) rfl (As := []) (st := []) rfl (Nat.le_of_ble_eq_true rfl) (Nat.le_of_ble_eq_true rfl) (Nat.le_of_eq hM.1) (Nat.le_refl _) (PW.deep (by decide) (c_X8_look  hM h)) ?_
    rintro _ M25 ⟨hM, y26, rfl, h⟩
    refine PW.bipush (pc := 105) dX8_qPartTold_105 (v := 40) (by decide) ?_
    refine PW.icmp_ne (pc := 107) dX8_qPartTold_107 (t := 117) (by decide) (fun hc => ?_) (fun hc => ?_)
    · have h := h.1 hc
      refine PW.iconst (pc := 117) dX8_qPartTold_117 (v := (-1)) (by decide) ?_
      exact PW.drop (c_X8_qPartTold_118 hr hk186 _ _ _ _ hM h) ⟨rfl, rfl, rfl, trivial⟩
    · have h := h.2 hc
      refine PW.aload_n (pc := 110) dX8_qPartTold_110 rfl ?_
      refine PW.getI (pc := 111) dX8_qPartTold_111 lf_X8_255 (ob hM.1 s_277 (by decide)) fx_8_2 ?_
      refine PW.goto (pc := 114) dX8_qPartTold_114 (t := 118) (by decide) ?_
      exact PW.drop (c_X8_qPartTold_118 hr hk186 _ _ _ _ hM h) ⟨rfl, rfl, rfl, trivial⟩
def w_X8_qPartTold_2 : Nat → Int32 → pm → (pm → Prop) → (pm → Prop) → Prop
  | 0, _, _, _, _ => False
  | n + 1, x1, M, k186, Q => ((x1 = 0 → (k186  M)) ∧ (¬ x1 = 0 → ((¬ (mI M 277 5) = 0 → (k186  M)) ∧ ((mI M 277 5) = 0 → (w_X8_look  M (fun y2 M1 => w_X8_qWordOf 10 11 M1 (fun y4 M3 => ((¬ y2 = 40 → (w_X8_isHere 336 M3 (fun y6 M5 => ((¬ y6 = 0 → (w_X8_qPartTold_78 x1 M5 (fun x1 M => w_X8_qPartTold_2 n x1 M k186 Q) k186 Q)) ∧ (y6 = 0 → (w_X8_isHere 337 M5 (fun y28 M27 => ((y28 = 0 → ((y4 = (-1) → (w_X8_qPartTold_2 n 0 M27 k186 Q)) ∧ (¬ y4 = (-1) → (w_X8_qOpens ((60 + y4) - 10) (mI M27 277 2) M27 (fun M30 => w_X8_qAsksWord y4 M30 (fun M32 => w_X8_qPartTold_2 n x1 M32 k186 Q)))))) ∧ (¬ y28 = 0 → (w_X8_qPartTold_78 x1 M27 (fun x1 M => w_X8_qPartTold_2 n x1 M k186 Q) k186 Q)))))))))) ∧ (y2 = 40 → (w_X8_qOpens 20 (mI M3 277 2) M3 (fun M34 => w_X8_qPartTold_2 n x1 (sI M34 277 2 ((mI M34 277 2) + 1)) k186 Q)))))))))))
set_option maxRecDepth 4000 in
theorem c_X8_qPartTold_2 {k186 : pm → Prop} {Q : pm → Prop} (hk186 : ∀  (M : pm), pG M → k186  M → PW mX8_qPartTold 6 350 186 [.ref 277, .null, .null, .null, .null, .null] [] M (qV Q)) : ∀ (n : Nat) (x1 : Int32) (M : pm), pG M → w_X8_qPartTold_2 n x1 M k186 Q → PW mX8_qPartTold 6 350 2 [.ref 277, .int x1, .null, .null, .null, .null] [] M (qV Q) := by
  intro n
  induction n with
  | zero => intro x1 M hM h; exact h.elim
  | succ n ih =>
    intro x1 M hM h
    unfold w_X8_qPartTold_2 at h
    refine PW.iload_n (pc := 2) dX8_qPartTold_2 rfl ?_
    refine PW.if_eq (pc := 3) dX8_qPartTold_3 (t := 186) (by decide) (fun hc => ?_) (fun hc => ?_)
    · have h := h.1 hc
      exact PW.drop (hk186 _ hM h) ⟨rfl, trivial⟩
    · have h := h.2 hc
      refine PW.aload_n (pc := 6) dX8_qPartTold_6 rfl ?_
      refine PW.getI (pc := 7) dX8_qPartTold_7 lf_X8_249 (ob hM.1 s_277 (by decide)) fx_8_5 ?_
      refine PW.if_ne (pc := 10) dX8_qPartTold_10 (t := 186) (by decide) (fun hc => ?_) (fun hc => ?_)
      · have h := h.1 hc
        exact PW.drop (hk186 _ hM h) ⟨rfl, trivial⟩
      · have h := h.2 hc
        refine PW.aload_n (pc := 13) dX8_qPartTold_13 rfl ?_
        refine PW.inv (m' := mX8_look) (pc := 14) dX8_qPartTold_14 lm_X8_261 me_X8_look mi_X8_look (ob hM.1 s_277 (by decide)) rfl (As := []) (st := []) rfl (Nat.le_of_ble_eq_true rfl) (Nat.le_of_ble_eq_true rfl) (Nat.le_of_eq hM.1) (Nat.le_refl _) (PW.deep (by decide) (c_X8_look  hM h)) ?_
        rintro _ M1 ⟨hM, y2, rfl, h⟩
        refine PW.istore_n (pc := 17) dX8_qPartTold_17 (ls' := [.ref 277, .int x1, .int y2, .null, .null, .null]) (by decide) rfl rfl ?_
        refine PW.aload_n (pc := 18) dX8_qPartTold_18 rfl ?_
        refine PW.bipush (pc := 19) dX8_qPartTold_19 (v := 10) (by decide) ?_
        refine PW.bipush (pc := 21) dX8_qPartTold_21 (v := 11) (by decide) ?_
        refine PW.inv (m' := mX8_qWordOf) (pc := 23) dX8_qPartTold_23 lm_X8_598 me_X8_qWordOf mi_X8_qWordOf (ob hM.1 s_277 (by decide)) rfl (As := [.int 10, .int 11]) (st := []) rfl (Nat.le_of_ble_eq_true rfl) (Nat.le_of_ble_eq_true rfl) (Nat.le_of_eq hM.1) (Nat.le_refl _) (PW.deep (by decide) (c_X8_qWordOf  hM h)) ?_
        rintro _ M3 ⟨hM, y4, rfl, h⟩
        refine PW.istore_n (pc := 26) dX8_qPartTold_26 (ls' := [.ref 277, .int x1, .int y2, .int y4, .null, .null]) (by decide) rfl rfl ?_
        refine PW.iload_n (pc := 27) dX8_qPartTold_27 rfl ?_
        refine PW.bipush (pc := 28) dX8_qPartTold_28 (v := 40) (by decide) ?_
        refine PW.icmp_ne (pc := 30) dX8_qPartTold_30 (t := 56) (by decide) (fun hc => ?_) (fun hc => ?_)
        · have h := h.1 hc
          refine PW.aload_n (pc := 56) dX8_qPartTold_56 rfl ?_
          refine PW.aload_n (pc := 57) dX8_qPartTold_57 rfl ?_
          refine PW.getR (pc := 58) dX8_qPartTold_58 (r := 336) lf_X8_195 (ob hM.1 s_277 (by decide)) fx_8_82 (oR_8_82 hM s_277) (pS_ne s_336) ?_
          refine PW.inv (m' := mX8_isHere) (pc := 61) dX8_qPartTold_61 lm_X8_272 me_X8_isHere mi_X8_isHere (ob hM.1 s_277 (by decide)) rfl (As := [.ref 336]) (st := []) rfl (Nat.le_of_ble_eq_true rfl) (Nat.le_of_ble_eq_true rfl) (Nat.le_of_eq hM.1) (Nat.le_refl _) (PW.deep (by decide) (c_X8_isHere s_336 hM h)) ?_
          rintro _ M5 ⟨hM, y6, rfl, z7, h⟩
          refine PW.if_ne (pc := 64) dX8_qPartTold_64 (t := 78) (by decide) (fun hc => ?_) (fun hc => ?_)
          · have h := h.1 hc
            exact PW.drop (c_X8_qPartTold_78 ih hk186 _ _ hM h) ⟨rfl, rfl, trivial⟩
          · have h := h.2 hc
            refine PW.aload_n (pc := 67) dX8_qPartTold_67 rfl ?_
            refine PW.aload_n (pc := 68) dX8_qPartTold_68 rfl ?_
            refine PW.getR (pc := 69) dX8_qPartTold_69 (r := 337) lf_X8_198 (ob hM.1 s_277 (by decide)) fx_8_83 (oR_8_83 hM s_277) (pS_ne s_337) ?_
            refine PW.inv (m' := mX8_isHere) (pc := 72) dX8_qPartTold_72 lm_X8_272 me_X8_isHere mi_X8_isHere (ob hM.1 s_277 (by decide)) rfl (As := [.ref 337]) (st := []) rfl (Nat.le_of_ble_eq_true rfl) (Nat.le_of_ble_eq_true rfl) (Nat.le_of_eq hM.1) (Nat.le_refl _) (PW.deep (by decide) (c_X8_isHere s_337 hM h)) ?_
            rintro _ M27 ⟨hM, y28, rfl, z29, h⟩
            refine PW.if_eq (pc := 75) dX8_qPartTold_75 (t := 153) (by decide) (fun hc => ?_) (fun hc => ?_)
            · have h := h.1 hc
              refine PW.iload_n (pc := 153) dX8_qPartTold_153 rfl ?_
              refine PW.iconst (pc := 154) dX8_qPartTold_154 (v := (-1)) (by decide) ?_
              refine PW.icmp_eq (pc := 155) dX8_qPartTold_155 (t := 181) (by decide) (fun hc => ?_) (fun hc => ?_)
              · have h := h.1 hc
                refine PW.iconst (pc := 181) dX8_qPartTold_181 (v := 0) (by decide) ?_
                refine PW.istore_n (pc := 182) dX8_qPartTold_182 (ls' := [.ref 277, .int 0, .int y2, .int y4, .null, .null]) (by decide) rfl rfl ?_
                refine PW.goto (pc := 183) dX8_qPartTold_183 (t := 2) (by decide) ?_
                exact PW.drop (ih _ _ hM h) ⟨rfl, rfl, trivial⟩
              · have h := h.2 hc
                refine PW.aload_n (pc := 158) dX8_qPartTold_158 rfl ?_
                refine PW.bipush (pc := 159) dX8_qPartTold_159 (v := 60) (by decide) ?_
                refine PW.iload_n (pc := 161) dX8_qPartTold_161 rfl ?_
                refine PW.iadd (pc := 162) dX8_qPartTold_162 ?_
                refine PW.bipush (pc := 163) dX8_qPartTold_163 (v := 10) (by decide) ?_
                refine PW.isub (pc := 165) dX8_qPartTold_165 ?_
                refine PW.aload_n (pc := 166) dX8_qPartTold_166 rfl ?_
                refine PW.getI (pc := 167) dX8_qPartTold_167 lf_X8_255 (ob hM.1 s_277 (by decide)) fx_8_2 ?_
                refine PW.inv (m' := mX8_qOpens) (pc := 170) dX8_qPartTold_170 lm_X8_601 me_X8_qOpens mi_X8_qOpens (ob hM.1 s_277 (by decide)) rfl (As := [.int ((60 + y4) - 10), .int (mI M27 277 2)]) (st := []) rfl (Nat.le_of_ble_eq_true rfl) (Nat.le_of_ble_eq_true rfl) (Nat.le_of_eq hM.1) (Nat.le_refl _) (PW.deep (by decide) (c_X8_qOpens  hM h)) ?_
                rintro _ M30 ⟨hM, rfl, h⟩
                refine PW.aload_n (pc := 173) dX8_qPartTold_173 rfl ?_
                refine PW.iload_n (pc := 174) dX8_qPartTold_174 rfl ?_
                refine PW.inv (m' := mX8_qAsksWord) (pc := 175) dX8_qPartTold_175 lm_X8_604 me_X8_qAsksWord mi_X8_qAsksWord (ob hM.1 s_277 (by decide)) rfl (As := [.int y4]) (st := []) rfl (Nat.le_of_ble_eq_true rfl) (Nat.le_of_ble_eq_true rfl) (Nat.le_of_eq hM.1) (Nat.le_refl _) (PW.deep (by decide) (c_X8_qAsksWord  hM h)) ?_
                rintro _ M32 ⟨hM, rfl, h⟩
                refine PW.goto (pc := 178) dX8_qPartTold_178 (t := 183) (by decide) ?_
                refine PW.goto (pc := 183) dX8_qPartTold_183 (t := 2) (by decide) ?_
                exact PW.drop (ih _ _ hM h) ⟨rfl, rfl, trivial⟩
            · have h := h.2 hc
              exact PW.drop (c_X8_qPartTold_78 ih hk186 _ _ hM h) ⟨rfl, rfl, trivial⟩
        · have h := h.2 hc
          refine PW.aload_n (pc := 33) dX8_qPartTold_33 rfl ?_
          refine PW.bipush (pc := 34) dX8_qPartTold_34 (v := 20) (by decide) ?_
          refine PW.aload_n (pc := 36) dX8_qPartTold_36 rfl ?_
          refine PW.getI (pc := 37) dX8_qPartTold_37 lf_X8_255 (ob hM.1 s_277 (by decide)) fx_8_2 ?_
          refine PW.inv (m' := mX8_qOpens) (pc := 40) dX8_qPartTold_40 lm_X8_601 me_X8_qOpens mi_X8_qOpens (ob hM.1 s_277 (by decide)) rfl (As := [.int 20, .int (mI M3 277 2)]) (st := []) rfl (Nat.le_of_ble_eq_true rfl) (Nat.le_of_ble_eq_true rfl) (Nat.le_of_eq hM.1) (Nat.le_refl _) (PW.deep (by decide) (c_X8_qOpens  hM h)) ?_
          rintro _ M34 ⟨hM, rfl, h⟩
          refine PW.aload_n (pc := 43) dX8_qPartTold_43 rfl ?_
          refine PW.dupR (pc := 44) dX8_qPartTold_44 ?_
          refine PW.getI (pc := 45) dX8_qPartTold_45 lf_X8_255 (ob hM.1 s_277 (by decide)) fx_8_2 ?_
          refine PW.iconst (pc := 48) dX8_qPartTold_48 (v := 1) (by decide) ?_
          refine PW.iadd (pc := 49) dX8_qPartTold_49 ?_
          refine PW.putI (pc := 50) dX8_qPartTold_50 lf_X8_255 (ob hM.1 s_277 (by decide)) fx_8_2 fw_8_2 rfl rfl ?_
          refine PW.goto (pc := 53) dX8_qPartTold_53 (t := 183) (by decide) ?_
          refine PW.goto (pc := 183) dX8_qPartTold_183 (t := 2) (by decide) ?_
          exact PW.drop (ih _ _ (hM.same rfl rfl) h) ⟨rfl, rfl, trivial⟩
def w_X8_qPartTold_212  (x2 : Int32) (M : pm)  (Q : pm → Prop) : Prop := ((x2 = (-1) → (w_X8_number 0 9999 M (fun y41 M40 => w_X8_qCode (1000 + y41) M40 (fun M42 => w_X8_qEndsPart  M42 (fun M44 => Q M44))))) ∧ (¬ x2 = (-1) → (w_X8_qCode (40 + x2) M (fun M46 => w_X8_qEndsPart  M46 (fun M48 => Q M48)))))
set_option maxRecDepth 4000 in
theorem c_X8_qPartTold_212  {Q : pm → Prop}  : ∀ (x2 : Int32) (M : pm), pG M → w_X8_qPartTold_212 x2 M  Q → PW mX8_qPartTold 6 350 212 [.ref 277, .null, .int x2, .null, .null, .null] [] M (qV Q) := by
  intro x2 M hM h
  unfold w_X8_qPartTold_212 at h
  refine PW.aload_n (pc := 212) dX8_qPartTold_212 rfl ?_
  refine PW.iload_n (pc := 213) dX8_qPartTold_213 rfl ?_
  refine PW.iconst (pc := 214) dX8_qPartTold_214 (v := (-1)) (by decide) ?_
  refine PW.icmp_eq (pc := 215) dX8_qPartTold_215 (t := 225) (by decide) (fun hc => ?_) (fun hc => ?_)
  · have h := h.1 hc
    refine PW.sipush (pc := 225) dX8_qPartTold_225 (v := 1000) (by decide) ?_
    refine PW.aload_n (pc := 228) dX8_qPartTold_228 rfl ?_
    refine PW.iconst (pc := 229) dX8_qPartTold_229 (v := 0) (by decide) ?_
    refine PW.sipush (pc := 230) dX8_qPartTold_230 (v := 9999) (by decide) ?_
    refine PW.inv (m' := mX8_number) (pc := 233) dX8_qPartTold_233 lm_X8_315 me_X8_number mi_X8_number (ob hM.1 s_277 (by decide)) rfl (As := [.int 0, .int 9999]) (st := [.int 1000, .ref 277]) rfl (Nat.le_of_ble_eq_true rfl) (Nat.le_of_ble_eq_true rfl) (Nat.le_of_eq hM.1) (Nat.le_refl _) (PW.deep (by decide) (c_X8_number  hM h)) ?_
    rintro _ M40 ⟨hM, y41, rfl, h⟩
    refine PW.iadd (pc := 236) dX8_qPartTold_236 ?_
    refine PW.inv (m' := mX8_qCode) (pc := 237) dX8_qPartTold_237 lm_X8_583 me_X8_qCode mi_X8_qCode (ob hM.1 s_277 (by decide)) rfl (As := [.int (1000 + y41)]) (st := []) rfl (Nat.le_of_ble_eq_true rfl) (Nat.le_of_ble_eq_true rfl) (Nat.le_of_eq hM.1) (Nat.le_refl _) (PW.deep (by decide) (c_X8_qCode  hM h)) ?_
    rintro _ M42 ⟨hM, rfl, h⟩
    refine PW.aload_n (pc := 240) dX8_qPartTold_240 rfl ?_
    refine PW.inv (m' := mX8_qEndsPart) (pc := 241) dX8_qPartTold_241 lm_X8_607 me_X8_qEndsPart mi_X8_qEndsPart (ob hM.1 s_277 (by decide)) rfl (As := []) (st := []) rfl (Nat.le_of_ble_eq_true rfl) (Nat.le_of_ble_eq_true rfl) (Nat.le_of_eq hM.1) (Nat.le_refl _) (PW.deep (by decide) (c_X8_qEndsPart  hM h)) ?_
    rintro _ M44 ⟨hM, rfl, h⟩
    exact PW.ret0 (pc := 244) dX8_qPartTold_244 hM.1 rfl ⟨hM, rfl, h⟩
  · have h := h.2 hc
    refine PW.bipush (pc := 218) dX8_qPartTold_218 (v := 40) (by decide) ?_
    refine PW.iload_n (pc := 220) dX8_qPartTold_220 rfl ?_
    refine PW.iadd (pc := 221) dX8_qPartTold_221 ?_
    refine PW.goto (pc := 222) dX8_qPartTold_222 (t := 237) (by decide) ?_
    refine PW.inv (m' := mX8_qCode) (pc := 237) dX8_qPartTold_237 lm_X8_583 me_X8_qCode mi_X8_qCode (ob hM.1 s_277 (by decide)) rfl (As := [.int (40 + x2)]) (st := []) rfl (Nat.le_of_ble_eq_true rfl) (Nat.le_of_ble_eq_true rfl) (Nat.le_of_eq hM.1) (Nat.le_refl _) (PW.deep (by decide) (c_X8_qCode  hM h)) ?_
    rintro _ M46 ⟨hM, rfl, h⟩
    refine PW.aload_n (pc := 240) dX8_qPartTold_240 rfl ?_
    refine PW.inv (m' := mX8_qEndsPart) (pc := 241) dX8_qPartTold_241 lm_X8_607 me_X8_qEndsPart mi_X8_qEndsPart (ob hM.1 s_277 (by decide)) rfl (As := []) (st := []) rfl (Nat.le_of_ble_eq_true rfl) (Nat.le_of_ble_eq_true rfl) (Nat.le_of_eq hM.1) (Nat.le_refl _) (PW.deep (by decide) (c_X8_qEndsPart  hM h)) ?_
    rintro _ M48 ⟨hM, rfl, h⟩
    exact PW.ret0 (pc := 244) dX8_qPartTold_244 hM.1 rfl ⟨hM, rfl, h⟩
def w_X8_qPartTold_186   (M : pm)  (Q : pm → Prop) : Prop := (((mI M 277 5) = 0 → (w_X8_qWordOf 0 10 M (fun y39 M38 => ((y39 = (-1) → (w_X8_qPartTold_212 y39 M38  Q)) ∧ (¬ y39 = (-1) → (w_X8_qAsksWord y39 M38 (fun M50 => w_X8_qPartTold_212 y39 M50  Q))))))) ∧ (¬ (mI M 277 5) = 0 → (Q M)))
set_option maxRecDepth 4000 in
theorem c_X8_qPartTold_186  {Q : pm → Prop}  : ∀  (M : pm), pG M → w_X8_qPartTold_186  M  Q → PW mX8_qPartTold 6 350 186 [.ref 277, .null, .null, .null, .null, .null] [] M (qV Q) := by
  intro M hM h
  unfold w_X8_qPartTold_186 at h
  refine PW.aload_n (pc := 186) dX8_qPartTold_186 rfl ?_
  refine PW.getI (pc := 187) dX8_qPartTold_187 lf_X8_249 (ob hM.1 s_277 (by decide)) fx_8_5 ?_
  refine PW.if_eq (pc := 190) dX8_qPartTold_190 (t := 194) (by decide) (fun hc => ?_) (fun hc => ?_)
  · have h := h.1 hc
    refine PW.aload_n (pc := 194) dX8_qPartTold_194 rfl ?_
    refine PW.iconst (pc := 195) dX8_qPartTold_195 (v := 0) (by decide) ?_
    refine PW.bipush (pc := 196) dX8_qPartTold_196 (v := 10) (by decide) ?_
    refine PW.inv (m' := mX8_qWordOf) (pc := 198) dX8_qPartTold_198 lm_X8_598 me_X8_qWordOf mi_X8_qWordOf (ob hM.1 s_277 (by decide)) rfl (As := [.int 0, .int 10]) (st := []) rfl (Nat.le_of_ble_eq_true rfl) (Nat.le_of_ble_eq_true rfl) (Nat.le_of_eq hM.1) (Nat.le_refl _) (PW.deep (by decide) (c_X8_qWordOf  hM h)) ?_
    rintro _ M38 ⟨hM, y39, rfl, h⟩
    refine PW.istore_n (pc := 201) dX8_qPartTold_201 (ls' := [.ref 277, .null, .int y39, .null, .null, .null]) (by decide) rfl rfl ?_
    refine PW.iload_n (pc := 202) dX8_qPartTold_202 rfl ?_
    refine PW.iconst (pc := 203) dX8_qPartTold_203 (v := (-1)) (by decide) ?_
    refine PW.icmp_eq (pc := 204) dX8_qPartTold_204 (t := 212) (by decide) (fun hc => ?_) (fun hc => ?_)
    · have h := h.1 hc
      exact PW.drop (c_X8_qPartTold_212  _ _ hM h) ⟨rfl, rfl, trivial⟩
    · have h := h.2 hc
      refine PW.aload_n (pc := 207) dX8_qPartTold_207 rfl ?_
      refine PW.iload_n (pc := 208) dX8_qPartTold_208 rfl ?_
      refine PW.inv (m' := mX8_qAsksWord) (pc := 209) dX8_qPartTold_209 lm_X8_604 me_X8_qAsksWord mi_X8_qAsksWord (ob hM.1 s_277 (by decide)) rfl (As := [.int y39]) (st := []) rfl (Nat.le_of_ble_eq_true rfl) (Nat.le_of_ble_eq_true rfl) (Nat.le_of_eq hM.1) (Nat.le_refl _) (PW.deep (by decide) (c_X8_qAsksWord  hM h)) ?_
      rintro _ M50 ⟨hM, rfl, h⟩
      exact PW.drop (c_X8_qPartTold_212  _ _ hM h) ⟨rfl, rfl, trivial⟩
  · have h := h.2 hc
    exact PW.ret0 (pc := 193) dX8_qPartTold_193 hM.1 rfl ⟨hM, rfl, h⟩
def w_X8_qPartTold  (M : pm) (Q : pm → Prop) : Prop := ∃ n36, w_X8_qPartTold_2 n36 1 M (fun M37 => w_X8_qPartTold_186  M37  Q) Q
set_option maxRecDepth 4000 in
theorem c_X8_qPartTold  {M : pm} {Q : pm → Prop}  (hM : pG M) (h : w_X8_qPartTold  M Q) : PW mX8_qPartTold 6 350 0 (pfr mX8_qPartTold.2.2.1 [.ref 277]) [] M (qV Q) := by
  unfold w_X8_qPartTold at h
  show PW mX8_qPartTold 6 350 0 [.ref 277, .null, .null, .null, .null, .null] [] M (qV Q)
  refine PW.iconst (pc := 0) dX8_qPartTold_0 (v := 1) (by decide) ?_
  refine PW.istore_n (pc := 1) dX8_qPartTold_1 (ls' := [.ref 277, .int 1, .null, .null, .null, .null]) (by decide) rfl rfl ?_
  obtain ⟨n36, h⟩ := h
  refine PW.drop (c_X8_qPartTold_2 ?_ n36 _ _ hM h) ⟨rfl, rfl, trivial⟩
  · intro M37 hM h
    exact PW.drop (c_X8_qPartTold_186  _ hM h) ⟨rfl, trivial⟩
def w_X8_qIsBracket (x0 : Int32) (M : pm) (Q : Int32 → pm → Prop) : Prop := ((x0 < 20 → (Q 0 M)) ∧ (¬ x0 < 20 → ((24 < x0 → (Q 0 M)) ∧ (¬ 24 < x0 → (Q 1 M)))))
set_option maxRecDepth 4000 in
theorem c_X8_qIsBracket {x0 : Int32} {M : pm} {Q : Int32 → pm → Prop}  (hM : pG M) (h : w_X8_qIsBracket x0 M Q) : PW mX8_qIsBracket 1 350 0 (pfr mX8_qIsBracket.2.2.1 [.int x0]) [] M (qZ Q) := by
  unfold w_X8_qIsBracket at h
  show PW mX8_qIsBracket 1 350 0 [.int x0] [] M (qZ Q)
  refine PW.iload_n (pc := 0) dX8_qIsBracket_0 rfl ?_
  refine PW.bipush (pc := 1) dX8_qIsBracket_1 (v := 20) (by decide) ?_
  refine PW.icmp_lt (pc := 3) dX8_qIsBracket_3 (t := 16) (by decide) (fun hc => ?_) (fun hc => ?_)
  · have h := h.1 hc
    refine PW.iconst (pc := 16) dX8_qIsBracket_16 (v := 0) (by decide) ?_
    exact PW.retI (pc := 17) dX8_qIsBracket_17 hM.1 rfl (bz_n bz0) ⟨hM, _, rfl, bz0, h⟩
  · have h := h.2 hc
    refine PW.iload_n (pc := 6) dX8_qIsBracket_6 rfl ?_
    refine PW.bipush (pc := 7) dX8_qIsBracket_7 (v := 24) (by decide) ?_
    refine PW.icmp_gt (pc := 9) dX8_qIsBracket_9 (t := 16) (by decide) (fun hc => ?_) (fun hc => ?_)
    · have h := h.1 hc
      refine PW.iconst (pc := 16) dX8_qIsBracket_16 (v := 0) (by decide) ?_
      exact PW.retI (pc := 17) dX8_qIsBracket_17 hM.1 rfl (bz_n bz0) ⟨hM, _, rfl, bz0, h⟩
    · have h := h.2 hc
      refine PW.iconst (pc := 12) dX8_qIsBracket_12 (v := 1) (by decide) ?_
      refine PW.goto (pc := 13) dX8_qIsBracket_13 (t := 17) (by decide) ?_
      exact PW.retI (pc := 17) dX8_qIsBracket_17 hM.1 rfl (bz_n bz1) ⟨hM, _, rfl, bz1, h⟩
def w_X8_qBracket_7 : Nat → Int32 → pm → (Int32 → pm → Prop) → Prop
  | 0, _, _, _ => False
  | n + 1, x1, M, Q => ((x1 < (mI M 277 100) → ((x1 < (mI M 277 100) → (Q (-1) M)) ∧ (¬ x1 < (mI M 277 100) → (vp_in x1 1700 ∧ (Q (mI M 350 x1.toNatClampNeg) M))))) ∧ (¬ x1 < (mI M 277 100) → (vp_in x1 1700 ∧ (w_X8_qIsBracket (mI M 350 x1.toNatClampNeg) M (fun y4 M3 => ((¬ y4 = 0 → ((x1 < (mI M3 277 100) → (Q (-1) M3)) ∧ (¬ x1 < (mI M3 277 100) → (vp_in x1 1700 ∧ (Q (mI M3 350 x1.toNatClampNeg) M3))))) ∧ (y4 = 0 → (w_X8_qBracket_7 n (x1 + (-1)) M3 Q))))))))
set_option maxRecDepth 4000 in
theorem c_X8_qBracket_7  {Q : Int32 → pm → Prop}  : ∀ (n : Nat) (x1 : Int32) (M : pm), pG M → w_X8_qBracket_7 n x1 M  Q → PW mX8_qBracket 2 350 7 [.ref 277, .int x1] [] M (qI Q) := by
  intro n
  induction n with
  | zero => intro x1 M hM h; exact h.elim
  | succ n ih =>
    intro x1 M hM h
    unfold w_X8_qBracket_7 at h
    refine PW.iload_n (pc := 7) dX8_qBracket_7 rfl ?_
    refine PW.aload_n (pc := 8) dX8_qBracket_8 rfl ?_
    refine PW.getI (pc := 9) dX8_qBracket_9 lf_X8_346 (ob hM.1 s_277 (by decide)) fx_8_100 ?_
    refine PW.icmp_lt (pc := 12) dX8_qBracket_12 (t := 33) (by decide) (fun hc => ?_) (fun hc => ?_)
    · have h := h.1 hc
      refine PW.iload_n (pc := 33) dX8_qBracket_33 rfl ?_
      refine PW.aload_n (pc := 34) dX8_qBracket_34 rfl ?_
      refine PW.getI (pc := 35) dX8_qBracket_35 lf_X8_346 (ob hM.1 s_277 (by decide)) fx_8_100 ?_
      refine PW.icmp_lt (pc := 38) dX8_qBracket_38 (t := 50) (by decide) (fun hc => ?_) (fun hc => ?_)
      · have h := h.1 hc
        refine PW.iconst (pc := 50) dX8_qBracket_50 (v := (-1)) (by decide) ?_
        exact PW.retI (pc := 51) dX8_qBracket_51 hM.1 rfl rfl ⟨hM, _, rfl, h⟩
      · have h := h.2 hc
        refine PW.aload_n (pc := 41) dX8_qBracket_41 rfl ?_
        refine PW.getR (pc := 42) dX8_qBracket_42 (r := 350) lf_X8_237 (ob hM.1 s_277 (by decide)) fx_8_97 (oR_8_97 hM s_277) (pS_ne s_350) ?_
        refine PW.iload_n (pc := 45) dX8_qBracket_45 rfl ?_
        obtain ⟨v1, h⟩ := h
        refine PW.iald (pc := 46) dX8_qBracket_46 (ar hM.1 s_350) (vpl n_350 v1) ?_
        refine PW.goto (pc := 47) dX8_qBracket_47 (t := 51) (by decide) ?_
        exact PW.retI (pc := 51) dX8_qBracket_51 hM.1 rfl rfl ⟨hM, _, rfl, h⟩
    · have h := h.2 hc
      refine PW.aload_n (pc := 15) dX8_qBracket_15 rfl ?_
      refine PW.getR (pc := 16) dX8_qBracket_16 (r := 350) lf_X8_237 (ob hM.1 s_277 (by decide)) fx_8_97 (oR_8_97 hM s_277) (pS_ne s_350) ?_
      refine PW.iload_n (pc := 19) dX8_qBracket_19 rfl ?_
      obtain ⟨v2, h⟩ := h
      refine PW.iald (pc := 20) dX8_qBracket_20 (ar hM.1 s_350) (vpl n_350 v2) ?_
      refine PW.ins (m' := mX8_qIsBracket) (pc := 21) dX8_qBracket_21 lm_X8_586 me_X8_qIsBracket ms_X8_qIsBracket (As := [.int (mI M 350 x1.toNatClampNeg)]) (st := []) rfl (Nat.le_of_ble_eq_true rfl) (Nat.le_of_ble_eq_true rfl) (Nat.le_of_eq hM.1) (Nat.le_refl _) (PW.deep (by decide) (c_X8_qIsBracket  hM h)) ?_
      rintro _ M3 ⟨hM, y4, rfl, z5, h⟩
      refine PW.if_ne (pc := 24) dX8_qBracket_24 (t := 33) (by decide) (fun hc => ?_) (fun hc => ?_)
      · have h := h.1 hc
        refine PW.iload_n (pc := 33) dX8_qBracket_33 rfl ?_
        refine PW.aload_n (pc := 34) dX8_qBracket_34 rfl ?_
        refine PW.getI (pc := 35) dX8_qBracket_35 lf_X8_346 (ob hM.1 s_277 (by decide)) fx_8_100 ?_
        refine PW.icmp_lt (pc := 38) dX8_qBracket_38 (t := 50) (by decide) (fun hc => ?_) (fun hc => ?_)
        · have h := h.1 hc
          refine PW.iconst (pc := 50) dX8_qBracket_50 (v := (-1)) (by decide) ?_
          exact PW.retI (pc := 51) dX8_qBracket_51 hM.1 rfl rfl ⟨hM, _, rfl, h⟩
        · have h := h.2 hc
          refine PW.aload_n (pc := 41) dX8_qBracket_41 rfl ?_
          refine PW.getR (pc := 42) dX8_qBracket_42 (r := 350) lf_X8_237 (ob hM.1 s_277 (by decide)) fx_8_97 (oR_8_97 hM s_277) (pS_ne s_350) ?_
          refine PW.iload_n (pc := 45) dX8_qBracket_45 rfl ?_
          obtain ⟨v6, h⟩ := h
          refine PW.iald (pc := 46) dX8_qBracket_46 (ar hM.1 s_350) (vpl n_350 v6) ?_
          refine PW.goto (pc := 47) dX8_qBracket_47 (t := 51) (by decide) ?_
          exact PW.retI (pc := 51) dX8_qBracket_51 hM.1 rfl rfl ⟨hM, _, rfl, h⟩
      · have h := h.2 hc
        refine PW.iinc (pc := 27) dX8_qBracket_27 (v := (x1 + (-1))) (ls' := [.ref 277, .int (x1 + (-1))]) rfl rfl (by decide) rfl rfl ?_
        refine PW.goto (pc := 30) dX8_qBracket_30 (t := 7) (by decide) ?_
        exact PW.drop (ih _ _ hM h) ⟨rfl, rfl, trivial⟩
def w_X8_qBracket  (M : pm) (Q : Int32 → pm → Prop) : Prop := ∃ n7, w_X8_qBracket_7 n7 ((mI M 277 98) - 1) M  Q
set_option maxRecDepth 4000 in
theorem c_X8_qBracket  {M : pm} {Q : Int32 → pm → Prop}  (hM : pG M) (h : w_X8_qBracket  M Q) : PW mX8_qBracket 2 350 0 (pfr mX8_qBracket.2.2.1 [.ref 277]) [] M (qI Q) := by
  unfold w_X8_qBracket at h
  show PW mX8_qBracket 2 350 0 [.ref 277, .null] [] M (qI Q)
  refine PW.aload_n (pc := 0) dX8_qBracket_0 rfl ?_
  refine PW.getI (pc := 1) dX8_qBracket_1 lf_X8_340 (ob hM.1 s_277 (by decide)) fx_8_98 ?_
  refine PW.iconst (pc := 4) dX8_qBracket_4 (v := 1) (by decide) ?_
  refine PW.isub (pc := 5) dX8_qBracket_5 ?_
  refine PW.istore_n (pc := 6) dX8_qBracket_6 (ls' := [.ref 277, .int ((mI M 277 98) - 1)]) (by decide) rfl rfl ?_
  obtain ⟨n7, h⟩ := h
  refine PW.drop (c_X8_qBracket_7  n7 _ _ hM h) ⟨rfl, rfl, trivial⟩
def w_X8_qDropsToBracket_0 : Nat → pm → (pm → Prop) → Prop
  | 0, _, _ => False
  | n + 1, M, Q => (((mI M 277 98) ≤ (mI M 277 100) → (Q M)) ∧ (¬ (mI M 277 98) ≤ (mI M 277 100) → (vp_in ((mI M 277 98) - 1) 1700 ∧ (w_X8_qIsBracket (mI M 350 (((mI M 277 98) - 1).toNatClampNeg)) M (fun y3 M2 => ((¬ y3 = 0 → (Q M2)) ∧ (y3 = 0 → (w_X8_qDrops  M2 (fun M5 => w_X8_qDropsToBracket_0 n M5 Q)))))))))
set_option maxRecDepth 4000 in
theorem c_X8_qDropsToBracket_0  {Q : pm → Prop}  : ∀ (n : Nat)  (M : pm), pG M → w_X8_qDropsToBracket_0 n  M  Q → PW mX8_qDropsToBracket 3 350 0 [.ref 277] [] M (qV Q) := by
  intro n
  induction n with
  | zero => intro M hM h; exact h.elim
  | succ n ih =>
    intro M hM h
    unfold w_X8_qDropsToBracket_0 at h
    refine PW.aload_n (pc := 0) dX8_qDropsToBracket_0 rfl ?_
    refine PW.getI (pc := 1) dX8_qDropsToBracket_1 lf_X8_340 (ob hM.1 s_277 (by decide)) fx_8_98 ?_
    refine PW.aload_n (pc := 4) dX8_qDropsToBracket_4 rfl ?_
    refine PW.getI (pc := 5) dX8_qDropsToBracket_5 lf_X8_346 (ob hM.1 s_277 (by decide)) fx_8_100 ?_
    refine PW.icmp_le (pc := 8) dX8_qDropsToBracket_8 (t := 35) (by decide) (fun hc => ?_) (fun hc => ?_)
    · have h := h.1 hc
      exact PW.ret0 (pc := 35) dX8_qDropsToBracket_35 hM.1 rfl ⟨hM, rfl, h⟩
    · have h := h.2 hc
      refine PW.aload_n (pc := 11) dX8_qDropsToBracket_11 rfl ?_
      refine PW.getR (pc := 12) dX8_qDropsToBracket_12 (r := 350) lf_X8_237 (ob hM.1 s_277 (by decide)) fx_8_97 (oR_8_97 hM s_277) (pS_ne s_350) ?_
      refine PW.aload_n (pc := 15) dX8_qDropsToBracket_15 rfl ?_
      refine PW.getI (pc := 16) dX8_qDropsToBracket_16 lf_X8_340 (ob hM.1 s_277 (by decide)) fx_8_98 ?_
      refine PW.iconst (pc := 19) dX8_qDropsToBracket_19 (v := 1) (by decide) ?_
      refine PW.isub (pc := 20) dX8_qDropsToBracket_20 ?_
      obtain ⟨v1, h⟩ := h
      refine PW.iald (pc := 21) dX8_qDropsToBracket_21 (ar hM.1 s_350) (vpl n_350 v1) ?_
      refine PW.ins (m' := mX8_qIsBracket) (pc := 22) dX8_qDropsToBracket_22 lm_X8_586 me_X8_qIsBracket ms_X8_qIsBracket (As := [.int (mI M 350 (((mI M 277 98) - 1).toNatClampNeg))]) (st := []) rfl (Nat.le_of_ble_eq_true rfl) (Nat.le_of_ble_eq_true rfl) (Nat.le_of_eq hM.1) (Nat.le_refl _) (PW.deep (by decide) (c_X8_qIsBracket  hM h)) ?_
      rintro _ M2 ⟨hM, y3, rfl, z4, h⟩
      refine PW.if_ne (pc := 25) dX8_qDropsToBracket_25 (t := 35) (by decide) (fun hc => ?_) (fun hc => ?_)
      · have h := h.1 hc
        exact PW.ret0 (pc := 35) dX8_qDropsToBracket_35 hM.1 rfl ⟨hM, rfl, h⟩
      · have h := h.2 hc
        refine PW.aload_n (pc := 28) dX8_qDropsToBracket_28 rfl ?_
        refine PW.inv (m' := mX8_qDrops) (pc := 29) dX8_qDropsToBracket_29 lm_X8_589 me_X8_qDrops mi_X8_qDrops (ob hM.1 s_277 (by decide)) rfl (As := []) (st := []) rfl (Nat.le_of_ble_eq_true rfl) (Nat.le_of_ble_eq_true rfl) (Nat.le_of_eq hM.1) (Nat.le_refl _) (PW.deep (by decide) (c_X8_qDrops  hM h)) ?_
        rintro _ M5 ⟨hM, rfl, h⟩
        refine PW.goto (pc := 32) dX8_qDropsToBracket_32 (t := 0) (by decide) ?_
        exact PW.drop (ih _ hM h) ⟨rfl, trivial⟩
def w_X8_qDropsToBracket  (M : pm) (Q : pm → Prop) : Prop := ∃ n7, w_X8_qDropsToBracket_0 n7  M  Q
set_option maxRecDepth 4000 in
theorem c_X8_qDropsToBracket  {M : pm} {Q : pm → Prop}  (hM : pG M) (h : w_X8_qDropsToBracket  M Q) : PW mX8_qDropsToBracket 3 350 0 (pfr mX8_qDropsToBracket.2.2.1 [.ref 277]) [] M (qV Q) := by
  unfold w_X8_qDropsToBracket at h
  show PW mX8_qDropsToBracket 3 350 0 [.ref 277] [] M (qV Q)
  obtain ⟨n7, h⟩ := h
  refine PW.drop (c_X8_qDropsToBracket_0  n7 _ hM h) ⟨rfl, trivial⟩
def w_X8_qIsOn (x1 : Int32) (M : pm) (Q : Int32 → pm → Prop) : Prop := (((mI M 277 98) ≤ 0 → (Q 0 M)) ∧ (¬ (mI M 277 98) ≤ 0 → (vp_in ((mI M 277 98) - 1) 1700 ∧ ((¬ (mI M 350 (((mI M 277 98) - 1).toNatClampNeg)) = x1 → (Q 0 M)) ∧ ((mI M 350 (((mI M 277 98) - 1).toNatClampNeg)) = x1 → (Q 1 M))))))
set_option maxRecDepth 4000 in
theorem c_X8_qIsOn {x1 : Int32} {M : pm} {Q : Int32 → pm → Prop}  (hM : pG M) (h : w_X8_qIsOn x1 M Q) : PW mX8_qIsOn 1 350 0 (pfr mX8_qIsOn.2.2.1 [.ref 277, .int x1]) [] M (qZ Q) := by
  unfold w_X8_qIsOn at h
  show PW mX8_qIsOn 1 350 0 [.ref 277, .int x1] [] M (qZ Q)
  refine PW.aload_n (pc := 0) dX8_qIsOn_0 rfl ?_
  refine PW.getI (pc := 1) dX8_qIsOn_1 lf_X8_340 (ob hM.1 s_277 (by decide)) fx_8_98 ?_
  refine PW.if_le (pc := 4) dX8_qIsOn_4 (t := 26) (by decide) (fun hc => ?_) (fun hc => ?_)
  · have h := h.1 hc
    refine PW.iconst (pc := 26) dX8_qIsOn_26 (v := 0) (by decide) ?_
    exact PW.retI (pc := 27) dX8_qIsOn_27 hM.1 rfl (bz_n bz0) ⟨hM, _, rfl, bz0, h⟩
  · have h := h.2 hc
    refine PW.aload_n (pc := 7) dX8_qIsOn_7 rfl ?_
    refine PW.getR (pc := 8) dX8_qIsOn_8 (r := 350) lf_X8_237 (ob hM.1 s_277 (by decide)) fx_8_97 (oR_8_97 hM s_277) (pS_ne s_350) ?_
    refine PW.aload_n (pc := 11) dX8_qIsOn_11 rfl ?_
    refine PW.getI (pc := 12) dX8_qIsOn_12 lf_X8_340 (ob hM.1 s_277 (by decide)) fx_8_98 ?_
    refine PW.iconst (pc := 15) dX8_qIsOn_15 (v := 1) (by decide) ?_
    refine PW.isub (pc := 16) dX8_qIsOn_16 ?_
    obtain ⟨v1, h⟩ := h
    refine PW.iald (pc := 17) dX8_qIsOn_17 (ar hM.1 s_350) (vpl n_350 v1) ?_
    refine PW.iload_n (pc := 18) dX8_qIsOn_18 rfl ?_
    refine PW.icmp_ne (pc := 19) dX8_qIsOn_19 (t := 26) (by decide) (fun hc => ?_) (fun hc => ?_)
    · have h := h.1 hc
      refine PW.iconst (pc := 26) dX8_qIsOn_26 (v := 0) (by decide) ?_
      exact PW.retI (pc := 27) dX8_qIsOn_27 hM.1 rfl (bz_n bz0) ⟨hM, _, rfl, bz0, h⟩
    · have h := h.2 hc
      refine PW.iconst (pc := 22) dX8_qIsOn_22 (v := 1) (by decide) ?_
      refine PW.goto (pc := 23) dX8_qIsOn_23 (t := 27) (by decide) ?_
      exact PW.retI (pc := 27) dX8_qIsOn_27 hM.1 rfl (bz_n bz1) ⟨hM, _, rfl, bz1, h⟩
def w_X8_qGoesOn_43   (M : pm) (r : pm → Prop) (k122 : pm → Prop) (Q : Int32 → pm → Prop) : Prop := w_X8_qDropsToBracket  (sI M 277 2 ((mI M 277 2) + 1)) (fun M5 => vp_in ((mI M5 277 98) - 1) 1700 ∧ (((mI M5 350 (((mI M5 277 98) - 1).toNatClampNeg)) = 20 → (w_X8_qEndsPart  (sI (sI M5 277 98 ((mI M5 277 98) - 1)) 277 99 ((mI M5 277 99) - 1)) (fun M8 => r  M8))) ∧ (¬ (mI M5 350 (((mI M5 277 98) - 1).toNatClampNeg)) = 20 → (vp_in ((mI M5 277 98) - 1) 1700 ∧ ((¬ (mI M5 350 (((mI M5 277 98) - 1).toNatClampNeg)) = 23 → (w_X8_qCode 6 (sI (sI M5 277 98 ((mI M5 277 98) - 1)) 277 99 ((mI M5 277 99) - 1)) (fun M11 => w_X8_qEndsPart  M11 (fun M13 => r  M13)))) ∧ ((mI M5 350 (((mI M5 277 98) - 1).toNatClampNeg)) = 23 → (w_X8_qCode 5 (sI (sI M5 277 98 ((mI M5 277 98) - 1)) 277 99 ((mI M5 277 99) - 1)) (fun M15 => w_X8_qEndsPart  M15 (fun M17 => r  M17)))))))))
set_option maxRecDepth 4000 in
theorem c_X8_qGoesOn_43 {r : pm → Prop} {k122 : pm → Prop} {Q : Int32 → pm → Prop} (hr : ∀  (M : pm), pG M → r  M → PW mX8_qGoesOn 4 350 0 [.ref 277, .null] [] M (qZ Q)) (hk122 : ∀  (M : pm), pG M → k122  M → PW mX8_qGoesOn 4 350 122 [.ref 277, .null] [] M (qZ Q)) : ∀  (M : pm), pG M → w_X8_qGoesOn_43  M r k122 Q → PW mX8_qGoesOn 4 350 43 [.ref 277, .null] [] M (qZ Q) := by
  intro M hM h
  unfold w_X8_qGoesOn_43 at h
  refine PW.aload_n (pc := 43) dX8_qGoesOn_43 rfl ?_
  refine PW.dupR (pc := 44) dX8_qGoesOn_44 ?_
  refine PW.getI (pc := 45) dX8_qGoesOn_45 lf_X8_255 (ob hM.1 s_277 (by decide)) fx_8_2 ?_
  refine PW.iconst (pc := 48) dX8_qGoesOn_48 (v := 1) (by decide) ?_
  refine PW.iadd (pc := 49) dX8_qGoesOn_49 ?_
  refine PW.putI (pc := 50) dX8_qGoesOn_50 lf_X8_255 (ob hM.1 s_277 (by decide)) fx_8_2 fw_8_2 rfl rfl ?_
  refine PW.aload_n (pc := 53) dX8_qGoesOn_53 rfl ?_
  refine PW.inv (m' := mX8_qDropsToBracket) (pc := 54) dX8_qGoesOn_54 lm_X8_613 me_X8_qDropsToBracket mi_X8_qDropsToBracket (ob hM.1 s_277 (by decide)) rfl (As := []) (st := []) rfl (Nat.le_of_ble_eq_true rfl) (Nat.le_of_ble_eq_true rfl) (Nat.le_of_eq hM.1) (Nat.le_refl _) (PW.deep (by decide) (c_X8_qDropsToBracket  (hM.same rfl rfl) h)) ?_
  rintro _ M5 ⟨hM, rfl, h⟩
  refine PW.aload_n (pc := 57) dX8_qGoesOn_57 rfl ?_
  refine PW.dupR (pc := 58) dX8_qGoesOn_58 ?_
  refine PW.getI (pc := 59) dX8_qGoesOn_59 lf_X8_340 (ob hM.1 s_277 (by decide)) fx_8_98 ?_
  refine PW.iconst (pc := 62) dX8_qGoesOn_62 (v := 1) (by decide) ?_
  refine PW.isub (pc := 63) dX8_qGoesOn_63 ?_
  refine PW.putI (pc := 64) dX8_qGoesOn_64 lf_X8_340 (ob hM.1 s_277 (by decide)) fx_8_98 fw_8_98 rfl rfl ?_
  refine PW.aload_n (pc := 67) dX8_qGoesOn_67 rfl ?_
  refine PW.dupR (pc := 68) dX8_qGoesOn_68 ?_
  refine PW.getI (pc := 69) dX8_qGoesOn_69 lf_X8_343 (ob hM.1 s_277 (by decide)) fx_8_99 ?_
  refine PW.iconst (pc := 72) dX8_qGoesOn_72 (v := 1) (by decide) ?_
  refine PW.isub (pc := 73) dX8_qGoesOn_73 ?_
  refine PW.putI (pc := 74) dX8_qGoesOn_74 lf_X8_343 (ob hM.1 s_277 (by decide)) fx_8_99 fw_8_99 rfl rfl ?_
  refine PW.aload_n (pc := 77) dX8_qGoesOn_77 rfl ?_
  refine PW.getR (pc := 78) dX8_qGoesOn_78 (r := 350) lf_X8_237 (ob hM.1 s_277 (by decide)) fx_8_97 (oR_8_97 (hM.same rfl rfl) s_277) (pS_ne s_350) ?_
  refine PW.aload_n (pc := 81) dX8_qGoesOn_81 rfl ?_
  refine PW.getI (pc := 82) dX8_qGoesOn_82 lf_X8_340 (ob hM.1 s_277 (by decide)) fx_8_98 ?_
  obtain ⟨v7, h⟩ := h
  refine PW.iald (pc := 85) dX8_qGoesOn_85 (ar hM.1 s_350) (vpl n_350 v7) ?_
  refine PW.bipush (pc := 86) dX8_qGoesOn_86 (v := 20) (by decide) ?_
  refine PW.icmp_eq (pc := 88) dX8_qGoesOn_88 (t := 115) (by decide) (fun hc => ?_) (fun hc => ?_)
  · have h := h.1 hc
    refine PW.aload_n (pc := 115) dX8_qGoesOn_115 rfl ?_
    refine PW.inv (m' := mX8_qEndsPart) (pc := 116) dX8_qGoesOn_116 lm_X8_607 me_X8_qEndsPart mi_X8_qEndsPart (ob hM.1 s_277 (by decide)) rfl (As := []) (st := []) rfl (Nat.le_of_ble_eq_true rfl) (Nat.le_of_ble_eq_true rfl) (Nat.le_of_eq hM.1) (Nat.le_refl _) (PW.deep (by decide) (c_X8_qEndsPart  (hM.same rfl rfl) h)) ?_
    rintro _ M8 ⟨hM, rfl, h⟩
    refine PW.goto (pc := 119) dX8_qGoesOn_119 (t := 0) (by decide) ?_
    exact PW.drop (hr _ hM h) ⟨rfl, trivial⟩
  · have h := h.2 hc
    refine PW.aload_n (pc := 91) dX8_qGoesOn_91 rfl ?_
    refine PW.aload_n (pc := 92) dX8_qGoesOn_92 rfl ?_
    refine PW.getR (pc := 93) dX8_qGoesOn_93 (r := 350) lf_X8_237 (ob hM.1 s_277 (by decide)) fx_8_97 (oR_8_97 (hM.same rfl rfl) s_277) (pS_ne s_350) ?_
    refine PW.aload_n (pc := 96) dX8_qGoesOn_96 rfl ?_
    refine PW.getI (pc := 97) dX8_qGoesOn_97 lf_X8_340 (ob hM.1 s_277 (by decide)) fx_8_98 ?_
    obtain ⟨v10, h⟩ := h
    refine PW.iald (pc := 100) dX8_qGoesOn_100 (ar hM.1 s_350) (vpl n_350 v10) ?_
    refine PW.bipush (pc := 101) dX8_qGoesOn_101 (v := 23) (by decide) ?_
    refine PW.icmp_ne (pc := 103) dX8_qGoesOn_103 (t := 110) (by decide) (fun hc => ?_) (fun hc => ?_)
    · have h := h.1 hc
      refine PW.bipush (pc := 110) dX8_qGoesOn_110 (v := 6) (by decide) ?_
      refine PW.inv (m' := mX8_qCode) (pc := 112) dX8_qGoesOn_112 lm_X8_583 me_X8_qCode mi_X8_qCode (ob hM.1 s_277 (by decide)) rfl (As := [.int 6]) (st := []) rfl (Nat.le_of_ble_eq_true rfl) (Nat.le_of_ble_eq_true rfl) (Nat.le_of_eq hM.1) (Nat.le_refl _) (PW.deep (by decide) (c_X8_qCode  (hM.same rfl rfl) h)) ?_
      rintro _ M11 ⟨hM, rfl, h⟩
      refine PW.aload_n (pc := 115) dX8_qGoesOn_115 rfl ?_
      refine PW.inv (m' := mX8_qEndsPart) (pc := 116) dX8_qGoesOn_116 lm_X8_607 me_X8_qEndsPart mi_X8_qEndsPart (ob hM.1 s_277 (by decide)) rfl (As := []) (st := []) rfl (Nat.le_of_ble_eq_true rfl) (Nat.le_of_ble_eq_true rfl) (Nat.le_of_eq hM.1) (Nat.le_refl _) (PW.deep (by decide) (c_X8_qEndsPart  hM h)) ?_
      rintro _ M13 ⟨hM, rfl, h⟩
      refine PW.goto (pc := 119) dX8_qGoesOn_119 (t := 0) (by decide) ?_
      exact PW.drop (hr _ hM h) ⟨rfl, trivial⟩
    · have h := h.2 hc
      refine PW.iconst (pc := 106) dX8_qGoesOn_106 (v := 5) (by decide) ?_
      refine PW.goto (pc := 107) dX8_qGoesOn_107 (t := 112) (by decide) ?_
      refine PW.inv (m' := mX8_qCode) (pc := 112) dX8_qGoesOn_112 lm_X8_583 me_X8_qCode mi_X8_qCode (ob hM.1 s_277 (by decide)) rfl (As := [.int 5]) (st := []) rfl (Nat.le_of_ble_eq_true rfl) (Nat.le_of_ble_eq_true rfl) (Nat.le_of_eq hM.1) (Nat.le_refl _) (PW.deep (by decide) (c_X8_qCode  (hM.same rfl rfl) h)) ?_
      rintro _ M15 ⟨hM, rfl, h⟩
      refine PW.aload_n (pc := 115) dX8_qGoesOn_115 rfl ?_
      refine PW.inv (m' := mX8_qEndsPart) (pc := 116) dX8_qGoesOn_116 lm_X8_607 me_X8_qEndsPart mi_X8_qEndsPart (ob hM.1 s_277 (by decide)) rfl (As := []) (st := []) rfl (Nat.le_of_ble_eq_true rfl) (Nat.le_of_ble_eq_true rfl) (Nat.le_of_eq hM.1) (Nat.le_refl _) (PW.deep (by decide) (c_X8_qEndsPart  hM h)) ?_
      rintro _ M17 ⟨hM, rfl, h⟩
      refine PW.goto (pc := 119) dX8_qGoesOn_119 (t := 0) (by decide) ?_
      exact PW.drop (hr _ hM h) ⟨rfl, trivial⟩
def w_X8_qGoesOn_0 : Nat → pm → (pm → Prop) → (Int32 → pm → Prop) → Prop
  | 0, _, _, _ => False
  | n + 1, M, k122, Q => ((¬ (mI M 277 5) = 0 → (k122  M)) ∧ ((mI M 277 5) = 0 → (w_X8_look  M (fun y2 M1 => ((¬ y2 = 41 → (k122  M1)) ∧ (y2 = 41 → (w_X8_qBracket  M1 (fun y4 M3 => ((y4 = 20 → (w_X8_qGoesOn_43  M3 (fun  M => w_X8_qGoesOn_0 n  M k122 Q) k122 Q)) ∧ (¬ y4 = 20 → (w_X8_qBracket  M3 (fun y20 M19 => ((y20 = 23 → (w_X8_qGoesOn_43  M19 (fun  M => w_X8_qGoesOn_0 n  M k122 Q) k122 Q)) ∧ (¬ y20 = 23 → (w_X8_qBracket  M19 (fun y22 M21 => ((¬ y22 = 24 → (k122  M21)) ∧ (y22 = 24 → (w_X8_qGoesOn_43  M21 (fun  M => w_X8_qGoesOn_0 n  M k122 Q) k122 Q)))))))))))))))))))
set_option maxRecDepth 4000 in
theorem c_X8_qGoesOn_0 {k122 : pm → Prop} {Q : Int32 → pm → Prop} (hk122 : ∀  (M : pm), pG M → k122  M → PW mX8_qGoesOn 4 350 122 [.ref 277, .null] [] M (qZ Q)) : ∀ (n : Nat)  (M : pm), pG M → w_X8_qGoesOn_0 n  M k122 Q → PW mX8_qGoesOn 4 350 0 [.ref 277, .null] [] M (qZ Q) := by
  intro n
  induction n with
  | zero => intro M hM h; exact h.elim
  | succ n ih =>
    intro M hM h
    unfold w_X8_qGoesOn_0 at h
    refine PW.aload_n (pc := 0) dX8_qGoesOn_0 rfl ?_
    refine PW.getI (pc := 1) dX8_qGoesOn_1 lf_X8_249 (ob hM.1 s_277 (by decide)) fx_8_5 ?_
    refine PW.if_ne (pc := 4) dX8_qGoesOn_4 (t := 122) (by decide) (fun hc => ?_) (fun hc => ?_)
    · have h := h.1 hc
      exact PW.drop (hk122 _ hM h) ⟨rfl, trivial⟩
    · have h := h.2 hc
      refine PW.aload_n (pc := 7) dX8_qGoesOn_7 rfl ?_
      refine PW.inv (m' := mX8_look) (pc := 8) dX8_qGoesOn_8 lm_X8_261 me_X8_look mi_X8_look (ob hM.1 s_277 (by decide)) rfl (As := []) (st := []) rfl (Nat.le_of_ble_eq_true rfl) (Nat.le_of_ble_eq_true rfl) (Nat.le_of_eq hM.1) (Nat.le_refl _) (PW.deep (by decide) (c_X8_look  hM h)) ?_
      rintro _ M1 ⟨hM, y2, rfl, h⟩
      refine PW.bipush (pc := 11) dX8_qGoesOn_11 (v := 41) (by decide) ?_
      refine PW.icmp_ne (pc := 13) dX8_qGoesOn_13 (t := 122) (by decide) (fun hc => ?_) (fun hc => ?_)
      · have h := h.1 hc
        exact PW.drop (hk122 _ hM h) ⟨rfl, trivial⟩
      · have h := h.2 hc
        refine PW.aload_n (pc := 16) dX8_qGoesOn_16 rfl ?_
        refine PW.inv (m' := mX8_qBracket) (pc := 17) dX8_qGoesOn_17 lm_X8_610 me_X8_qBracket mi_X8_qBracket (ob hM.1 s_277 (by decide)) rfl (As := []) (st := []) rfl (Nat.le_of_ble_eq_true rfl) (Nat.le_of_ble_eq_true rfl) (Nat.le_of_eq hM.1) (Nat.le_refl _) (PW.deep (by decide) (c_X8_qBracket  hM h)) ?_
        rintro _ M3 ⟨hM, y4, rfl, h⟩
        refine PW.bipush (pc := 20) dX8_qGoesOn_20 (v := 20) (by decide) ?_
        refine PW.icmp_eq (pc := 22) dX8_qGoesOn_22 (t := 43) (by decide) (fun hc => ?_) (fun hc => ?_)
        · have h := h.1 hc
          exact PW.drop (c_X8_qGoesOn_43 ih hk122 _ hM h) ⟨rfl, trivial⟩
        · have h := h.2 hc
          refine PW.aload_n (pc := 25) dX8_qGoesOn_25 rfl ?_
          refine PW.inv (m' := mX8_qBracket) (pc := 26) dX8_qGoesOn_26 lm_X8_610 me_X8_qBracket mi_X8_qBracket (ob hM.1 s_277 (by decide)) rfl (As := []) (st := []) rfl (Nat.le_of_ble_eq_true rfl) (Nat.le_of_ble_eq_true rfl) (Nat.le_of_eq hM.1) (Nat.le_refl _) (PW.deep (by decide) (c_X8_qBracket  hM h)) ?_
          rintro _ M19 ⟨hM, y20, rfl, h⟩
          refine PW.bipush (pc := 29) dX8_qGoesOn_29 (v := 23) (by decide) ?_
          refine PW.icmp_eq (pc := 31) dX8_qGoesOn_31 (t := 43) (by decide) (fun hc => ?_) (fun hc => ?_)
          · have h := h.1 hc
            exact PW.drop (c_X8_qGoesOn_43 ih hk122 _ hM h) ⟨rfl, trivial⟩
          · have h := h.2 hc
            refine PW.aload_n (pc := 34) dX8_qGoesOn_34 rfl ?_
            refine PW.inv (m' := mX8_qBracket) (pc := 35) dX8_qGoesOn_35 lm_X8_610 me_X8_qBracket mi_X8_qBracket (ob hM.1 s_277 (by decide)) rfl (As := []) (st := []) rfl (Nat.le_of_ble_eq_true rfl) (Nat.le_of_ble_eq_true rfl) (Nat.le_of_eq hM.1) (Nat.le_refl _) (PW.deep (by decide) (c_X8_qBracket  hM h)) ?_
            rintro _ M21 ⟨hM, y22, rfl, h⟩
            refine PW.bipush (pc := 38) dX8_qGoesOn_38 (v := 24) (by decide) ?_
            refine PW.icmp_ne (pc := 40) dX8_qGoesOn_40 (t := 122) (by decide) (fun hc => ?_) (fun hc => ?_)
            · have h := h.1 hc
              exact PW.drop (hk122 _ hM h) ⟨rfl, trivial⟩
            · have h := h.2 hc
              exact PW.drop (c_X8_qGoesOn_43 ih hk122 _ hM h) ⟨rfl, trivial⟩
def w_X8_qGoesOn_162 : Nat → Int32 → pm → (Int32 → pm → Prop) → (Int32 → pm → Prop) → Prop
  | 0, _, _, _, _ => False
  | n + 1, x1, M, k185, Q => w_X8_qIsOn 3 M (fun y30 M29 => ((¬ y30 = 0 → (w_X8_qDrops  M29 (fun M32 => w_X8_qGoesOn_162 n x1 M32 k185 Q))) ∧ (y30 = 0 → (w_X8_qIsOn 4 M29 (fun y35 M34 => ((y35 = 0 → (k185 x1 M34)) ∧ (¬ y35 = 0 → (w_X8_qDrops  M34 (fun M37 => w_X8_qGoesOn_162 n x1 M37 k185 Q)))))))))
set_option maxRecDepth 4000 in
theorem c_X8_qGoesOn_162 {k185 : Int32 → pm → Prop} {Q : Int32 → pm → Prop} (hk185 : ∀ (x1 : Int32) (M : pm), pG M → k185 x1 M → PW mX8_qGoesOn 4 350 185 [.ref 277, .int x1] [] M (qZ Q)) : ∀ (n : Nat) (x1 : Int32) (M : pm), pG M → w_X8_qGoesOn_162 n x1 M k185 Q → PW mX8_qGoesOn 4 350 162 [.ref 277, .int x1] [] M (qZ Q) := by
  intro n
  induction n with
  | zero => intro x1 M hM h; exact h.elim
  | succ n ih =>
    intro x1 M hM h
    unfold w_X8_qGoesOn_162 at h
    refine PW.aload_n (pc := 162) dX8_qGoesOn_162 rfl ?_
    refine PW.iconst (pc := 163) dX8_qGoesOn_163 (v := 3) (by decide) ?_
    refine PW.inv (m' := mX8_qIsOn) (pc := 164) dX8_qGoesOn_164 lm_X8_616 me_X8_qIsOn mi_X8_qIsOn (ob hM.1 s_277 (by decide)) rfl (As := [.int 3]) (st := []) rfl (Nat.le_of_ble_eq_true rfl) (Nat.le_of_ble_eq_true rfl) (Nat.le_of_eq hM.1) (Nat.le_refl _) (PW.deep (by decide) (c_X8_qIsOn  hM h)) ?_
    rintro _ M29 ⟨hM, y30, rfl, z31, h⟩
    refine PW.if_ne (pc := 167) dX8_qGoesOn_167 (t := 178) (by decide) (fun hc => ?_) (fun hc => ?_)
    · have h := h.1 hc
      refine PW.aload_n (pc := 178) dX8_qGoesOn_178 rfl ?_
      refine PW.inv (m' := mX8_qDrops) (pc := 179) dX8_qGoesOn_179 lm_X8_589 me_X8_qDrops mi_X8_qDrops (ob hM.1 s_277 (by decide)) rfl (As := []) (st := []) rfl (Nat.le_of_ble_eq_true rfl) (Nat.le_of_ble_eq_true rfl) (Nat.le_of_eq hM.1) (Nat.le_refl _) (PW.deep (by decide) (c_X8_qDrops  hM h)) ?_
      rintro _ M32 ⟨hM, rfl, h⟩
      refine PW.goto (pc := 182) dX8_qGoesOn_182 (t := 162) (by decide) ?_
      exact PW.drop (ih _ _ hM h) ⟨rfl, rfl, trivial⟩
    · have h := h.2 hc
      refine PW.aload_n (pc := 170) dX8_qGoesOn_170 rfl ?_
      refine PW.iconst (pc := 171) dX8_qGoesOn_171 (v := 4) (by decide) ?_
      refine PW.inv (m' := mX8_qIsOn) (pc := 172) dX8_qGoesOn_172 lm_X8_616 me_X8_qIsOn mi_X8_qIsOn (ob hM.1 s_277 (by decide)) rfl (As := [.int 4]) (st := []) rfl (Nat.le_of_ble_eq_true rfl) (Nat.le_of_ble_eq_true rfl) (Nat.le_of_eq hM.1) (Nat.le_refl _) (PW.deep (by decide) (c_X8_qIsOn  hM h)) ?_
      rintro _ M34 ⟨hM, y35, rfl, z36, h⟩
      refine PW.if_eq (pc := 175) dX8_qGoesOn_175 (t := 185) (by decide) (fun hc => ?_) (fun hc => ?_)
      · have h := h.1 hc
        exact PW.drop (hk185 _ _ hM h) ⟨rfl, rfl, trivial⟩
      · have h := h.2 hc
        refine PW.aload_n (pc := 178) dX8_qGoesOn_178 rfl ?_
        refine PW.inv (m' := mX8_qDrops) (pc := 179) dX8_qGoesOn_179 lm_X8_589 me_X8_qDrops mi_X8_qDrops (ob hM.1 s_277 (by decide)) rfl (As := []) (st := []) rfl (Nat.le_of_ble_eq_true rfl) (Nat.le_of_ble_eq_true rfl) (Nat.le_of_eq hM.1) (Nat.le_refl _) (PW.deep (by decide) (c_X8_qDrops  hM h)) ?_
        rintro _ M37 ⟨hM, rfl, h⟩
        refine PW.goto (pc := 182) dX8_qGoesOn_182 (t := 162) (by decide) ?_
        exact PW.drop (ih _ _ hM h) ⟨rfl, rfl, trivial⟩
def w_X8_qGoesOn_140   (M : pm)  (Q : Int32 → pm → Prop) : Prop := vp_in ((mI M 277 2) - 1) 1600 ∧ ((¬ (mI M 278 (((mI M 277 2) - 1).toNatClampNeg)) = 42 → (∃ n39, w_X8_qGoesOn_162 n39 4 M (fun x1 M40 => vp_in (mI M40 277 98) 1700 ∧ (Q 1 (sI (sI M40 350 ((mI M40 277 98).toNatClampNeg) x1) 277 98 ((mI M40 277 98) + 1)))) Q)) ∧ ((mI M 278 (((mI M 277 2) - 1).toNatClampNeg)) = 42 → (∃ n42, w_X8_qGoesOn_162 n42 3 M (fun x1 M43 => vp_in (mI M43 277 98) 1700 ∧ (Q 1 (sI (sI M43 350 ((mI M43 277 98).toNatClampNeg) x1) 277 98 ((mI M43 277 98) + 1)))) Q)))
set_option maxRecDepth 4000 in
theorem c_X8_qGoesOn_140  {Q : Int32 → pm → Prop}  : ∀  (M : pm), pG M → w_X8_qGoesOn_140  M  Q → PW mX8_qGoesOn 4 350 140 [.ref 277, .null] [] M (qZ Q) := by
  intro M hM h
  unfold w_X8_qGoesOn_140 at h
  refine PW.aload_n (pc := 140) dX8_qGoesOn_140 rfl ?_
  refine PW.getR (pc := 141) dX8_qGoesOn_141 (r := 278) lf_X8_7 (ob hM.1 s_277 (by decide)) fx_8_0 (oR_8_0 hM s_277) (pS_ne s_278) ?_
  refine PW.aload_n (pc := 144) dX8_qGoesOn_144 rfl ?_
  refine PW.getI (pc := 145) dX8_qGoesOn_145 lf_X8_255 (ob hM.1 s_277 (by decide)) fx_8_2 ?_
  refine PW.iconst (pc := 148) dX8_qGoesOn_148 (v := 1) (by decide) ?_
  refine PW.isub (pc := 149) dX8_qGoesOn_149 ?_
  obtain ⟨v28, h⟩ := h
  refine PW.iald (pc := 150) dX8_qGoesOn_150 (ar hM.1 s_278) (vpl n_278 v28) ?_
  refine PW.bipush (pc := 151) dX8_qGoesOn_151 (v := 42) (by decide) ?_
  refine PW.icmp_ne (pc := 153) dX8_qGoesOn_153 (t := 160) (by decide) (fun hc => ?_) (fun hc => ?_)
  · have h := h.1 hc
    refine PW.iconst (pc := 160) dX8_qGoesOn_160 (v := 4) (by decide) ?_
    refine PW.istore_n (pc := 161) dX8_qGoesOn_161 (ls' := [.ref 277, .int 4]) (by decide) rfl rfl ?_
    obtain ⟨n39, h⟩ := h
    refine PW.drop (c_X8_qGoesOn_162 ?_ n39 _ _ hM h) ⟨rfl, rfl, trivial⟩
    · intro x1 M40 hM h
      refine PW.aload_n (pc := 185) dX8_qGoesOn_185 rfl ?_
      refine PW.getR (pc := 186) dX8_qGoesOn_186 (r := 350) lf_X8_237 (ob hM.1 s_277 (by decide)) fx_8_97 (oR_8_97 hM s_277) (pS_ne s_350) ?_
      refine PW.aload_n (pc := 189) dX8_qGoesOn_189 rfl ?_
      refine PW.getI (pc := 190) dX8_qGoesOn_190 lf_X8_340 (ob hM.1 s_277 (by decide)) fx_8_98 ?_
      refine PW.iload_n (pc := 193) dX8_qGoesOn_193 rfl ?_
      obtain ⟨v41, h⟩ := h
      refine PW.iast (pc := 194) dX8_qGoesOn_194 (ar hM.1 s_350) (vpl n_350 v41) ?_
      refine PW.aload_n (pc := 195) dX8_qGoesOn_195 rfl ?_
      refine PW.dupR (pc := 196) dX8_qGoesOn_196 ?_
      refine PW.getI (pc := 197) dX8_qGoesOn_197 lf_X8_340 (ob hM.1 s_277 (by decide)) fx_8_98 ?_
      refine PW.iconst (pc := 200) dX8_qGoesOn_200 (v := 1) (by decide) ?_
      refine PW.iadd (pc := 201) dX8_qGoesOn_201 ?_
      refine PW.putI (pc := 202) dX8_qGoesOn_202 lf_X8_340 (ob hM.1 s_277 (by decide)) fx_8_98 fw_8_98 rfl rfl ?_
      refine PW.iconst (pc := 205) dX8_qGoesOn_205 (v := 1) (by decide) ?_
      exact PW.retI (pc := 206) dX8_qGoesOn_206 hM.1 rfl (bz_n bz1) ⟨(hM.same rfl rfl), _, rfl, bz1, h⟩
  · have h := h.2 hc
    refine PW.iconst (pc := 156) dX8_qGoesOn_156 (v := 3) (by decide) ?_
    refine PW.goto (pc := 157) dX8_qGoesOn_157 (t := 161) (by decide) ?_
    refine PW.istore_n (pc := 161) dX8_qGoesOn_161 (ls' := [.ref 277, .int 3]) (by decide) rfl rfl ?_
    obtain ⟨n42, h⟩ := h
    refine PW.drop (c_X8_qGoesOn_162 ?_ n42 _ _ hM h) ⟨rfl, rfl, trivial⟩
    · intro x1 M43 hM h
      refine PW.aload_n (pc := 185) dX8_qGoesOn_185 rfl ?_
      refine PW.getR (pc := 186) dX8_qGoesOn_186 (r := 350) lf_X8_237 (ob hM.1 s_277 (by decide)) fx_8_97 (oR_8_97 hM s_277) (pS_ne s_350) ?_
      refine PW.aload_n (pc := 189) dX8_qGoesOn_189 rfl ?_
      refine PW.getI (pc := 190) dX8_qGoesOn_190 lf_X8_340 (ob hM.1 s_277 (by decide)) fx_8_98 ?_
      refine PW.iload_n (pc := 193) dX8_qGoesOn_193 rfl ?_
      obtain ⟨v44, h⟩ := h
      refine PW.iast (pc := 194) dX8_qGoesOn_194 (ar hM.1 s_350) (vpl n_350 v44) ?_
      refine PW.aload_n (pc := 195) dX8_qGoesOn_195 rfl ?_
      refine PW.dupR (pc := 196) dX8_qGoesOn_196 ?_
      refine PW.getI (pc := 197) dX8_qGoesOn_197 lf_X8_340 (ob hM.1 s_277 (by decide)) fx_8_98 ?_
      refine PW.iconst (pc := 200) dX8_qGoesOn_200 (v := 1) (by decide) ?_
      refine PW.iadd (pc := 201) dX8_qGoesOn_201 ?_
      refine PW.putI (pc := 202) dX8_qGoesOn_202 lf_X8_340 (ob hM.1 s_277 (by decide)) fx_8_98 fw_8_98 rfl rfl ?_
      refine PW.iconst (pc := 205) dX8_qGoesOn_205 (v := 1) (by decide) ?_
      exact PW.retI (pc := 206) dX8_qGoesOn_206 hM.1 rfl (bz_n bz1) ⟨(hM.same rfl rfl), _, rfl, bz1, h⟩
def w_X8_qGoesOn_247 : Nat → Int32 → pm → (Int32 → pm → Prop) → (Int32 → pm → Prop) → Prop
  | 0, _, _, _, _ => False
  | n + 1, x1, M, k286, Q => w_X8_qIsOn 3 M (fun y53 M52 => ((¬ y53 = 0 → (w_X8_qDrops  M52 (fun M55 => w_X8_qGoesOn_247 n x1 M55 k286 Q))) ∧ (y53 = 0 → (w_X8_qIsOn 4 M52 (fun y58 M57 => ((¬ y58 = 0 → (w_X8_qDrops  M57 (fun M60 => w_X8_qGoesOn_247 n x1 M60 k286 Q))) ∧ (y58 = 0 → (w_X8_qIsOn 1 M57 (fun y63 M62 => ((¬ y63 = 0 → (w_X8_qDrops  M62 (fun M65 => w_X8_qGoesOn_247 n x1 M65 k286 Q))) ∧ (y63 = 0 → (w_X8_qIsOn 2 M62 (fun y68 M67 => ((y68 = 0 → (k286 x1 M67)) ∧ (¬ y68 = 0 → (w_X8_qDrops  M67 (fun M70 => w_X8_qGoesOn_247 n x1 M70 k286 Q)))))))))))))))))
set_option maxRecDepth 4000 in
theorem c_X8_qGoesOn_247 {k286 : Int32 → pm → Prop} {Q : Int32 → pm → Prop} (hk286 : ∀ (x1 : Int32) (M : pm), pG M → k286 x1 M → PW mX8_qGoesOn 4 350 286 [.ref 277, .int x1] [] M (qZ Q)) : ∀ (n : Nat) (x1 : Int32) (M : pm), pG M → w_X8_qGoesOn_247 n x1 M k286 Q → PW mX8_qGoesOn 4 350 247 [.ref 277, .int x1] [] M (qZ Q) := by
  intro n
  induction n with
  | zero => intro x1 M hM h; exact h.elim
  | succ n ih =>
    intro x1 M hM h
    unfold w_X8_qGoesOn_247 at h
    refine PW.aload_n (pc := 247) dX8_qGoesOn_247 rfl ?_
    refine PW.iconst (pc := 248) dX8_qGoesOn_248 (v := 3) (by decide) ?_
    refine PW.inv (m' := mX8_qIsOn) (pc := 249) dX8_qGoesOn_249 lm_X8_616 me_X8_qIsOn mi_X8_qIsOn (ob hM.1 s_277 (by decide)) rfl (As := [.int 3]) (st := []) rfl (Nat.le_of_ble_eq_true rfl) (Nat.le_of_ble_eq_true rfl) (Nat.le_of_eq hM.1) (Nat.le_refl _) (PW.deep (by decide) (c_X8_qIsOn  hM h)) ?_
    rintro _ M52 ⟨hM, y53, rfl, z54, h⟩
    refine PW.if_ne (pc := 252) dX8_qGoesOn_252 (t := 279) (by decide) (fun hc => ?_) (fun hc => ?_)
    · have h := h.1 hc
      refine PW.aload_n (pc := 279) dX8_qGoesOn_279 rfl ?_
      refine PW.inv (m' := mX8_qDrops) (pc := 280) dX8_qGoesOn_280 lm_X8_589 me_X8_qDrops mi_X8_qDrops (ob hM.1 s_277 (by decide)) rfl (As := []) (st := []) rfl (Nat.le_of_ble_eq_true rfl) (Nat.le_of_ble_eq_true rfl) (Nat.le_of_eq hM.1) (Nat.le_refl _) (PW.deep (by decide) (c_X8_qDrops  hM h)) ?_
      rintro _ M55 ⟨hM, rfl, h⟩
      refine PW.goto (pc := 283) dX8_qGoesOn_283 (t := 247) (by decide) ?_
      exact PW.drop (ih _ _ hM h) ⟨rfl, rfl, trivial⟩
    · have h := h.2 hc
      refine PW.aload_n (pc := 255) dX8_qGoesOn_255 rfl ?_
      refine PW.iconst (pc := 256) dX8_qGoesOn_256 (v := 4) (by decide) ?_
      refine PW.inv (m' := mX8_qIsOn) (pc := 257) dX8_qGoesOn_257 lm_X8_616 me_X8_qIsOn mi_X8_qIsOn (ob hM.1 s_277 (by decide)) rfl (As := [.int 4]) (st := []) rfl (Nat.le_of_ble_eq_true rfl) (Nat.le_of_ble_eq_true rfl) (Nat.le_of_eq hM.1) (Nat.le_refl _) (PW.deep (by decide) (c_X8_qIsOn  hM h)) ?_
      rintro _ M57 ⟨hM, y58, rfl, z59, h⟩
      refine PW.if_ne (pc := 260) dX8_qGoesOn_260 (t := 279) (by decide) (fun hc => ?_) (fun hc => ?_)
      · have h := h.1 hc
        refine PW.aload_n (pc := 279) dX8_qGoesOn_279 rfl ?_
        refine PW.inv (m' := mX8_qDrops) (pc := 280) dX8_qGoesOn_280 lm_X8_589 me_X8_qDrops mi_X8_qDrops (ob hM.1 s_277 (by decide)) rfl (As := []) (st := []) rfl (Nat.le_of_ble_eq_true rfl) (Nat.le_of_ble_eq_true rfl) (Nat.le_of_eq hM.1) (Nat.le_refl _) (PW.deep (by decide) (c_X8_qDrops  hM h)) ?_
        rintro _ M60 ⟨hM, rfl, h⟩
        refine PW.goto (pc := 283) dX8_qGoesOn_283 (t := 247) (by decide) ?_
        exact PW.drop (ih _ _ hM h) ⟨rfl, rfl, trivial⟩
      · have h := h.2 hc
        refine PW.aload_n (pc := 263) dX8_qGoesOn_263 rfl ?_
        refine PW.iconst (pc := 264) dX8_qGoesOn_264 (v := 1) (by decide) ?_
        refine PW.inv (m' := mX8_qIsOn) (pc := 265) dX8_qGoesOn_265 lm_X8_616 me_X8_qIsOn mi_X8_qIsOn (ob hM.1 s_277 (by decide)) rfl (As := [.int 1]) (st := []) rfl (Nat.le_of_ble_eq_true rfl) (Nat.le_of_ble_eq_true rfl) (Nat.le_of_eq hM.1) (Nat.le_refl _) (PW.deep (by decide) (c_X8_qIsOn  hM h)) ?_
        rintro _ M62 ⟨hM, y63, rfl, z64, h⟩
        refine PW.if_ne (pc := 268) dX8_qGoesOn_268 (t := 279) (by decide) (fun hc => ?_) (fun hc => ?_)
        · have h := h.1 hc
          refine PW.aload_n (pc := 279) dX8_qGoesOn_279 rfl ?_
          refine PW.inv (m' := mX8_qDrops) (pc := 280) dX8_qGoesOn_280 lm_X8_589 me_X8_qDrops mi_X8_qDrops (ob hM.1 s_277 (by decide)) rfl (As := []) (st := []) rfl (Nat.le_of_ble_eq_true rfl) (Nat.le_of_ble_eq_true rfl) (Nat.le_of_eq hM.1) (Nat.le_refl _) (PW.deep (by decide) (c_X8_qDrops  hM h)) ?_
          rintro _ M65 ⟨hM, rfl, h⟩
          refine PW.goto (pc := 283) dX8_qGoesOn_283 (t := 247) (by decide) ?_
          exact PW.drop (ih _ _ hM h) ⟨rfl, rfl, trivial⟩
        · have h := h.2 hc
          refine PW.aload_n (pc := 271) dX8_qGoesOn_271 rfl ?_
          refine PW.iconst (pc := 272) dX8_qGoesOn_272 (v := 2) (by decide) ?_
          refine PW.inv (m' := mX8_qIsOn) (pc := 273) dX8_qGoesOn_273 lm_X8_616 me_X8_qIsOn mi_X8_qIsOn (ob hM.1 s_277 (by decide)) rfl (As := [.int 2]) (st := []) rfl (Nat.le_of_ble_eq_true rfl) (Nat.le_of_ble_eq_true rfl) (Nat.le_of_eq hM.1) (Nat.le_refl _) (PW.deep (by decide) (c_X8_qIsOn  hM h)) ?_
          rintro _ M67 ⟨hM, y68, rfl, z69, h⟩
          refine PW.if_eq (pc := 276) dX8_qGoesOn_276 (t := 286) (by decide) (fun hc => ?_) (fun hc => ?_)
          · have h := h.1 hc
            exact PW.drop (hk286 _ _ hM h) ⟨rfl, rfl, trivial⟩
          · have h := h.2 hc
            refine PW.aload_n (pc := 279) dX8_qGoesOn_279 rfl ?_
            refine PW.inv (m' := mX8_qDrops) (pc := 280) dX8_qGoesOn_280 lm_X8_589 me_X8_qDrops mi_X8_qDrops (ob hM.1 s_277 (by decide)) rfl (As := []) (st := []) rfl (Nat.le_of_ble_eq_true rfl) (Nat.le_of_ble_eq_true rfl) (Nat.le_of_eq hM.1) (Nat.le_refl _) (PW.deep (by decide) (c_X8_qDrops  hM h)) ?_
            rintro _ M70 ⟨hM, rfl, h⟩
            refine PW.goto (pc := 283) dX8_qGoesOn_283 (t := 247) (by decide) ?_
            exact PW.drop (ih _ _ hM h) ⟨rfl, rfl, trivial⟩
def w_X8_qGoesOn_225   (M : pm)  (Q : Int32 → pm → Prop) : Prop := vp_in ((mI M 277 2) - 1) 1600 ∧ ((¬ (mI M 278 (((mI M 277 2) - 1).toNatClampNeg)) = 43 → (∃ n72, w_X8_qGoesOn_247 n72 2 M (fun x1 M73 => vp_in (mI M73 277 98) 1700 ∧ (Q 1 (sI (sI M73 350 ((mI M73 277 98).toNatClampNeg) x1) 277 98 ((mI M73 277 98) + 1)))) Q)) ∧ ((mI M 278 (((mI M 277 2) - 1).toNatClampNeg)) = 43 → (∃ n75, w_X8_qGoesOn_247 n75 1 M (fun x1 M76 => vp_in (mI M76 277 98) 1700 ∧ (Q 1 (sI (sI M76 350 ((mI M76 277 98).toNatClampNeg) x1) 277 98 ((mI M76 277 98) + 1)))) Q)))
set_option maxRecDepth 4000 in
theorem c_X8_qGoesOn_225  {Q : Int32 → pm → Prop}  : ∀  (M : pm), pG M → w_X8_qGoesOn_225  M  Q → PW mX8_qGoesOn 4 350 225 [.ref 277, .null] [] M (qZ Q) := by
  intro M hM h
  unfold w_X8_qGoesOn_225 at h
  refine PW.aload_n (pc := 225) dX8_qGoesOn_225 rfl ?_
  refine PW.getR (pc := 226) dX8_qGoesOn_226 (r := 278) lf_X8_7 (ob hM.1 s_277 (by decide)) fx_8_0 (oR_8_0 hM s_277) (pS_ne s_278) ?_
  refine PW.aload_n (pc := 229) dX8_qGoesOn_229 rfl ?_
  refine PW.getI (pc := 230) dX8_qGoesOn_230 lf_X8_255 (ob hM.1 s_277 (by decide)) fx_8_2 ?_
  refine PW.iconst (pc := 233) dX8_qGoesOn_233 (v := 1) (by decide) ?_
  refine PW.isub (pc := 234) dX8_qGoesOn_234 ?_
  obtain ⟨v51, h⟩ := h
  refine PW.iald (pc := 235) dX8_qGoesOn_235 (ar hM.1 s_278) (vpl n_278 v51) ?_
  refine PW.bipush (pc := 236) dX8_qGoesOn_236 (v := 43) (by decide) ?_
  refine PW.icmp_ne (pc := 238) dX8_qGoesOn_238 (t := 245) (by decide) (fun hc => ?_) (fun hc => ?_)
  · have h := h.1 hc
    refine PW.iconst (pc := 245) dX8_qGoesOn_245 (v := 2) (by decide) ?_
    refine PW.istore_n (pc := 246) dX8_qGoesOn_246 (ls' := [.ref 277, .int 2]) (by decide) rfl rfl ?_
    obtain ⟨n72, h⟩ := h
    refine PW.drop (c_X8_qGoesOn_247 ?_ n72 _ _ hM h) ⟨rfl, rfl, trivial⟩
    · intro x1 M73 hM h
      refine PW.aload_n (pc := 286) dX8_qGoesOn_286 rfl ?_
      refine PW.getR (pc := 287) dX8_qGoesOn_287 (r := 350) lf_X8_237 (ob hM.1 s_277 (by decide)) fx_8_97 (oR_8_97 hM s_277) (pS_ne s_350) ?_
      refine PW.aload_n (pc := 290) dX8_qGoesOn_290 rfl ?_
      refine PW.getI (pc := 291) dX8_qGoesOn_291 lf_X8_340 (ob hM.1 s_277 (by decide)) fx_8_98 ?_
      refine PW.iload_n (pc := 294) dX8_qGoesOn_294 rfl ?_
      obtain ⟨v74, h⟩ := h
      refine PW.iast (pc := 295) dX8_qGoesOn_295 (ar hM.1 s_350) (vpl n_350 v74) ?_
      refine PW.aload_n (pc := 296) dX8_qGoesOn_296 rfl ?_
      refine PW.dupR (pc := 297) dX8_qGoesOn_297 ?_
      refine PW.getI (pc := 298) dX8_qGoesOn_298 lf_X8_340 (ob hM.1 s_277 (by decide)) fx_8_98 ?_
      refine PW.iconst (pc := 301) dX8_qGoesOn_301 (v := 1) (by decide) ?_
      refine PW.iadd (pc := 302) dX8_qGoesOn_302 ?_
      refine PW.putI (pc := 303) dX8_qGoesOn_303 lf_X8_340 (ob hM.1 s_277 (by decide)) fx_8_98 fw_8_98 rfl rfl ?_
      refine PW.iconst (pc := 306) dX8_qGoesOn_306 (v := 1) (by decide) ?_
      exact PW.retI (pc := 307) dX8_qGoesOn_307 hM.1 rfl (bz_n bz1) ⟨(hM.same rfl rfl), _, rfl, bz1, h⟩
  · have h := h.2 hc
    refine PW.iconst (pc := 241) dX8_qGoesOn_241 (v := 1) (by decide) ?_
    refine PW.goto (pc := 242) dX8_qGoesOn_242 (t := 246) (by decide) ?_
    refine PW.istore_n (pc := 246) dX8_qGoesOn_246 (ls' := [.ref 277, .int 1]) (by decide) rfl rfl ?_
    obtain ⟨n75, h⟩ := h
    refine PW.drop (c_X8_qGoesOn_247 ?_ n75 _ _ hM h) ⟨rfl, rfl, trivial⟩
    · intro x1 M76 hM h
      refine PW.aload_n (pc := 286) dX8_qGoesOn_286 rfl ?_
      refine PW.getR (pc := 287) dX8_qGoesOn_287 (r := 350) lf_X8_237 (ob hM.1 s_277 (by decide)) fx_8_97 (oR_8_97 hM s_277) (pS_ne s_350) ?_
      refine PW.aload_n (pc := 290) dX8_qGoesOn_290 rfl ?_
      refine PW.getI (pc := 291) dX8_qGoesOn_291 lf_X8_340 (ob hM.1 s_277 (by decide)) fx_8_98 ?_
      refine PW.iload_n (pc := 294) dX8_qGoesOn_294 rfl ?_
      obtain ⟨v77, h⟩ := h
      refine PW.iast (pc := 295) dX8_qGoesOn_295 (ar hM.1 s_350) (vpl n_350 v77) ?_
      refine PW.aload_n (pc := 296) dX8_qGoesOn_296 rfl ?_
      refine PW.dupR (pc := 297) dX8_qGoesOn_297 ?_
      refine PW.getI (pc := 298) dX8_qGoesOn_298 lf_X8_340 (ob hM.1 s_277 (by decide)) fx_8_98 ?_
      refine PW.iconst (pc := 301) dX8_qGoesOn_301 (v := 1) (by decide) ?_
      refine PW.iadd (pc := 302) dX8_qGoesOn_302 ?_
      refine PW.putI (pc := 303) dX8_qGoesOn_303 lf_X8_340 (ob hM.1 s_277 (by decide)) fx_8_98 fw_8_98 rfl rfl ?_
      refine PW.iconst (pc := 306) dX8_qGoesOn_306 (v := 1) (by decide) ?_
      exact PW.retI (pc := 307) dX8_qGoesOn_307 hM.1 rfl (bz_n bz1) ⟨(hM.same rfl rfl), _, rfl, bz1, h⟩
def w_X8_qGoesOn_326   (M : pm)  (Q : Int32 → pm → Prop) : Prop := w_X8_asksSign 44 M (fun M83 => (((mI M83 277 5) = 0 → (w_X8_qDropsToBracket  M83 (fun M85 => vp_in ((mI M85 277 98) - 1) 1700 ∧ (vp_in ((mI M85 277 98) - 1) 1700 ∧ (Q 1 (sI M85 350 (((mI M85 277 98) - 1).toNatClampNeg) ((mI M85 350 (((mI M85 277 98) - 1).toNatClampNeg)) + 2))))))) ∧ (¬ (mI M83 277 5) = 0 → (Q 0 M83))))
set_option maxRecDepth 4000 in
theorem c_X8_qGoesOn_326  {Q : Int32 → pm → Prop}  : ∀  (M : pm), pG M → w_X8_qGoesOn_326  M  Q → PW mX8_qGoesOn 4 350 326 [.ref 277, .null] [] M (qZ Q) := by
  intro M hM h
  unfold w_X8_qGoesOn_326 at h
  refine PW.aload_n (pc := 326) dX8_qGoesOn_326 rfl ?_
  refine PW.bipush (pc := 327) dX8_qGoesOn_327 (v := 44) (by decide) ?_
  refine PW.inv (m' := mX8_asksSign) (pc := 329) dX8_qGoesOn_329 lm_X8_319 me_X8_asksSign mi_X8_asksSign (ob hM.1 s_277 (by decide)) rfl (As := [.int 44]) (st := []) rfl (Nat.le_of_ble_eq_true rfl) (Nat.le_of_ble_eq_true rfl) (Nat.le_of_eq hM.1) (Nat.le_refl _) (PW.deep (by decide) (c_X8_asksSign  hM h)) ?_
  rintro _ M83 ⟨hM, rfl, h⟩
  refine PW.aload_n (pc := 332) dX8_qGoesOn_332 rfl ?_
  refine PW.getI (pc := 333) dX8_qGoesOn_333 lf_X8_249 (ob hM.1 s_277 (by decide)) fx_8_5 ?_
  refine PW.if_eq (pc := 336) dX8_qGoesOn_336 (t := 341) (by decide) (fun hc => ?_) (fun hc => ?_)
  · have h := h.1 hc
    refine PW.aload_n (pc := 341) dX8_qGoesOn_341 rfl ?_
    refine PW.inv (m' := mX8_qDropsToBracket) (pc := 342) dX8_qGoesOn_342 lm_X8_613 me_X8_qDropsToBracket mi_X8_qDropsToBracket (ob hM.1 s_277 (by decide)) rfl (As := []) (st := []) rfl (Nat.le_of_ble_eq_true rfl) (Nat.le_of_ble_eq_true rfl) (Nat.le_of_eq hM.1) (Nat.le_refl _) (PW.deep (by decide) (c_X8_qDropsToBracket  hM h)) ?_
    rintro _ M85 ⟨hM, rfl, h⟩
    refine PW.aload_n (pc := 345) dX8_qGoesOn_345 rfl ?_
    refine PW.getR (pc := 346) dX8_qGoesOn_346 (r := 350) lf_X8_237 (ob hM.1 s_277 (by decide)) fx_8_97 (oR_8_97 hM s_277) (pS_ne s_350) ?_
    refine PW.aload_n (pc := 349) dX8_qGoesOn_349 rfl ?_
    refine PW.getI (pc := 350) dX8_qGoesOn_350 lf_X8_340 (ob hM.1 s_277 (by decide)) fx_8_98 ?_
    refine PW.iconst (pc := 353) dX8_qGoesOn_353 (v := 1) (by decide) ?_
    refine PW.isub (pc := 354) dX8_qGoesOn_354 ?_
    refine PW.dup2IR (pc := 355) dX8_qGoesOn_355 ?_
    obtain ⟨v87, h⟩ := h
    refine PW.iald (pc := 356) dX8_qGoesOn_356 (ar hM.1 s_350) (vpl n_350 v87) ?_
    refine PW.iconst (pc := 357) dX8_qGoesOn_357 (v := 2) (by decide) ?_
    refine PW.iadd (pc := 358) dX8_qGoesOn_358 ?_
    obtain ⟨v88, h⟩ := h
    refine PW.iast (pc := 359) dX8_qGoesOn_359 (ar hM.1 s_350) (vpl n_350 v88) ?_
    refine PW.iconst (pc := 360) dX8_qGoesOn_360 (v := 1) (by decide) ?_
    exact PW.retI (pc := 361) dX8_qGoesOn_361 hM.1 rfl (bz_n bz1) ⟨(hM.same rfl rfl), _, rfl, bz1, h⟩
  · have h := h.2 hc
    refine PW.iconst (pc := 339) dX8_qGoesOn_339 (v := 0) (by decide) ?_
    exact PW.retI (pc := 340) dX8_qGoesOn_340 hM.1 rfl (bz_n bz0) ⟨hM, _, rfl, bz0, h⟩
def w_X8_qGoesOn_122   (M : pm)  (Q : Int32 → pm → Prop) : Prop := w_X8_takesSign 42 M (fun y26 M25 => ((¬ y26 = 0 → (w_X8_qGoesOn_140  M25  Q)) ∧ (y26 = 0 → (w_X8_takesSign 47 M25 (fun y46 M45 => ((y46 = 0 → (w_X8_takesSign 43 M45 (fun y49 M48 => ((¬ y49 = 0 → (w_X8_qGoesOn_225  M48  Q)) ∧ (y49 = 0 → (w_X8_takesSign 45 M48 (fun y79 M78 => ((y79 = 0 → (w_X8_qBracket  M78 (fun y82 M81 => ((y82 = 21 → (w_X8_qGoesOn_326  M81  Q)) ∧ (¬ y82 = 21 → (w_X8_qBracket  M81 (fun y90 M89 => ((¬ y90 = 22 → (w_X8_qBracket  M89 (fun y92 M91 => ((y92 = (-1) → (Q 0 M91)) ∧ (¬ y92 = (-1) → ((¬ (mI M91 277 5) = 0 → (Q 0 M91)) ∧ ((mI M91 277 5) = 0 → (w_X8_fail 1 (mI M91 277 2) M91 (fun M93 => Q 0 M93))))))))) ∧ (y90 = 22 → (w_X8_qGoesOn_326  M89  Q)))))))))) ∧ (¬ y79 = 0 → (w_X8_qGoesOn_225  M78  Q)))))))))) ∧ (¬ y46 = 0 → (w_X8_qGoesOn_140  M45  Q))))))))
set_option maxRecDepth 4000 in
theorem c_X8_qGoesOn_122  {Q : Int32 → pm → Prop}  : ∀  (M : pm), pG M → w_X8_qGoesOn_122  M  Q → PW mX8_qGoesOn 4 350 122 [.ref 277, .null] [] M (qZ Q) := by
  intro M hM h
  unfold w_X8_qGoesOn_122 at h
  refine PW.aload_n (pc := 122) dX8_qGoesOn_122 rfl ?_
  refine PW.bipush (pc := 123) dX8_qGoesOn_123 (v := 42) (by decide) ?_
  refine PW.inv (m' := mX8_takesSign) (pc := 125) dX8_qGoesOn_125 lm_X8_283 me_X8_takesSign mi_X8_takesSign (ob hM.1 s_277 (by decide)) rfl (As := [.int 42]) (st := []) rfl (Nat.le_of_ble_eq_true rfl) (Nat.le_of_ble_eq_true rfl) (Nat.le_of_eq hM.1) (Nat.le_refl _) (PW.deep (by decide) (c_X8_takesSign  hM h)) ?_
  rintro _ M25 ⟨hM, y26, rfl, z27, h⟩
  refine PW.if_ne (pc := 128) dX8_qGoesOn_128 (t := 140) (by decide) (fun hc => ?_) (fun hc => ?_)
  · have h := h.1 hc
    exact PW.drop (c_X8_qGoesOn_140  _ hM h) ⟨rfl, trivial⟩
  · have h := h.2 hc
    refine PW.aload_n (pc := 131) dX8_qGoesOn_131 rfl ?_
    refine PW.bipush (pc := 132) dX8_qGoesOn_132 (v := 47) (by decide) ?_
    refine PW.inv (m' := mX8_takesSign) (pc := 134) dX8_qGoesOn_134 lm_X8_283 me_X8_takesSign mi_X8_takesSign (ob hM.1 s_277 (by decide)) rfl (As := [.int 47]) (st := []) rfl (Nat.le_of_ble_eq_true rfl) (Nat.le_of_ble_eq_true rfl) (Nat.le_of_eq hM.1) (Nat.le_refl _) (PW.deep (by decide) (c_X8_takesSign  hM h)) ?_
    rintro _ M45 ⟨hM, y46, rfl, z47, h⟩
    refine PW.if_eq (pc := 137) dX8_qGoesOn_137 (t := 207) (by decide) (fun hc => ?_) (fun hc => ?_)
    · have h := h.1 hc
      refine PW.aload_n (pc := 207) dX8_qGoesOn_207 rfl ?_
      refine PW.bipush (pc := 208) dX8_qGoesOn_208 (v := 43) (by decide) ?_
      refine PW.inv (m' := mX8_takesSign) (pc := 210) dX8_qGoesOn_210 lm_X8_283 me_X8_takesSign mi_X8_takesSign (ob hM.1 s_277 (by decide)) rfl (As := [.int 43]) (st := []) rfl (Nat.le_of_ble_eq_true rfl) (Nat.le_of_ble_eq_true rfl) (Nat.le_of_eq hM.1) (Nat.le_refl _) (PW.deep (by decide) (c_X8_takesSign  hM h)) ?_
      rintro _ M48 ⟨hM, y49, rfl, z50, h⟩
      refine PW.if_ne (pc := 213) dX8_qGoesOn_213 (t := 225) (by decide) (fun hc => ?_) (fun hc => ?_)
      · have h := h.1 hc
        exact PW.drop (c_X8_qGoesOn_225  _ hM h) ⟨rfl, trivial⟩
      · have h := h.2 hc
        refine PW.aload_n (pc := 216) dX8_qGoesOn_216 rfl ?_
        refine PW.bipush (pc := 217) dX8_qGoesOn_217 (v := 45) (by decide) ?_
        refine PW.inv (m' := mX8_takesSign) (pc := 219) dX8_qGoesOn_219 lm_X8_283 me_X8_takesSign mi_X8_takesSign (ob hM.1 s_277 (by decide)) rfl (As := [.int 45]) (st := []) rfl (Nat.le_of_ble_eq_true rfl) (Nat.le_of_ble_eq_true rfl) (Nat.le_of_eq hM.1) (Nat.le_refl _) (PW.deep (by decide) (c_X8_takesSign  hM h)) ?_
        rintro _ M78 ⟨hM, y79, rfl, z80, h⟩
        refine PW.if_eq (pc := 222) dX8_qGoesOn_222 (t := 308) (by decide) (fun hc => ?_) (fun hc => ?_)
        · have h := h.1 hc
          refine PW.aload_n (pc := 308) dX8_qGoesOn_308 rfl ?_
          refine PW.inv (m' := mX8_qBracket) (pc := 309) dX8_qGoesOn_309 lm_X8_610 me_X8_qBracket mi_X8_qBracket (ob hM.1 s_277 (by decide)) rfl (As := []) (st := []) rfl (Nat.le_of_ble_eq_true rfl) (Nat.le_of_ble_eq_true rfl) (Nat.le_of_eq hM.1) (Nat.le_refl _) (PW.deep (by decide) (c_X8_qBracket  hM h)) ?_
          rintro _ M81 ⟨hM, y82, rfl, h⟩
          refine PW.bipush (pc := 312) dX8_qGoesOn_312 (v := 21) (by decide) ?_
          refine PW.icmp_eq (pc := 314) dX8_qGoesOn_314 (t := 326) (by decide) (fun hc => ?_) (fun hc => ?_)
          · have h := h.1 hc
            exact PW.drop (c_X8_qGoesOn_326  _ hM h) ⟨rfl, trivial⟩
          · have h := h.2 hc
            refine PW.aload_n (pc := 317) dX8_qGoesOn_317 rfl ?_
            refine PW.inv (m' := mX8_qBracket) (pc := 318) dX8_qGoesOn_318 lm_X8_610 me_X8_qBracket mi_X8_qBracket (ob hM.1 s_277 (by decide)) rfl (As := []) (st := []) rfl (Nat.le_of_ble_eq_true rfl) (Nat.le_of_ble_eq_true rfl) (Nat.le_of_eq hM.1) (Nat.le_refl _) (PW.deep (by decide) (c_X8_qBracket  hM h)) ?_
            rintro _ M89 ⟨hM, y90, rfl, h⟩
            refine PW.bipush (pc := 321) dX8_qGoesOn_321 (v := 22) (by decide) ?_
            refine PW.icmp_ne (pc := 323) dX8_qGoesOn_323 (t := 362) (by decide) (fun hc => ?_) (fun hc => ?_)
            · have h := h.1 hc
              refine PW.aload_n (pc := 362) dX8_qGoesOn_362 rfl ?_
              refine PW.inv (m' := mX8_qBracket) (pc := 363) dX8_qGoesOn_363 lm_X8_610 me_X8_qBracket mi_X8_qBracket (ob hM.1 s_277 (by decide)) rfl (As := []) (st := []) rfl (Nat.le_of_ble_eq_true rfl) (Nat.le_of_ble_eq_true rfl) (Nat.le_of_eq hM.1) (Nat.le_refl _) (PW.deep (by decide) (c_X8_qBracket  hM h)) ?_
              rintro _ M91 ⟨hM, y92, rfl, h⟩
              refine PW.iconst (pc := 366) dX8_qGoesOn_366 (v := (-1)) (by decide) ?_
              refine PW.icmp_eq (pc := 367) dX8_qGoesOn_367 (t := 386) (by decide) (fun hc => ?_) (fun hc => ?_)
              · have h := h.1 hc
                refine PW.iconst (pc := 386) dX8_qGoesOn_386 (v := 0) (by decide) ?_
                exact PW.retI (pc := 387) dX8_qGoesOn_387 hM.1 rfl (bz_n bz0) ⟨hM, _, rfl, bz0, h⟩
              · have h := h.2 hc
                refine PW.aload_n (pc := 370) dX8_qGoesOn_370 rfl ?_
                refine PW.getI (pc := 371) dX8_qGoesOn_371 lf_X8_249 (ob hM.1 s_277 (by decide)) fx_8_5 ?_
                refine PW.if_ne (pc := 374) dX8_qGoesOn_374 (t := 386) (by decide) (fun hc => ?_) (fun hc => ?_)
                · have h := h.1 hc
                  refine PW.iconst (pc := 386) dX8_qGoesOn_386 (v := 0) (by decide) ?_
                  exact PW.retI (pc := 387) dX8_qGoesOn_387 hM.1 rfl (bz_n bz0) ⟨hM, _, rfl, bz0, h⟩
                · have h := h.2 hc
                  refine PW.aload_n (pc := 377) dX8_qGoesOn_377 rfl ?_
                  refine PW.iconst (pc := 378) dX8_qGoesOn_378 (v := 1) (by decide) ?_
                  refine PW.aload_n (pc := 379) dX8_qGoesOn_379 rfl ?_
                  refine PW.getI (pc := 380) dX8_qGoesOn_380 lf_X8_255 (ob hM.1 s_277 (by decide)) fx_8_2 ?_
                  refine PW.inv (m' := mX8_fail) (pc := 383) dX8_qGoesOn_383 lm_X8_279 me_X8_fail mi_X8_fail (ob hM.1 s_277 (by decide)) rfl (As := [.int 1, .int (mI M91 277 2)]) (st := []) rfl (Nat.le_of_ble_eq_true rfl) (Nat.le_of_ble_eq_true rfl) (Nat.le_of_eq hM.1) (Nat.le_refl _) (PW.deep (by decide) (c_X8_fail  hM h)) ?_
                  rintro _ M93 ⟨hM, rfl, h⟩
                  refine PW.iconst (pc := 386) dX8_qGoesOn_386 (v := 0) (by decide) ?_
                  exact PW.retI (pc := 387) dX8_qGoesOn_387 hM.1 rfl (bz_n bz0) ⟨hM, _, rfl, bz0, h⟩
            · have h := h.2 hc
              exact PW.drop (c_X8_qGoesOn_326  _ hM h) ⟨rfl, trivial⟩
        · have h := h.2 hc
          exact PW.drop (c_X8_qGoesOn_225  _ hM h) ⟨rfl, trivial⟩
    · have h := h.2 hc
      exact PW.drop (c_X8_qGoesOn_140  _ hM h) ⟨rfl, trivial⟩
def w_X8_qGoesOn  (M : pm) (Q : Int32 → pm → Prop) : Prop := ∃ n23, w_X8_qGoesOn_0 n23  M (fun M24 => w_X8_qGoesOn_122  M24  Q) Q
set_option maxRecDepth 4000 in
theorem c_X8_qGoesOn  {M : pm} {Q : Int32 → pm → Prop}  (hM : pG M) (h : w_X8_qGoesOn  M Q) : PW mX8_qGoesOn 4 350 0 (pfr mX8_qGoesOn.2.2.1 [.ref 277]) [] M (qZ Q) := by
  unfold w_X8_qGoesOn at h
  show PW mX8_qGoesOn 4 350 0 [.ref 277, .null] [] M (qZ Q)
  obtain ⟨n23, h⟩ := h
  refine PW.drop (c_X8_qGoesOn_0 ?_ n23 _ hM h) ⟨rfl, trivial⟩
  · intro M24 hM h
    exact PW.drop (c_X8_qGoesOn_122  _ hM h) ⟨rfl, trivial⟩
