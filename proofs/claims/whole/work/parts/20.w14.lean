/-! methods, walked by program: w_ what must hold before, c_ its proof -/
def w_X8_songMany  (M : pm) (Q : Int32 → pm → Prop) : Prop := Q (mI M 309 3) M
set_option maxRecDepth 4000 in
theorem c_X8_songMany  {M : pm} {Q : Int32 → pm → Prop}  (hM : pG M) (h : w_X8_songMany  M Q) : PW mX8_songMany 1 350 0 (pfr mX8_songMany.2.2.1 [.ref 277]) [] M (qI Q) := by
  unfold w_X8_songMany at h
  show PW mX8_songMany 1 350 0 [.ref 277] [] M (qI Q)
  refine PW.aload_n (pc := 0) dX8_songMany_0 rfl ?_
  refine PW.getR (pc := 1) dX8_songMany_1 (r := 309) lf_X8_108 (ob hM.1 s_277 (by decide)) fx_8_40 (oR_8_40 hM s_277) (pS_ne s_309) ?_
  refine PW.iconst (pc := 4) dX8_songMany_4 (v := 3) (by decide) ?_
  refine PW.iald (pc := 5) dX8_songMany_5 (ar hM.1 s_309) (vpl n_309 (vp_c (i := 3) (n := 6) (by decide))) ?_
  exact PW.retI (pc := 6) dX8_songMany_6 hM.1 rfl rfl ⟨hM, _, rfl, h⟩
def w_X8_askerMany  (M : pm) (Q : Int32 → pm → Prop) : Prop := Q (mI M 309 4) M
set_option maxRecDepth 4000 in
theorem c_X8_askerMany  {M : pm} {Q : Int32 → pm → Prop}  (hM : pG M) (h : w_X8_askerMany  M Q) : PW mX8_askerMany 1 350 0 (pfr mX8_askerMany.2.2.1 [.ref 277]) [] M (qI Q) := by
  unfold w_X8_askerMany at h
  show PW mX8_askerMany 1 350 0 [.ref 277] [] M (qI Q)
  refine PW.aload_n (pc := 0) dX8_askerMany_0 rfl ?_
  refine PW.getR (pc := 1) dX8_askerMany_1 (r := 309) lf_X8_108 (ob hM.1 s_277 (by decide)) fx_8_40 (oR_8_40 hM s_277) (pS_ne s_309) ?_
  refine PW.iconst (pc := 4) dX8_askerMany_4 (v := 4) (by decide) ?_
  refine PW.iald (pc := 5) dX8_askerMany_5 (ar hM.1 s_309) (vpl n_309 (vp_c (i := 4) (n := 6) (by decide))) ?_
  exact PW.retI (pc := 6) dX8_askerMany_6 hM.1 rfl rfl ⟨hM, _, rfl, h⟩
def w_X8_earMany  (M : pm) (Q : Int32 → pm → Prop) : Prop := Q (mI M 309 5) M
set_option maxRecDepth 4000 in
theorem c_X8_earMany  {M : pm} {Q : Int32 → pm → Prop}  (hM : pG M) (h : w_X8_earMany  M Q) : PW mX8_earMany 1 350 0 (pfr mX8_earMany.2.2.1 [.ref 277]) [] M (qI Q) := by
  unfold w_X8_earMany at h
  show PW mX8_earMany 1 350 0 [.ref 277] [] M (qI Q)
  refine PW.aload_n (pc := 0) dX8_earMany_0 rfl ?_
  refine PW.getR (pc := 1) dX8_earMany_1 (r := 309) lf_X8_108 (ob hM.1 s_277 (by decide)) fx_8_40 (oR_8_40 hM s_277) (pS_ne s_309) ?_
  refine PW.iconst (pc := 4) dX8_earMany_4 (v := 5) (by decide) ?_
  refine PW.iald (pc := 5) dX8_earMany_5 (ar hM.1 s_309) (vpl n_309 (vp_c (i := 5) (n := 6) (by decide))) ?_
  exact PW.retI (pc := 6) dX8_earMany_6 hM.1 rfl rfl ⟨hM, _, rfl, h⟩
def w_X8_isAsker (x1 : Int32) (M : pm) (Q : Int32 → pm → Prop) : Prop := w_X8_askerMany  M (fun y2 M1 => w_X8_isIn (Int32.toInt64 x1) (0 : Int64) (Int32.toInt64 (y2 - 1)) M1 (fun y5 M4 => Q y5 M4))
set_option maxRecDepth 4000 in
theorem c_X8_isAsker {x1 : Int32} {M : pm} {Q : Int32 → pm → Prop}  (hM : pG M) (h : w_X8_isAsker x1 M Q) : PW mX8_isAsker 2 350 0 (pfr mX8_isAsker.2.2.1 [.ref 277, .int x1]) [] M (qZ Q) := by
  unfold w_X8_isAsker at h
  show PW mX8_isAsker 2 350 0 [.ref 277, .int x1] [] M (qZ Q)
  refine PW.iload_n (pc := 0) dX8_isAsker_0 rfl ?_
  refine PW.i2l (pc := 1) dX8_isAsker_1 ?_
  refine PW.lconst (pc := 2) dX8_isAsker_2 (v := 0) (by decide) ?_
  refine PW.aload_n (pc := 3) dX8_isAsker_3 rfl ?_
  refine PW.inv (m' := mX8_askerMany) (pc := 4) dX8_isAsker_4 lm_X8_395 me_X8_askerMany mi_X8_askerMany (ob hM.1 s_277 (by decide)) rfl (As := []) (st := [.long (0 : Int64), .long (Int32.toInt64 x1)]) rfl (Nat.le_of_ble_eq_true rfl) (Nat.le_of_ble_eq_true rfl) (Nat.le_of_eq hM.1) (Nat.le_refl _) (PW.deep (by decide) (c_X8_askerMany  hM h)) ?_
  rintro _ M1 ⟨hM3, y2, rfl, h⟩
  refine PW.iconst (pc := 7) dX8_isAsker_7 (v := 1) (by decide) ?_
  refine PW.isub (pc := 8) dX8_isAsker_8 ?_
  refine PW.i2l (pc := 9) dX8_isAsker_9 ?_
  refine PW.ins (m' := mX8_isIn) (pc := 10) dX8_isAsker_10 lm_X8_289 me_X8_isIn ms_X8_isIn (As := [.long (Int32.toInt64 x1), .long (0 : Int64), .long (Int32.toInt64 (y2 - 1))]) (st := []) rfl (Nat.le_of_ble_eq_true rfl) (Nat.le_of_ble_eq_true rfl) (Nat.le_of_eq hM3.1) (Nat.le_refl _) (PW.deep (by decide) (c_X8_isIn  hM3 h)) ?_
  rintro _ M4 ⟨hM6, y5, rfl, z7, h⟩
  exact PW.retI (pc := 13) dX8_isAsker_13 hM6.1 rfl (bz_n z7) ⟨hM6, _, rfl, z7, h⟩
def w_X8_songOf (x1 : Int32) (M : pm) (Q : Int32 → pm → Prop) : Prop := vp_in (2 + (5 * x1)) 163 ∧ (Q (mI M 317 ((2 + (5 * x1)).toNatClampNeg)) M)
set_option maxRecDepth 4000 in
theorem c_X8_songOf {x1 : Int32} {M : pm} {Q : Int32 → pm → Prop}  (hM : pG M) (h : w_X8_songOf x1 M Q) : PW mX8_songOf 1 350 0 (pfr mX8_songOf.2.2.1 [.ref 277, .int x1]) [] M (qI Q) := by
  unfold w_X8_songOf at h
  show PW mX8_songOf 1 350 0 [.ref 277, .int x1] [] M (qI Q)
  refine PW.aload_n (pc := 0) dX8_songOf_0 rfl ?_
  refine PW.getR (pc := 1) dX8_songOf_1 (r := 317) lf_X8_133 (ob hM.1 s_277 (by decide)) fx_8_52 (oR_8_52 hM s_277) (pS_ne s_317) ?_
  refine PW.iconst (pc := 4) dX8_songOf_4 (v := 2) (by decide) ?_
  refine PW.iconst (pc := 5) dX8_songOf_5 (v := 5) (by decide) ?_
  refine PW.iload_n (pc := 6) dX8_songOf_6 rfl ?_
  refine PW.imul (pc := 7) dX8_songOf_7 ?_
  refine PW.iadd (pc := 8) dX8_songOf_8 ?_
  obtain ⟨v1, h⟩ := h
  refine PW.iald (pc := 9) dX8_songOf_9 (ar hM.1 s_317) (vpl n_317 v1) ?_
  exact PW.retI (pc := 10) dX8_songOf_10 hM.1 rfl rfl ⟨hM, _, rfl, h⟩
def w_X8_diesOf (x1 : Int32) (M : pm) (Q : Int32 → pm → Prop) : Prop := vp_in (3 + (5 * x1)) 163 ∧ (Q (mI M 317 ((3 + (5 * x1)).toNatClampNeg)) M)
set_option maxRecDepth 4000 in
theorem c_X8_diesOf {x1 : Int32} {M : pm} {Q : Int32 → pm → Prop}  (hM : pG M) (h : w_X8_diesOf x1 M Q) : PW mX8_diesOf 1 350 0 (pfr mX8_diesOf.2.2.1 [.ref 277, .int x1]) [] M (qI Q) := by
  unfold w_X8_diesOf at h
  show PW mX8_diesOf 1 350 0 [.ref 277, .int x1] [] M (qI Q)
  refine PW.aload_n (pc := 0) dX8_diesOf_0 rfl ?_
  refine PW.getR (pc := 1) dX8_diesOf_1 (r := 317) lf_X8_133 (ob hM.1 s_277 (by decide)) fx_8_52 (oR_8_52 hM s_277) (pS_ne s_317) ?_
  refine PW.iconst (pc := 4) dX8_diesOf_4 (v := 3) (by decide) ?_
  refine PW.iconst (pc := 5) dX8_diesOf_5 (v := 5) (by decide) ?_
  refine PW.iload_n (pc := 6) dX8_diesOf_6 rfl ?_
  refine PW.imul (pc := 7) dX8_diesOf_7 ?_
  refine PW.iadd (pc := 8) dX8_diesOf_8 ?_
  obtain ⟨v1, h⟩ := h
  refine PW.iald (pc := 9) dX8_diesOf_9 (ar hM.1 s_317) (vpl n_317 v1) ?_
  exact PW.retI (pc := 10) dX8_diesOf_10 hM.1 rfl rfl ⟨hM, _, rfl, h⟩
def w_X8_mindsOf (x1 : Int32) (M : pm) (Q : Int32 → pm → Prop) : Prop := vp_in (4 + (5 * x1)) 163 ∧ (Q (mI M 317 ((4 + (5 * x1)).toNatClampNeg)) M)
set_option maxRecDepth 4000 in
theorem c_X8_mindsOf {x1 : Int32} {M : pm} {Q : Int32 → pm → Prop}  (hM : pG M) (h : w_X8_mindsOf x1 M Q) : PW mX8_mindsOf 1 350 0 (pfr mX8_mindsOf.2.2.1 [.ref 277, .int x1]) [] M (qI Q) := by
  unfold w_X8_mindsOf at h
  show PW mX8_mindsOf 1 350 0 [.ref 277, .int x1] [] M (qI Q)
  refine PW.aload_n (pc := 0) dX8_mindsOf_0 rfl ?_
  refine PW.getR (pc := 1) dX8_mindsOf_1 (r := 317) lf_X8_133 (ob hM.1 s_277 (by decide)) fx_8_52 (oR_8_52 hM s_277) (pS_ne s_317) ?_
  refine PW.iconst (pc := 4) dX8_mindsOf_4 (v := 4) (by decide) ?_
  refine PW.iconst (pc := 5) dX8_mindsOf_5 (v := 5) (by decide) ?_
  refine PW.iload_n (pc := 6) dX8_mindsOf_6 rfl ?_
  refine PW.imul (pc := 7) dX8_mindsOf_7 ?_
  refine PW.iadd (pc := 8) dX8_mindsOf_8 ?_
  obtain ⟨v1, h⟩ := h
  refine PW.iald (pc := 9) dX8_mindsOf_9 (ar hM.1 s_317) (vpl n_317 v1) ?_
  exact PW.retI (pc := 10) dX8_mindsOf_10 hM.1 rfl rfl ⟨hM, _, rfl, h⟩
def w_X8_lastOf (x1 : Int32) (M : pm) (Q : Int32 → pm → Prop) : Prop := vp_in (5 + (5 * x1)) 163 ∧ (Q (mI M 317 ((5 + (5 * x1)).toNatClampNeg)) M)
set_option maxRecDepth 4000 in
theorem c_X8_lastOf {x1 : Int32} {M : pm} {Q : Int32 → pm → Prop}  (hM : pG M) (h : w_X8_lastOf x1 M Q) : PW mX8_lastOf 1 350 0 (pfr mX8_lastOf.2.2.1 [.ref 277, .int x1]) [] M (qI Q) := by
  unfold w_X8_lastOf at h
  show PW mX8_lastOf 1 350 0 [.ref 277, .int x1] [] M (qI Q)
  refine PW.aload_n (pc := 0) dX8_lastOf_0 rfl ?_
  refine PW.getR (pc := 1) dX8_lastOf_1 (r := 317) lf_X8_133 (ob hM.1 s_277 (by decide)) fx_8_52 (oR_8_52 hM s_277) (pS_ne s_317) ?_
  refine PW.iconst (pc := 4) dX8_lastOf_4 (v := 5) (by decide) ?_
  refine PW.iconst (pc := 5) dX8_lastOf_5 (v := 5) (by decide) ?_
  refine PW.iload_n (pc := 6) dX8_lastOf_6 rfl ?_
  refine PW.imul (pc := 7) dX8_lastOf_7 ?_
  refine PW.iadd (pc := 8) dX8_lastOf_8 ?_
  obtain ⟨v1, h⟩ := h
  refine PW.iald (pc := 9) dX8_lastOf_9 (ar hM.1 s_317) (vpl n_317 v1) ?_
  exact PW.retI (pc := 10) dX8_lastOf_10 hM.1 rfl rfl ⟨hM, _, rfl, h⟩
def w_X8_playedOf (x1 : Int32) (M : pm) (Q : Int32 → pm → Prop) : Prop := vp_in (6 + (5 * x1)) 163 ∧ (Q (mI M 317 ((6 + (5 * x1)).toNatClampNeg)) M)
set_option maxRecDepth 4000 in
theorem c_X8_playedOf {x1 : Int32} {M : pm} {Q : Int32 → pm → Prop}  (hM : pG M) (h : w_X8_playedOf x1 M Q) : PW mX8_playedOf 1 350 0 (pfr mX8_playedOf.2.2.1 [.ref 277, .int x1]) [] M (qI Q) := by
  unfold w_X8_playedOf at h
  show PW mX8_playedOf 1 350 0 [.ref 277, .int x1] [] M (qI Q)
  refine PW.aload_n (pc := 0) dX8_playedOf_0 rfl ?_
  refine PW.getR (pc := 1) dX8_playedOf_1 (r := 317) lf_X8_133 (ob hM.1 s_277 (by decide)) fx_8_52 (oR_8_52 hM s_277) (pS_ne s_317) ?_
  refine PW.bipush (pc := 4) dX8_playedOf_4 (v := 6) (by decide) ?_
  refine PW.iconst (pc := 6) dX8_playedOf_6 (v := 5) (by decide) ?_
  refine PW.iload_n (pc := 7) dX8_playedOf_7 rfl ?_
  refine PW.imul (pc := 8) dX8_playedOf_8 ?_
  refine PW.iadd (pc := 9) dX8_playedOf_9 ?_
  obtain ⟨v1, h⟩ := h
  refine PW.iald (pc := 10) dX8_playedOf_10 (ar hM.1 s_317) (vpl n_317 v1) ?_
  exact PW.retI (pc := 11) dX8_playedOf_11 hM.1 rfl rfl ⟨hM, _, rfl, h⟩
def w_X8_longOf (x1 : Int32) (M : pm) (Q : Int32 → pm → Prop) : Prop := w_X8_songOf x1 M (fun y2 M1 => vp_in (12 + (2 * y2)) 24 ∧ (Q (mI M1 311 ((12 + (2 * y2)).toNatClampNeg)) M1))
set_option maxRecDepth 4000 in
theorem c_X8_longOf {x1 : Int32} {M : pm} {Q : Int32 → pm → Prop}  (hM : pG M) (h : w_X8_longOf x1 M Q) : PW mX8_longOf 2 350 0 (pfr mX8_longOf.2.2.1 [.ref 277, .int x1]) [] M (qI Q) := by
  unfold w_X8_longOf at h
  show PW mX8_longOf 2 350 0 [.ref 277, .int x1] [] M (qI Q)
  refine PW.aload_n (pc := 0) dX8_longOf_0 rfl ?_
  refine PW.getR (pc := 1) dX8_longOf_1 (r := 311) lf_X8_115 (ob hM.1 s_277 (by decide)) fx_8_42 (oR_8_42 hM s_277) (pS_ne s_311) ?_
  refine PW.bipush (pc := 4) dX8_longOf_4 (v := 12) (by decide) ?_
  refine PW.iconst (pc := 6) dX8_longOf_6 (v := 2) (by decide) ?_
  refine PW.aload_n (pc := 7) dX8_longOf_7 rfl ?_
  refine PW.iload_n (pc := 8) dX8_longOf_8 rfl ?_
  refine PW.inv (m' := mX8_songOf) (pc := 9) dX8_longOf_9 lm_X8_398 me_X8_songOf mi_X8_songOf (ob hM.1 s_277 (by decide)) rfl (As := [.int x1]) (st := [.int 2, .int 12, .ref 311]) rfl (Nat.le_of_ble_eq_true rfl) (Nat.le_of_ble_eq_true rfl) (Nat.le_of_eq hM.1) (Nat.le_refl _) (PW.deep (by decide) (c_X8_songOf  hM h)) ?_
  rintro _ M1 ⟨hM3, y2, rfl, h⟩
  refine PW.imul (pc := 12) dX8_longOf_12 ?_
  refine PW.iadd (pc := 13) dX8_longOf_13 ?_
  obtain ⟨v4, h⟩ := h
  refine PW.iald (pc := 14) dX8_longOf_14 (ar hM3.1 s_311) (vpl n_311 v4) ?_
  exact PW.retI (pc := 15) dX8_longOf_15 hM3.1 rfl rfl ⟨hM3, _, rfl, h⟩
def w_X8_styleOf (x1 : Int32) (M : pm) (Q : Int32 → pm → Prop) : Prop := w_X8_songOf x1 M (fun y2 M1 => vp_in (13 + (2 * y2)) 24 ∧ (Q (mI M1 311 ((13 + (2 * y2)).toNatClampNeg)) M1))
set_option maxRecDepth 4000 in
theorem c_X8_styleOf {x1 : Int32} {M : pm} {Q : Int32 → pm → Prop}  (hM : pG M) (h : w_X8_styleOf x1 M Q) : PW mX8_styleOf 2 350 0 (pfr mX8_styleOf.2.2.1 [.ref 277, .int x1]) [] M (qI Q) := by
  unfold w_X8_styleOf at h
  show PW mX8_styleOf 2 350 0 [.ref 277, .int x1] [] M (qI Q)
  refine PW.aload_n (pc := 0) dX8_styleOf_0 rfl ?_
  refine PW.getR (pc := 1) dX8_styleOf_1 (r := 311) lf_X8_115 (ob hM.1 s_277 (by decide)) fx_8_42 (oR_8_42 hM s_277) (pS_ne s_311) ?_
  refine PW.bipush (pc := 4) dX8_styleOf_4 (v := 13) (by decide) ?_
  refine PW.iconst (pc := 6) dX8_styleOf_6 (v := 2) (by decide) ?_
  refine PW.aload_n (pc := 7) dX8_styleOf_7 rfl ?_
  refine PW.iload_n (pc := 8) dX8_styleOf_8 rfl ?_
  refine PW.inv (m' := mX8_songOf) (pc := 9) dX8_styleOf_9 lm_X8_398 me_X8_songOf mi_X8_songOf (ob hM.1 s_277 (by decide)) rfl (As := [.int x1]) (st := [.int 2, .int 13, .ref 311]) rfl (Nat.le_of_ble_eq_true rfl) (Nat.le_of_ble_eq_true rfl) (Nat.le_of_eq hM.1) (Nat.le_refl _) (PW.deep (by decide) (c_X8_songOf  hM h)) ?_
  rintro _ M1 ⟨hM3, y2, rfl, h⟩
  refine PW.imul (pc := 12) dX8_styleOf_12 ?_
  refine PW.iadd (pc := 13) dX8_styleOf_13 ?_
  obtain ⟨v4, h⟩ := h
  refine PW.iald (pc := 14) dX8_styleOf_14 (ar hM3.1 s_311) (vpl n_311 v4) ?_
  exact PW.retI (pc := 15) dX8_styleOf_15 hM3.1 rfl rfl ⟨hM3, _, rfl, h⟩
def w_X8_isDead (x1 : Int32) (M : pm) (Q : Int32 → pm → Prop) : Prop := w_X8_diesOf x1 M (fun y2 M1 => (((mI M 317 0) < y2 → (Q 0 M1)) ∧ (¬ (mI M 317 0) < y2 → (Q 1 M1))))
set_option maxRecDepth 4000 in
theorem c_X8_isDead {x1 : Int32} {M : pm} {Q : Int32 → pm → Prop}  (hM : pG M) (h : w_X8_isDead x1 M Q) : PW mX8_isDead 2 350 0 (pfr mX8_isDead.2.2.1 [.ref 277, .int x1]) [] M (qZ Q) := by
  unfold w_X8_isDead at h
  show PW mX8_isDead 2 350 0 [.ref 277, .int x1] [] M (qZ Q)
  refine PW.aload_n (pc := 0) dX8_isDead_0 rfl ?_
  refine PW.getR (pc := 1) dX8_isDead_1 (r := 317) lf_X8_133 (ob hM.1 s_277 (by decide)) fx_8_52 (oR_8_52 hM s_277) (pS_ne s_317) ?_
  refine PW.iconst (pc := 4) dX8_isDead_4 (v := 0) (by decide) ?_
  refine PW.iald (pc := 5) dX8_isDead_5 (ar hM.1 s_317) (vpl n_317 (vp_c (i := 0) (n := 163) (by decide))) ?_
  refine PW.aload_n (pc := 6) dX8_isDead_6 rfl ?_
  refine PW.iload_n (pc := 7) dX8_isDead_7 rfl ?_
  refine PW.inv (m' := mX8_diesOf) (pc := 8) dX8_isDead_8 lm_X8_402 me_X8_diesOf mi_X8_diesOf (ob hM.1 s_277 (by decide)) rfl (As := [.int x1]) (st := [.int (mI M 317 0)]) rfl (Nat.le_of_ble_eq_true rfl) (Nat.le_of_ble_eq_true rfl) (Nat.le_of_eq hM.1) (Nat.le_refl _) (PW.deep (by decide) (c_X8_diesOf  hM h)) ?_
  rintro _ M1 ⟨hM3, y2, rfl, h⟩
  refine PW.icmp_lt (pc := 11) dX8_isDead_11 (t := 18) (by decide) (fun hc => ?_) (fun hc => ?_)
  · have h := h.1 hc
    refine PW.iconst (pc := 18) dX8_isDead_18 (v := 0) (by decide) ?_
    exact PW.retI (pc := 19) dX8_isDead_19 hM3.1 rfl (bz_n bz0) ⟨hM3, _, rfl, bz0, h⟩
  · have h := h.2 hc
    refine PW.iconst (pc := 14) dX8_isDead_14 (v := 1) (by decide) ?_
    refine PW.goto (pc := 15) dX8_isDead_15 (t := 19) (by decide) ?_
    exact PW.retI (pc := 19) dX8_isDead_19 hM3.1 rfl (bz_n bz1) ⟨hM3, _, rfl, bz1, h⟩
def w_X8_ageOf (x1 : Int32) (M : pm) (Q : Int32 → pm → Prop) : Prop := w_X8_isDead x1 M (fun y2 M1 => ((y2 = 0 → (Q 0 M1)) ∧ (¬ y2 = 0 → (w_X8_diesOf x1 M1 (fun y6 M5 => Q ((mI M1 317 0) - y6) M5)))))
set_option maxRecDepth 4000 in
theorem c_X8_ageOf {x1 : Int32} {M : pm} {Q : Int32 → pm → Prop}  (hM : pG M) (h : w_X8_ageOf x1 M Q) : PW mX8_ageOf 3 350 0 (pfr mX8_ageOf.2.2.1 [.ref 277, .int x1]) [] M (qI Q) := by
  unfold w_X8_ageOf at h
  show PW mX8_ageOf 3 350 0 [.ref 277, .int x1] [] M (qI Q)
  refine PW.aload_n (pc := 0) dX8_ageOf_0 rfl ?_
  refine PW.iload_n (pc := 1) dX8_ageOf_1 rfl ?_
  refine PW.inv (m' := mX8_isDead) (pc := 2) dX8_ageOf_2 lm_X8_405 me_X8_isDead mi_X8_isDead (ob hM.1 s_277 (by decide)) rfl (As := [.int x1]) (st := []) rfl (Nat.le_of_ble_eq_true rfl) (Nat.le_of_ble_eq_true rfl) (Nat.le_of_eq hM.1) (Nat.le_refl _) (PW.deep (by decide) (c_X8_isDead  hM h)) ?_
  rintro _ M1 ⟨hM3, y2, rfl, z4, h⟩
  refine PW.if_eq (pc := 5) dX8_ageOf_5 (t := 23) (by decide) (fun hc => ?_) (fun hc => ?_)
  · have h := h.1 hc
    refine PW.iconst (pc := 23) dX8_ageOf_23 (v := 0) (by decide) ?_
    exact PW.retI (pc := 24) dX8_ageOf_24 hM3.1 rfl rfl ⟨hM3, _, rfl, h⟩
  · have h := h.2 hc
    refine PW.aload_n (pc := 8) dX8_ageOf_8 rfl ?_
    refine PW.getR (pc := 9) dX8_ageOf_9 (r := 317) lf_X8_133 (ob hM3.1 s_277 (by decide)) fx_8_52 (oR_8_52 hM3 s_277) (pS_ne s_317) ?_
    refine PW.iconst (pc := 12) dX8_ageOf_12 (v := 0) (by decide) ?_
    refine PW.iald (pc := 13) dX8_ageOf_13 (ar hM3.1 s_317) (vpl n_317 (vp_c (i := 0) (n := 163) (by decide))) ?_
    refine PW.aload_n (pc := 14) dX8_ageOf_14 rfl ?_
    refine PW.iload_n (pc := 15) dX8_ageOf_15 rfl ?_
    refine PW.inv (m' := mX8_diesOf) (pc := 16) dX8_ageOf_16 lm_X8_402 me_X8_diesOf mi_X8_diesOf (ob hM3.1 s_277 (by decide)) rfl (As := [.int x1]) (st := [.int (mI M1 317 0)]) rfl (Nat.le_of_ble_eq_true rfl) (Nat.le_of_ble_eq_true rfl) (Nat.le_of_eq hM3.1) (Nat.le_refl _) (PW.deep (by decide) (c_X8_diesOf  hM3 h)) ?_
    rintro _ M5 ⟨hM7, y6, rfl, h⟩
    refine PW.isub (pc := 19) dX8_ageOf_19 ?_
    refine PW.goto (pc := 20) dX8_ageOf_20 (t := 24) (by decide) ?_
    exact PW.retI (pc := 24) dX8_ageOf_24 hM7.1 rfl rfl ⟨hM7, _, rfl, h⟩
def w_X8_sinceOf (x1 : Int32) (M : pm) (Q : Int32 → pm → Prop) : Prop := w_X8_lastOf x1 M (fun y2 M1 => ((¬ y2 = 0 → (w_X8_lastOf x1 M1 (fun y5 M4 => (((((mI M1 317 0) + 1) - y5) ≤ 99 → (Q (((mI M1 317 0) + 1) - y5) M4)) ∧ (¬ (((mI M1 317 0) + 1) - y5) ≤ 99 → (Q 99 M4)))))) ∧ (y2 = 0 → (Q 99 M1))))
set_option maxRecDepth 4000 in
theorem c_X8_sinceOf {x1 : Int32} {M : pm} {Q : Int32 → pm → Prop}  (hM : pG M) (h : w_X8_sinceOf x1 M Q) : PW mX8_sinceOf 2 350 0 (pfr mX8_sinceOf.2.2.1 [.ref 277, .int x1]) [] M (qI Q) := by
  unfold w_X8_sinceOf at h
  show PW mX8_sinceOf 2 350 0 [.ref 277, .int x1, .null] [] M (qI Q)
  refine PW.aload_n (pc := 0) dX8_sinceOf_0 rfl ?_
  refine PW.iload_n (pc := 1) dX8_sinceOf_1 rfl ?_
  refine PW.inv (m' := mX8_lastOf) (pc := 2) dX8_sinceOf_2 lm_X8_408 me_X8_lastOf mi_X8_lastOf (ob hM.1 s_277 (by decide)) rfl (As := [.int x1]) (st := []) rfl (Nat.le_of_ble_eq_true rfl) (Nat.le_of_ble_eq_true rfl) (Nat.le_of_eq hM.1) (Nat.le_refl _) (PW.deep (by decide) (c_X8_lastOf  hM h)) ?_
  rintro _ M1 ⟨hM3, y2, rfl, h⟩
  refine PW.if_ne (pc := 5) dX8_sinceOf_5 (t := 11) (by decide) (fun hc => ?_) (fun hc => ?_)
  · have h := h.1 hc
    refine PW.aload_n (pc := 11) dX8_sinceOf_11 rfl ?_
    refine PW.getR (pc := 12) dX8_sinceOf_12 (r := 317) lf_X8_133 (ob hM3.1 s_277 (by decide)) fx_8_52 (oR_8_52 hM3 s_277) (pS_ne s_317) ?_
    refine PW.iconst (pc := 15) dX8_sinceOf_15 (v := 0) (by decide) ?_
    refine PW.iald (pc := 16) dX8_sinceOf_16 (ar hM3.1 s_317) (vpl n_317 (vp_c (i := 0) (n := 163) (by decide))) ?_
    refine PW.iconst (pc := 17) dX8_sinceOf_17 (v := 1) (by decide) ?_
    refine PW.iadd (pc := 18) dX8_sinceOf_18 ?_
    refine PW.aload_n (pc := 19) dX8_sinceOf_19 rfl ?_
    refine PW.iload_n (pc := 20) dX8_sinceOf_20 rfl ?_
    refine PW.inv (m' := mX8_lastOf) (pc := 21) dX8_sinceOf_21 lm_X8_408 me_X8_lastOf mi_X8_lastOf (ob hM3.1 s_277 (by decide)) rfl (As := [.int x1]) (st := [.int ((mI M1 317 0) + 1)]) rfl (Nat.le_of_ble_eq_true rfl) (Nat.le_of_ble_eq_true rfl) (Nat.le_of_eq hM3.1) (Nat.le_refl _) (PW.deep (by decide) (c_X8_lastOf  hM3 h)) ?_
    rintro _ M4 ⟨hM6, y5, rfl, h⟩
    refine PW.isub (pc := 24) dX8_sinceOf_24 ?_
    refine PW.istore_n (pc := 25) dX8_sinceOf_25 (ls' := [.ref 277, .int x1, .int (((mI M1 317 0) + 1) - y5)]) (by decide) rfl rfl ?_
    refine PW.iload_n (pc := 26) dX8_sinceOf_26 rfl ?_
    refine PW.bipush (pc := 27) dX8_sinceOf_27 (v := 99) (by decide) ?_
    refine PW.icmp_le (pc := 29) dX8_sinceOf_29 (t := 37) (by decide) (fun hc => ?_) (fun hc => ?_)
    · have h := h.1 hc
      refine PW.iload_n (pc := 37) dX8_sinceOf_37 rfl ?_
      exact PW.retI (pc := 38) dX8_sinceOf_38 hM6.1 rfl rfl ⟨hM6, _, rfl, h⟩
    · have h := h.2 hc
      refine PW.bipush (pc := 32) dX8_sinceOf_32 (v := 99) (by decide) ?_
      refine PW.goto (pc := 34) dX8_sinceOf_34 (t := 38) (by decide) ?_
      exact PW.retI (pc := 38) dX8_sinceOf_38 hM6.1 rfl rfl ⟨hM6, _, rfl, h⟩
  · have h := h.2 hc
    refine PW.bipush (pc := 8) dX8_sinceOf_8 (v := 99) (by decide) ?_
    exact PW.retI (pc := 10) dX8_sinceOf_10 hM3.1 rfl rfl ⟨hM3, _, rfl, h⟩
def w_X8_qPuts (x1 : Int64) (M : pm) (Q : pm → Prop) : Prop := vp_in (mI M 277 102) 1700 ∧ (Q (sI (sJ M 351 ((mI M 277 102).toNatClampNeg) x1) 277 102 ((mI M 277 102) + 1)))
set_option maxRecDepth 4000 in
theorem c_X8_qPuts {x1 : Int64} {M : pm} {Q : pm → Prop}  (hM : pG M) (h : w_X8_qPuts x1 M Q) : PW mX8_qPuts 1 350 0 (pfr mX8_qPuts.2.2.1 [.ref 277, .long x1]) [] M (qV Q) := by
  unfold w_X8_qPuts at h
  show PW mX8_qPuts 1 350 0 [.ref 277, .long x1, .null] [] M (qV Q)
  refine PW.aload_n (pc := 0) dX8_qPuts_0 rfl ?_
  refine PW.getR (pc := 1) dX8_qPuts_1 (r := 351) lf_X8_240 (ob hM.1 s_277 (by decide)) fx_8_101 (oR_8_101 hM s_277) (pS_ne s_351) ?_
  refine PW.aload_n (pc := 4) dX8_qPuts_4 rfl ?_
  refine PW.getI (pc := 5) dX8_qPuts_5 lf_X8_411 (ob hM.1 s_277 (by decide)) fx_8_102 ?_
  refine PW.lload_n (pc := 8) dX8_qPuts_8 rfl ?_
  obtain ⟨v1, h⟩ := h
  refine PW.last (pc := 9) dX8_qPuts_9 (ar hM.1 s_351) (vpl n_351 v1) ?_
  refine PW.aload_n (pc := 10) dX8_qPuts_10 rfl ?_
  refine PW.dupR (pc := 11) dX8_qPuts_11 ?_
  refine PW.getI (pc := 12) dX8_qPuts_12 lf_X8_411 (ob hM.1 s_277 (by decide)) fx_8_102 ?_
  refine PW.iconst (pc := 15) dX8_qPuts_15 (v := 1) (by decide) ?_
  refine PW.iadd (pc := 16) dX8_qPuts_16 ?_
  refine PW.putI (pc := 17) dX8_qPuts_17 lf_X8_411 (ob hM.1 s_277 (by decide)) fx_8_102 fw_8_102 rfl rfl ?_
  exact PW.ret0 (pc := 20) dX8_qPuts_20 hM.1 rfl ⟨(hM.same rfl rfl), rfl, h⟩
def w_X8_qPartOf (x1 : Int32) (x2 : Int32) (M : pm) (Q : Int64 → pm → Prop) : Prop := ((x1 = 0 → (w_X8_mindsOf x2 M (fun y2 M1 => Q (Int32.toInt64 y2) M1))) ∧ (x1 = 1 → (w_X8_ageOf x2 M (fun y5 M4 => Q (Int32.toInt64 y5) M4))) ∧ (x1 = 2 → (w_X8_sinceOf x2 M (fun y8 M7 => Q (Int32.toInt64 y8) M7))) ∧ (x1 = 3 → (w_X8_playedOf x2 M (fun y11 M10 => Q (Int32.toInt64 y11) M10))) ∧ (x1 = 4 → (Q (Int32.toInt64 (mI M 317 0)) M)) ∧ (x1 = 5 → (w_X8_songOf x2 M (fun y14 M13 => vp_in (12 + (2 * y14)) 24 ∧ (Q (Int32.toInt64 (mI M13 311 ((12 + (2 * y14)).toNatClampNeg))) M13)))) ∧ (x1 = 6 → (w_X8_songOf x2 M (fun y18 M17 => vp_in (13 + (2 * y18)) 24 ∧ (Q (Int32.toInt64 (mI M17 311 ((13 + (2 * y18)).toNatClampNeg))) M17)))) ∧ (x1 = 7 → (Q (Int32.toInt64 x2) M)) ∧ (x1 = 8 → (w_X8_isDead x2 M (fun y22 M21 => ((y22 = 0 → (Q (1 : Int64) M21)) ∧ (¬ y22 = 0 → (Q (0 : Int64) M21)))))) ∧ (¬ x1 = 0 → ¬ x1 = 1 → ¬ x1 = 2 → ¬ x1 = 3 → ¬ x1 = 4 → ¬ x1 = 5 → ¬ x1 = 6 → ¬ x1 = 7 → ¬ x1 = 8 → (Q (Int32.toInt64 (((mI M 277 56) >>> (x2 &&& 31)) &&& 1)) M)))
set_option maxRecDepth 4000 in
theorem c_X8_qPartOf {x1 : Int32} {x2 : Int32} {M : pm} {Q : Int64 → pm → Prop}  (hM : pG M) (h : w_X8_qPartOf x1 x2 M Q) : PW mX8_qPartOf 4 350 0 (pfr mX8_qPartOf.2.2.1 [.ref 277, .int x1, .int x2]) [] M (qJ Q) := by
  unfold w_X8_qPartOf at h
  show PW mX8_qPartOf 4 350 0 [.ref 277, .int x1, .int x2] [] M (qJ Q)
  refine PW.iload_n (pc := 0) dX8_qPartOf_0 rfl ?_
  by_cases q0 : x1 = 0
  · have h := h.1 q0
    refine PW.tabIn (pc := 1) dX8_qPartOf_1 (by rw [q0]; decide) (by rw [q0]; decide) (off := 51) (by rw [q0]; decide) (t := 52) (by decide) ?_
    refine PW.aload_n (pc := 52) dX8_qPartOf_52 rfl ?_
    refine PW.iload_n (pc := 53) dX8_qPartOf_53 rfl ?_
    refine PW.inv (m' := mX8_mindsOf) (pc := 54) dX8_qPartOf_54 lm_X8_425 me_X8_mindsOf mi_X8_mindsOf (ob hM.1 s_277 (by decide)) rfl (As := [.int x2]) (st := []) rfl (Nat.le_of_ble_eq_true rfl) (Nat.le_of_ble_eq_true rfl) (Nat.le_of_eq hM.1) (Nat.le_refl _) (PW.deep (by decide) (c_X8_mindsOf  hM h)) ?_
    rintro _ M1 ⟨hM3, y2, rfl, h⟩
    refine PW.i2l (pc := 57) dX8_qPartOf_57 ?_
    exact PW.retJ (pc := 58) dX8_qPartOf_58 hM3.1 rfl ⟨hM3, _, rfl, h⟩
  by_cases q1 : x1 = 1
  · have h := h.2.1 q1
    refine PW.tabIn (pc := 1) dX8_qPartOf_1 (by rw [q1]; decide) (by rw [q1]; decide) (off := 58) (by rw [q1]; decide) (t := 59) (by decide) ?_
    refine PW.aload_n (pc := 59) dX8_qPartOf_59 rfl ?_
    refine PW.iload_n (pc := 60) dX8_qPartOf_60 rfl ?_
    refine PW.inv (m' := mX8_ageOf) (pc := 61) dX8_qPartOf_61 lm_X8_649 me_X8_ageOf mi_X8_ageOf (ob hM.1 s_277 (by decide)) rfl (As := [.int x2]) (st := []) rfl (Nat.le_of_ble_eq_true rfl) (Nat.le_of_ble_eq_true rfl) (Nat.le_of_eq hM.1) (Nat.le_refl _) (PW.deep (by decide) (c_X8_ageOf  hM h)) ?_
    rintro _ M4 ⟨hM6, y5, rfl, h⟩
    refine PW.i2l (pc := 64) dX8_qPartOf_64 ?_
    exact PW.retJ (pc := 65) dX8_qPartOf_65 hM6.1 rfl ⟨hM6, _, rfl, h⟩
  by_cases q2 : x1 = 2
  · have h := h.2.2.1 q2
    refine PW.tabIn (pc := 1) dX8_qPartOf_1 (by rw [q2]; decide) (by rw [q2]; decide) (off := 65) (by rw [q2]; decide) (t := 66) (by decide) ?_
    refine PW.aload_n (pc := 66) dX8_qPartOf_66 rfl ?_
    refine PW.iload_n (pc := 67) dX8_qPartOf_67 rfl ?_
    refine PW.inv (m' := mX8_sinceOf) (pc := 68) dX8_qPartOf_68 lm_X8_510 me_X8_sinceOf mi_X8_sinceOf (ob hM.1 s_277 (by decide)) rfl (As := [.int x2]) (st := []) rfl (Nat.le_of_ble_eq_true rfl) (Nat.le_of_ble_eq_true rfl) (Nat.le_of_eq hM.1) (Nat.le_refl _) (PW.deep (by decide) (c_X8_sinceOf  hM h)) ?_
    rintro _ M7 ⟨hM9, y8, rfl, h⟩
    refine PW.i2l (pc := 71) dX8_qPartOf_71 ?_
    exact PW.retJ (pc := 72) dX8_qPartOf_72 hM9.1 rfl ⟨hM9, _, rfl, h⟩
  by_cases q3 : x1 = 3
  · have h := h.2.2.2.1 q3
    refine PW.tabIn (pc := 1) dX8_qPartOf_1 (by rw [q3]; decide) (by rw [q3]; decide) (off := 72) (by rw [q3]; decide) (t := 73) (by decide) ?_
    refine PW.aload_n (pc := 73) dX8_qPartOf_73 rfl ?_
    refine PW.iload_n (pc := 74) dX8_qPartOf_74 rfl ?_
    refine PW.inv (m' := mX8_playedOf) (pc := 75) dX8_qPartOf_75 lm_X8_464 me_X8_playedOf mi_X8_playedOf (ob hM.1 s_277 (by decide)) rfl (As := [.int x2]) (st := []) rfl (Nat.le_of_ble_eq_true rfl) (Nat.le_of_ble_eq_true rfl) (Nat.le_of_eq hM.1) (Nat.le_refl _) (PW.deep (by decide) (c_X8_playedOf  hM h)) ?_
    rintro _ M10 ⟨hM12, y11, rfl, h⟩
    refine PW.i2l (pc := 78) dX8_qPartOf_78 ?_
    exact PW.retJ (pc := 79) dX8_qPartOf_79 hM12.1 rfl ⟨hM12, _, rfl, h⟩
  by_cases q4 : x1 = 4
  · have h := h.2.2.2.2.1 q4
    refine PW.tabIn (pc := 1) dX8_qPartOf_1 (by rw [q4]; decide) (by rw [q4]; decide) (off := 79) (by rw [q4]; decide) (t := 80) (by decide) ?_
    refine PW.aload_n (pc := 80) dX8_qPartOf_80 rfl ?_
    refine PW.getR (pc := 81) dX8_qPartOf_81 (r := 317) lf_X8_133 (ob hM.1 s_277 (by decide)) fx_8_52 (oR_8_52 hM s_277) (pS_ne s_317) ?_
    refine PW.iconst (pc := 84) dX8_qPartOf_84 (v := 0) (by decide) ?_
    refine PW.iald (pc := 85) dX8_qPartOf_85 (ar hM.1 s_317) (vpl n_317 (vp_c (i := 0) (n := 163) (by decide))) ?_
    refine PW.i2l (pc := 86) dX8_qPartOf_86 ?_
    exact PW.retJ (pc := 87) dX8_qPartOf_87 hM.1 rfl ⟨hM, _, rfl, h⟩
  by_cases q5 : x1 = 5
  · have h := h.2.2.2.2.2.1 q5
    refine PW.tabIn (pc := 1) dX8_qPartOf_1 (by rw [q5]; decide) (by rw [q5]; decide) (off := 87) (by rw [q5]; decide) (t := 88) (by decide) ?_
    refine PW.aload_n (pc := 88) dX8_qPartOf_88 rfl ?_
    refine PW.getR (pc := 89) dX8_qPartOf_89 (r := 311) lf_X8_115 (ob hM.1 s_277 (by decide)) fx_8_42 (oR_8_42 hM s_277) (pS_ne s_311) ?_
    refine PW.bipush (pc := 92) dX8_qPartOf_92 (v := 12) (by decide) ?_
    refine PW.iconst (pc := 94) dX8_qPartOf_94 (v := 2) (by decide) ?_
    refine PW.aload_n (pc := 95) dX8_qPartOf_95 rfl ?_
    refine PW.iload_n (pc := 96) dX8_qPartOf_96 rfl ?_
    refine PW.inv (m' := mX8_songOf) (pc := 97) dX8_qPartOf_97 lm_X8_398 me_X8_songOf mi_X8_songOf (ob hM.1 s_277 (by decide)) rfl (As := [.int x2]) (st := [.int 2, .int 12, .ref 311]) rfl (Nat.le_of_ble_eq_true rfl) (Nat.le_of_ble_eq_true rfl) (Nat.le_of_eq hM.1) (Nat.le_refl _) (PW.deep (by decide) (c_X8_songOf  hM h)) ?_
    rintro _ M13 ⟨hM15, y14, rfl, h⟩
    refine PW.imul (pc := 100) dX8_qPartOf_100 ?_
    refine PW.iadd (pc := 101) dX8_qPartOf_101 ?_
    obtain ⟨v16, h⟩ := h
    refine PW.iald (pc := 102) dX8_qPartOf_102 (ar hM15.1 s_311) (vpl n_311 v16) ?_
    refine PW.i2l (pc := 103) dX8_qPartOf_103 ?_
    exact PW.retJ (pc := 104) dX8_qPartOf_104 hM15.1 rfl ⟨hM15, _, rfl, h⟩
  by_cases q6 : x1 = 6
  · have h := h.2.2.2.2.2.2.1 q6
    refine PW.tabIn (pc := 1) dX8_qPartOf_1 (by rw [q6]; decide) (by rw [q6]; decide) (off := 104) (by rw [q6]; decide) (t := 105) (by decide) ?_
    refine PW.aload_n (pc := 105) dX8_qPartOf_105 rfl ?_
    refine PW.getR (pc := 106) dX8_qPartOf_106 (r := 311) lf_X8_115 (ob hM.1 s_277 (by decide)) fx_8_42 (oR_8_42 hM s_277) (pS_ne s_311) ?_
    refine PW.bipush (pc := 109) dX8_qPartOf_109 (v := 13) (by decide) ?_
    refine PW.iconst (pc := 111) dX8_qPartOf_111 (v := 2) (by decide) ?_
    refine PW.aload_n (pc := 112) dX8_qPartOf_112 rfl ?_
    refine PW.iload_n (pc := 113) dX8_qPartOf_113 rfl ?_
    refine PW.inv (m' := mX8_songOf) (pc := 114) dX8_qPartOf_114 lm_X8_398 me_X8_songOf mi_X8_songOf (ob hM.1 s_277 (by decide)) rfl (As := [.int x2]) (st := [.int 2, .int 13, .ref 311]) rfl (Nat.le_of_ble_eq_true rfl) (Nat.le_of_ble_eq_true rfl) (Nat.le_of_eq hM.1) (Nat.le_refl _) (PW.deep (by decide) (c_X8_songOf  hM h)) ?_
    rintro _ M17 ⟨hM19, y18, rfl, h⟩
    refine PW.imul (pc := 117) dX8_qPartOf_117 ?_
    refine PW.iadd (pc := 118) dX8_qPartOf_118 ?_
    obtain ⟨v20, h⟩ := h
    refine PW.iald (pc := 119) dX8_qPartOf_119 (ar hM19.1 s_311) (vpl n_311 v20) ?_
    refine PW.i2l (pc := 120) dX8_qPartOf_120 ?_
    exact PW.retJ (pc := 121) dX8_qPartOf_121 hM19.1 rfl ⟨hM19, _, rfl, h⟩
  by_cases q7 : x1 = 7
  · have h := h.2.2.2.2.2.2.2.1 q7
    refine PW.tabIn (pc := 1) dX8_qPartOf_1 (by rw [q7]; decide) (by rw [q7]; decide) (off := 121) (by rw [q7]; decide) (t := 122) (by decide) ?_
    refine PW.iload_n (pc := 122) dX8_qPartOf_122 rfl ?_
    refine PW.i2l (pc := 123) dX8_qPartOf_123 ?_
    exact PW.retJ (pc := 124) dX8_qPartOf_124 hM.1 rfl ⟨hM, _, rfl, h⟩
  by_cases q8 : x1 = 8
  · have h := h.2.2.2.2.2.2.2.2.1 q8
    refine PW.tabIn (pc := 1) dX8_qPartOf_1 (by rw [q8]; decide) (by rw [q8]; decide) (off := 124) (by rw [q8]; decide) (t := 125) (by decide) ?_
    refine PW.aload_n (pc := 125) dX8_qPartOf_125 rfl ?_
    refine PW.iload_n (pc := 126) dX8_qPartOf_126 rfl ?_
    refine PW.inv (m' := mX8_isDead) (pc := 127) dX8_qPartOf_127 lm_X8_405 me_X8_isDead mi_X8_isDead (ob hM.1 s_277 (by decide)) rfl (As := [.int x2]) (st := []) rfl (Nat.le_of_ble_eq_true rfl) (Nat.le_of_ble_eq_true rfl) (Nat.le_of_eq hM.1) (Nat.le_refl _) (PW.deep (by decide) (c_X8_isDead  hM h)) ?_
    rintro _ M21 ⟨hM23, y22, rfl, z24, h⟩
    refine PW.if_eq (pc := 130) dX8_qPartOf_130 (t := 137) (by decide) (fun hc => ?_) (fun hc => ?_)
    · have h := h.1 hc
      refine PW.lconst (pc := 137) dX8_qPartOf_137 (v := 1) (by decide) ?_
      exact PW.retJ (pc := 138) dX8_qPartOf_138 hM23.1 rfl ⟨hM23, _, rfl, h⟩
    · have h := h.2 hc
      refine PW.lconst (pc := 133) dX8_qPartOf_133 (v := 0) (by decide) ?_
      refine PW.goto (pc := 134) dX8_qPartOf_134 (t := 138) (by decide) ?_
      exact PW.retJ (pc := 138) dX8_qPartOf_138 hM23.1 rfl ⟨hM23, _, rfl, h⟩
  have h := h.2.2.2.2.2.2.2.2.2 q0 q1 q2 q3 q4 q5 q6 q7 q8
  refine PW.tabOut (pc := 1) dX8_qPartOf_1 (tab_out (fun c h1 h2 => ?_)) (t := 139) (by decide) ?_
  · rcases (by omega : c = 0 ∨ c = 1 ∨ c = 2 ∨ c = 3 ∨ c = 4 ∨ c = 5 ∨ c = 6 ∨ c = 7 ∨ c = 8) with rfl | rfl | rfl | rfl | rfl | rfl | rfl | rfl | rfl <;> assumption
  · skip
    refine PW.aload_n (pc := 139) dX8_qPartOf_139 rfl ?_
    refine PW.getI (pc := 140) dX8_qPartOf_140 lf_X8_449 (ob hM.1 s_277 (by decide)) fx_8_56 ?_
    refine PW.iload_n (pc := 143) dX8_qPartOf_143 rfl ?_
    refine PW.ishr (pc := 144) dX8_qPartOf_144 ?_
    refine PW.iconst (pc := 145) dX8_qPartOf_145 (v := 1) (by decide) ?_
    refine PW.iand (pc := 146) dX8_qPartOf_146 ?_
    refine PW.i2l (pc := 147) dX8_qPartOf_147 ?_
    exact PW.retJ (pc := 148) dX8_qPartOf_148 hM.1 rfl ⟨hM, _, rfl, h⟩
def w_X8_qClip (x0 : Int64) (M : pm) (Q : Int64 → pm → Prop) : Prop := ((x0 ≤ (1000000 : Int64) → (((-1000000 : Int64) ≤ x0 → (Q x0 M)) ∧ (¬ (-1000000 : Int64) ≤ x0 → (Q (-1000000 : Int64) M)))) ∧ (¬ x0 ≤ (1000000 : Int64) → (Q (1000000 : Int64) M)))
set_option maxRecDepth 4000 in
theorem c_X8_qClip {x0 : Int64} {M : pm} {Q : Int64 → pm → Prop}  (hM : pG M) (h : w_X8_qClip x0 M Q) : PW mX8_qClip 1 350 0 (pfr mX8_qClip.2.2.1 [.long x0]) [] M (qJ Q) := by
  unfold w_X8_qClip at h
  show PW mX8_qClip 1 350 0 [.long x0, .null] [] M (qJ Q)
  refine PW.lload_n (pc := 0) dX8_qClip_0 rfl ?_
  refine PW.ldc2 (pc := 1) dX8_qClip_1 lk_X8_637 ?_
  refine PW.lcmp (pc := 4) dX8_qClip_4 ?_
  refine PW.if_le (pc := 5) dX8_qClip_5 (t := 14) (by decide) (fun hc => ?_) (fun hc => ?_)
  · have h := h.1 ((lg_cmp_le _ _).mp hc)
    refine PW.lload_n (pc := 14) dX8_qClip_14 rfl ?_
    refine PW.ldc2 (pc := 15) dX8_qClip_15 lk_X8_639 ?_
    refine PW.lcmp (pc := 18) dX8_qClip_18 ?_
    refine PW.if_ge (pc := 19) dX8_qClip_19 (t := 28) (by decide) (fun hc => ?_) (fun hc => ?_)
    · have h := h.1 ((lg_cmp_ge _ _).mp hc)
      refine PW.lload_n (pc := 28) dX8_qClip_28 rfl ?_
      exact PW.retJ (pc := 29) dX8_qClip_29 hM.1 rfl ⟨hM, _, rfl, h⟩
    · have h := h.2 (fun q => hc ((lg_cmp_ge _ _).mpr q))
      refine PW.ldc2 (pc := 22) dX8_qClip_22 lk_X8_639 ?_
      refine PW.goto (pc := 25) dX8_qClip_25 (t := 29) (by decide) ?_
      exact PW.retJ (pc := 29) dX8_qClip_29 hM.1 rfl ⟨hM, _, rfl, h⟩
  · have h := h.2 (fun q => hc ((lg_cmp_le _ _).mpr q))
    refine PW.ldc2 (pc := 8) dX8_qClip_8 lk_X8_637 ?_
    refine PW.goto (pc := 11) dX8_qClip_11 (t := 29) (by decide) ?_
    exact PW.retJ (pc := 29) dX8_qClip_29 hM.1 rfl ⟨hM, _, rfl, h⟩
def w_X8_qFloor_32  (x2 : Int64) (x4 : Int64) (t0 : Int32) (M : pm)  (Q : Int64 → pm → Prop) : Prop := (((0 : Int64) ≤ x2 → ((t0 = 0 → (Q x4 M)) ∧ (¬ t0 = 0 → (Q (x4 - (1 : Int64)) M)))) ∧ (¬ (0 : Int64) ≤ x2 → ((t0 = 1 → (Q x4 M)) ∧ (¬ t0 = 1 → (Q (x4 - (1 : Int64)) M)))))
set_option maxRecDepth 4000 in
theorem c_X8_qFloor_32  {Q : Int64 → pm → Prop}  : ∀ (x2 : Int64) (x4 : Int64) (t0 : Int32) (M : pm), pG M → w_X8_qFloor_32 x2 x4 t0 M  Q → PW mX8_qFloor 1 350 32 [.null, .null, .long x2, .null, .long x4, .null] [.int t0] M (qJ Q) := by
  intro x2 x4 t0 M hM h
  unfold w_X8_qFloor_32 at h
  refine PW.lload_n (pc := 32) dX8_qFloor_32 rfl ?_
  refine PW.lconst (pc := 33) dX8_qFloor_33 (v := 0) (by decide) ?_
  refine PW.lcmp (pc := 34) dX8_qFloor_34 ?_
  refine PW.if_ge (pc := 35) dX8_qFloor_35 (t := 42) (by decide) (fun hc => ?_) (fun hc => ?_)
  · have h := h.1 ((lg_cmp_ge _ _).mp hc)
    refine PW.iconst (pc := 42) dX8_qFloor_42 (v := 0) (by decide) ?_
    refine PW.icmp_eq (pc := 43) dX8_qFloor_43 (t := 53) (by decide) (fun hc => ?_) (fun hc => ?_)
    · have h := h.1 hc
      refine PW.lload (pc := 53) dX8_qFloor_53 rfl ?_
      exact PW.retJ (pc := 55) dX8_qFloor_55 hM.1 rfl ⟨hM, _, rfl, h⟩
    · have h := h.2 hc
      refine PW.lload (pc := 46) dX8_qFloor_46 rfl ?_
      refine PW.lconst (pc := 48) dX8_qFloor_48 (v := 1) (by decide) ?_
      refine PW.lsub (pc := 49) dX8_qFloor_49 ?_
      refine PW.goto (pc := 50) dX8_qFloor_50 (t := 55) (by decide) ?_
      exact PW.retJ (pc := 55) dX8_qFloor_55 hM.1 rfl ⟨hM, _, rfl, h⟩
  · have h := h.2 (fun q => hc ((lg_cmp_ge _ _).mpr q))
    refine PW.iconst (pc := 38) dX8_qFloor_38 (v := 1) (by decide) ?_
    refine PW.goto (pc := 39) dX8_qFloor_39 (t := 43) (by decide) ?_
    refine PW.icmp_eq (pc := 43) dX8_qFloor_43 (t := 53) (by decide) (fun hc => ?_) (fun hc => ?_)
    · have h := h.1 hc
      refine PW.lload (pc := 53) dX8_qFloor_53 rfl ?_
      exact PW.retJ (pc := 55) dX8_qFloor_55 hM.1 rfl ⟨hM, _, rfl, h⟩
    · have h := h.2 hc
      refine PW.lload (pc := 46) dX8_qFloor_46 rfl ?_
      refine PW.lconst (pc := 48) dX8_qFloor_48 (v := 1) (by decide) ?_
      refine PW.lsub (pc := 49) dX8_qFloor_49 ?_
      refine PW.goto (pc := 50) dX8_qFloor_50 (t := 55) (by decide) ?_
      exact PW.retJ (pc := 55) dX8_qFloor_55 hM.1 rfl ⟨hM, _, rfl, h⟩
def w_X8_qFloor (x0 : Int64) (x2 : Int64) (M : pm) (Q : Int64 → pm → Prop) : Prop := ((¬ x2 = (0 : Int64) → (¬ x2 = 0 ∧ (¬ x2 = 0 ∧ (((lrm x0 x2) = (0 : Int64) → (Q (x0 / x2) M)) ∧ (¬ (lrm x0 x2) = (0 : Int64) → (((0 : Int64) ≤ x0 → (w_X8_qFloor_32 x2 (x0 / x2) 0 M  Q)) ∧ (¬ (0 : Int64) ≤ x0 → (w_X8_qFloor_32 x2 (x0 / x2) 1 M  Q)))))))) ∧ (x2 = (0 : Int64) → (Q (0 : Int64) M)))
set_option maxRecDepth 4000 in
theorem c_X8_qFloor {x0 : Int64} {x2 : Int64} {M : pm} {Q : Int64 → pm → Prop}  (hM : pG M) (h : w_X8_qFloor x0 x2 M Q) : PW mX8_qFloor 1 350 0 (pfr mX8_qFloor.2.2.1 [.long x0, .long x2]) [] M (qJ Q) := by
  unfold w_X8_qFloor at h
  show PW mX8_qFloor 1 350 0 [.long x0, .null, .long x2, .null, .null, .null] [] M (qJ Q)
  refine PW.lload_n (pc := 0) dX8_qFloor_0 rfl ?_
  refine PW.lconst (pc := 1) dX8_qFloor_1 (v := 0) (by decide) ?_
  refine PW.lcmp (pc := 2) dX8_qFloor_2 ?_
  refine PW.if_ne (pc := 3) dX8_qFloor_3 (t := 8) (by decide) (fun hc => ?_) (fun hc => ?_)
  · have h := h.1 (fun q => hc ((lg_cmp_eq _ _).mpr q))
    refine PW.lload_n (pc := 8) dX8_qFloor_8 rfl ?_
    refine PW.lload_n (pc := 9) dX8_qFloor_9 rfl ?_
    obtain ⟨v1, h⟩ := h
    refine PW.ldiv (pc := 10) dX8_qFloor_10 v1 ?_
    refine PW.lstore (pc := 11) dX8_qFloor_11 (ls' := [.long x0, .null, .long x2, .null, .long (x0 / x2), .null]) (by decide) rfl rfl ?_
    refine PW.lload_n (pc := 13) dX8_qFloor_13 rfl ?_
    refine PW.lload_n (pc := 14) dX8_qFloor_14 rfl ?_
    obtain ⟨v2, h⟩ := h
    refine PW.lrem (pc := 15) dX8_qFloor_15 v2 ?_
    refine PW.lconst (pc := 16) dX8_qFloor_16 (v := 0) (by decide) ?_
    refine PW.lcmp (pc := 17) dX8_qFloor_17 ?_
    refine PW.if_eq (pc := 18) dX8_qFloor_18 (t := 53) (by decide) (fun hc => ?_) (fun hc => ?_)
    · have h := h.1 ((lg_cmp_eq _ _).mp hc)
      refine PW.lload (pc := 53) dX8_qFloor_53 rfl ?_
      exact PW.retJ (pc := 55) dX8_qFloor_55 hM.1 rfl ⟨hM, _, rfl, h⟩
    · have h := h.2 (fun q => hc ((lg_cmp_eq _ _).mpr q))
      refine PW.lload_n (pc := 21) dX8_qFloor_21 rfl ?_
      refine PW.lconst (pc := 22) dX8_qFloor_22 (v := 0) (by decide) ?_
      refine PW.lcmp (pc := 23) dX8_qFloor_23 ?_
      refine PW.if_ge (pc := 24) dX8_qFloor_24 (t := 31) (by decide) (fun hc => ?_) (fun hc => ?_)
      · have h := h.1 ((lg_cmp_ge _ _).mp hc)
        refine PW.iconst (pc := 31) dX8_qFloor_31 (v := 0) (by decide) ?_
        exact PW.drop (c_X8_qFloor_32  _ _ _ _ hM h) ⟨rfl, rfl, trivial⟩
      · have h := h.2 (fun q => hc ((lg_cmp_ge _ _).mpr q))
        refine PW.iconst (pc := 27) dX8_qFloor_27 (v := 1) (by decide) ?_
        refine PW.goto (pc := 28) dX8_qFloor_28 (t := 32) (by decide) ?_
        exact PW.drop (c_X8_qFloor_32  _ _ _ _ hM h) ⟨rfl, rfl, trivial⟩
  · have h := h.2 ((lg_cmp_eq _ _).mp hc)
    refine PW.lconst (pc := 6) dX8_qFloor_6 (v := 0) (by decide) ?_
    exact PW.retJ (pc := 7) dX8_qFloor_7 hM.1 rfl ⟨hM, _, rfl, h⟩
def w_X8_qJoins (x1 : Int32) (M : pm) (Q : pm → Prop) : Prop := vp_in ((mI M 277 102) - 1) 1700 ∧ (vp_in ((mI M 277 102) - 2) 1700 ∧ ((x1 = 1 → (w_X8_qClip ((mJ M 351 (((mI M 277 102) - 2).toNatClampNeg)) + (mJ M 351 (((mI M 277 102) - 1).toNatClampNeg))) (sI M 277 102 ((mI M 277 102) - 2)) (fun y4 M3 => w_X8_qPuts y4 M3 (fun M6 => Q M6)))) ∧ (x1 = 2 → (w_X8_qClip ((mJ M 351 (((mI M 277 102) - 2).toNatClampNeg)) - (mJ M 351 (((mI M 277 102) - 1).toNatClampNeg))) (sI M 277 102 ((mI M 277 102) - 2)) (fun y10 M9 => w_X8_qPuts y10 M9 (fun M12 => Q M12)))) ∧ (x1 = 3 → (w_X8_qClip ((mJ M 351 (((mI M 277 102) - 2).toNatClampNeg)) * (mJ M 351 (((mI M 277 102) - 1).toNatClampNeg))) (sI M 277 102 ((mI M 277 102) - 2)) (fun y16 M15 => w_X8_qPuts y16 M15 (fun M18 => Q M18)))) ∧ (x1 = 4 → (w_X8_qFloor (mJ M 351 (((mI M 277 102) - 2).toNatClampNeg)) (mJ M 351 (((mI M 277 102) - 1).toNatClampNeg)) (sI M 277 102 ((mI M 277 102) - 2)) (fun y22 M21 => w_X8_qPuts y22 M21 (fun M24 => Q M24)))) ∧ (x1 = 5 → (((mJ M 351 (((mI M 277 102) - 1).toNatClampNeg)) ≤ (mJ M 351 (((mI M 277 102) - 2).toNatClampNeg)) → (w_X8_qPuts (mJ M 351 (((mI M 277 102) - 1).toNatClampNeg)) (sI M 277 102 ((mI M 277 102) - 2)) (fun M27 => Q M27))) ∧ (¬ (mJ M 351 (((mI M 277 102) - 1).toNatClampNeg)) ≤ (mJ M 351 (((mI M 277 102) - 2).toNatClampNeg)) → (w_X8_qPuts (mJ M 351 (((mI M 277 102) - 2).toNatClampNeg)) (sI M 277 102 ((mI M 277 102) - 2)) (fun M30 => Q M30))))) ∧ (x1 = 6 → (((mJ M 351 (((mI M 277 102) - 2).toNatClampNeg)) ≤ (mJ M 351 (((mI M 277 102) - 1).toNatClampNeg)) → (w_X8_qPuts (mJ M 351 (((mI M 277 102) - 1).toNatClampNeg)) (sI M 277 102 ((mI M 277 102) - 2)) (fun M33 => Q M33))) ∧ (¬ (mJ M 351 (((mI M 277 102) - 2).toNatClampNeg)) ≤ (mJ M 351 (((mI M 277 102) - 1).toNatClampNeg)) → (w_X8_qPuts (mJ M 351 (((mI M 277 102) - 2).toNatClampNeg)) (sI M 277 102 ((mI M 277 102) - 2)) (fun M36 => Q M36))))) ∧ (x1 = 7 → (((mJ M 351 (((mI M 277 102) - 1).toNatClampNeg)) ≤ (mJ M 351 (((mI M 277 102) - 2).toNatClampNeg)) → (w_X8_qPuts (0 : Int64) (sI M 277 102 ((mI M 277 102) - 2)) (fun M39 => Q M39))) ∧ (¬ (mJ M 351 (((mI M 277 102) - 1).toNatClampNeg)) ≤ (mJ M 351 (((mI M 277 102) - 2).toNatClampNeg)) → (w_X8_qPuts (1 : Int64) (sI M 277 102 ((mI M 277 102) - 2)) (fun M42 => Q M42))))) ∧ (x1 = 8 → (((mJ M 351 (((mI M 277 102) - 2).toNatClampNeg)) ≤ (mJ M 351 (((mI M 277 102) - 1).toNatClampNeg)) → (w_X8_qPuts (0 : Int64) (sI M 277 102 ((mI M 277 102) - 2)) (fun M45 => Q M45))) ∧ (¬ (mJ M 351 (((mI M 277 102) - 2).toNatClampNeg)) ≤ (mJ M 351 (((mI M 277 102) - 1).toNatClampNeg)) → (w_X8_qPuts (1 : Int64) (sI M 277 102 ((mI M 277 102) - 2)) (fun M48 => Q M48))))) ∧ (x1 = 9 → ((¬ (mJ M 351 (((mI M 277 102) - 2).toNatClampNeg)) = (mJ M 351 (((mI M 277 102) - 1).toNatClampNeg)) → (w_X8_qPuts (0 : Int64) (sI M 277 102 ((mI M 277 102) - 2)) (fun M51 => Q M51))) ∧ ((mJ M 351 (((mI M 277 102) - 2).toNatClampNeg)) = (mJ M 351 (((mI M 277 102) - 1).toNatClampNeg)) → (w_X8_qPuts (1 : Int64) (sI M 277 102 ((mI M 277 102) - 2)) (fun M54 => Q M54))))) ∧ (x1 = 10 → (w_X8_qPuts ((mJ M 351 (((mI M 277 102) - 2).toNatClampNeg)) * (mJ M 351 (((mI M 277 102) - 1).toNatClampNeg))) (sI M 277 102 ((mI M 277 102) - 2)) (fun M57 => Q M57))) ∧ (¬ x1 = 1 → ¬ x1 = 2 → ¬ x1 = 3 → ¬ x1 = 4 → ¬ x1 = 5 → ¬ x1 = 6 → ¬ x1 = 7 → ¬ x1 = 8 → ¬ x1 = 9 → ¬ x1 = 10 → ((((mJ M 351 (((mI M 277 102) - 2).toNatClampNeg)) + (mJ M 351 (((mI M 277 102) - 1).toNatClampNeg))) ≤ (0 : Int64) → (w_X8_qPuts (0 : Int64) (sI M 277 102 ((mI M 277 102) - 2)) (fun M60 => Q M60))) ∧ (¬ ((mJ M 351 (((mI M 277 102) - 2).toNatClampNeg)) + (mJ M 351 (((mI M 277 102) - 1).toNatClampNeg))) ≤ (0 : Int64) → (w_X8_qPuts (1 : Int64) (sI M 277 102 ((mI M 277 102) - 2)) (fun M63 => Q M63)))))))
set_option maxRecDepth 4000 in
theorem c_X8_qJoins {x1 : Int32} {M : pm} {Q : pm → Prop}  (hM : pG M) (h : w_X8_qJoins x1 M Q) : PW mX8_qJoins 2 350 0 (pfr mX8_qJoins.2.2.1 [.ref 277, .int x1]) [] M (qV Q) := by
  unfold w_X8_qJoins at h
  show PW mX8_qJoins 2 350 0 [.ref 277, .int x1, .null, .null, .null, .null] [] M (qV Q)
  refine PW.aload_n (pc := 0) dX8_qJoins_0 rfl ?_
  refine PW.getR (pc := 1) dX8_qJoins_1 (r := 351) lf_X8_240 (ob hM.1 s_277 (by decide)) fx_8_101 (oR_8_101 hM s_277) (pS_ne s_351) ?_
  refine PW.aload_n (pc := 4) dX8_qJoins_4 rfl ?_
  refine PW.getI (pc := 5) dX8_qJoins_5 lf_X8_411 (ob hM.1 s_277 (by decide)) fx_8_102 ?_
  refine PW.iconst (pc := 8) dX8_qJoins_8 (v := 1) (by decide) ?_
  refine PW.isub (pc := 9) dX8_qJoins_9 ?_
  obtain ⟨v1, h⟩ := h
  refine PW.lald (pc := 10) dX8_qJoins_10 (ar hM.1 s_351) (vpl n_351 v1) ?_
  refine PW.lstore_n (pc := 11) dX8_qJoins_11 (ls' := [.ref 277, .int x1, .long (mJ M 351 (((mI M 277 102) - 1).toNatClampNeg)), .null, .null, .null]) (by decide) rfl rfl ?_
  refine PW.aload_n (pc := 12) dX8_qJoins_12 rfl ?_
  refine PW.getR (pc := 13) dX8_qJoins_13 (r := 351) lf_X8_240 (ob hM.1 s_277 (by decide)) fx_8_101 (oR_8_101 hM s_277) (pS_ne s_351) ?_
  refine PW.aload_n (pc := 16) dX8_qJoins_16 rfl ?_
  refine PW.getI (pc := 17) dX8_qJoins_17 lf_X8_411 (ob hM.1 s_277 (by decide)) fx_8_102 ?_
  refine PW.iconst (pc := 20) dX8_qJoins_20 (v := 2) (by decide) ?_
  refine PW.isub (pc := 21) dX8_qJoins_21 ?_
  obtain ⟨v2, h⟩ := h
  refine PW.lald (pc := 22) dX8_qJoins_22 (ar hM.1 s_351) (vpl n_351 v2) ?_
  refine PW.lstore (pc := 23) dX8_qJoins_23 (ls' := [.ref 277, .int x1, .long (mJ M 351 (((mI M 277 102) - 1).toNatClampNeg)), .null, .long (mJ M 351 (((mI M 277 102) - 2).toNatClampNeg)), .null]) (by decide) rfl rfl ?_
  refine PW.aload_n (pc := 25) dX8_qJoins_25 rfl ?_
  refine PW.dupR (pc := 26) dX8_qJoins_26 ?_
  refine PW.getI (pc := 27) dX8_qJoins_27 lf_X8_411 (ob hM.1 s_277 (by decide)) fx_8_102 ?_
  refine PW.iconst (pc := 30) dX8_qJoins_30 (v := 2) (by decide) ?_
  refine PW.isub (pc := 31) dX8_qJoins_31 ?_
  refine PW.putI (pc := 32) dX8_qJoins_32 lf_X8_411 (ob hM.1 s_277 (by decide)) fx_8_102 fw_8_102 rfl rfl ?_
  refine PW.iload_n (pc := 35) dX8_qJoins_35 rfl ?_
  by_cases q1 : x1 = 1
  · have h := h.1 q1
    refine PW.tabIn (pc := 36) dX8_qJoins_36 (by rw [q1]; decide) (by rw [q1]; decide) (off := 56) (by rw [q1]; decide) (t := 92) (by decide) ?_
    refine PW.aload_n (pc := 92) dX8_qJoins_92 rfl ?_
    refine PW.lload (pc := 93) dX8_qJoins_93 rfl ?_
    refine PW.lload_n (pc := 95) dX8_qJoins_95 rfl ?_
    refine PW.ladd (pc := 96) dX8_qJoins_96 ?_
    refine PW.ins (m' := mX8_qClip) (pc := 97) dX8_qJoins_97 lm_X8_641 me_X8_qClip ms_X8_qClip (As := [.long ((mJ M 351 (((mI M 277 102) - 2).toNatClampNeg)) + (mJ M 351 (((mI M 277 102) - 1).toNatClampNeg)))]) (st := [.ref 277]) rfl (Nat.le_of_ble_eq_true rfl) (Nat.le_of_ble_eq_true rfl) (Nat.le_of_eq hM.1) (Nat.le_refl _) (PW.deep (by decide) (c_X8_qClip  (hM.same rfl rfl) h)) ?_
    rintro _ M3 ⟨hM5, y4, rfl, h⟩
    refine PW.inv (m' := mX8_qPuts) (pc := 100) dX8_qJoins_100 lm_X8_414 me_X8_qPuts mi_X8_qPuts (ob hM5.1 s_277 (by decide)) rfl (As := [.long y4]) (st := []) rfl (Nat.le_of_ble_eq_true rfl) (Nat.le_of_ble_eq_true rfl) (Nat.le_of_eq hM5.1) (Nat.le_refl _) (PW.deep (by decide) (c_X8_qPuts  hM5 h)) ?_
    rintro _ M6 ⟨hM8, rfl, h⟩
    refine PW.goto (pc := 103) dX8_qJoins_103 (t := 273) (by decide) ?_
    exact PW.ret0 (pc := 273) dX8_qJoins_273 hM8.1 rfl ⟨hM8, rfl, h⟩
  by_cases q2 : x1 = 2
  · have h := h.2.1 q2
    refine PW.tabIn (pc := 36) dX8_qJoins_36 (by rw [q2]; decide) (by rw [q2]; decide) (off := 70) (by rw [q2]; decide) (t := 106) (by decide) ?_
    refine PW.aload_n (pc := 106) dX8_qJoins_106 rfl ?_
    refine PW.lload (pc := 107) dX8_qJoins_107 rfl ?_
    refine PW.lload_n (pc := 109) dX8_qJoins_109 rfl ?_
    refine PW.lsub (pc := 110) dX8_qJoins_110 ?_
    refine PW.ins (m' := mX8_qClip) (pc := 111) dX8_qJoins_111 lm_X8_641 me_X8_qClip ms_X8_qClip (As := [.long ((mJ M 351 (((mI M 277 102) - 2).toNatClampNeg)) - (mJ M 351 (((mI M 277 102) - 1).toNatClampNeg)))]) (st := [.ref 277]) rfl (Nat.le_of_ble_eq_true rfl) (Nat.le_of_ble_eq_true rfl) (Nat.le_of_eq hM.1) (Nat.le_refl _) (PW.deep (by decide) (c_X8_qClip  (hM.same rfl rfl) h)) ?_
    rintro _ M9 ⟨hM11, y10, rfl, h⟩
    refine PW.inv (m' := mX8_qPuts) (pc := 114) dX8_qJoins_114 lm_X8_414 me_X8_qPuts mi_X8_qPuts (ob hM11.1 s_277 (by decide)) rfl (As := [.long y10]) (st := []) rfl (Nat.le_of_ble_eq_true rfl) (Nat.le_of_ble_eq_true rfl) (Nat.le_of_eq hM11.1) (Nat.le_refl _) (PW.deep (by decide) (c_X8_qPuts  hM11 h)) ?_
    rintro _ M12 ⟨hM14, rfl, h⟩
    refine PW.goto (pc := 117) dX8_qJoins_117 (t := 273) (by decide) ?_
    exact PW.ret0 (pc := 273) dX8_qJoins_273 hM14.1 rfl ⟨hM14, rfl, h⟩
  by_cases q3 : x1 = 3
  · have h := h.2.2.1 q3
    refine PW.tabIn (pc := 36) dX8_qJoins_36 (by rw [q3]; decide) (by rw [q3]; decide) (off := 84) (by rw [q3]; decide) (t := 120) (by decide) ?_
    refine PW.aload_n (pc := 120) dX8_qJoins_120 rfl ?_
    refine PW.lload (pc := 121) dX8_qJoins_121 rfl ?_
    refine PW.lload_n (pc := 123) dX8_qJoins_123 rfl ?_
    refine PW.lmul (pc := 124) dX8_qJoins_124 ?_
    refine PW.ins (m' := mX8_qClip) (pc := 125) dX8_qJoins_125 lm_X8_641 me_X8_qClip ms_X8_qClip (As := [.long ((mJ M 351 (((mI M 277 102) - 2).toNatClampNeg)) * (mJ M 351 (((mI M 277 102) - 1).toNatClampNeg)))]) (st := [.ref 277]) rfl (Nat.le_of_ble_eq_true rfl) (Nat.le_of_ble_eq_true rfl) (Nat.le_of_eq hM.1) (Nat.le_refl _) (PW.deep (by decide) (c_X8_qClip  (hM.same rfl rfl) h)) ?_
    rintro _ M15 ⟨hM17, y16, rfl, h⟩
    refine PW.inv (m' := mX8_qPuts) (pc := 128) dX8_qJoins_128 lm_X8_414 me_X8_qPuts mi_X8_qPuts (ob hM17.1 s_277 (by decide)) rfl (As := [.long y16]) (st := []) rfl (Nat.le_of_ble_eq_true rfl) (Nat.le_of_ble_eq_true rfl) (Nat.le_of_eq hM17.1) (Nat.le_refl _) (PW.deep (by decide) (c_X8_qPuts  hM17 h)) ?_
    rintro _ M18 ⟨hM20, rfl, h⟩
    refine PW.goto (pc := 131) dX8_qJoins_131 (t := 273) (by decide) ?_
    exact PW.ret0 (pc := 273) dX8_qJoins_273 hM20.1 rfl ⟨hM20, rfl, h⟩
  by_cases q4 : x1 = 4
  · have h := h.2.2.2.1 q4
    refine PW.tabIn (pc := 36) dX8_qJoins_36 (by rw [q4]; decide) (by rw [q4]; decide) (off := 98) (by rw [q4]; decide) (t := 134) (by decide) ?_
    refine PW.aload_n (pc := 134) dX8_qJoins_134 rfl ?_
    refine PW.lload (pc := 135) dX8_qJoins_135 rfl ?_
    refine PW.lload_n (pc := 137) dX8_qJoins_137 rfl ?_
    refine PW.ins (m' := mX8_qFloor) (pc := 138) dX8_qJoins_138 lm_X8_645 me_X8_qFloor ms_X8_qFloor (As := [.long (mJ M 351 (((mI M 277 102) - 2).toNatClampNeg)), .long (mJ M 351 (((mI M 277 102) - 1).toNatClampNeg))]) (st := [.ref 277]) rfl (Nat.le_of_ble_eq_true rfl) (Nat.le_of_ble_eq_true rfl) (Nat.le_of_eq hM.1) (Nat.le_refl _) (PW.deep (by decide) (c_X8_qFloor  (hM.same rfl rfl) h)) ?_
    rintro _ M21 ⟨hM23, y22, rfl, h⟩
    refine PW.inv (m' := mX8_qPuts) (pc := 141) dX8_qJoins_141 lm_X8_414 me_X8_qPuts mi_X8_qPuts (ob hM23.1 s_277 (by decide)) rfl (As := [.long y22]) (st := []) rfl (Nat.le_of_ble_eq_true rfl) (Nat.le_of_ble_eq_true rfl) (Nat.le_of_eq hM23.1) (Nat.le_refl _) (PW.deep (by decide) (c_X8_qPuts  hM23 h)) ?_
    rintro _ M24 ⟨hM26, rfl, h⟩
    refine PW.goto (pc := 144) dX8_qJoins_144 (t := 273) (by decide) ?_
    exact PW.ret0 (pc := 273) dX8_qJoins_273 hM26.1 rfl ⟨hM26, rfl, h⟩
  by_cases q5 : x1 = 5
  · have h := h.2.2.2.2.1 q5
    refine PW.tabIn (pc := 36) dX8_qJoins_36 (by rw [q5]; decide) (by rw [q5]; decide) (off := 111) (by rw [q5]; decide) (t := 147) (by decide) ?_
    refine PW.aload_n (pc := 147) dX8_qJoins_147 rfl ?_
    refine PW.lload (pc := 148) dX8_qJoins_148 rfl ?_
    refine PW.lload_n (pc := 150) dX8_qJoins_150 rfl ?_
    refine PW.lcmp (pc := 151) dX8_qJoins_151 ?_
    refine PW.if_ge (pc := 152) dX8_qJoins_152 (t := 160) (by decide) (fun hc => ?_) (fun hc => ?_)
    · have h := h.1 ((lg_cmp_ge _ _).mp hc)
      refine PW.lload_n (pc := 160) dX8_qJoins_160 rfl ?_
      refine PW.inv (m' := mX8_qPuts) (pc := 161) dX8_qJoins_161 lm_X8_414 me_X8_qPuts mi_X8_qPuts (ob hM.1 s_277 (by decide)) rfl (As := [.long (mJ M 351 (((mI M 277 102) - 1).toNatClampNeg))]) (st := []) rfl (Nat.le_of_ble_eq_true rfl) (Nat.le_of_ble_eq_true rfl) (Nat.le_of_eq hM.1) (Nat.le_refl _) (PW.deep (by decide) (c_X8_qPuts  (hM.same rfl rfl) h)) ?_
      rintro _ M27 ⟨hM29, rfl, h⟩
      refine PW.goto (pc := 164) dX8_qJoins_164 (t := 273) (by decide) ?_
      exact PW.ret0 (pc := 273) dX8_qJoins_273 hM29.1 rfl ⟨hM29, rfl, h⟩
    · have h := h.2 (fun q => hc ((lg_cmp_ge _ _).mpr q))
      refine PW.lload (pc := 155) dX8_qJoins_155 rfl ?_
      refine PW.goto (pc := 157) dX8_qJoins_157 (t := 161) (by decide) ?_
      refine PW.inv (m' := mX8_qPuts) (pc := 161) dX8_qJoins_161 lm_X8_414 me_X8_qPuts mi_X8_qPuts (ob hM.1 s_277 (by decide)) rfl (As := [.long (mJ M 351 (((mI M 277 102) - 2).toNatClampNeg))]) (st := []) rfl (Nat.le_of_ble_eq_true rfl) (Nat.le_of_ble_eq_true rfl) (Nat.le_of_eq hM.1) (Nat.le_refl _) (PW.deep (by decide) (c_X8_qPuts  (hM.same rfl rfl) h)) ?_
      rintro _ M30 ⟨hM32, rfl, h⟩
      refine PW.goto (pc := 164) dX8_qJoins_164 (t := 273) (by decide) ?_
      exact PW.ret0 (pc := 273) dX8_qJoins_273 hM32.1 rfl ⟨hM32, rfl, h⟩
  by_cases q6 : x1 = 6
  · have h := h.2.2.2.2.2.1 q6
    refine PW.tabIn (pc := 36) dX8_qJoins_36 (by rw [q6]; decide) (by rw [q6]; decide) (off := 131) (by rw [q6]; decide) (t := 167) (by decide) ?_
    refine PW.aload_n (pc := 167) dX8_qJoins_167 rfl ?_
    refine PW.lload (pc := 168) dX8_qJoins_168 rfl ?_
    refine PW.lload_n (pc := 170) dX8_qJoins_170 rfl ?_
    refine PW.lcmp (pc := 171) dX8_qJoins_171 ?_
    refine PW.if_le (pc := 172) dX8_qJoins_172 (t := 180) (by decide) (fun hc => ?_) (fun hc => ?_)
    · have h := h.1 ((lg_cmp_le _ _).mp hc)
      refine PW.lload_n (pc := 180) dX8_qJoins_180 rfl ?_
      refine PW.inv (m' := mX8_qPuts) (pc := 181) dX8_qJoins_181 lm_X8_414 me_X8_qPuts mi_X8_qPuts (ob hM.1 s_277 (by decide)) rfl (As := [.long (mJ M 351 (((mI M 277 102) - 1).toNatClampNeg))]) (st := []) rfl (Nat.le_of_ble_eq_true rfl) (Nat.le_of_ble_eq_true rfl) (Nat.le_of_eq hM.1) (Nat.le_refl _) (PW.deep (by decide) (c_X8_qPuts  (hM.same rfl rfl) h)) ?_
      rintro _ M33 ⟨hM35, rfl, h⟩
      refine PW.goto (pc := 184) dX8_qJoins_184 (t := 273) (by decide) ?_
      exact PW.ret0 (pc := 273) dX8_qJoins_273 hM35.1 rfl ⟨hM35, rfl, h⟩
    · have h := h.2 (fun q => hc ((lg_cmp_le _ _).mpr q))
      refine PW.lload (pc := 175) dX8_qJoins_175 rfl ?_
      refine PW.goto (pc := 177) dX8_qJoins_177 (t := 181) (by decide) ?_
      refine PW.inv (m' := mX8_qPuts) (pc := 181) dX8_qJoins_181 lm_X8_414 me_X8_qPuts mi_X8_qPuts (ob hM.1 s_277 (by decide)) rfl (As := [.long (mJ M 351 (((mI M 277 102) - 2).toNatClampNeg))]) (st := []) rfl (Nat.le_of_ble_eq_true rfl) (Nat.le_of_ble_eq_true rfl) (Nat.le_of_eq hM.1) (Nat.le_refl _) (PW.deep (by decide) (c_X8_qPuts  (hM.same rfl rfl) h)) ?_
      rintro _ M36 ⟨hM38, rfl, h⟩
      refine PW.goto (pc := 184) dX8_qJoins_184 (t := 273) (by decide) ?_
      exact PW.ret0 (pc := 273) dX8_qJoins_273 hM38.1 rfl ⟨hM38, rfl, h⟩
  by_cases q7 : x1 = 7
  · have h := h.2.2.2.2.2.2.1 q7
    refine PW.tabIn (pc := 36) dX8_qJoins_36 (by rw [q7]; decide) (by rw [q7]; decide) (off := 151) (by rw [q7]; decide) (t := 187) (by decide) ?_
    refine PW.aload_n (pc := 187) dX8_qJoins_187 rfl ?_
    refine PW.lload (pc := 188) dX8_qJoins_188 rfl ?_
    refine PW.lload_n (pc := 190) dX8_qJoins_190 rfl ?_
    refine PW.lcmp (pc := 191) dX8_qJoins_191 ?_
    refine PW.if_ge (pc := 192) dX8_qJoins_192 (t := 199) (by decide) (fun hc => ?_) (fun hc => ?_)
    · have h := h.1 ((lg_cmp_ge _ _).mp hc)
      refine PW.lconst (pc := 199) dX8_qJoins_199 (v := 0) (by decide) ?_
      refine PW.inv (m' := mX8_qPuts) (pc := 200) dX8_qJoins_200 lm_X8_414 me_X8_qPuts mi_X8_qPuts (ob hM.1 s_277 (by decide)) rfl (As := [.long (0 : Int64)]) (st := []) rfl (Nat.le_of_ble_eq_true rfl) (Nat.le_of_ble_eq_true rfl) (Nat.le_of_eq hM.1) (Nat.le_refl _) (PW.deep (by decide) (c_X8_qPuts  (hM.same rfl rfl) h)) ?_
      rintro _ M39 ⟨hM41, rfl, h⟩
      refine PW.goto (pc := 203) dX8_qJoins_203 (t := 273) (by decide) ?_
      exact PW.ret0 (pc := 273) dX8_qJoins_273 hM41.1 rfl ⟨hM41, rfl, h⟩
    · have h := h.2 (fun q => hc ((lg_cmp_ge _ _).mpr q))
      refine PW.lconst (pc := 195) dX8_qJoins_195 (v := 1) (by decide) ?_
      refine PW.goto (pc := 196) dX8_qJoins_196 (t := 200) (by decide) ?_
      refine PW.inv (m' := mX8_qPuts) (pc := 200) dX8_qJoins_200 lm_X8_414 me_X8_qPuts mi_X8_qPuts (ob hM.1 s_277 (by decide)) rfl (As := [.long (1 : Int64)]) (st := []) rfl (Nat.le_of_ble_eq_true rfl) (Nat.le_of_ble_eq_true rfl) (Nat.le_of_eq hM.1) (Nat.le_refl _) (PW.deep (by decide) (c_X8_qPuts  (hM.same rfl rfl) h)) ?_
      rintro _ M42 ⟨hM44, rfl, h⟩
      refine PW.goto (pc := 203) dX8_qJoins_203 (t := 273) (by decide) ?_
      exact PW.ret0 (pc := 273) dX8_qJoins_273 hM44.1 rfl ⟨hM44, rfl, h⟩
  by_cases q8 : x1 = 8
  · have h := h.2.2.2.2.2.2.2.1 q8
    refine PW.tabIn (pc := 36) dX8_qJoins_36 (by rw [q8]; decide) (by rw [q8]; decide) (off := 170) (by rw [q8]; decide) (t := 206) (by decide) ?_
    refine PW.aload_n (pc := 206) dX8_qJoins_206 rfl ?_
    refine PW.lload (pc := 207) dX8_qJoins_207 rfl ?_
    refine PW.lload_n (pc := 209) dX8_qJoins_209 rfl ?_
    refine PW.lcmp (pc := 210) dX8_qJoins_210 ?_
    refine PW.if_le (pc := 211) dX8_qJoins_211 (t := 218) (by decide) (fun hc => ?_) (fun hc => ?_)
    · have h := h.1 ((lg_cmp_le _ _).mp hc)
      refine PW.lconst (pc := 218) dX8_qJoins_218 (v := 0) (by decide) ?_
      refine PW.inv (m' := mX8_qPuts) (pc := 219) dX8_qJoins_219 lm_X8_414 me_X8_qPuts mi_X8_qPuts (ob hM.1 s_277 (by decide)) rfl (As := [.long (0 : Int64)]) (st := []) rfl (Nat.le_of_ble_eq_true rfl) (Nat.le_of_ble_eq_true rfl) (Nat.le_of_eq hM.1) (Nat.le_refl _) (PW.deep (by decide) (c_X8_qPuts  (hM.same rfl rfl) h)) ?_
      rintro _ M45 ⟨hM47, rfl, h⟩
      refine PW.goto (pc := 222) dX8_qJoins_222 (t := 273) (by decide) ?_
      exact PW.ret0 (pc := 273) dX8_qJoins_273 hM47.1 rfl ⟨hM47, rfl, h⟩
    · have h := h.2 (fun q => hc ((lg_cmp_le _ _).mpr q))
      refine PW.lconst (pc := 214) dX8_qJoins_214 (v := 1) (by decide) ?_
      refine PW.goto (pc := 215) dX8_qJoins_215 (t := 219) (by decide) ?_
      refine PW.inv (m' := mX8_qPuts) (pc := 219) dX8_qJoins_219 lm_X8_414 me_X8_qPuts mi_X8_qPuts (ob hM.1 s_277 (by decide)) rfl (As := [.long (1 : Int64)]) (st := []) rfl (Nat.le_of_ble_eq_true rfl) (Nat.le_of_ble_eq_true rfl) (Nat.le_of_eq hM.1) (Nat.le_refl _) (PW.deep (by decide) (c_X8_qPuts  (hM.same rfl rfl) h)) ?_
      rintro _ M48 ⟨hM50, rfl, h⟩
      refine PW.goto (pc := 222) dX8_qJoins_222 (t := 273) (by decide) ?_
      exact PW.ret0 (pc := 273) dX8_qJoins_273 hM50.1 rfl ⟨hM50, rfl, h⟩
  by_cases q9 : x1 = 9
  · have h := h.2.2.2.2.2.2.2.2.1 q9
    refine PW.tabIn (pc := 36) dX8_qJoins_36 (by rw [q9]; decide) (by rw [q9]; decide) (off := 189) (by rw [q9]; decide) (t := 225) (by decide) ?_
    refine PW.aload_n (pc := 225) dX8_qJoins_225 rfl ?_
    refine PW.lload (pc := 226) dX8_qJoins_226 rfl ?_
    refine PW.lload_n (pc := 228) dX8_qJoins_228 rfl ?_
    refine PW.lcmp (pc := 229) dX8_qJoins_229 ?_
    refine PW.if_ne (pc := 230) dX8_qJoins_230 (t := 237) (by decide) (fun hc => ?_) (fun hc => ?_)
    · have h := h.1 (fun q => hc ((lg_cmp_eq _ _).mpr q))
      refine PW.lconst (pc := 237) dX8_qJoins_237 (v := 0) (by decide) ?_
      refine PW.inv (m' := mX8_qPuts) (pc := 238) dX8_qJoins_238 lm_X8_414 me_X8_qPuts mi_X8_qPuts (ob hM.1 s_277 (by decide)) rfl (As := [.long (0 : Int64)]) (st := []) rfl (Nat.le_of_ble_eq_true rfl) (Nat.le_of_ble_eq_true rfl) (Nat.le_of_eq hM.1) (Nat.le_refl _) (PW.deep (by decide) (c_X8_qPuts  (hM.same rfl rfl) h)) ?_
      rintro _ M51 ⟨hM53, rfl, h⟩
      refine PW.goto (pc := 241) dX8_qJoins_241 (t := 273) (by decide) ?_
      exact PW.ret0 (pc := 273) dX8_qJoins_273 hM53.1 rfl ⟨hM53, rfl, h⟩
    · have h := h.2 ((lg_cmp_eq _ _).mp hc)
      refine PW.lconst (pc := 233) dX8_qJoins_233 (v := 1) (by decide) ?_
      refine PW.goto (pc := 234) dX8_qJoins_234 (t := 238) (by decide) ?_
      refine PW.inv (m' := mX8_qPuts) (pc := 238) dX8_qJoins_238 lm_X8_414 me_X8_qPuts mi_X8_qPuts (ob hM.1 s_277 (by decide)) rfl (As := [.long (1 : Int64)]) (st := []) rfl (Nat.le_of_ble_eq_true rfl) (Nat.le_of_ble_eq_true rfl) (Nat.le_of_eq hM.1) (Nat.le_refl _) (PW.deep (by decide) (c_X8_qPuts  (hM.same rfl rfl) h)) ?_
      rintro _ M54 ⟨hM56, rfl, h⟩
      refine PW.goto (pc := 241) dX8_qJoins_241 (t := 273) (by decide) ?_
      exact PW.ret0 (pc := 273) dX8_qJoins_273 hM56.1 rfl ⟨hM56, rfl, h⟩
  by_cases q10 : x1 = 10
  · have h := h.2.2.2.2.2.2.2.2.2.1 q10
    refine PW.tabIn (pc := 36) dX8_qJoins_36 (by rw [q10]; decide) (by rw [q10]; decide) (off := 208) (by rw [q10]; decide) (t := 244) (by decide) ?_
    refine PW.aload_n (pc := 244) dX8_qJoins_244 rfl ?_
    refine PW.lload (pc := 245) dX8_qJoins_245 rfl ?_
    refine PW.lload_n (pc := 247) dX8_qJoins_247 rfl ?_
    refine PW.lmul (pc := 248) dX8_qJoins_248 ?_
    refine PW.inv (m' := mX8_qPuts) (pc := 249) dX8_qJoins_249 lm_X8_414 me_X8_qPuts mi_X8_qPuts (ob hM.1 s_277 (by decide)) rfl (As := [.long ((mJ M 351 (((mI M 277 102) - 2).toNatClampNeg)) * (mJ M 351 (((mI M 277 102) - 1).toNatClampNeg)))]) (st := []) rfl (Nat.le_of_ble_eq_true rfl) (Nat.le_of_ble_eq_true rfl) (Nat.le_of_eq hM.1) (Nat.le_refl _) (PW.deep (by decide) (c_X8_qPuts  (hM.same rfl rfl) h)) ?_
    rintro _ M57 ⟨hM59, rfl, h⟩
    refine PW.goto (pc := 252) dX8_qJoins_252 (t := 273) (by decide) ?_
    exact PW.ret0 (pc := 273) dX8_qJoins_273 hM59.1 rfl ⟨hM59, rfl, h⟩
  have h := h.2.2.2.2.2.2.2.2.2.2 q1 q2 q3 q4 q5 q6 q7 q8 q9 q10
  refine PW.tabOut (pc := 36) dX8_qJoins_36 (tab_out (fun c h1 h2 => ?_)) (t := 255) (by decide) ?_
  · rcases (by omega : c = 1 ∨ c = 2 ∨ c = 3 ∨ c = 4 ∨ c = 5 ∨ c = 6 ∨ c = 7 ∨ c = 8 ∨ c = 9 ∨ c = 10) with rfl | rfl | rfl | rfl | rfl | rfl | rfl | rfl | rfl | rfl <;> assumption
  · skip
    refine PW.aload_n (pc := 255) dX8_qJoins_255 rfl ?_
    refine PW.lload (pc := 256) dX8_qJoins_256 rfl ?_
    refine PW.lload_n (pc := 258) dX8_qJoins_258 rfl ?_
    refine PW.ladd (pc := 259) dX8_qJoins_259 ?_
    refine PW.lconst (pc := 260) dX8_qJoins_260 (v := 0) (by decide) ?_
    refine PW.lcmp (pc := 261) dX8_qJoins_261 ?_
    refine PW.if_le (pc := 262) dX8_qJoins_262 (t := 269) (by decide) (fun hc => ?_) (fun hc => ?_)
    · have h := h.1 ((lg_cmp_le _ _).mp hc)
      refine PW.lconst (pc := 269) dX8_qJoins_269 (v := 0) (by decide) ?_
      refine PW.inv (m' := mX8_qPuts) (pc := 270) dX8_qJoins_270 lm_X8_414 me_X8_qPuts mi_X8_qPuts (ob hM.1 s_277 (by decide)) rfl (As := [.long (0 : Int64)]) (st := []) rfl (Nat.le_of_ble_eq_true rfl) (Nat.le_of_ble_eq_true rfl) (Nat.le_of_eq hM.1) (Nat.le_refl _) (PW.deep (by decide) (c_X8_qPuts  (hM.same rfl rfl) h)) ?_
      rintro _ M60 ⟨hM62, rfl, h⟩
      exact PW.ret0 (pc := 273) dX8_qJoins_273 hM62.1 rfl ⟨hM62, rfl, h⟩
    · have h := h.2 (fun q => hc ((lg_cmp_le _ _).mpr q))
      refine PW.lconst (pc := 265) dX8_qJoins_265 (v := 1) (by decide) ?_
      refine PW.goto (pc := 266) dX8_qJoins_266 (t := 270) (by decide) ?_
      refine PW.inv (m' := mX8_qPuts) (pc := 270) dX8_qJoins_270 lm_X8_414 me_X8_qPuts mi_X8_qPuts (ob hM.1 s_277 (by decide)) rfl (As := [.long (1 : Int64)]) (st := []) rfl (Nat.le_of_ble_eq_true rfl) (Nat.le_of_ble_eq_true rfl) (Nat.le_of_eq hM.1) (Nat.le_refl _) (PW.deep (by decide) (c_X8_qPuts  (hM.same rfl rfl) h)) ?_
      rintro _ M63 ⟨hM65, rfl, h⟩
      exact PW.ret0 (pc := 273) dX8_qJoins_273 hM65.1 rfl ⟨hM65, rfl, h⟩
def w_X8_codesTell_27 : Nat → Int32 → Int32 → Int32 → pm → (Int64 → pm → Prop) → Prop
  | 0, _, _, _, _, _ => False
  | n + 1, x1, x2, x3, M, Q => vp_in (3 + x1) 6 ∧ (((mI M 315 ((3 + x1).toNatClampNeg)) ≤ x3 → (Q (mJ M 351 0) M)) ∧ (¬ (mI M 315 ((3 + x1).toNatClampNeg)) ≤ x3 → (vp_in (1600 + x3) 3200 ∧ (((mI M 316 ((1600 + x3).toNatClampNeg)) < 1000 → (((mI M 316 ((1600 + x3).toNatClampNeg)) < 40 → ((¬ (mI M 316 ((1600 + x3).toNatClampNeg)) = 13 → ((¬ (mI M 316 ((1600 + x3).toNatClampNeg)) = 12 → (w_X8_qJoins (mI M 316 ((1600 + x3).toNatClampNeg)) M (fun M4 => w_X8_codesTell_27 n x1 x2 (x3 + 1) M4 Q))) ∧ ((mI M 316 ((1600 + x3).toNatClampNeg)) = 12 → (vp_in ((mI M 277 102) - 1) 1700 ∧ (vp_in ((mI M 277 102) - 1) 1700 ∧ (w_X8_codesTell_27 n x1 x2 (x3 + 1) (sJ M 351 (((mI M 277 102) - 1).toNatClampNeg) ((1 : Int64) - (mJ M 351 (((mI M 277 102) - 1).toNatClampNeg)))) Q)))))) ∧ ((mI M 316 ((1600 + x3).toNatClampNeg)) = 13 → (w_X8_qPuts (1 : Int64) M (fun M9 => w_X8_codesTell_27 n x1 x2 (x3 + 1) M9 Q))))) ∧ (¬ (mI M 316 ((1600 + x3).toNatClampNeg)) < 40 → (w_X8_qPartOf ((mI M 316 ((1600 + x3).toNatClampNeg)) - 40) x2 M (fun y13 M12 => w_X8_qPuts y13 M12 (fun M15 => w_X8_codesTell_27 n x1 x2 (x3 + 1) M15 Q)))))) ∧ (¬ (mI M 316 ((1600 + x3).toNatClampNeg)) < 1000 → (w_X8_qPuts (Int32.toInt64 ((mI M 316 ((1600 + x3).toNatClampNeg)) - 1000)) M (fun M18 => w_X8_codesTell_27 n x1 x2 (x3 + 1) M18 Q)))))))
set_option maxRecDepth 4000 in
theorem c_X8_codesTell_27  {Q : Int64 → pm → Prop}  : ∀ (n : Nat) (x1 : Int32) (x2 : Int32) (x3 : Int32) (M : pm), pG M → w_X8_codesTell_27 n x1 x2 x3 M  Q → PW mX8_codesTell 5 350 27 [.ref 277, .int x1, .int x2, .int x3, .null] [] M (qJ Q) := by
  intro n
  induction n with
  | zero => intro x1 x2 x3 M hM h; exact h.elim
  | succ n ih =>
    intro x1 x2 x3 M hM h
    unfold w_X8_codesTell_27 at h
    refine PW.iload_n (pc := 27) dX8_codesTell_27 rfl ?_
    refine PW.aload_n (pc := 28) dX8_codesTell_28 rfl ?_
    refine PW.getR (pc := 29) dX8_codesTell_29 (r := 315) lf_X8_127 (ob hM.1 s_277 (by decide)) fx_8_46 (oR_8_46 hM s_277) (pS_ne s_315) ?_
    refine PW.iconst (pc := 32) dX8_codesTell_32 (v := 3) (by decide) ?_
    refine PW.iload_n (pc := 33) dX8_codesTell_33 rfl ?_
    refine PW.iadd (pc := 34) dX8_codesTell_34 ?_
    obtain ⟨v2, h⟩ := h
    refine PW.iald (pc := 35) dX8_codesTell_35 (ar hM.1 s_315) (vpl n_315 v2) ?_
    refine PW.icmp_ge (pc := 36) dX8_codesTell_36 (t := 158) (by decide) (fun hc => ?_) (fun hc => ?_)
    · have h := h.1 hc
      refine PW.aload_n (pc := 158) dX8_codesTell_158 rfl ?_
      refine PW.getR (pc := 159) dX8_codesTell_159 (r := 351) lf_X8_240 (ob hM.1 s_277 (by decide)) fx_8_101 (oR_8_101 hM s_277) (pS_ne s_351) ?_
      refine PW.iconst (pc := 162) dX8_codesTell_162 (v := 0) (by decide) ?_
      refine PW.lald (pc := 163) dX8_codesTell_163 (ar hM.1 s_351) (vpl n_351 (vp_c (i := 0) (n := 1700) (by decide))) ?_
      exact PW.retJ (pc := 164) dX8_codesTell_164 hM.1 rfl ⟨hM, _, rfl, h⟩
    · have h := h.2 hc
      refine PW.aload_n (pc := 39) dX8_codesTell_39 rfl ?_
      refine PW.getR (pc := 40) dX8_codesTell_40 (r := 316) lf_X8_130 (ob hM.1 s_277 (by decide)) fx_8_47 (oR_8_47 hM s_277) (pS_ne s_316) ?_
      refine PW.sipush (pc := 43) dX8_codesTell_43 (v := 1600) (by decide) ?_
      refine PW.iload_n (pc := 46) dX8_codesTell_46 rfl ?_
      refine PW.iadd (pc := 47) dX8_codesTell_47 ?_
      obtain ⟨v3, h⟩ := h
      refine PW.iald (pc := 48) dX8_codesTell_48 (ar hM.1 s_316) (vpl n_316 v3) ?_
      refine PW.istore (pc := 49) dX8_codesTell_49 (ls' := [.ref 277, .int x1, .int x2, .int x3, .int (mI M 316 ((1600 + x3).toNatClampNeg))]) (by decide) rfl rfl ?_
      refine PW.iload (pc := 51) dX8_codesTell_51 rfl ?_
      refine PW.sipush (pc := 53) dX8_codesTell_53 (v := 1000) (by decide) ?_
      refine PW.icmp_lt (pc := 56) dX8_codesTell_56 (t := 73) (by decide) (fun hc => ?_) (fun hc => ?_)
      · have h := h.1 hc
        refine PW.iload (pc := 73) dX8_codesTell_73 rfl ?_
        refine PW.bipush (pc := 75) dX8_codesTell_75 (v := 40) (by decide) ?_
        refine PW.icmp_lt (pc := 77) dX8_codesTell_77 (t := 97) (by decide) (fun hc => ?_) (fun hc => ?_)
        · have h := h.1 hc
          refine PW.iload (pc := 97) dX8_codesTell_97 rfl ?_
          refine PW.bipush (pc := 99) dX8_codesTell_99 (v := 13) (by decide) ?_
          refine PW.icmp_ne (pc := 101) dX8_codesTell_101 (t := 112) (by decide) (fun hc => ?_) (fun hc => ?_)
          · have h := h.1 hc
            refine PW.iload (pc := 112) dX8_codesTell_112 rfl ?_
            refine PW.bipush (pc := 114) dX8_codesTell_114 (v := 12) (by decide) ?_
            refine PW.icmp_ne (pc := 116) dX8_codesTell_116 (t := 146) (by decide) (fun hc => ?_) (fun hc => ?_)
            · have h := h.1 hc
              refine PW.aload_n (pc := 146) dX8_codesTell_146 rfl ?_
              refine PW.iload (pc := 147) dX8_codesTell_147 rfl ?_
              refine PW.inv (m' := mX8_qJoins) (pc := 149) dX8_codesTell_149 lm_X8_422 me_X8_qJoins mi_X8_qJoins (ob hM.1 s_277 (by decide)) rfl (As := [.int (mI M 316 ((1600 + x3).toNatClampNeg))]) (st := []) rfl (Nat.le_of_ble_eq_true rfl) (Nat.le_of_ble_eq_true rfl) (Nat.le_of_eq hM.1) (Nat.le_refl _) (PW.deep (by decide) (c_X8_qJoins  hM h)) ?_
              rintro _ M4 ⟨hM6, rfl, h⟩
              refine PW.iinc (pc := 152) dX8_codesTell_152 (v := (x3 + 1)) (ls' := [.ref 277, .int x1, .int x2, .int (x3 + 1), .int (mI M 316 ((1600 + x3).toNatClampNeg))]) rfl rfl (by decide) rfl rfl ?_
              refine PW.goto (pc := 155) dX8_codesTell_155 (t := 27) (by decide) ?_
              exact PW.drop (ih _ _ _ _ hM6 h) ⟨rfl, rfl, rfl, rfl, trivial⟩
            · have h := h.2 hc
              refine PW.aload_n (pc := 119) dX8_codesTell_119 rfl ?_
              refine PW.getR (pc := 120) dX8_codesTell_120 (r := 351) lf_X8_240 (ob hM.1 s_277 (by decide)) fx_8_101 (oR_8_101 hM s_277) (pS_ne s_351) ?_
              refine PW.aload_n (pc := 123) dX8_codesTell_123 rfl ?_
              refine PW.getI (pc := 124) dX8_codesTell_124 lf_X8_411 (ob hM.1 s_277 (by decide)) fx_8_102 ?_
              refine PW.iconst (pc := 127) dX8_codesTell_127 (v := 1) (by decide) ?_
              refine PW.isub (pc := 128) dX8_codesTell_128 ?_
              refine PW.lconst (pc := 129) dX8_codesTell_129 (v := 1) (by decide) ?_
              refine PW.aload_n (pc := 130) dX8_codesTell_130 rfl ?_
              refine PW.getR (pc := 131) dX8_codesTell_131 (r := 351) lf_X8_240 (ob hM.1 s_277 (by decide)) fx_8_101 (oR_8_101 hM s_277) (pS_ne s_351) ?_
              refine PW.aload_n (pc := 134) dX8_codesTell_134 rfl ?_
              refine PW.getI (pc := 135) dX8_codesTell_135 lf_X8_411 (ob hM.1 s_277 (by decide)) fx_8_102 ?_
              refine PW.iconst (pc := 138) dX8_codesTell_138 (v := 1) (by decide) ?_
              refine PW.isub (pc := 139) dX8_codesTell_139 ?_
              obtain ⟨v7, h⟩ := h
              refine PW.lald (pc := 140) dX8_codesTell_140 (ar hM.1 s_351) (vpl n_351 v7) ?_
              refine PW.lsub (pc := 141) dX8_codesTell_141 ?_
              obtain ⟨v8, h⟩ := h
              refine PW.last (pc := 142) dX8_codesTell_142 (ar hM.1 s_351) (vpl n_351 v8) ?_
              refine PW.goto (pc := 143) dX8_codesTell_143 (t := 152) (by decide) ?_
              refine PW.iinc (pc := 152) dX8_codesTell_152 (v := (x3 + 1)) (ls' := [.ref 277, .int x1, .int x2, .int (x3 + 1), .int (mI M 316 ((1600 + x3).toNatClampNeg))]) rfl rfl (by decide) rfl rfl ?_
              refine PW.goto (pc := 155) dX8_codesTell_155 (t := 27) (by decide) ?_
              exact PW.drop (ih _ _ _ _ (hM.same rfl rfl) h) ⟨rfl, rfl, rfl, rfl, trivial⟩
          · have h := h.2 hc
            refine PW.aload_n (pc := 104) dX8_codesTell_104 rfl ?_
            refine PW.lconst (pc := 105) dX8_codesTell_105 (v := 1) (by decide) ?_
            refine PW.inv (m' := mX8_qPuts) (pc := 106) dX8_codesTell_106 lm_X8_414 me_X8_qPuts mi_X8_qPuts (ob hM.1 s_277 (by decide)) rfl (As := [.long (1 : Int64)]) (st := []) rfl (Nat.le_of_ble_eq_true rfl) (Nat.le_of_ble_eq_true rfl) (Nat.le_of_eq hM.1) (Nat.le_refl _) (PW.deep (by decide) (c_X8_qPuts  hM h)) ?_
            rintro _ M9 ⟨hM11, rfl, h⟩
            refine PW.goto (pc := 109) dX8_codesTell_109 (t := 152) (by decide) ?_
            refine PW.iinc (pc := 152) dX8_codesTell_152 (v := (x3 + 1)) (ls' := [.ref 277, .int x1, .int x2, .int (x3 + 1), .int (mI M 316 ((1600 + x3).toNatClampNeg))]) rfl rfl (by decide) rfl rfl ?_
            refine PW.goto (pc := 155) dX8_codesTell_155 (t := 27) (by decide) ?_
            exact PW.drop (ih _ _ _ _ hM11 h) ⟨rfl, rfl, rfl, rfl, trivial⟩
        · have h := h.2 hc
          refine PW.aload_n (pc := 80) dX8_codesTell_80 rfl ?_
          refine PW.aload_n (pc := 81) dX8_codesTell_81 rfl ?_
          refine PW.iload (pc := 82) dX8_codesTell_82 rfl ?_
          refine PW.bipush (pc := 84) dX8_codesTell_84 (v := 40) (by decide) ?_
          refine PW.isub (pc := 86) dX8_codesTell_86 ?_
          refine PW.iload_n (pc := 87) dX8_codesTell_87 rfl ?_
          refine PW.inv (m' := mX8_qPartOf) (pc := 88) dX8_codesTell_88 lm_X8_418 me_X8_qPartOf mi_X8_qPartOf (ob hM.1 s_277 (by decide)) rfl (As := [.int ((mI M 316 ((1600 + x3).toNatClampNeg)) - 40), .int x2]) (st := [.ref 277]) rfl (Nat.le_of_ble_eq_true rfl) (Nat.le_of_ble_eq_true rfl) (Nat.le_of_eq hM.1) (Nat.le_refl _) (PW.deep (by decide) (c_X8_qPartOf  hM h)) ?_
          rintro _ M12 ⟨hM14, y13, rfl, h⟩
          refine PW.inv (m' := mX8_qPuts) (pc := 91) dX8_codesTell_91 lm_X8_414 me_X8_qPuts mi_X8_qPuts (ob hM14.1 s_277 (by decide)) rfl (As := [.long y13]) (st := []) rfl (Nat.le_of_ble_eq_true rfl) (Nat.le_of_ble_eq_true rfl) (Nat.le_of_eq hM14.1) (Nat.le_refl _) (PW.deep (by decide) (c_X8_qPuts  hM14 h)) ?_
          rintro _ M15 ⟨hM17, rfl, h⟩
          refine PW.goto (pc := 94) dX8_codesTell_94 (t := 152) (by decide) ?_
          refine PW.iinc (pc := 152) dX8_codesTell_152 (v := (x3 + 1)) (ls' := [.ref 277, .int x1, .int x2, .int (x3 + 1), .int (mI M 316 ((1600 + x3).toNatClampNeg))]) rfl rfl (by decide) rfl rfl ?_
          refine PW.goto (pc := 155) dX8_codesTell_155 (t := 27) (by decide) ?_
          exact PW.drop (ih _ _ _ _ hM17 h) ⟨rfl, rfl, rfl, rfl, trivial⟩
      · have h := h.2 hc
        refine PW.aload_n (pc := 59) dX8_codesTell_59 rfl ?_
        refine PW.iload (pc := 60) dX8_codesTell_60 rfl ?_
        refine PW.sipush (pc := 62) dX8_codesTell_62 (v := 1000) (by decide) ?_
        refine PW.isub (pc := 65) dX8_codesTell_65 ?_
        refine PW.i2l (pc := 66) dX8_codesTell_66 ?_
        refine PW.inv (m' := mX8_qPuts) (pc := 67) dX8_codesTell_67 lm_X8_414 me_X8_qPuts mi_X8_qPuts (ob hM.1 s_277 (by decide)) rfl (As := [.long (Int32.toInt64 ((mI M 316 ((1600 + x3).toNatClampNeg)) - 1000))]) (st := []) rfl (Nat.le_of_ble_eq_true rfl) (Nat.le_of_ble_eq_true rfl) (Nat.le_of_eq hM.1) (Nat.le_refl _) (PW.deep (by decide) (c_X8_qPuts  hM h)) ?_
        rintro _ M18 ⟨hM20, rfl, h⟩
        refine PW.goto (pc := 70) dX8_codesTell_70 (t := 152) (by decide) ?_
        refine PW.iinc (pc := 152) dX8_codesTell_152 (v := (x3 + 1)) (ls' := [.ref 277, .int x1, .int x2, .int (x3 + 1), .int (mI M 316 ((1600 + x3).toNatClampNeg))]) rfl rfl (by decide) rfl rfl ?_
        refine PW.goto (pc := 155) dX8_codesTell_155 (t := 27) (by decide) ?_
        exact PW.drop (ih _ _ _ _ hM20 h) ⟨rfl, rfl, rfl, rfl, trivial⟩
def w_X8_codesTell (x1 : Int32) (x2 : Int32) (M : pm) (Q : Int64 → pm → Prop) : Prop := ((¬ x1 = 0 → (vp_in (3 + x1) 6 ∧ (∃ n21, w_X8_codesTell_27 n21 x1 x2 (mI M 314 ((3 + x1).toNatClampNeg)) (sI (sI M 277 51 1) 277 102 0)  Q))) ∧ (x1 = 0 → (vp_in (3 + x1) 6 ∧ (∃ n23, w_X8_codesTell_27 n23 x1 x2 (mI M 314 ((3 + x1).toNatClampNeg)) (sI (sI M 277 51 0) 277 102 0)  Q))))
set_option maxRecDepth 4000 in
theorem c_X8_codesTell {x1 : Int32} {x2 : Int32} {M : pm} {Q : Int64 → pm → Prop}  (hM : pG M) (h : w_X8_codesTell x1 x2 M Q) : PW mX8_codesTell 5 350 0 (pfr mX8_codesTell.2.2.1 [.ref 277, .int x1, .int x2]) [] M (qJ Q) := by
  unfold w_X8_codesTell at h
  show PW mX8_codesTell 5 350 0 [.ref 277, .int x1, .int x2, .null, .null] [] M (qJ Q)
  refine PW.aload_n (pc := 0) dX8_codesTell_0 rfl ?_
  refine PW.iload_n (pc := 1) dX8_codesTell_1 rfl ?_
  refine PW.if_ne (pc := 2) dX8_codesTell_2 (t := 9) (by decide) (fun hc => ?_) (fun hc => ?_)
  · have h := h.1 hc
    refine PW.iconst (pc := 9) dX8_codesTell_9 (v := 1) (by decide) ?_
    refine PW.putI (pc := 10) dX8_codesTell_10 lf_X8_304 (ob hM.1 s_277 (by decide)) fx_8_51 fw_8_51 rfl rfl ?_
    refine PW.aload_n (pc := 13) dX8_codesTell_13 rfl ?_
    refine PW.iconst (pc := 14) dX8_codesTell_14 (v := 0) (by decide) ?_
    refine PW.putI (pc := 15) dX8_codesTell_15 lf_X8_411 (ob hM.1 s_277 (by decide)) fx_8_102 fw_8_102 rfl rfl ?_
    refine PW.aload_n (pc := 18) dX8_codesTell_18 rfl ?_
    refine PW.getR (pc := 19) dX8_codesTell_19 (r := 314) lf_X8_124 (ob hM.1 s_277 (by decide)) fx_8_45 (oR_8_45 (hM.same rfl rfl) s_277) (pS_ne s_314) ?_
    refine PW.iconst (pc := 22) dX8_codesTell_22 (v := 3) (by decide) ?_
    refine PW.iload_n (pc := 23) dX8_codesTell_23 rfl ?_
    refine PW.iadd (pc := 24) dX8_codesTell_24 ?_
    obtain ⟨v1, h⟩ := h
    refine PW.iald (pc := 25) dX8_codesTell_25 (ar hM.1 s_314) (vpl n_314 v1) ?_
    refine PW.istore_n (pc := 26) dX8_codesTell_26 (ls' := [.ref 277, .int x1, .int x2, .int (mI M 314 ((3 + x1).toNatClampNeg)), .null]) (by decide) rfl rfl ?_
    obtain ⟨n21, h⟩ := h
    refine PW.drop (c_X8_codesTell_27  n21 _ _ _ _ (hM.same rfl rfl) h) ⟨rfl, rfl, rfl, rfl, trivial⟩
  · have h := h.2 hc
    refine PW.iconst (pc := 5) dX8_codesTell_5 (v := 0) (by decide) ?_
    refine PW.goto (pc := 6) dX8_codesTell_6 (t := 10) (by decide) ?_
    refine PW.putI (pc := 10) dX8_codesTell_10 lf_X8_304 (ob hM.1 s_277 (by decide)) fx_8_51 fw_8_51 rfl rfl ?_
    refine PW.aload_n (pc := 13) dX8_codesTell_13 rfl ?_
    refine PW.iconst (pc := 14) dX8_codesTell_14 (v := 0) (by decide) ?_
    refine PW.putI (pc := 15) dX8_codesTell_15 lf_X8_411 (ob hM.1 s_277 (by decide)) fx_8_102 fw_8_102 rfl rfl ?_
    refine PW.aload_n (pc := 18) dX8_codesTell_18 rfl ?_
    refine PW.getR (pc := 19) dX8_codesTell_19 (r := 314) lf_X8_124 (ob hM.1 s_277 (by decide)) fx_8_45 (oR_8_45 (hM.same rfl rfl) s_277) (pS_ne s_314) ?_
    refine PW.iconst (pc := 22) dX8_codesTell_22 (v := 3) (by decide) ?_
    refine PW.iload_n (pc := 23) dX8_codesTell_23 rfl ?_
    refine PW.iadd (pc := 24) dX8_codesTell_24 ?_
    obtain ⟨v22, h⟩ := h
    refine PW.iald (pc := 25) dX8_codesTell_25 (ar hM.1 s_314) (vpl n_314 v22) ?_
    refine PW.istore_n (pc := 26) dX8_codesTell_26 (ls' := [.ref 277, .int x1, .int x2, .int (mI M 314 ((3 + x1).toNatClampNeg)), .null]) (by decide) rfl rfl ?_
    obtain ⟨n23, h⟩ := h
    refine PW.drop (c_X8_codesTell_27  n23 _ _ _ _ (hM.same rfl rfl) h) ⟨rfl, rfl, rfl, rfl, trivial⟩
def w_X8_canPlay (x1 : Int32) (M : pm) (Q : Int32 → pm → Prop) : Prop := w_X8_isDead x1 M (fun y2 M1 => ((y2 = 0 → (Q 0 M1)) ∧ (¬ y2 = 0 → (w_X8_mindsOf x1 M1 (fun y6 M5 => ((y6 ≤ 0 → (Q 0 M5)) ∧ (¬ y6 ≤ 0 → (((mI M5 314 4) = (-1) → (Q 1 M5)) ∧ (¬ (mI M5 314 4) = (-1) → (w_X8_codesTell 1 x1 M5 (fun y9 M8 => ((¬ y9 = (1 : Int64) → (Q 0 M8)) ∧ (y9 = (1 : Int64) → (Q 1 M8))))))))))))))
set_option maxRecDepth 4000 in
theorem c_X8_canPlay {x1 : Int32} {M : pm} {Q : Int32 → pm → Prop}  (hM : pG M) (h : w_X8_canPlay x1 M Q) : PW mX8_canPlay 6 350 0 (pfr mX8_canPlay.2.2.1 [.ref 277, .int x1]) [] M (qZ Q) := by
  unfold w_X8_canPlay at h
  show PW mX8_canPlay 6 350 0 [.ref 277, .int x1] [] M (qZ Q)
  refine PW.aload_n (pc := 0) dX8_canPlay_0 rfl ?_
  refine PW.iload_n (pc := 1) dX8_canPlay_1 rfl ?_
  refine PW.inv (m' := mX8_isDead) (pc := 2) dX8_canPlay_2 lm_X8_405 me_X8_isDead mi_X8_isDead (ob hM.1 s_277 (by decide)) rfl (As := [.int x1]) (st := []) rfl (Nat.le_of_ble_eq_true rfl) (Nat.le_of_ble_eq_true rfl) (Nat.le_of_eq hM.1) (Nat.le_refl _) (PW.deep (by decide) (c_X8_isDead  hM h)) ?_
  rintro _ M1 ⟨hM3, y2, rfl, z4, h⟩
  refine PW.if_eq (pc := 5) dX8_canPlay_5 (t := 41) (by decide) (fun hc => ?_) (fun hc => ?_)
  · have h := h.1 hc
    refine PW.iconst (pc := 41) dX8_canPlay_41 (v := 0) (by decide) ?_
    exact PW.retI (pc := 42) dX8_canPlay_42 hM3.1 rfl (bz_n bz0) ⟨hM3, _, rfl, bz0, h⟩
  · have h := h.2 hc
    refine PW.aload_n (pc := 8) dX8_canPlay_8 rfl ?_
    refine PW.iload_n (pc := 9) dX8_canPlay_9 rfl ?_
    refine PW.inv (m' := mX8_mindsOf) (pc := 10) dX8_canPlay_10 lm_X8_425 me_X8_mindsOf mi_X8_mindsOf (ob hM3.1 s_277 (by decide)) rfl (As := [.int x1]) (st := []) rfl (Nat.le_of_ble_eq_true rfl) (Nat.le_of_ble_eq_true rfl) (Nat.le_of_eq hM3.1) (Nat.le_refl _) (PW.deep (by decide) (c_X8_mindsOf  hM3 h)) ?_
    rintro _ M5 ⟨hM7, y6, rfl, h⟩
    refine PW.if_le (pc := 13) dX8_canPlay_13 (t := 41) (by decide) (fun hc => ?_) (fun hc => ?_)
    · have h := h.1 hc
      refine PW.iconst (pc := 41) dX8_canPlay_41 (v := 0) (by decide) ?_
      exact PW.retI (pc := 42) dX8_canPlay_42 hM7.1 rfl (bz_n bz0) ⟨hM7, _, rfl, bz0, h⟩
    · have h := h.2 hc
      refine PW.aload_n (pc := 16) dX8_canPlay_16 rfl ?_
      refine PW.getR (pc := 17) dX8_canPlay_17 (r := 314) lf_X8_124 (ob hM7.1 s_277 (by decide)) fx_8_45 (oR_8_45 hM7 s_277) (pS_ne s_314) ?_
      refine PW.iconst (pc := 20) dX8_canPlay_20 (v := 4) (by decide) ?_
      refine PW.iald (pc := 21) dX8_canPlay_21 (ar hM7.1 s_314) (vpl n_314 (vp_c (i := 4) (n := 6) (by decide))) ?_
      refine PW.iconst (pc := 22) dX8_canPlay_22 (v := (-1)) (by decide) ?_
      refine PW.icmp_eq (pc := 23) dX8_canPlay_23 (t := 37) (by decide) (fun hc => ?_) (fun hc => ?_)
      · have h := h.1 hc
        refine PW.iconst (pc := 37) dX8_canPlay_37 (v := 1) (by decide) ?_
        refine PW.goto (pc := 38) dX8_canPlay_38 (t := 42) (by decide) ?_
        exact PW.retI (pc := 42) dX8_canPlay_42 hM7.1 rfl (bz_n bz1) ⟨hM7, _, rfl, bz1, h⟩
      · have h := h.2 hc
        refine PW.aload_n (pc := 26) dX8_canPlay_26 rfl ?_
        refine PW.iconst (pc := 27) dX8_canPlay_27 (v := 1) (by decide) ?_
        refine PW.iload_n (pc := 28) dX8_canPlay_28 rfl ?_
        refine PW.inv (m' := mX8_codesTell) (pc := 29) dX8_canPlay_29 lm_X8_428 me_X8_codesTell mi_X8_codesTell (ob hM7.1 s_277 (by decide)) rfl (As := [.int 1, .int x1]) (st := []) rfl (Nat.le_of_ble_eq_true rfl) (Nat.le_of_ble_eq_true rfl) (Nat.le_of_eq hM7.1) (Nat.le_refl _) (PW.deep (by decide) (c_X8_codesTell  hM7 h)) ?_
        rintro _ M8 ⟨hM10, y9, rfl, h⟩
        refine PW.lconst (pc := 32) dX8_canPlay_32 (v := 1) (by decide) ?_
        refine PW.lcmp (pc := 33) dX8_canPlay_33 ?_
        refine PW.if_ne (pc := 34) dX8_canPlay_34 (t := 41) (by decide) (fun hc => ?_) (fun hc => ?_)
        · have h := h.1 (fun q => hc ((lg_cmp_eq _ _).mpr q))
          refine PW.iconst (pc := 41) dX8_canPlay_41 (v := 0) (by decide) ?_
          exact PW.retI (pc := 42) dX8_canPlay_42 hM10.1 rfl (bz_n bz0) ⟨hM10, _, rfl, bz0, h⟩
        · have h := h.2 ((lg_cmp_eq _ _).mp hc)
          refine PW.iconst (pc := 37) dX8_canPlay_37 (v := 1) (by decide) ?_
          refine PW.goto (pc := 38) dX8_canPlay_38 (t := 42) (by decide) ?_
          exact PW.retI (pc := 42) dX8_canPlay_42 hM10.1 rfl (bz_n bz1) ⟨hM10, _, rfl, bz1, h⟩
def w_X8_worthOf (x1 : Int32) (M : pm) (Q : Int64 → pm → Prop) : Prop := ((¬ (mI M 314 5) = (-1) → (w_X8_codesTell 2 x1 M (fun y2 M1 => Q y2 M1))) ∧ ((mI M 314 5) = (-1) → (w_X8_mindsOf x1 M (fun y5 M4 => Q (Int32.toInt64 y5) M4))))
set_option maxRecDepth 4000 in
theorem c_X8_worthOf {x1 : Int32} {M : pm} {Q : Int64 → pm → Prop}  (hM : pG M) (h : w_X8_worthOf x1 M Q) : PW mX8_worthOf 6 350 0 (pfr mX8_worthOf.2.2.1 [.ref 277, .int x1]) [] M (qJ Q) := by
  unfold w_X8_worthOf at h
  show PW mX8_worthOf 6 350 0 [.ref 277, .int x1] [] M (qJ Q)
  refine PW.aload_n (pc := 0) dX8_worthOf_0 rfl ?_
  refine PW.getR (pc := 1) dX8_worthOf_1 (r := 314) lf_X8_124 (ob hM.1 s_277 (by decide)) fx_8_45 (oR_8_45 hM s_277) (pS_ne s_314) ?_
  refine PW.iconst (pc := 4) dX8_worthOf_4 (v := 5) (by decide) ?_
  refine PW.iald (pc := 5) dX8_worthOf_5 (ar hM.1 s_314) (vpl n_314 (vp_c (i := 5) (n := 6) (by decide))) ?_
  refine PW.iconst (pc := 6) dX8_worthOf_6 (v := (-1)) (by decide) ?_
  refine PW.icmp_ne (pc := 7) dX8_worthOf_7 (t := 19) (by decide) (fun hc => ?_) (fun hc => ?_)
  · have h := h.1 hc
    refine PW.aload_n (pc := 19) dX8_worthOf_19 rfl ?_
    refine PW.iconst (pc := 20) dX8_worthOf_20 (v := 2) (by decide) ?_
    refine PW.iload_n (pc := 21) dX8_worthOf_21 rfl ?_
    refine PW.inv (m' := mX8_codesTell) (pc := 22) dX8_worthOf_22 lm_X8_428 me_X8_codesTell mi_X8_codesTell (ob hM.1 s_277 (by decide)) rfl (As := [.int 2, .int x1]) (st := []) rfl (Nat.le_of_ble_eq_true rfl) (Nat.le_of_ble_eq_true rfl) (Nat.le_of_eq hM.1) (Nat.le_refl _) (PW.deep (by decide) (c_X8_codesTell  hM h)) ?_
    rintro _ M1 ⟨hM3, y2, rfl, h⟩
    exact PW.retJ (pc := 25) dX8_worthOf_25 hM3.1 rfl ⟨hM3, _, rfl, h⟩
  · have h := h.2 hc
    refine PW.aload_n (pc := 10) dX8_worthOf_10 rfl ?_
    refine PW.iload_n (pc := 11) dX8_worthOf_11 rfl ?_
    refine PW.inv (m' := mX8_mindsOf) (pc := 12) dX8_worthOf_12 lm_X8_425 me_X8_mindsOf mi_X8_mindsOf (ob hM.1 s_277 (by decide)) rfl (As := [.int x1]) (st := []) rfl (Nat.le_of_ble_eq_true rfl) (Nat.le_of_ble_eq_true rfl) (Nat.le_of_eq hM.1) (Nat.le_refl _) (PW.deep (by decide) (c_X8_mindsOf  hM h)) ?_
    rintro _ M4 ⟨hM6, y5, rfl, h⟩
    refine PW.i2l (pc := 15) dX8_worthOf_15 ?_
    refine PW.goto (pc := 16) dX8_worthOf_16 (t := 25) (by decide) ?_
    exact PW.retJ (pc := 25) dX8_worthOf_25 hM6.1 rfl ⟨hM6, _, rfl, h⟩
def w_X8_fadedOf_27  (t0 : Int64) (M : pm)  (Q : Int32 → pm → Prop) : Prop := (((0 : Int64) ≤ t0 → ((t0 ≤ (99 : Int64) → (Q (Int64.toInt32 t0) M)) ∧ (¬ t0 ≤ (99 : Int64) → (Q 99 M)))) ∧ (¬ (0 : Int64) ≤ t0 → (Q 0 M)))
set_option maxRecDepth 4000 in
theorem c_X8_fadedOf_27  {Q : Int32 → pm → Prop}  : ∀ (t0 : Int64) (M : pm), pG M → w_X8_fadedOf_27 t0 M  Q → PW mX8_fadedOf 6 350 27 [.ref 277, .null, .null, .null] [.long t0] M (qI Q) := by
  intro t0 M hM h
  unfold w_X8_fadedOf_27 at h
  refine PW.lstore_n (pc := 27) dX8_fadedOf_27 (ls' := [.ref 277, .null, .long t0, .null]) (by decide) rfl rfl ?_
  refine PW.lload_n (pc := 28) dX8_fadedOf_28 rfl ?_
  refine PW.lconst (pc := 29) dX8_fadedOf_29 (v := 0) (by decide) ?_
  refine PW.lcmp (pc := 30) dX8_fadedOf_30 ?_
  refine PW.if_ge (pc := 31) dX8_fadedOf_31 (t := 38) (by decide) (fun hc => ?_) (fun hc => ?_)
  · have h := h.1 ((lg_cmp_ge _ _).mp hc)
    refine PW.lload_n (pc := 38) dX8_fadedOf_38 rfl ?_
    refine PW.ldc2 (pc := 39) dX8_fadedOf_39 lk_X8_431 ?_
    refine PW.lcmp (pc := 42) dX8_fadedOf_42 ?_
    refine PW.if_le (pc := 43) dX8_fadedOf_43 (t := 51) (by decide) (fun hc => ?_) (fun hc => ?_)
    · have h := h.1 ((lg_cmp_le _ _).mp hc)
      refine PW.lload_n (pc := 51) dX8_fadedOf_51 rfl ?_
      refine PW.l2i (pc := 52) dX8_fadedOf_52 ?_
      exact PW.retI (pc := 53) dX8_fadedOf_53 hM.1 rfl rfl ⟨hM, _, rfl, h⟩
    · have h := h.2 (fun q => hc ((lg_cmp_le _ _).mpr q))
      refine PW.bipush (pc := 46) dX8_fadedOf_46 (v := 99) (by decide) ?_
      refine PW.goto (pc := 48) dX8_fadedOf_48 (t := 53) (by decide) ?_
      exact PW.retI (pc := 53) dX8_fadedOf_53 hM.1 rfl rfl ⟨hM, _, rfl, h⟩
  · have h := h.2 (fun q => hc ((lg_cmp_ge _ _).mpr q))
    refine PW.iconst (pc := 34) dX8_fadedOf_34 (v := 0) (by decide) ?_
    refine PW.goto (pc := 35) dX8_fadedOf_35 (t := 53) (by decide) ?_
    exact PW.retI (pc := 53) dX8_fadedOf_53 hM.1 rfl rfl ⟨hM, _, rfl, h⟩
def w_X8_fadedOf (x1 : Int32) (M : pm) (Q : Int32 → pm → Prop) : Prop := ((¬ (mI M 314 3) = (-1) → (w_X8_codesTell 0 x1 M (fun y2 M1 => w_X8_fadedOf_27 y2 M1  Q))) ∧ ((mI M 314 3) = (-1) → (w_X8_mindsOf x1 M (fun y5 M4 => w_X8_fadedOf_27 (Int32.toInt64 (y5 - 1)) M4  Q))))
set_option maxRecDepth 4000 in
theorem c_X8_fadedOf {x1 : Int32} {M : pm} {Q : Int32 → pm → Prop}  (hM : pG M) (h : w_X8_fadedOf x1 M Q) : PW mX8_fadedOf 6 350 0 (pfr mX8_fadedOf.2.2.1 [.ref 277, .int x1]) [] M (qI Q) := by
  unfold w_X8_fadedOf at h
  show PW mX8_fadedOf 6 350 0 [.ref 277, .int x1, .null, .null] [] M (qI Q)
  refine PW.aload_n (pc := 0) dX8_fadedOf_0 rfl ?_
  refine PW.getR (pc := 1) dX8_fadedOf_1 (r := 314) lf_X8_124 (ob hM.1 s_277 (by decide)) fx_8_45 (oR_8_45 hM s_277) (pS_ne s_314) ?_
  refine PW.iconst (pc := 4) dX8_fadedOf_4 (v := 3) (by decide) ?_
  refine PW.iald (pc := 5) dX8_fadedOf_5 (ar hM.1 s_314) (vpl n_314 (vp_c (i := 3) (n := 6) (by decide))) ?_
  refine PW.iconst (pc := 6) dX8_fadedOf_6 (v := (-1)) (by decide) ?_
  refine PW.icmp_ne (pc := 7) dX8_fadedOf_7 (t := 21) (by decide) (fun hc => ?_) (fun hc => ?_)
  · have h := h.1 hc
    refine PW.aload_n (pc := 21) dX8_fadedOf_21 rfl ?_
    refine PW.iconst (pc := 22) dX8_fadedOf_22 (v := 0) (by decide) ?_
    refine PW.iload_n (pc := 23) dX8_fadedOf_23 rfl ?_
    refine PW.inv (m' := mX8_codesTell) (pc := 24) dX8_fadedOf_24 lm_X8_428 me_X8_codesTell mi_X8_codesTell (ob hM.1 s_277 (by decide)) rfl (As := [.int 0, .int x1]) (st := []) rfl (Nat.le_of_ble_eq_true rfl) (Nat.le_of_ble_eq_true rfl) (Nat.le_of_eq hM.1) (Nat.le_refl _) (PW.deep (by decide) (c_X8_codesTell  hM h)) ?_
    rintro _ M1 ⟨hM3, y2, rfl, h⟩
    exact PW.drop (c_X8_fadedOf_27  _ _ hM3 h) ⟨rfl, trivial⟩
  · have h := h.2 hc
    refine PW.aload_n (pc := 10) dX8_fadedOf_10 rfl ?_
    refine PW.iload_n (pc := 11) dX8_fadedOf_11 rfl ?_
    refine PW.inv (m' := mX8_mindsOf) (pc := 12) dX8_fadedOf_12 lm_X8_425 me_X8_mindsOf mi_X8_mindsOf (ob hM.1 s_277 (by decide)) rfl (As := [.int x1]) (st := []) rfl (Nat.le_of_ble_eq_true rfl) (Nat.le_of_ble_eq_true rfl) (Nat.le_of_eq hM.1) (Nat.le_refl _) (PW.deep (by decide) (c_X8_mindsOf  hM h)) ?_
    rintro _ M4 ⟨hM6, y5, rfl, h⟩
    refine PW.iconst (pc := 15) dX8_fadedOf_15 (v := 1) (by decide) ?_
    refine PW.isub (pc := 16) dX8_fadedOf_16 ?_
    refine PW.i2l (pc := 17) dX8_fadedOf_17 ?_
    refine PW.goto (pc := 18) dX8_fadedOf_18 (t := 27) (by decide) ?_
    exact PW.drop (c_X8_fadedOf_27  _ _ hM6 h) ⟨rfl, trivial⟩
