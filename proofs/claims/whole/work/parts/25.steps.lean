/-! the law's loop, out of one step for each call -/
/-- the script stays -/
def sc (M M' : pm) : Prop := mL M' = mL M ∧ mI M' 1 = mI M 1
/-- the class's call, then the reference's: the same answer, and the invariant again -/
def stp {A : Type} (I : pm → Prop) (wx wm : pm → (A → pm → Prop) → Prop) (M : pm) : Prop := ∀ K : A → pm → Prop, (∀ (y : A) (M1 : pm), sc M M1 → (∀ Q : A → pm → Prop, (∀ M2, I M2 → sc M1 M2 → Q y M2) → wm M1 Q) → K y M1) → wx M K
theorem vp_s {M M1 : pm} (h : sc M M1) {x : Int32} (hx : vp_in x (mL M)) : vp_in x (mL M1) := by rw [h.1]; exact hx
theorem law_step {I : pm → Prop} (h_feed : ∀ (x1 x2 x3 x4 x5 : Int32) (M : pm), I M → stp I (w_X7_feed x1 x2 x3 x4 x5) (w_X8_feed x1 x2 x3 x4 x5) M) (h_end : ∀ (x1 : Int32) (M : pm), I M → stp I (w_X7_end x1) (w_X8_end x1) M) (h_station : ∀ (M : pm), I M → stp I (w_X7_station ) (w_X8_station ) M) (h_fault : ∀ (x1 : Int32) (M : pm), I M → stp I (w_X7_fault x1) (w_X8_fault x1) M) (h_has : ∀ (x1 : Int32) (M : pm), I M → stp I (w_X7_has x1) (w_X8_has x1) M) (h_letter : ∀ (x1 x2 x3 : Int32) (M : pm), I M → stp I (w_X7_letter x1 x2 x3) (w_X8_letter x1 x2 x3) M) (h_song : ∀ (x1 x2 : Int32) (M : pm), I M → stp I (w_X7_song x1 x2) (w_X8_song x1 x2) M) (h_asker : ∀ (x1 x2 : Int32) (M : pm), I M → stp I (w_X7_asker x1 x2) (w_X8_asker x1 x2) M) (h_worth : ∀ (x1 : Int32) (M : pm), I M → stp I (w_X7_worth x1) (w_X8_worth x1) M) (h_best : ∀ (x1 : Int32) (M : pm), I M → stp I (w_X7_best x1) (w_X8_best x1) M) (h_kept : ∀ (x1 x2 : Int32) (M : pm), I M → stp I (w_X7_kept x1 x2) (w_X8_kept x1 x2) M) (h_later : ∀ (x1 : Int32) (M : pm), I M → stp I (w_X7_later x1) (w_X8_later x1) M) (h_minded : ∀ (x1 x2 : Int32) (M : pm), I M → stp I (w_X7_minded x1 x2) (w_X8_minded x1 x2) M) (h_nothing : ∀ (M : pm), I M → stp I (w_X7_nothing ) (w_X8_nothing ) M) (h_hushed : ∀ (M : pm), I M → stp I (w_X7_hushed ) (w_X8_hushed ) M) (h_full : ∀ (M : pm), I M → stp I (w_X7_full ) (w_X8_full ) M) (h_fame : ∀ (x1 x2 x3 : Int32) (M : pm), I M → stp I (w_X7_fame x1 x2 x3) (w_X8_fame x1 x2 x3) M) (h_shared : ∀ (M : pm), I M → stp I (w_X7_shared ) (w_X8_shared ) M) (h_heard : ∀ (x1 : Int32) (M : pm), I M → stp I (w_X7_heard x1) (w_X8_heard x1) M) (h_see : ∀ (M : pm), I M → stp I (w_X7_see ) (w_X8_see ) M) (h_fits : ∀ (x1 x2 : Int32) (M : pm), I M → stp I (w_X7_fits x1 x2) (w_X8_fits x1 x2) M) (h_tells : ∀ (x1 x2 : Int32) (M : pm), I M → stp I (w_X7_tells x1 x2) (w_X8_tells x1 x2) M) (h_want : ∀ (x1 x2 : Int32) (M : pm), I M → stp I (w_X7_want x1 x2) (w_X8_want x1 x2) M) (h_mourn : ∀ (x1 x2 : Int32) (M : pm), I M → stp I (w_X7_mourn x1 x2) (w_X8_mourn x1 x2) M) (h_days : ∀ (x1 : Int32) (M : pm), I M → stp I (w_X7_days x1) (w_X8_days x1) M) (h_chance : ∀ (x1 : Int32) (M : pm), I M → stp I (w_X7_chance x1) (w_X8_chance x1) M) (h_undo : ∀ (M : pm), I M → stp I (w_X7_undo ) (w_X8_undo ) M) (h_seed : ∀ (x1 : Int32) (M : pm), I M → stp I (w_X7_seed x1) (w_X8_seed x1) M) (h_ask : ∀ (M : pm), I M → stp I (w_X7_ask ) (w_X8_ask ) M) (h_image : ∀ (M : pm), I M → stp I (w_X7_image ) (w_X8_image ) M) (h_octet : ∀ (x1 : Int32) (M : pm), I M → stp I (w_X7_octet x1) (w_X8_octet x1) M) (h_on : ∀ (M : pm), I M → stp I (w_X7_on ) (w_X8_on ) M) (h_status : ∀ (x1 : Int32) (M : pm), I M → stp I (w_X7_status x1) (w_X8_status x1) M) {Q : Int32 → pm → Prop} {n : Nat} {x3 : Int32} {M : pm} (hI : I M) (hv : ∀ j : Nat, j < 6 → vp_in (x3 + nI j) (mL M)) (hx : ¬ (Int32.ofNat (mL M)) - 6 < x3) (kk : ∀ M2, I M2 → sc M M2 → w_L_law_18 n (x3 + 6) M2 Q) : w_L_law_18 (n + 1) x3 M Q := by
  have v0 : vp_in x3 (mL M) := by have := hv 0 (by decide); rwa [show x3 + nI 0 = x3 by rw [nI_0]; exact Int32.add_zero x3] at this
  have v1 : vp_in (x3 + 1) (mL M) := hv 1 (by decide)
  have v2 : vp_in (x3 + 2) (mL M) := hv 2 (by decide)
  have v3 : vp_in (x3 + 3) (mL M) := hv 3 (by decide)
  have v4 : vp_in (x3 + 4) (mL M) := hv 4 (by decide)
  have v5 : vp_in (x3 + 5) (mL M) := hv 5 (by decide)
  unfold w_L_law_18
  refine ⟨fun h => absurd h hx, fun _ => ⟨v0, ?_⟩⟩
  refine ⟨fun _ => ?_, fun _ => ?_, fun _ => ?_, fun _ => ?_, fun _ => ?_, fun _ => ?_, fun _ => ?_, fun _ => ?_, fun _ => ?_, fun _ => ?_, fun _ => ?_, fun _ => ?_, fun _ => ?_, fun _ => ?_, fun _ => ?_, fun _ => ?_, fun _ => ?_, fun _ => ?_, fun _ => ?_, fun _ => ?_, fun _ => ?_, fun _ => ?_, fun _ => ?_, fun _ => ?_, fun _ => ?_, fun _ => ?_, fun _ => ?_, fun _ => ?_, fun _ => ?_, fun _ => ?_, fun _ => ?_, fun _ => ?_, fun _ => ?_, ?_⟩
  · refine ⟨v1, ⟨v2, ⟨v3, ⟨v4, ⟨v5, ?_⟩⟩⟩⟩⟩
    refine h_feed _ _ _ _ _ M hI _ (fun y M1 s1 cap => ?_)
    refine ⟨vp_s s1 v1, ⟨vp_s s1 v2, ⟨vp_s s1 v3, ⟨vp_s s1 v4, ⟨vp_s s1 v5, ?_⟩⟩⟩⟩⟩
    rw [s1.2]
    exact cap _ (fun M2 i2 s2 => ⟨fun _ => kk M2 i2 ⟨s2.1.trans s1.1, s2.2.trans s1.2⟩, fun h => absurd rfl h⟩)
  · refine ⟨v1, ?_⟩
    refine h_end _ M hI _ (fun y M1 s1 cap => ?_)
    refine ⟨vp_s s1 v1, ?_⟩
    rw [s1.2]
    exact cap _ (fun M2 i2 s2 => ⟨fun _ => kk M2 i2 ⟨s2.1.trans s1.1, s2.2.trans s1.2⟩, fun h => absurd rfl h⟩)
  · refine ?_
    refine h_station  M hI _ (fun y M1 s1 cap => ?_)
    refine ?_
    exact cap _ (fun M2 i2 s2 => ⟨fun _ => kk M2 i2 ⟨s2.1.trans s1.1, s2.2.trans s1.2⟩, fun h => absurd rfl h⟩)
  · refine ⟨v1, ?_⟩
    refine h_fault _ M hI _ (fun y M1 s1 cap => ?_)
    refine ⟨vp_s s1 v1, ?_⟩
    rw [s1.2]
    exact cap _ (fun M2 i2 s2 => ⟨fun _ => kk M2 i2 ⟨s2.1.trans s1.1, s2.2.trans s1.2⟩, fun h => absurd rfl h⟩)
  · refine ⟨v1, ?_⟩
    refine h_has _ M hI _ (fun y M1 s1 cap => ?_)
    refine ⟨vp_s s1 v1, ?_⟩
    rw [s1.2]
    exact cap _ (fun M2 i2 s2 => ⟨fun _ => kk M2 i2 ⟨s2.1.trans s1.1, s2.2.trans s1.2⟩, fun h => absurd rfl h⟩)
  · refine ⟨v1, ⟨v2, ⟨v3, ?_⟩⟩⟩
    refine h_letter _ _ _ M hI _ (fun y M1 s1 cap => ?_)
    refine ⟨vp_s s1 v1, ⟨vp_s s1 v2, ⟨vp_s s1 v3, ?_⟩⟩⟩
    rw [s1.2]
    exact cap _ (fun M2 i2 s2 => ⟨fun _ => kk M2 i2 ⟨s2.1.trans s1.1, s2.2.trans s1.2⟩, fun h => absurd rfl h⟩)
  · refine ⟨v1, ⟨v2, ?_⟩⟩
    refine h_song _ _ M hI _ (fun y M1 s1 cap => ?_)
    refine ⟨vp_s s1 v1, ⟨vp_s s1 v2, ?_⟩⟩
    rw [s1.2]
    exact cap _ (fun M2 i2 s2 => ⟨fun _ => kk M2 i2 ⟨s2.1.trans s1.1, s2.2.trans s1.2⟩, fun h => absurd rfl h⟩)
  · refine ⟨v1, ⟨v2, ?_⟩⟩
    refine h_asker _ _ M hI _ (fun y M1 s1 cap => ?_)
    refine ⟨vp_s s1 v1, ⟨vp_s s1 v2, ?_⟩⟩
    rw [s1.2]
    exact cap _ (fun M2 i2 s2 => ⟨fun _ => kk M2 i2 ⟨s2.1.trans s1.1, s2.2.trans s1.2⟩, fun h => absurd rfl h⟩)
  · refine ⟨v1, ?_⟩
    refine h_worth _ M hI _ (fun y M1 s1 cap => ?_)
    refine ⟨vp_s s1 v1, ?_⟩
    rw [s1.2]
    exact cap _ (fun M2 i2 s2 => ⟨fun _ => kk M2 i2 ⟨s2.1.trans s1.1, s2.2.trans s1.2⟩, fun h => absurd rfl h⟩)
  · refine ⟨v1, ?_⟩
    refine h_best _ M hI _ (fun y M1 s1 cap => ?_)
    refine ⟨vp_s s1 v1, ?_⟩
    rw [s1.2]
    exact cap _ (fun M2 i2 s2 => ⟨fun _ => kk M2 i2 ⟨s2.1.trans s1.1, s2.2.trans s1.2⟩, fun h => absurd rfl h⟩)
  · refine ⟨v1, ⟨v2, ?_⟩⟩
    refine h_kept _ _ M hI _ (fun y M1 s1 cap => ?_)
    refine ⟨vp_s s1 v1, ⟨vp_s s1 v2, ?_⟩⟩
    rw [s1.2]
    exact cap _ (fun M2 i2 s2 => ⟨fun _ => kk M2 i2 ⟨s2.1.trans s1.1, s2.2.trans s1.2⟩, fun h => absurd rfl h⟩)
  · refine ⟨v1, ?_⟩
    refine h_later _ M hI _ (fun y M1 s1 cap => ?_)
    refine ⟨vp_s s1 v1, ?_⟩
    rw [s1.2]
    exact cap _ (fun M2 i2 s2 => ⟨fun _ => kk M2 i2 ⟨s2.1.trans s1.1, s2.2.trans s1.2⟩, fun h => absurd rfl h⟩)
  · refine ⟨v1, ⟨v2, ?_⟩⟩
    refine h_minded _ _ M hI _ (fun y M1 s1 cap => ?_)
    refine ⟨vp_s s1 v1, ⟨vp_s s1 v2, ?_⟩⟩
    rw [s1.2]
    exact cap _ (fun M2 i2 s2 => ⟨fun _ => kk M2 i2 ⟨s2.1.trans s1.1, s2.2.trans s1.2⟩, fun h => absurd rfl h⟩)
  · refine ?_
    refine h_nothing  M hI _ (fun y M1 s1 cap => ?_)
    refine ?_
    exact cap _ (fun M2 i2 s2 => ⟨fun _ => kk M2 i2 ⟨s2.1.trans s1.1, s2.2.trans s1.2⟩, fun h => absurd rfl h⟩)
  · refine ?_
    refine h_hushed  M hI _ (fun y M1 s1 cap => ?_)
    refine ?_
    exact cap _ (fun M2 i2 s2 => ⟨fun _ => kk M2 i2 ⟨s2.1.trans s1.1, s2.2.trans s1.2⟩, fun h => absurd rfl h⟩)
  · refine ?_
    refine h_full  M hI _ (fun y M1 s1 cap => ?_)
    refine ?_
    exact cap _ (fun M2 i2 s2 => ⟨fun _ => kk M2 i2 ⟨s2.1.trans s1.1, s2.2.trans s1.2⟩, fun h => absurd rfl h⟩)
  · refine ⟨v1, ⟨v2, ⟨v3, ?_⟩⟩⟩
    refine h_fame _ _ _ M hI _ (fun y M1 s1 cap => ?_)
    refine ⟨vp_s s1 v1, ⟨vp_s s1 v2, ⟨vp_s s1 v3, ?_⟩⟩⟩
    rw [s1.2]
    exact cap _ (fun M2 i2 s2 => ⟨fun _ => kk M2 i2 ⟨s2.1.trans s1.1, s2.2.trans s1.2⟩, fun h => absurd rfl h⟩)
  · refine ?_
    refine h_shared  M hI _ (fun y M1 s1 cap => ?_)
    refine ?_
    exact cap _ (fun M2 i2 s2 => ⟨fun _ => kk M2 i2 ⟨s2.1.trans s1.1, s2.2.trans s1.2⟩, fun h => absurd rfl h⟩)
  · refine ⟨v1, ?_⟩
    refine h_heard _ M hI _ (fun y M1 s1 cap => ?_)
    refine ⟨vp_s s1 v1, ?_⟩
    rw [s1.2]
    exact cap _ (fun M2 i2 s2 => ⟨fun _ => kk M2 i2 ⟨s2.1.trans s1.1, s2.2.trans s1.2⟩, fun h => absurd rfl h⟩)
  · refine ?_
    refine h_see  M hI _ (fun y M1 s1 cap => ?_)
    refine ?_
    exact cap _ (fun M2 i2 s2 => ⟨fun _ => kk M2 i2 ⟨s2.1.trans s1.1, s2.2.trans s1.2⟩, fun h => absurd rfl h⟩)
  · refine ⟨v1, ⟨v2, ?_⟩⟩
    refine h_fits _ _ M hI _ (fun y M1 s1 cap => ?_)
    refine ⟨vp_s s1 v1, ⟨vp_s s1 v2, ?_⟩⟩
    rw [s1.2]
    exact cap _ (fun M2 i2 s2 => ⟨fun _ => kk M2 i2 ⟨s2.1.trans s1.1, s2.2.trans s1.2⟩, fun h => absurd rfl h⟩)
  · refine ⟨v1, ⟨v2, ?_⟩⟩
    refine h_tells _ _ M hI _ (fun y M1 s1 cap => ?_)
    refine ⟨vp_s s1 v1, ⟨vp_s s1 v2, ?_⟩⟩
    rw [s1.2]
    exact cap _ (fun M2 i2 s2 => ⟨fun _ => kk M2 i2 ⟨s2.1.trans s1.1, s2.2.trans s1.2⟩, fun h => absurd rfl h⟩)
  · refine ⟨v1, ⟨v2, ?_⟩⟩
    refine h_want _ _ M hI _ (fun y M1 s1 cap => ?_)
    refine ⟨vp_s s1 v1, ⟨vp_s s1 v2, ?_⟩⟩
    rw [s1.2]
    exact cap _ (fun M2 i2 s2 => ⟨fun _ => kk M2 i2 ⟨s2.1.trans s1.1, s2.2.trans s1.2⟩, fun h => absurd rfl h⟩)
  · refine ⟨v1, ⟨v2, ?_⟩⟩
    refine h_mourn _ _ M hI _ (fun y M1 s1 cap => ?_)
    refine ⟨vp_s s1 v1, ⟨vp_s s1 v2, ?_⟩⟩
    rw [s1.2]
    exact cap _ (fun M2 i2 s2 => ⟨fun _ => kk M2 i2 ⟨s2.1.trans s1.1, s2.2.trans s1.2⟩, fun h => absurd rfl h⟩)
  · refine ⟨v1, ?_⟩
    refine h_days _ M hI _ (fun y M1 s1 cap => ?_)
    refine ⟨vp_s s1 v1, ?_⟩
    rw [s1.2]
    exact cap _ (fun M2 i2 s2 => ⟨fun _ => kk M2 i2 ⟨s2.1.trans s1.1, s2.2.trans s1.2⟩, fun h => absurd rfl h⟩)
  · refine ⟨v1, ?_⟩
    refine h_chance _ M hI _ (fun y M1 s1 cap => ?_)
    refine ⟨vp_s s1 v1, ?_⟩
    rw [s1.2]
    exact cap _ (fun M2 i2 s2 => ⟨fun _ => kk M2 i2 ⟨s2.1.trans s1.1, s2.2.trans s1.2⟩, fun h => absurd rfl h⟩)
  · refine ?_
    refine h_undo  M hI _ (fun y M1 s1 cap => ?_)
    refine ?_
    exact cap _ (fun M2 i2 s2 => ⟨fun _ => kk M2 i2 ⟨s2.1.trans s1.1, s2.2.trans s1.2⟩, fun h => absurd rfl h⟩)
  · refine ⟨v1, ?_⟩
    refine h_seed _ M hI _ (fun y M1 s1 cap => ?_)
    refine ⟨vp_s s1 v1, ?_⟩
    rw [s1.2]
    exact cap _ (fun M2 i2 s2 => ⟨fun _ => kk M2 i2 ⟨s2.1.trans s1.1, s2.2.trans s1.2⟩, fun h => absurd rfl h⟩)
  · refine ?_
    refine h_ask  M hI _ (fun y M1 s1 cap => ?_)
    refine ?_
    exact cap _ (fun M2 i2 s2 => ⟨fun _ => kk M2 i2 ⟨s2.1.trans s1.1, s2.2.trans s1.2⟩, fun h => absurd rfl h⟩)
  · refine ?_
    refine h_image  M hI _ (fun y M1 s1 cap => ?_)
    refine ?_
    exact cap _ (fun M2 i2 s2 => ⟨fun _ => kk M2 i2 ⟨s2.1.trans s1.1, s2.2.trans s1.2⟩, fun h => absurd rfl h⟩)
  · refine ⟨v1, ?_⟩
    refine h_octet _ M hI _ (fun y M1 s1 cap => ?_)
    refine ⟨vp_s s1 v1, ?_⟩
    rw [s1.2]
    exact cap _ (fun M2 i2 s2 => ⟨fun _ => kk M2 i2 ⟨s2.1.trans s1.1, s2.2.trans s1.2⟩, fun h => absurd rfl h⟩)
  · refine ?_
    refine h_on  M hI _ (fun y M1 s1 cap => ?_)
    refine ?_
    exact cap _ (fun M2 i2 s2 => ⟨fun _ => kk M2 i2 ⟨s2.1.trans s1.1, s2.2.trans s1.2⟩, fun h => absurd rfl h⟩)
  · refine ⟨v1, ?_⟩
    refine h_status _ M hI _ (fun y M1 s1 cap => ?_)
    refine ⟨vp_s s1 v1, ?_⟩
    rw [s1.2]
    exact cap _ (fun M2 i2 s2 => ⟨fun _ => kk M2 i2 ⟨s2.1.trans s1.1, s2.2.trans s1.2⟩, fun h => absurd rfl h⟩)
  · intros
    exact kk M hI ⟨rfl, rfl⟩
theorem nI_sum {x : Int32} {i j : Nat} (h : x = nI i) : x + nI j = nI (i + j) := by rw [h, nI_add]
theorem law_loop {I : pm → Prop} (h_feed : ∀ (x1 x2 x3 x4 x5 : Int32) (M : pm), I M → stp I (w_X7_feed x1 x2 x3 x4 x5) (w_X8_feed x1 x2 x3 x4 x5) M) (h_end : ∀ (x1 : Int32) (M : pm), I M → stp I (w_X7_end x1) (w_X8_end x1) M) (h_station : ∀ (M : pm), I M → stp I (w_X7_station ) (w_X8_station ) M) (h_fault : ∀ (x1 : Int32) (M : pm), I M → stp I (w_X7_fault x1) (w_X8_fault x1) M) (h_has : ∀ (x1 : Int32) (M : pm), I M → stp I (w_X7_has x1) (w_X8_has x1) M) (h_letter : ∀ (x1 x2 x3 : Int32) (M : pm), I M → stp I (w_X7_letter x1 x2 x3) (w_X8_letter x1 x2 x3) M) (h_song : ∀ (x1 x2 : Int32) (M : pm), I M → stp I (w_X7_song x1 x2) (w_X8_song x1 x2) M) (h_asker : ∀ (x1 x2 : Int32) (M : pm), I M → stp I (w_X7_asker x1 x2) (w_X8_asker x1 x2) M) (h_worth : ∀ (x1 : Int32) (M : pm), I M → stp I (w_X7_worth x1) (w_X8_worth x1) M) (h_best : ∀ (x1 : Int32) (M : pm), I M → stp I (w_X7_best x1) (w_X8_best x1) M) (h_kept : ∀ (x1 x2 : Int32) (M : pm), I M → stp I (w_X7_kept x1 x2) (w_X8_kept x1 x2) M) (h_later : ∀ (x1 : Int32) (M : pm), I M → stp I (w_X7_later x1) (w_X8_later x1) M) (h_minded : ∀ (x1 x2 : Int32) (M : pm), I M → stp I (w_X7_minded x1 x2) (w_X8_minded x1 x2) M) (h_nothing : ∀ (M : pm), I M → stp I (w_X7_nothing ) (w_X8_nothing ) M) (h_hushed : ∀ (M : pm), I M → stp I (w_X7_hushed ) (w_X8_hushed ) M) (h_full : ∀ (M : pm), I M → stp I (w_X7_full ) (w_X8_full ) M) (h_fame : ∀ (x1 x2 x3 : Int32) (M : pm), I M → stp I (w_X7_fame x1 x2 x3) (w_X8_fame x1 x2 x3) M) (h_shared : ∀ (M : pm), I M → stp I (w_X7_shared ) (w_X8_shared ) M) (h_heard : ∀ (x1 : Int32) (M : pm), I M → stp I (w_X7_heard x1) (w_X8_heard x1) M) (h_see : ∀ (M : pm), I M → stp I (w_X7_see ) (w_X8_see ) M) (h_fits : ∀ (x1 x2 : Int32) (M : pm), I M → stp I (w_X7_fits x1 x2) (w_X8_fits x1 x2) M) (h_tells : ∀ (x1 x2 : Int32) (M : pm), I M → stp I (w_X7_tells x1 x2) (w_X8_tells x1 x2) M) (h_want : ∀ (x1 x2 : Int32) (M : pm), I M → stp I (w_X7_want x1 x2) (w_X8_want x1 x2) M) (h_mourn : ∀ (x1 x2 : Int32) (M : pm), I M → stp I (w_X7_mourn x1 x2) (w_X8_mourn x1 x2) M) (h_days : ∀ (x1 : Int32) (M : pm), I M → stp I (w_X7_days x1) (w_X8_days x1) M) (h_chance : ∀ (x1 : Int32) (M : pm), I M → stp I (w_X7_chance x1) (w_X8_chance x1) M) (h_undo : ∀ (M : pm), I M → stp I (w_X7_undo ) (w_X8_undo ) M) (h_seed : ∀ (x1 : Int32) (M : pm), I M → stp I (w_X7_seed x1) (w_X8_seed x1) M) (h_ask : ∀ (M : pm), I M → stp I (w_X7_ask ) (w_X8_ask ) M) (h_image : ∀ (M : pm), I M → stp I (w_X7_image ) (w_X8_image ) M) (h_octet : ∀ (x1 : Int32) (M : pm), I M → stp I (w_X7_octet x1) (w_X8_octet x1) M) (h_on : ∀ (M : pm), I M → stp I (w_X7_on ) (w_X8_on ) M) (h_status : ∀ (x1 : Int32) (M : pm), I M → stp I (w_X7_status x1) (w_X8_status x1) M) (hL0 : ∀ M, I M → mL M ≤ 3072) : ∀ (n i : Nat) (M : pm), I M → mL M < i + 6 * n → i ≤ mL M → w_L_law_18 (n + 1) (nI i) M (fun x _ => x = 1) := by
  intro n
  induction n with
  | zero => intro i M hI h1 h2; omega
  | succ n ih =>
    intro i M hI h1 h2
    have hm := hL0 M hI
    have e6 : (Int32.ofNat (mL M)) - 6 = nI (mL M) - nI 6 := rfl
    by_cases hx : (Int32.ofNat (mL M)) - 6 < nI i
    · unfold w_L_law_18
      exact ⟨fun _ => rfl, fun h => absurd hx h⟩
    · have hi : i + 6 ≤ mL M := by
        rw [e6] at hx
        by_cases h6 : mL M < 6
        · exact absurd (Int32.lt_iff_toInt_lt.mpr (by rw [pk_sub_toInt (by omega) (by decide), nI_toInt (by omega)]; omega)) hx
        · rw [pk_sub (by omega), nI_ltI (by omega) (by omega)] at hx
          omega
      refine law_step h_feed h_end h_station h_fault h_has h_letter h_song h_asker h_worth h_best h_kept h_later h_minded h_nothing h_hushed h_full h_fame h_shared h_heard h_see h_fits h_tells h_want h_mourn h_days h_chance h_undo h_seed h_ask h_image h_octet h_on h_status hI (fun j hj => ?_) hx (fun M2 i2 s2 => ?_)
      · rw [nI_add]
        exact vp_in_nI (by omega) (by omega)
      · rw [show nI i + 6 = nI (i + 6) from nI_add i 6]
        exact ih (i + 6) M2 i2 (by rw [s2.1]; omega) (by rw [s2.1]; exact hi)
theorem law_math {I : pm → Prop} (h_feed : ∀ (x1 x2 x3 x4 x5 : Int32) (M : pm), I M → stp I (w_X7_feed x1 x2 x3 x4 x5) (w_X8_feed x1 x2 x3 x4 x5) M) (h_end : ∀ (x1 : Int32) (M : pm), I M → stp I (w_X7_end x1) (w_X8_end x1) M) (h_station : ∀ (M : pm), I M → stp I (w_X7_station ) (w_X8_station ) M) (h_fault : ∀ (x1 : Int32) (M : pm), I M → stp I (w_X7_fault x1) (w_X8_fault x1) M) (h_has : ∀ (x1 : Int32) (M : pm), I M → stp I (w_X7_has x1) (w_X8_has x1) M) (h_letter : ∀ (x1 x2 x3 : Int32) (M : pm), I M → stp I (w_X7_letter x1 x2 x3) (w_X8_letter x1 x2 x3) M) (h_song : ∀ (x1 x2 : Int32) (M : pm), I M → stp I (w_X7_song x1 x2) (w_X8_song x1 x2) M) (h_asker : ∀ (x1 x2 : Int32) (M : pm), I M → stp I (w_X7_asker x1 x2) (w_X8_asker x1 x2) M) (h_worth : ∀ (x1 : Int32) (M : pm), I M → stp I (w_X7_worth x1) (w_X8_worth x1) M) (h_best : ∀ (x1 : Int32) (M : pm), I M → stp I (w_X7_best x1) (w_X8_best x1) M) (h_kept : ∀ (x1 x2 : Int32) (M : pm), I M → stp I (w_X7_kept x1 x2) (w_X8_kept x1 x2) M) (h_later : ∀ (x1 : Int32) (M : pm), I M → stp I (w_X7_later x1) (w_X8_later x1) M) (h_minded : ∀ (x1 x2 : Int32) (M : pm), I M → stp I (w_X7_minded x1 x2) (w_X8_minded x1 x2) M) (h_nothing : ∀ (M : pm), I M → stp I (w_X7_nothing ) (w_X8_nothing ) M) (h_hushed : ∀ (M : pm), I M → stp I (w_X7_hushed ) (w_X8_hushed ) M) (h_full : ∀ (M : pm), I M → stp I (w_X7_full ) (w_X8_full ) M) (h_fame : ∀ (x1 x2 x3 : Int32) (M : pm), I M → stp I (w_X7_fame x1 x2 x3) (w_X8_fame x1 x2 x3) M) (h_shared : ∀ (M : pm), I M → stp I (w_X7_shared ) (w_X8_shared ) M) (h_heard : ∀ (x1 : Int32) (M : pm), I M → stp I (w_X7_heard x1) (w_X8_heard x1) M) (h_see : ∀ (M : pm), I M → stp I (w_X7_see ) (w_X8_see ) M) (h_fits : ∀ (x1 x2 : Int32) (M : pm), I M → stp I (w_X7_fits x1 x2) (w_X8_fits x1 x2) M) (h_tells : ∀ (x1 x2 : Int32) (M : pm), I M → stp I (w_X7_tells x1 x2) (w_X8_tells x1 x2) M) (h_want : ∀ (x1 x2 : Int32) (M : pm), I M → stp I (w_X7_want x1 x2) (w_X8_want x1 x2) M) (h_mourn : ∀ (x1 x2 : Int32) (M : pm), I M → stp I (w_X7_mourn x1 x2) (w_X8_mourn x1 x2) M) (h_days : ∀ (x1 : Int32) (M : pm), I M → stp I (w_X7_days x1) (w_X8_days x1) M) (h_chance : ∀ (x1 : Int32) (M : pm), I M → stp I (w_X7_chance x1) (w_X8_chance x1) M) (h_undo : ∀ (M : pm), I M → stp I (w_X7_undo ) (w_X8_undo ) M) (h_seed : ∀ (x1 : Int32) (M : pm), I M → stp I (w_X7_seed x1) (w_X8_seed x1) M) (h_ask : ∀ (M : pm), I M → stp I (w_X7_ask ) (w_X8_ask ) M) (h_image : ∀ (M : pm), I M → stp I (w_X7_image ) (w_X8_image ) M) (h_octet : ∀ (x1 : Int32) (M : pm), I M → stp I (w_X7_octet x1) (w_X8_octet x1) M) (h_on : ∀ (M : pm), I M → stp I (w_X7_on ) (w_X8_on ) M) (h_status : ∀ (x1 : Int32) (M : pm), I M → stp I (w_X7_status x1) (w_X8_status x1) M) (h0 : ∀ (L : Nat) (xs : Nat → Int32), L ≤ 3072 → I (pM1 L xs)) (hL0 : ∀ M, I M → mL M ≤ 3072) : ∀ (L : Nat) (xs : Nat → Int32), L ≤ 3072 → w_L_law_b (pM1 L xs) (fun x _ => x = 1) := by
  intro L xs hL
  refine ⟨(mL (pM1 L xs) + 1) + 1, ?_⟩
  exact law_loop h_feed h_end h_station h_fault h_has h_letter h_song h_asker h_worth h_best h_kept h_later h_minded h_nothing h_hushed h_full h_fame h_shared h_heard h_see h_fits h_tells h_want h_mourn h_days h_chance h_undo h_seed h_ask h_image h_octet h_on h_status hL0 _ 0 _ (h0 L xs hL) (by omega) (Nat.zero_le _)
