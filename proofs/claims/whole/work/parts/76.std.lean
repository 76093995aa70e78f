/-! the class reads what is told: a statement -/
theorem app_get {A : Type} {l : List A} {x q : A} {i : Nat} (h : (l ++ [x])[i]? = some q) : (i < l.length ∧ l[i]? = some q) ∨ (i = l.length ∧ q = x) := by
  by_cases e : i < l.length
  · rw [List.getElem?_append_left e] at h
    exact Or.inl ⟨e, h⟩
  · rw [List.getElem?_append_right (by omega)] at h
    have e2 : i - l.length = 0 := by
      have := (List.getElem?_eq_some_iff.mp h).1
      simp only [List.length_cons, List.length_nil] at this
      omega
    rw [e2] at h
    cases h
    exact Or.inr ⟨by omega, rfl⟩
theorem fCu {t : Nat} {M M1 : pm} (f : fG (fC t) M M1) {a k : Nat} (h1 : t ≤ a) (h2 : a < t + 15) (v : Int32) : fG (fC t) M (sI M1 a k v) := f.up (Or.inr (Or.inr ⟨h1, h2⟩)) v
theorem c_addSo {M : pm} {t k : Nat} {σ : sg} {L : Nat} (h : cSt M t k σ L) {l : List Nat} {m y : Nat} (hs : σ.2.1.length < 6) (ho : okG ((σ.1, σ.2.1 ++ [(l, m, y)], σ.2.2) : sg)) {Q : pm → Prop} (kk : ∀ M', fG (fC t) M M' → mI M' 6 = mI M 6 → cSt M' t k ((σ.1, σ.2.1 ++ [(l, m, y)], σ.2.2) : sg) L → Q M') : w_X5_addSong t (nI (pkN l)) (nI m) (nI y) M Q := by
  obtain ⟨h1, h2, ⟨a1, a2, a3, a4, a5, a6, a7⟩, ⟨r1, r2, r3⟩, h5, h6, h7, h8⟩ := h
  have tt := h1
  unfold tOk at tt
  have aN : mI M t 4 = nI σ.2.1.length := by assumption
  unfold w_X5_addSong
  rw [aN, nI_clamp (by omega)]
  have e0 : mI (sI M (t + 1) σ.2.1.length (nI (pkN l))) t 4 = nI σ.2.1.length := by
    rw [rI (by omega)]; exact aN
  rw [e0, nI_clamp (by omega)]
  have e1 : mI (sI (sI M (t + 1) σ.2.1.length (nI (pkN l))) (t + 2) σ.2.1.length (nI m)) t 4 = nI σ.2.1.length := by
    rw [rI (by omega), rI (by omega)]; exact aN
  rw [e1, nI_clamp (by omega)]
  have e2 : mI (sI (sI (sI M (t + 1) σ.2.1.length (nI (pkN l))) (t + 2) σ.2.1.length (nI m)) (t + 3) σ.2.1.length (nI y)) t 4 = nI σ.2.1.length := by
    rw [rI (by omega), rI (by omega), rI (by omega)]; exact aN
  rw [e2]
  refine k_no (nI_ge (b := 6) hs (by decide)) ⟨vp_in_nI hs (by decide), vp_in_nI hs (by decide), vp_in_nI hs (by decide), kk _ (fCu (fCu ((fCu ((fCu (fG.rf M) (by omega) (by omega) _)) (by omega) (by omega) _)) (by omega) (by omega) _) (by omega) (by omega) _) ?_ ⟨h1, h2, ⟨?_, ?_, ?_, ?_, ?_, ?_, ?_⟩, ⟨?_, ?_, ?_⟩, ⟨h5.1, h5.2.1, ?_, h5.2.2.2⟩, ?_, ho, fun p hp => cPt_c (fun a b1 b2 => ?_) (h8 p hp)⟩⟩
  · rw [mI_off (by omega), mI_off (by omega), mI_off (by omega), mI_off (by omega)]
  · rw [rI (by omega), rI (by omega), rI (by omega), rI (by omega)]; exact a1
  · rw [rI (by omega), rI (by omega), rI (by omega), rI (by omega)]; exact a2
  · rw [rI (by omega), rI (by omega), rI (by omega), rI (by omega)]; exact a3
  · rw [rI (by omega), rI (by omega), rI (by omega), rI (by omega)]; exact a4
  · rw [rIs, nI_1, List.length_append]; rfl
  · rw [rI (by omega), rI (by omega), rI (by omega), rI (by omega)]; exact a6
  · rw [rI (by omega), rI (by omega), rI (by omega), rI (by omega)]; exact a7
  · exact fun i q hq => by
      rcases app_get hq with ⟨z1, z2⟩ | ⟨z1, z2⟩
      · have z := r1 i q z2
        refine ⟨?_, ?_, ?_⟩
        · rw [rI (by omega), rI (by omega), rI (by omega), rI (by omega)]; exact z.1
        · rw [rI (by omega), rI (by omega), rI (by omega), rI (by omega)]; exact z.2.1
        · rw [rI (by omega), rI (by omega), rI (by omega), rI (by omega)]; exact z.2.2
      · subst z1 z2
        refine ⟨?_, ?_, ?_⟩
        · rw [rI (by omega), rI (by omega), rI (by omega), rIs]
        · rw [rI (by omega), rI (by omega), rIs]
        · rw [rI (by omega), rIs]
  · exact fun i q hq => by
      have z := r2 i q hq
      rw [mI_off (a := t) (b := t + 4) (by omega), mI_off (a := t) (b := t + 5) (by omega), mI_off (a := t) (b := t + 6) (by omega), mI_off (a := t) (b := t + 7) (by omega)]
      refine ⟨?_, ?_, ?_, ?_⟩
      · rw [rI (by omega), rI (by omega), rI (by omega)]; exact z.1
      · rw [rI (by omega), rI (by omega), rI (by omega)]; exact z.2.1
      · rw [rI (by omega), rI (by omega), rI (by omega)]; exact z.2.2.1
      · rw [rI (by omega), rI (by omega), rI (by omega)]; exact z.2.2.2
  · exact fun i q hq => by
      have z := r3 i q hq
      rw [mI_off (a := t) (b := t + 8) (by omega), mI_off (a := t) (b := t + 9) (by omega)]
      refine ⟨?_, ?_⟩
      · rw [rI (by omega), rI (by omega), rI (by omega)]; exact z.1
      · rw [rI (by omega), rI (by omega), rI (by omega)]; exact z.2
  · rw [rI (by omega), rI (by omega), rI (by omega), rI (by omega)]; exact h5.2.2.1
  · rw [rI (by omega), rI (by omega), rI (by omega), rI (by omega)]; exact h6
  · rw [mI_off (by omega), mI_off (by omega), mI_off (by omega), mI_off (by omega)]
theorem c_addSoX {M : pm} {t : Nat} (h : cSx M t) {x1 x2 x3 : Int32} {Q : pm → Prop} (kk : ∀ M', fG (fC t) M M' → mI M' 6 = mI M 6 → cSx M' t → Q M') : w_X5_addSong t x1 x2 x3 M Q := by
  obtain ⟨h1, ⟨k, k1, k2⟩, ⟨a, b1, b2⟩, ⟨c, d1, d2⟩, ⟨e, g1, g2⟩, L, h5⟩ := id h
  have tt := h1
  unfold tOk at tt
  unfold w_X5_addSong
  rw [b2]
  refine pk_le 6 a (fun q => kk M (fG.rf M) rfl h) (fun q => ?_)
  rw [nI_clamp (by omega)]
  have e0 : mI (sI M (t + 1) a x1) t 4 = nI a := by
    rw [rI (by omega)]; exact b2
  rw [e0, nI_clamp (by omega)]
  have e1 : mI (sI (sI M (t + 1) a x1) (t + 2) a x2) t 4 = nI a := by
    rw [rI (by omega), rI (by omega)]; exact b2
  rw [e1, nI_clamp (by omega)]
  have e2 : mI (sI (sI (sI M (t + 1) a x1) (t + 2) a x2) (t + 3) a x3) t 4 = nI a := by
    rw [rI (by omega), rI (by omega), rI (by omega)]; exact b2
  rw [e2]
  refine ⟨vp_in_nI q (by decide), vp_in_nI q (by decide), vp_in_nI q (by decide), kk _ (fCu (fCu ((fCu ((fCu (fG.rf M) (by omega) (by omega) _)) (by omega) (by omega) _)) (by omega) (by omega) _) (by omega) (by omega) _) (by rw [mI_off (by omega), mI_off (by omega), mI_off (by omega), mI_off (by omega)]) ⟨h1, ⟨k, k1, by rw [rI (by omega), rI (by omega), rI (by omega), rI (by omega)]; exact k2⟩, ⟨a + 1, by omega, by rw [rIs, nI_1]⟩, ⟨c, d1, by rw [rI (by omega), rI (by omega), rI (by omega), rI (by omega)]; exact d2⟩, ⟨e, g1, by rw [rI (by omega), rI (by omega), rI (by omega), rI (by omega)]; exact g2⟩, L, h5.1, h5.2.1, by rw [rI (by omega), rI (by omega), rI (by omega), rI (by omega)]; exact h5.2.2.1, h5.2.2.2⟩⟩
theorem c_addAs {M : pm} {t k : Nat} {σ : sg} {L : Nat} (h : cSt M t k σ L) {l : List Nat} {a d m : Nat} (hs : σ.2.2.1.length < 8) (ho : okG ((σ.1, σ.2.1, σ.2.2.1 ++ [(l, a, d, m)], σ.2.2.2) : sg)) {Q : pm → Prop} (kk : ∀ M', fG (fC t) M M' → mI M' 6 = mI M 6 → cSt M' t k ((σ.1, σ.2.1, σ.2.2.1 ++ [(l, a, d, m)], σ.2.2.2) : sg) L → Q M') : w_X5_addAsker t (nI (pkN l)) (nI a) (nI d) (nI m) M Q := by
  obtain ⟨h1, h2, ⟨a1, a2, a3, a4, a5, a6, a7⟩, ⟨r1, r2, r3⟩, h5, h6, h7, h8⟩ := h
  have tt := h1
  unfold tOk at tt
  have aN : mI M t 8 = nI σ.2.2.1.length := by assumption
  unfold w_X5_addAsker
  rw [aN, nI_clamp (by omega)]
  have e0 : mI (sI M (t + 4) σ.2.2.1.length (nI (pkN l))) t 8 = nI σ.2.2.1.length := by
    rw [rI (by omega)]; exact aN
  rw [e0, nI_clamp (by omega)]
  have e1 : mI (sI (sI M (t + 4) σ.2.2.1.length (nI (pkN l))) (t + 5) σ.2.2.1.length (nI a)) t 8 = nI σ.2.2.1.length := by
    rw [rI (by omega), rI (by omega)]; exact aN
  rw [e1, nI_clamp (by omega)]
  have e2 : mI (sI (sI (sI M (t + 4) σ.2.2.1.length (nI (pkN l))) (t + 5) σ.2.2.1.length (nI a)) (t + 6) σ.2.2.1.length (nI d)) t 8 = nI σ.2.2.1.length := by
    rw [rI (by omega), rI (by omega), rI (by omega)]; exact aN
  rw [e2, nI_clamp (by omega)]
  have e3 : mI (sI (sI (sI (sI M (t + 4) σ.2.2.1.length (nI (pkN l))) (t + 5) σ.2.2.1.length (nI a)) (t + 6) σ.2.2.1.length (nI d)) (t + 7) σ.2.2.1.length (nI m)) t 8 = nI σ.2.2.1.length := by
    rw [rI (by omega), rI (by omega), rI (by omega), rI (by omega)]; exact aN
  rw [e3]
  refine k_no (nI_ge (b := 8) hs (by decide)) ⟨vp_in_nI hs (by decide), vp_in_nI hs (by decide), vp_in_nI hs (by decide), vp_in_nI hs (by decide), kk _ (fCu (fCu ((fCu ((fCu ((fCu (fG.rf M) (by omega) (by omega) _)) (by omega) (by omega) _)) (by omega) (by omega) _)) (by omega) (by omega) _) (by omega) (by omega) _) ?_ ⟨h1, h2, ⟨?_, ?_, ?_, ?_, ?_, ?_, ?_⟩, ⟨?_, ?_, ?_⟩, ⟨h5.1, h5.2.1, ?_, h5.2.2.2⟩, ?_, ho, fun p hp => cPt_c (fun a b1 b2 => ?_) (h8 p hp)⟩⟩
  · rw [mI_off (by omega), mI_off (by omega), mI_off (by omega), mI_off (by omega), mI_off (by omega)]
  · rw [rI (by omega), rI (by omega), rI (by omega), rI (by omega), rI (by omega)]; exact a1
  · rw [rI (by omega), rI (by omega), rI (by omega), rI (by omega), rI (by omega)]; exact a2
  · rw [rI (by omega), rI (by omega), rI (by omega), rI (by omega), rI (by omega)]; exact a3
  · rw [rI (by omega), rI (by omega), rI (by omega), rI (by omega), rI (by omega)]; exact a4
  · rw [rI (by omega), rI (by omega), rI (by omega), rI (by omega), rI (by omega)]; exact a5
  · rw [rIs, nI_1, List.length_append]; rfl
  · rw [rI (by omega), rI (by omega), rI (by omega), rI (by omega), rI (by omega)]; exact a7
  · exact fun i q hq => by
      have z := r1 i q hq
      rw [mI_off (a := t) (b := t + 1) (by omega), mI_off (a := t) (b := t + 2) (by omega), mI_off (a := t) (b := t + 3) (by omega)]
      refine ⟨?_, ?_, ?_⟩
      · rw [rI (by omega), rI (by omega), rI (by omega), rI (by omega)]; exact z.1
      · rw [rI (by omega), rI (by omega), rI (by omega), rI (by omega)]; exact z.2.1
      · rw [rI (by omega), rI (by omega), rI (by omega), rI (by omega)]; exact z.2.2
  · exact fun i q hq => by
      rcases app_get hq with ⟨z1, z2⟩ | ⟨z1, z2⟩
      · have z := r2 i q z2
        refine ⟨?_, ?_, ?_, ?_⟩
        · rw [rI (by omega), rI (by omega), rI (by omega), rI (by omega), rI (by omega)]; exact z.1
        · rw [rI (by omega), rI (by omega), rI (by omega), rI (by omega), rI (by omega)]; exact z.2.1
        · rw [rI (by omega), rI (by omega), rI (by omega), rI (by omega), rI (by omega)]; exact z.2.2.1
        · rw [rI (by omega), rI (by omega), rI (by omega), rI (by omega), rI (by omega)]; exact z.2.2.2
      · subst z1 z2
        refine ⟨?_, ?_, ?_, ?_⟩
        · rw [rI (by omega), rI (by omega), rI (by omega), rI (by omega), rIs]
        · rw [rI (by omega), rI (by omega), rI (by omega), rIs]
        · rw [rI (by omega), rI (by omega), rIs]
        · rw [rI (by omega), rIs]
  · exact fun i q hq => by
      have z := r3 i q hq
      rw [mI_off (a := t) (b := t + 8) (by omega), mI_off (a := t) (b := t + 9) (by omega)]
      refine ⟨?_, ?_⟩
      · rw [rI (by omega), rI (by omega), rI (by omega), rI (by omega)]; exact z.1
      · rw [rI (by omega), rI (by omega), rI (by omega), rI (by omega)]; exact z.2
  · rw [rI (by omega), rI (by omega), rI (by omega), rI (by omega), rI (by omega)]; exact h5.2.2.1
  · rw [rI (by omega), rI (by omega), rI (by omega), rI (by omega), rI (by omega)]; exact h6
  · rw [mI_off (by omega), mI_off (by omega), mI_off (by omega), mI_off (by omega), mI_off (by omega)]
theorem c_addAsX {M : pm} {t : Nat} (h : cSx M t) {x1 x2 x3 x4 : Int32} {Q : pm → Prop} (kk : ∀ M', fG (fC t) M M' → mI M' 6 = mI M 6 → cSx M' t → Q M') : w_X5_addAsker t x1 x2 x3 x4 M Q := by
  obtain ⟨h1, ⟨k, k1, k2⟩, ⟨a, b1, b2⟩, ⟨c, d1, d2⟩, ⟨e, g1, g2⟩, L, h5⟩ := id h
  have tt := h1
  unfold tOk at tt
  unfold w_X5_addAsker
  rw [d2]
  refine pk_le 8 c (fun q => kk M (fG.rf M) rfl h) (fun q => ?_)
  rw [nI_clamp (by omega)]
  have e0 : mI (sI M (t + 4) c x1) t 8 = nI c := by
    rw [rI (by omega)]; exact d2
  rw [e0, nI_clamp (by omega)]
  have e1 : mI (sI (sI M (t + 4) c x1) (t + 5) c x2) t 8 = nI c := by
    rw [rI (by omega), rI (by omega)]; exact d2
  rw [e1, nI_clamp (by omega)]
  have e2 : mI (sI (sI (sI M (t + 4) c x1) (t + 5) c x2) (t + 6) c x3) t 8 = nI c := by
    rw [rI (by omega), rI (by omega), rI (by omega)]; exact d2
  rw [e2, nI_clamp (by omega)]
  have e3 : mI (sI (sI (sI (sI M (t + 4) c x1) (t + 5) c x2) (t + 6) c x3) (t + 7) c x4) t 8 = nI c := by
    rw [rI (by omega), rI (by omega), rI (by omega), rI (by omega)]; exact d2
  rw [e3]
  refine ⟨vp_in_nI q (by decide), vp_in_nI q (by decide), vp_in_nI q (by decide), vp_in_nI q (by decide), kk _ (fCu (fCu ((fCu ((fCu ((fCu (fG.rf M) (by omega) (by omega) _)) (by omega) (by omega) _)) (by omega) (by omega) _)) (by omega) (by omega) _) (by omega) (by omega) _) (by rw [mI_off (by omega), mI_off (by omega), mI_off (by omega), mI_off (by omega), mI_off (by omega)]) ⟨h1, ⟨k, k1, by rw [rI (by omega), rI (by omega), rI (by omega), rI (by omega), rI (by omega)]; exact k2⟩, ⟨a, b1, by rw [rI (by omega), rI (by omega), rI (by omega), rI (by omega), rI (by omega)]; exact b2⟩, ⟨c + 1, by omega, by rw [rIs, nI_1]⟩, ⟨e, g1, by rw [rI (by omega), rI (by omega), rI (by omega), rI (by omega), rI (by omega)]; exact g2⟩, L, h5.1, h5.2.1, by rw [rI (by omega), rI (by omega), rI (by omega), rI (by omega), rI (by omega)]; exact h5.2.2.1, h5.2.2.2⟩⟩
theorem c_addEa {M : pm} {t k : Nat} {σ : sg} {L : Nat} (h : cSt M t k σ L) {l : List Nat} {y : Nat} (hs : σ.2.2.2.1.length < 5) (ho : okG ((σ.1, σ.2.1, σ.2.2.1, σ.2.2.2.1 ++ [(l, y)], σ.2.2.2.2) : sg)) {Q : pm → Prop} (kk : ∀ M', fG (fC t) M M' → mI M' 6 = mI M 6 → cSt M' t k ((σ.1, σ.2.1, σ.2.2.1, σ.2.2.2.1 ++ [(l, y)], σ.2.2.2.2) : sg) L → Q M') : w_X5_addEar t (nI (pkN l)) (nI y) M Q := by
  obtain ⟨h1, h2, ⟨a1, a2, a3, a4, a5, a6, a7⟩, ⟨r1, r2, r3⟩, h5, h6, h7, h8⟩ := h
  have tt := h1
  unfold tOk at tt
  have aN : mI M t 13 = nI σ.2.2.2.1.length := by assumption
  unfold w_X5_addEar
  rw [aN, nI_clamp (by omega)]
  have e0 : mI (sI M (t + 8) σ.2.2.2.1.length (nI (pkN l))) t 13 = nI σ.2.2.2.1.length := by
    rw [rI (by omega)]; exact aN
  rw [e0, nI_clamp (by omega)]
  have e1 : mI (sI (sI M (t + 8) σ.2.2.2.1.length (nI (pkN l))) (t + 9) σ.2.2.2.1.length (nI y)) t 13 = nI σ.2.2.2.1.length := by
    rw [rI (by omega), rI (by omega)]; exact aN
  rw [e1]
  refine k_no (nI_ge (b := 5) hs (by decide)) ⟨vp_in_nI hs (by decide), vp_in_nI hs (by decide), kk _ (fCu (fCu ((fCu (fG.rf M) (by omega) (by omega) _)) (by omega) (by omega) _) (by omega) (by omega) _) ?_ ⟨h1, h2, ⟨?_, ?_, ?_, ?_, ?_, ?_, ?_⟩, ⟨?_, ?_, ?_⟩, ⟨h5.1, h5.2.1, ?_, h5.2.2.2⟩, ?_, ho, fun p hp => cPt_c (fun a b1 b2 => ?_) (h8 p hp)⟩⟩
  · rw [mI_off (by omega), mI_off (by omega), mI_off (by omega)]
  · rw [rI (by omega), rI (by omega), rI (by omega)]; exact a1
  · rw [rI (by omega), rI (by omega), rI (by omega)]; exact a2
  · rw [rI (by omega), rI (by omega), rI (by omega)]; exact a3
  · rw [rI (by omega), rI (by omega), rI (by omega)]; exact a4
  · rw [rI (by omega), rI (by omega), rI (by omega)]; exact a5
  · rw [rI (by omega), rI (by omega), rI (by omega)]; exact a6
  · rw [rIs, nI_1, List.length_append]; rfl
  · exact fun i q hq => by
      have z := r1 i q hq
      rw [mI_off (a := t) (b := t + 1) (by omega), mI_off (a := t) (b := t + 2) (by omega), mI_off (a := t) (b := t + 3) (by omega)]
      refine ⟨?_, ?_, ?_⟩
      · rw [rI (by omega), rI (by omega)]; exact z.1
      · rw [rI (by omega), rI (by omega)]; exact z.2.1
      · rw [rI (by omega), rI (by omega)]; exact z.2.2
  · exact fun i q hq => by
      have z := r2 i q hq
      rw [mI_off (a := t) (b := t + 4) (by omega), mI_off (a := t) (b := t + 5) (by omega), mI_off (a := t) (b := t + 6) (by omega), mI_off (a := t) (b := t + 7) (by omega)]
      refine ⟨?_, ?_, ?_, ?_⟩
      · rw [rI (by omega), rI (by omega)]; exact z.1
      · rw [rI (by omega), rI (by omega)]; exact z.2.1
      · rw [rI (by omega), rI (by omega)]; exact z.2.2.1
      · rw [rI (by omega), rI (by omega)]; exact z.2.2.2
  · exact fun i q hq => by
      rcases app_get hq with ⟨z1, z2⟩ | ⟨z1, z2⟩
      · have z := r3 i q z2
        refine ⟨?_, ?_⟩
        · rw [rI (by omega), rI (by omega), rI (by omega)]; exact z.1
        · rw [rI (by omega), rI (by omega), rI (by omega)]; exact z.2
      · subst z1 z2
        refine ⟨?_, ?_⟩
        · rw [rI (by omega), rI (by omega), rIs]
        · rw [rI (by omega), rIs]
  · rw [rI (by omega), rI (by omega), rI (by omega)]; exact h5.2.2.1
  · rw [rI (by omega), rI (by omega), rI (by omega)]; exact h6
  · rw [mI_off (by omega), mI_off (by omega), mI_off (by omega)]
theorem c_addEaX {M : pm} {t : Nat} (h : cSx M t) {x1 x2 : Int32} {Q : pm → Prop} (kk : ∀ M', fG (fC t) M M' → mI M' 6 = mI M 6 → cSx M' t → Q M') : w_X5_addEar t x1 x2 M Q := by
  obtain ⟨h1, ⟨k, k1, k2⟩, ⟨a, b1, b2⟩, ⟨c, d1, d2⟩, ⟨e, g1, g2⟩, L, h5⟩ := id h
  have tt := h1
  unfold tOk at tt
  unfold w_X5_addEar
  rw [g2]
  refine pk_le 5 e (fun q => kk M (fG.rf M) rfl h) (fun q => ?_)
  rw [nI_clamp (by omega)]
  have e0 : mI (sI M (t + 8) e x1) t 13 = nI e := by
    rw [rI (by omega)]; exact g2
  rw [e0, nI_clamp (by omega)]
  have e1 : mI (sI (sI M (t + 8) e x1) (t + 9) e x2) t 13 = nI e := by
    rw [rI (by omega), rI (by omega)]; exact g2
  rw [e1]
  refine ⟨vp_in_nI q (by decide), vp_in_nI q (by decide), kk _ (fCu (fCu ((fCu (fG.rf M) (by omega) (by omega) _)) (by omega) (by omega) _) (by omega) (by omega) _) (by rw [mI_off (by omega), mI_off (by omega), mI_off (by omega)]) ⟨h1, ⟨k, k1, by rw [rI (by omega), rI (by omega), rI (by omega)]; exact k2⟩, ⟨a, b1, by rw [rI (by omega), rI (by omega), rI (by omega)]; exact b2⟩, ⟨c, d1, by rw [rI (by omega), rI (by omega), rI (by omega)]; exact d2⟩, ⟨e + 1, by omega, by rw [rIs, nI_1]⟩, L, h5.1, h5.2.1, by rw [rI (by omega), rI (by omega), rI (by omega)]; exact h5.2.2.1, h5.2.2.2⟩⟩
