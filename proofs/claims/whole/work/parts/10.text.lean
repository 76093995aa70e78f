/-! the text of the words: the String at 2, its bytes at 0 -/
theorem tb_key (B : List Int32) (j : Nat) : (fun j => Value.int (([B].getD 0 []).getD j 0)) j = Value.int (B.getD j 0) := rfl
section TX
variable {m : pmt} {d lim pc : Nat} {ls st : List Value} {M : pm} {Q : Option Value → pm → Prop}
theorem PW.ldcS (hd : decode m.2.1 pc = .ok (.ldc 45, 2)) (hc : m.1.cls = RX6) (kk : PW m d lim (pc + 2) ls (.ref 2 :: st) M Q) : PW m d lim pc ls st M Q :=
  fun p l e R s mi args below meth c CE SE Qf g H locs cells slots lsA C E => va_ldcS C.1 C.2.1 (by rw [← hc]; exact C.2.2.2.2.1) C.2.2.2.2.2.2.2.2.1.2.2.2.2.2.2.1 hd (kk p l e R s mi args below meth c CE SE Qf g H locs cells slots lsA C E)
theorem PW.getsC {idx : Nat} (hd : decode m.2.1 pc = .ok (.getstatic idx, 3)) (hl : Cond.fieldLink m.1.cls idx "java/lang/String" "COMPACT_STRINGS" "Z" ∈ pBig) (kk : PW m d lim (pc + 3) ls (.int 1 :: st) M Q) : PW m d lim pc ls st M Q :=
  fun p l e R s mi args below meth c CE SE Qf g H locs cells slots lsA C E => va_gets C.1 C.2.1 C.2.2.2.2.2.2.2.2.1.2.2.2.2.2.2.2.2.1 E.2.2.2.2.1 C.2.2.2.2.1 (C.2.2.2.2.2.2.1 _ hl) (fun _ h => h) hd (kk p l e R s mi args below meth c CE SE Qf g H locs cells slots lsA C E)
theorem PW.getsF {idx : Nat} (hd : decode m.2.1 pc = .ok (.getstatic idx, 3)) (hl : Cond.fieldLink m.1.cls idx "jdk/internal/util/Preconditions" "SIOOBE_FORMATTER" "Ljava/util/function/BiFunction;" ∈ pBig) (kk : PW m d lim (pc + 3) ls (.retAddr 0 :: st) M Q) : PW m d lim pc ls st M Q :=
  fun p l e R s mi args below meth c CE SE Qf g H locs cells slots lsA C E => va_gets C.1 C.2.1 C.2.2.2.2.2.2.2.2.1.2.2.2.2.2.2.2.2.2 E.2.2.2.2.1 C.2.2.2.2.1 (C.2.2.2.2.2.2.1 _ hl) (fun _ h => h) hd (kk p l e R s mi args below meth c CE SE Qf g H locs cells slots lsA C E)
theorem PW.coder {idx : Nat} (hd : decode m.2.1 pc = .ok (.getfield idx, 3)) (hl : Cond.fieldLink m.1.cls idx "java/lang/String" "coder" "B" ∈ pBig) (kk : PW m d lim (pc + 3) ls (.int 0 :: st) M Q) : PW m d lim pc ls (.ref 2 :: st) M Q :=
  fun p l e R s mi args below meth c CE SE Qf g H locs cells slots lsA C E => vk_getf C.1 C.2.1 (C.2.2.2.2.2.2.2.2.1.2.2.2.2.2.2.2.1.1 0 (by decide)).2.1 E.2.2.2.2.1 C.2.2.2.2.1 (C.2.2.2.2.2.2.1 _ hl) (fun _ h => h) hd (kk p l e R s mi args below meth c CE SE Qf g H locs cells slots lsA C E)
theorem PW.value {idx : Nat} (hd : decode m.2.1 pc = .ok (.getfield idx, 3)) (hl : Cond.fieldLink m.1.cls idx "java/lang/String" "value" "[B" ∈ pBig) (kk : PW m d lim (pc + 3) ls (.ref 0 :: st) M Q) : PW m d lim pc ls (.ref 2 :: st) M Q :=
  fun p l e R s mi args below meth c CE SE Qf g H locs cells slots lsA C E => vk_getf C.1 C.2.1 (C.2.2.2.2.2.2.2.2.1.2.2.2.2.2.2.2.1.1 0 (by decide)).2.2.1 E.2.2.2.2.1 C.2.2.2.2.1 (C.2.2.2.2.2.2.1 _ hl) (fun _ h => h) hd (kk p l e R s mi args below meth c CE SE Qf g H locs cells slots lsA C E)
theorem PW.blen (hd : decode m.2.1 pc = .ok (.arraylength, 1)) (kk : PW m d lim (pc + 1) ls (.int 204 :: st) M Q) : PW m d lim pc ls (.ref 0 :: st) M Q :=
  fun p l e R s mi args below meth c CE SE Qf g H locs cells slots lsA C E => va_tlen C.1 C.2.1 (C.2.2.2.2.2.2.2.2.1.2.2.2.2.2.2.2.1.1 0 (by decide)).2.2.2 E.2.2.2.2.1 rfl hd (kk p l e R s mi args below meth c CE SE Qf g H locs cells slots lsA C E)
theorem PW.tbald {i : Int32} (hd : decode m.2.1 pc = .ok (.baload, 1)) (hi : vp_in i 204) (kk : PW m d lim (pc + 1) ls (.int (pBytes.getD i.toNatClampNeg 0) :: st) M Q) : PW m d lim pc ls (.int i :: .ref 0 :: st) M Q := by
  generalize hb : pBytes.getD i.toNatClampNeg 0 = x at kk
  intro p l e R s mi args below meth c CE SE Qf g H locs cells slots lsA C E
  have hT := (C.2.2.2.2.2.2.2.2.1.2.2.2.2.2.2.2.1.1 0 (by decide)).2.2.2
  have hv : (fun j => Value.int (([pBytes].getD 0 []).getD j 0)) i.toNatClampNeg = Value.int x := by
    rw [← hb]
    exact tb_key pBytes _
  exact va_tb C.1 C.2.1 hT E.2.2.2.2.1 hi hv hd (kk p l e R s mi args below meth c CE SE Qf g H locs cells slots lsA C E)
end TX
