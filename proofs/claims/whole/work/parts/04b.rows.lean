section GROWS
variable {l : Launch} {D : va_G} {cs : gCs} {L : gL} {ad : Nat → Nat} {Z : State → Prop} {d : Nat} {own : String} {cc : ByteArray} {nL : Nat} {ret : Option FieldType} {G : gG} {Rt : Option Value → gSt → Prop} {pc n : Nat} {lv lv2 : List (Option Value)} {st : List Value} {S : gSt}
theorem s_iconst (h : gSim l D cs L ad Z d own cc nL ret G Rt) {z : Int} {v : Int32} (hd : decode cc pc = .ok (.iconst z, 1)) (hv : Int32.ofInt z = v) (hn : pc + 1 = n) (k : G n lv (.int v :: st) S) : G pc lv st S := by
  subst hn
  obtain ⟨p, e, s, m, args, below, meth, c, hx, hb, hml, ho, hts, hr, hlk, hK, hZ, hi, hz, rfl⟩ := h
  intro H locs ls hP hS hl
  exact lv_iconst hx hb hd hv (k H locs ls hP hS hl)
theorem s_bipush (h : gSim l D cs L ad Z d own cc nL ret G Rt) {z : Int} {v : Int32} (hd : decode cc pc = .ok (.bipush z, 2)) (hv : (Int8.ofInt z).toInt32 = v) (hn : pc + 2 = n) (k : G n lv (.int v :: st) S) : G pc lv st S := by
  subst hn
  obtain ⟨p, e, s, m, args, below, meth, c, hx, hb, hml, ho, hts, hr, hlk, hK, hZ, hi, hz, rfl⟩ := h
  intro H locs ls hP hS hl
  exact lv_bipush hx hb hd hv (k H locs ls hP hS hl)
theorem s_sipush (h : gSim l D cs L ad Z d own cc nL ret G Rt) {z : Int} {v : Int32} (hd : decode cc pc = .ok (.sipush z, 3)) (hv : (Int16.ofInt z).toInt32 = v) (hn : pc + 3 = n) (k : G n lv (.int v :: st) S) : G pc lv st S := by
  subst hn
  obtain ⟨p, e, s, m, args, below, meth, c, hx, hb, hml, ho, hts, hr, hlk, hK, hZ, hi, hz, rfl⟩ := h
  intro H locs ls hP hS hl
  exact lv_sipush hx hb hd hv (k H locs ls hP hS hl)
theorem s_lconst (h : gSim l D cs L ad Z d own cc nL ret G Rt) {z : Fin 2} {v : Int64} (hd : decode cc pc = .ok (.lconst z, 1)) (hv : Int64.ofNat (z : Nat) = v) (hn : pc + 1 = n) (k : G n lv (.long v :: st) S) : G pc lv st S := by
  subst hn
  obtain ⟨p, e, s, m, args, below, meth, c, hx, hb, hml, ho, hts, hr, hlk, hK, hZ, hi, hz, rfl⟩ := h
  intro H locs ls hP hS hl
  exact lv_lconst hx hb hd hv (k H locs ls hP hS hl)
theorem s_iload_n (h : gSim l D cs L ad Z d own cc nL ret G Rt) {j : Fin 4} {x : Int32} (hd : decode cc pc = .ok (.iload_n j, 1)) (hv : lv[(j : Nat)]? = some (some (.int x))) (hn : pc + 1 = n) (k : G n lv (.int x :: st) S) : G pc lv st S := by
  subst hn
  obtain ⟨p, e, s, m, args, below, meth, c, hx, hb, hml, ho, hts, hr, hlk, hK, hZ, hi, hz, rfl⟩ := h
  intro H locs ls hP hS hl
  exact lv_iload_n hx hb hd rfl (hl.2.2 _ _ hv) (k H locs ls hP hS hl)
theorem s_iload (h : gSim l D cs L ad Z d own cc nL ret G Rt) {j : Nat} {x : Int32} (hd : decode cc pc = .ok (.iload j, 2)) (hv : lv[j]? = some (some (.int x))) (hn : pc + 2 = n) (k : G n lv (.int x :: st) S) : G pc lv st S := by
  subst hn
  obtain ⟨p, e, s, m, args, below, meth, c, hx, hb, hml, ho, hts, hr, hlk, hK, hZ, hi, hz, rfl⟩ := h
  intro H locs ls hP hS hl
  exact lv_iload hx hb hd (hl.2.2 _ _ hv) (k H locs ls hP hS hl)
theorem s_istore_n (h : gSim l D cs L ad Z d own cc nL ret G Rt) {j : Fin 4} {x : Int32} (hd : decode cc pc = .ok (.istore_n j, 1)) (hc : (gpv lv (j : Nat) && Nat.ble ((j : Nat) + 1) nL) = true) (hv : lv.set (j : Nat) (some (.int x)) = lv2) (hn : pc + 1 = n) (k : G n lv2 st S) : G pc lv (.int x :: st) S := by
  subst hn
  obtain ⟨p, e, s, m, args, below, meth, c, hx, hb, hml, ho, hts, hr, hlk, hK, hZ, hi, hz, rfl⟩ := h
  intro H locs ls hP hS hl
  subst hv
  obtain ⟨hc1, hc2⟩ := Bool.and_eq_true_iff.mp hc
  exact lv_istore_n hx hb hd rfl hl.has (Nat.le_of_ble_eq_true hc2) rfl (fun ls2 h2 => k H locs ls2 hP hS (gok.put1 hc1 h2))
theorem s_istore (h : gSim l D cs L ad Z d own cc nL ret G Rt) {j : Nat} {x : Int32} (hd : decode cc pc = .ok (.istore j, 2)) (hc : (gpv lv j && Nat.ble (j + 1) nL) = true) (hv : lv.set j (some (.int x)) = lv2) (hn : pc + 2 = n) (k : G n lv2 st S) : G pc lv (.int x :: st) S := by
  subst hn
  obtain ⟨p, e, s, m, args, below, meth, c, hx, hb, hml, ho, hts, hr, hlk, hK, hZ, hi, hz, rfl⟩ := h
  intro H locs ls hP hS hl
  subst hv
  obtain ⟨hc1, hc2⟩ := Bool.and_eq_true_iff.mp hc
  exact lv_istore hx hb hd hl.has (Nat.le_of_ble_eq_true hc2) rfl (fun ls2 h2 => k H locs ls2 hP hS (gok.put1 hc1 h2))
theorem s_lload_n (h : gSim l D cs L ad Z d own cc nL ret G Rt) {j : Fin 4} {x : Int64} (hd : decode cc pc = .ok (.lload_n j, 1)) (hv : lv[(j : Nat)]? = some (some (.long x))) (hn : pc + 1 = n) (k : G n lv (.long x :: st) S) : G pc lv st S := by
  subst hn
  obtain ⟨p, e, s, m, args, below, meth, c, hx, hb, hml, ho, hts, hr, hlk, hK, hZ, hi, hz, rfl⟩ := h
  intro H locs ls hP hS hl
  exact lv_lload_n hx hb hd rfl (hl.2.2 _ _ hv) (k H locs ls hP hS hl)
theorem s_lload (h : gSim l D cs L ad Z d own cc nL ret G Rt) {j : Nat} {x : Int64} (hd : decode cc pc = .ok (.lload j, 2)) (hv : lv[j]? = some (some (.long x))) (hn : pc + 2 = n) (k : G n lv (.long x :: st) S) : G pc lv st S := by
  subst hn
  obtain ⟨p, e, s, m, args, below, meth, c, hx, hb, hml, ho, hts, hr, hlk, hK, hZ, hi, hz, rfl⟩ := h
  intro H locs ls hP hS hl
  exact lv_lload hx hb hd (hl.2.2 _ _ hv) (k H locs ls hP hS hl)
theorem s_lstore_n (h : gSim l D cs L ad Z d own cc nL ret G Rt) {j : Fin 4} {x : Int64} (hd : decode cc pc = .ok (.lstore_n j, 1)) (hc : (gpv lv (j : Nat) && Nat.ble ((j : Nat) + 2) nL) = true) (hv : (lv.set (j : Nat) (some (.long x))).set ((j : Nat) + 1) none = lv2) (hn : pc + 1 = n) (k : G n lv2 st S) : G pc lv (.long x :: st) S := by
  subst hn
  obtain ⟨p, e, s, m, args, below, meth, c, hx, hb, hml, ho, hts, hr, hlk, hK, hZ, hi, hz, rfl⟩ := h
  intro H locs ls hP hS hl
  subst hv
  obtain ⟨hc1, hc2⟩ := Bool.and_eq_true_iff.mp hc
  exact lv_lstore_n hx hb hd rfl hl.has (Nat.le_of_ble_eq_true hc2) rfl (fun ls2 h2 => k H locs ls2 hP hS (gok.put2 hc1 h2))
theorem s_lstore (h : gSim l D cs L ad Z d own cc nL ret G Rt) {j : Nat} {x : Int64} (hd : decode cc pc = .ok (.lstore j, 2)) (hc : (gpv lv j && Nat.ble (j + 2) nL) = true) (hv : (lv.set j (some (.long x))).set (j + 1) none = lv2) (hn : pc + 2 = n) (k : G n lv2 st S) : G pc lv (.long x :: st) S := by
  subst hn
  obtain ⟨p, e, s, m, args, below, meth, c, hx, hb, hml, ho, hts, hr, hlk, hK, hZ, hi, hz, rfl⟩ := h
  intro H locs ls hP hS hl
  subst hv
  obtain ⟨hc1, hc2⟩ := Bool.and_eq_true_iff.mp hc
  exact lv_lstore hx hb hd hl.has (Nat.le_of_ble_eq_true hc2) rfl (fun ls2 h2 => k H locs ls2 hP hS (gok.put2 hc1 h2))
theorem s_aload_n (h : gSim l D cs L ad Z d own cc nL ret G Rt) {j : Fin 4} {x : Nat} (hd : decode cc pc = .ok (.aload_n j, 1)) (hv : lv[(j : Nat)]? = some (some (.ref x))) (hn : pc + 1 = n) (k : G n lv (.ref x :: st) S) : G pc lv st S := by
  subst hn
  obtain ⟨p, e, s, m, args, below, meth, c, hx, hb, hml, ho, hts, hr, hlk, hK, hZ, hi, hz, rfl⟩ := h
  intro H locs ls hP hS hl
  exact lv_aload_n hx hb hd rfl (hl.2.2 _ _ hv) (k H locs ls hP hS hl)
theorem s_aload (h : gSim l D cs L ad Z d own cc nL ret G Rt) {j : Nat} {x : Nat} (hd : decode cc pc = .ok (.aload j, 2)) (hv : lv[j]? = some (some (.ref x))) (hn : pc + 2 = n) (k : G n lv (.ref x :: st) S) : G pc lv st S := by
  subst hn
  obtain ⟨p, e, s, m, args, below, meth, c, hx, hb, hml, ho, hts, hr, hlk, hK, hZ, hi, hz, rfl⟩ := h
  intro H locs ls hP hS hl
  exact lv_aload hx hb hd (hl.2.2 _ _ hv) (k H locs ls hP hS hl)
theorem s_astore_n (h : gSim l D cs L ad Z d own cc nL ret G Rt) {j : Fin 4} {x : Nat} (hd : decode cc pc = .ok (.astore_n j, 1)) (hc : (gpv lv (j : Nat) && Nat.ble ((j : Nat) + 1) nL) = true) (hv : lv.set (j : Nat) (some (.ref x)) = lv2) (hn : pc + 1 = n) (k : G n lv2 st S) : G pc lv (.ref x :: st) S := by
  subst hn
  obtain ⟨p, e, s, m, args, below, meth, c, hx, hb, hml, ho, hts, hr, hlk, hK, hZ, hi, hz, rfl⟩ := h
  intro H locs ls hP hS hl
  subst hv
  obtain ⟨hc1, hc2⟩ := Bool.and_eq_true_iff.mp hc
  exact lv_astore_n hx hb hd rfl hl.has (Nat.le_of_ble_eq_true hc2) rfl (fun ls2 h2 => k H locs ls2 hP hS (gok.put1 hc1 h2))
theorem s_astore (h : gSim l D cs L ad Z d own cc nL ret G Rt) {j : Nat} {x : Nat} (hd : decode cc pc = .ok (.astore j, 2)) (hc : (gpv lv j && Nat.ble (j + 1) nL) = true) (hv : lv.set j (some (.ref x)) = lv2) (hn : pc + 2 = n) (k : G n lv2 st S) : G pc lv (.ref x :: st) S := by
  subst hn
  obtain ⟨p, e, s, m, args, below, meth, c, hx, hb, hml, ho, hts, hr, hlk, hK, hZ, hi, hz, rfl⟩ := h
  intro H locs ls hP hS hl
  subst hv
  obtain ⟨hc1, hc2⟩ := Bool.and_eq_true_iff.mp hc
  exact lv_astore hx hb hd hl.has (Nat.le_of_ble_eq_true hc2) rfl (fun ls2 h2 => k H locs ls2 hP hS (gok.put1 hc1 h2))
theorem s_iinc (h : gSim l D cs L ad Z d own cc nL ret G Rt) {j : Nat} {z : Int} {x v cst : Int32} (hd : decode cc pc = .ok (.iinc j z, 3)) (hz : Int32.ofInt z = cst) (hj : lv[j]? = some (some (.int x))) (hx : v = x + cst) (hc : (gpv lv j && Nat.ble (j + 1) nL) = true) (hv : lv.set j (some (.int v)) = lv2) (hn : pc + 3 = n) (k : G n lv2 st S) : G pc lv st S := by
  subst hn
  subst hv
  subst hx
  subst hz
  obtain ⟨p, e, s, m, args, below, meth, c, hx, hb, hml, ho, hts, hr, hlk, hK, hZ, hi, hz, rfl⟩ := h
  intro H locs ls hP hS hl
  obtain ⟨hc1, hc2⟩ := Bool.and_eq_true_iff.mp hc
  obtain ⟨q, hq⟩ := List.getElem?_of_mem (gkn_in (i := 0) hj)
  rw [Nat.zero_add] at hq
  exact lv_iinc (k := q) hx hb hd hl.has hq rfl (Nat.le_of_ble_eq_true hc2) rfl (fun ls2 h2 => k H locs ls2 hP hS (gok.put1 hc1 h2))
theorem s_iadd (h : gSim l D cs L ad Z d own cc nL ret G Rt) {x y : Int32} (hd : decode cc pc = .ok (.iadd, 1))  (hn : pc + 1 = n) (k : G n lv (.int (x + y) :: st) S) : G pc lv (.int y :: .int x :: st) S := by
  subst hn
  obtain ⟨p, e, s, m, args, below, meth, c, hx, hb, hml, ho, hts, hr, hlk, hK, hZ, hi, hz, rfl⟩ := h
  intro H locs ls hP hS hl
  exact lv_iadd hx hb hd (k H locs ls hP hS hl)
theorem s_isub (h : gSim l D cs L ad Z d own cc nL ret G Rt) {x y : Int32} (hd : decode cc pc = .ok (.isub, 1))  (hn : pc + 1 = n) (k : G n lv (.int (x - y) :: st) S) : G pc lv (.int y :: .int x :: st) S := by
  subst hn
  obtain ⟨p, e, s, m, args, below, meth, c, hx, hb, hml, ho, hts, hr, hlk, hK, hZ, hi, hz, rfl⟩ := h
  intro H locs ls hP hS hl
  exact lv_isub hx hb hd (k H locs ls hP hS hl)
theorem s_imul (h : gSim l D cs L ad Z d own cc nL ret G Rt) {x y : Int32} (hd : decode cc pc = .ok (.imul, 1))  (hn : pc + 1 = n) (k : G n lv (.int (x * y) :: st) S) : G pc lv (.int y :: .int x :: st) S := by
  subst hn
  obtain ⟨p, e, s, m, args, below, meth, c, hx, hb, hml, ho, hts, hr, hlk, hK, hZ, hi, hz, rfl⟩ := h
  intro H locs ls hP hS hl
  exact lv_imul hx hb hd (k H locs ls hP hS hl)
theorem s_iand (h : gSim l D cs L ad Z d own cc nL ret G Rt) {x y : Int32} (hd : decode cc pc = .ok (.iand, 1))  (hn : pc + 1 = n) (k : G n lv (.int (x &&& y) :: st) S) : G pc lv (.int y :: .int x :: st) S := by
  subst hn
  obtain ⟨p, e, s, m, args, below, meth, c, hx, hb, hml, ho, hts, hr, hlk, hK, hZ, hi, hz, rfl⟩ := h
  intro H locs ls hP hS hl
  exact lv_iand hx hb hd (k H locs ls hP hS hl)
theorem s_ior (h : gSim l D cs L ad Z d own cc nL ret G Rt) {x y : Int32} (hd : decode cc pc = .ok (.ior, 1))  (hn : pc + 1 = n) (k : G n lv (.int (x ||| y) :: st) S) : G pc lv (.int y :: .int x :: st) S := by
  subst hn
  obtain ⟨p, e, s, m, args, below, meth, c, hx, hb, hml, ho, hts, hr, hlk, hK, hZ, hi, hz, rfl⟩ := h
  intro H locs ls hP hS hl
  exact lv_ior hx hb hd (k H locs ls hP hS hl)
theorem s_ixor (h : gSim l D cs L ad Z d own cc nL ret G Rt) {x y : Int32} (hd : decode cc pc = .ok (.ixor, 1))  (hn : pc + 1 = n) (k : G n lv (.int (x ^^^ y) :: st) S) : G pc lv (.int y :: .int x :: st) S := by
  subst hn
  obtain ⟨p, e, s, m, args, below, meth, c, hx, hb, hml, ho, hts, hr, hlk, hK, hZ, hi, hz, rfl⟩ := h
  intro H locs ls hP hS hl
  exact lv_ixor hx hb hd (k H locs ls hP hS hl)
theorem s_ishl (h : gSim l D cs L ad Z d own cc nL ret G Rt) {x y : Int32} (hd : decode cc pc = .ok (.ishl, 1))  (hn : pc + 1 = n) (k : G n lv (.int (x <<< (y &&& 31)) :: st) S) : G pc lv (.int y :: .int x :: st) S := by
  subst hn
  obtain ⟨p, e, s, m, args, below, meth, c, hx, hb, hml, ho, hts, hr, hlk, hK, hZ, hi, hz, rfl⟩ := h
  intro H locs ls hP hS hl
  exact lv_ishl hx hb hd (k H locs ls hP hS hl)
theorem s_ishr (h : gSim l D cs L ad Z d own cc nL ret G Rt) {x y : Int32} (hd : decode cc pc = .ok (.ishr, 1))  (hn : pc + 1 = n) (k : G n lv (.int (x >>> (y &&& 31)) :: st) S) : G pc lv (.int y :: .int x :: st) S := by
  subst hn
  obtain ⟨p, e, s, m, args, below, meth, c, hx, hb, hml, ho, hts, hr, hlk, hK, hZ, hi, hz, rfl⟩ := h
  intro H locs ls hP hS hl
  exact lv_ishr hx hb hd (k H locs ls hP hS hl)
theorem s_idiv (h : gSim l D cs L ad Z d own cc nL ret G Rt) {x y : Int32} (hd : decode cc pc = .ok (.idiv, 1)) (hne : ¬ y = 0) (hn : pc + 1 = n) (k : G n lv (.int (x / y) :: st) S) : G pc lv (.int y :: .int x :: st) S := by
  subst hn
  obtain ⟨p, e, s, m, args, below, meth, c, hx, hb, hml, ho, hts, hr, hlk, hK, hZ, hi, hz, rfl⟩ := h
  intro H locs ls hP hS hl
  exact lv_idiv hx hb hd hne (k H locs ls hP hS hl)
theorem s_irem (h : gSim l D cs L ad Z d own cc nL ret G Rt) {x y : Int32} (hd : decode cc pc = .ok (.irem, 1)) (hne : ¬ y = 0) (hn : pc + 1 = n) (k : G n lv (.int (x - x / y * y) :: st) S) : G pc lv (.int y :: .int x :: st) S := by
  subst hn
  obtain ⟨p, e, s, m, args, below, meth, c, hx, hb, hml, ho, hts, hr, hlk, hK, hZ, hi, hz, rfl⟩ := h
  intro H locs ls hP hS hl
  exact lv_irem hx hb hd hne (k H locs ls hP hS hl)
theorem s_ineg (h : gSim l D cs L ad Z d own cc nL ret G Rt) {x : Int32} (hd : decode cc pc = .ok (.ineg, 1))  (hn : pc + 1 = n) (k : G n lv (.int (-x) :: st) S) : G pc lv (.int x :: st) S := by
  subst hn
  obtain ⟨p, e, s, m, args, below, meth, c, hx, hb, hml, ho, hts, hr, hlk, hK, hZ, hi, hz, rfl⟩ := h
  intro H locs ls hP hS hl
  exact lv_ineg hx hb hd (k H locs ls hP hS hl)
theorem s_iushr (h : gSim l D cs L ad Z d own cc nL ret G Rt) {x y : Int32} (hd : decode cc pc = .ok (.iushr, 1))  (hn : pc + 1 = n) (k : G n lv (.int ((x.toUInt32 >>> (y.toUInt32 &&& Int32.toUInt32 31)).toInt32) :: st) S) : G pc lv (.int y :: .int x :: st) S := by
  subst hn
  obtain ⟨p, e, s, m, args, below, meth, c, hx, hb, hml, ho, hts, hr, hlk, hK, hZ, hi, hz, rfl⟩ := h
  intro H locs ls hP hS hl
  exact lv_iushr hx hb hd rfl (k H locs ls hP hS hl)
theorem s_ladd (h : gSim l D cs L ad Z d own cc nL ret G Rt) {x y : Int64} (hd : decode cc pc = .ok (.ladd, 1))  (hn : pc + 1 = n) (k : G n lv (.long (x + y) :: st) S) : G pc lv (.long y :: .long x :: st) S := by
  subst hn
  obtain ⟨p, e, s, m, args, below, meth, c, hx, hb, hml, ho, hts, hr, hlk, hK, hZ, hi, hz, rfl⟩ := h
  intro H locs ls hP hS hl
  exact lv_ladd hx hb hd (k H locs ls hP hS hl)
theorem s_lsub (h : gSim l D cs L ad Z d own cc nL ret G Rt) {x y : Int64} (hd : decode cc pc = .ok (.lsub, 1))  (hn : pc + 1 = n) (k : G n lv (.long (x - y) :: st) S) : G pc lv (.long y :: .long x :: st) S := by
  subst hn
  obtain ⟨p, e, s, m, args, below, meth, c, hx, hb, hml, ho, hts, hr, hlk, hK, hZ, hi, hz, rfl⟩ := h
  intro H locs ls hP hS hl
  exact lv_lsub hx hb hd (k H locs ls hP hS hl)
theorem s_lmul (h : gSim l D cs L ad Z d own cc nL ret G Rt) {x y : Int64} (hd : decode cc pc = .ok (.lmul, 1))  (hn : pc + 1 = n) (k : G n lv (.long (x * y) :: st) S) : G pc lv (.long y :: .long x :: st) S := by
  subst hn
  obtain ⟨p, e, s, m, args, below, meth, c, hx, hb, hml, ho, hts, hr, hlk, hK, hZ, hi, hz, rfl⟩ := h
  intro H locs ls hP hS hl
  exact lv_lmul hx hb hd (k H locs ls hP hS hl)
theorem s_lcmp (h : gSim l D cs L ad Z d own cc nL ret G Rt) {x y : Int64} (hd : decode cc pc = .ok (.lcmp, 1))  (hn : pc + 1 = n) (k : G n lv (.int (lg_cmp x y) :: st) S) : G pc lv (.long y :: .long x :: st) S := by
  subst hn
  obtain ⟨p, e, s, m, args, below, meth, c, hx, hb, hml, ho, hts, hr, hlk, hK, hZ, hi, hz, rfl⟩ := h
  intro H locs ls hP hS hl
  exact W.lcmp hx hb hd (k H locs ls hP hS hl)
theorem s_i2l (h : gSim l D cs L ad Z d own cc nL ret G Rt) {x : Int32} (hd : decode cc pc = .ok (.i2l, 1))  (hn : pc + 1 = n) (k : G n lv (.long x.toInt64 :: st) S) : G pc lv (.int x :: st) S := by
  subst hn
  obtain ⟨p, e, s, m, args, below, meth, c, hx, hb, hml, ho, hts, hr, hlk, hK, hZ, hi, hz, rfl⟩ := h
  intro H locs ls hP hS hl
  exact lv_i2l hx hb hd rfl (k H locs ls hP hS hl)
theorem s_l2i (h : gSim l D cs L ad Z d own cc nL ret G Rt) {x : Int64} (hd : decode cc pc = .ok (.l2i, 1))  (hn : pc + 1 = n) (k : G n lv (.int x.toInt32 :: st) S) : G pc lv (.long x :: st) S := by
  subst hn
  obtain ⟨p, e, s, m, args, below, meth, c, hx, hb, hml, ho, hts, hr, hlk, hK, hZ, hi, hz, rfl⟩ := h
  intro H locs ls hP hS hl
  exact lv_l2i hx hb hd rfl (k H locs ls hP hS hl)
theorem s_dup (h : gSim l D cs L ad Z d own cc nL ret G Rt) {v : Value} (hd : decode cc pc = .ok (.dup, 1)) (hv : v.category = 1) (hn : pc + 1 = n) (k : G n lv (v :: v :: st) S) : G pc lv (v :: st) S := by
  subst hn
  obtain ⟨p, e, s, m, args, below, meth, c, hx, hb, hml, ho, hts, hr, hlk, hK, hZ, hi, hz, rfl⟩ := h
  intro H locs ls hP hS hl
  exact lv_dup hx hb hd hv (k H locs ls hP hS hl)
theorem s_pop (h : gSim l D cs L ad Z d own cc nL ret G Rt) {v : Value} (hd : decode cc pc = .ok (.pop, 1)) (hv : v.category = 1) (hn : pc + 1 = n) (k : G n lv st S) : G pc lv (v :: st) S := by
  subst hn
  obtain ⟨p, e, s, m, args, below, meth, c, hx, hb, hml, ho, hts, hr, hlk, hK, hZ, hi, hz, rfl⟩ := h
  intro H locs ls hP hS hl
  exact lv_pop hx hb hd hv (k H locs ls hP hS hl)
theorem s_dup2 (h : gSim l D cs L ad Z d own cc nL ret G Rt) {v u : Value} (hd : decode cc pc = .ok (.dup2, 1)) (hv : v.category = 1) (hu : u.category = 1) (hn : pc + 1 = n) (k : G n lv (v :: u :: v :: u :: st) S) : G pc lv (v :: u :: st) S := by
  subst hn
  obtain ⟨p, e, s, m, args, below, meth, c, hx, hb, hml, ho, hts, hr, hlk, hK, hZ, hi, hz, rfl⟩ := h
  intro H locs ls hP hS hl
  exact lv_dup2_11 hx hb hd hv hu (k H locs ls hP hS hl)
theorem s_dup_x1 (h : gSim l D cs L ad Z d own cc nL ret G Rt) {v u : Value} (hd : decode cc pc = .ok (.dup_x1, 1)) (hv : v.category = 1) (hu : u.category = 1) (hn : pc + 1 = n) (k : G n lv (v :: u :: v :: st) S) : G pc lv (v :: u :: st) S := by
  subst hn
  obtain ⟨p, e, s, m, args, below, meth, c, hx, hb, hml, ho, hts, hr, hlk, hK, hZ, hi, hz, rfl⟩ := h
  intro H locs ls hP hS hl
  exact lv_dup_x1 hx hb hd hv hu (k H locs ls hP hS hl)
theorem s_ldc (h : gSim l D cs L ad Z d own cc nL ret G Rt) {i : Nat} {v : Int32} (hd : decode cc pc = .ok (.ldc i, 2)) (hw : Cond.constant own i v ∈ TT) (hn : pc + 2 = n) (k : G n lv (.int v :: st) S) : G pc lv st S := by
  subst hn
  obtain ⟨p, e, s, m, args, below, meth, c, hx, hb, hml, ho, hts, hr, hlk, hK, hZ, hi, hz, rfl⟩ := h
  intro H locs ls hP hS hl
  exact lv_ldc hx hb ho (hts _ hw) hd (k H locs ls hP hS hl)
theorem s_ldc_w (h : gSim l D cs L ad Z d own cc nL ret G Rt) {i : Nat} {v : Int32} (hd : decode cc pc = .ok (.ldc_w i, 3)) (hw : Cond.constant own i v ∈ TT) (hn : pc + 3 = n) (k : G n lv (.int v :: st) S) : G pc lv st S := by
  subst hn
  obtain ⟨p, e, s, m, args, below, meth, c, hx, hb, hml, ho, hts, hr, hlk, hK, hZ, hi, hz, rfl⟩ := h
  intro H locs ls hP hS hl
  exact lv_ldcw hx hb ho (hts _ hw) hd (k H locs ls hP hS hl)
theorem s_ldc2_w (h : gSim l D cs L ad Z d own cc nL ret G Rt) {i : Nat} {v : Int64} (hd : decode cc pc = .ok (.ldc2_w i, 3)) (hw : Cond.constantLong own i v ∈ TT) (hn : pc + 3 = n) (k : G n lv (.long v :: st) S) : G pc lv st S := by
  subst hn
  obtain ⟨p, e, s, m, args, below, meth, c, hx, hb, hml, ho, hts, hr, hlk, hK, hZ, hi, hz, rfl⟩ := h
  intro H locs ls hP hS hl
  exact lv_ldc2 hx hb ho (hts _ hw) hd (k H locs ls hP hS hl)
theorem s_if_eq (h : gSim l D cs L ad Z d own cc nL ret G Rt) {x : Int32} {off : Int} {tgt : Nat} (hd : decode cc pc = .ok (.ifCond .eq off, 3)) (ht : (pc : Int) + off = (tgt : Int)) (hn : pc + 3 = n) (kt : x = 0 → G tgt lv st S) (kf : ¬ x = 0 → G n lv st S) : G pc lv (.int x :: st) S := by
  subst hn
  obtain ⟨p, e, s, m, args, below, meth, c, hx, hb, hml, ho, hts, hr, hlk, hK, hZ, hi, hz, rfl⟩ := h
  intro H locs ls hP hS hl
  exact lv_if_eq hx hb hd ht (fun q => kt q H locs ls hP hS hl) (fun q => kf q H locs ls hP hS hl)
theorem s_if_ne (h : gSim l D cs L ad Z d own cc nL ret G Rt) {x : Int32} {off : Int} {tgt : Nat} (hd : decode cc pc = .ok (.ifCond .ne off, 3)) (ht : (pc : Int) + off = (tgt : Int)) (hn : pc + 3 = n) (kt : ¬ x = 0 → G tgt lv st S) (kf : x = 0 → G n lv st S) : G pc lv (.int x :: st) S := by
  subst hn
  obtain ⟨p, e, s, m, args, below, meth, c, hx, hb, hml, ho, hts, hr, hlk, hK, hZ, hi, hz, rfl⟩ := h
  intro H locs ls hP hS hl
  exact lv_if_ne hx hb hd ht (fun q => kt q H locs ls hP hS hl) (fun q => kf q H locs ls hP hS hl)
theorem s_if_lt (h : gSim l D cs L ad Z d own cc nL ret G Rt) {x : Int32} {off : Int} {tgt : Nat} (hd : decode cc pc = .ok (.ifCond .lt off, 3)) (ht : (pc : Int) + off = (tgt : Int)) (hn : pc + 3 = n) (kt : x < 0 → G tgt lv st S) (kf : ¬ x < 0 → G n lv st S) : G pc lv (.int x :: st) S := by
  subst hn
  obtain ⟨p, e, s, m, args, below, meth, c, hx, hb, hml, ho, hts, hr, hlk, hK, hZ, hi, hz, rfl⟩ := h
  intro H locs ls hP hS hl
  exact lv_if_lt hx hb hd ht (fun q => kt q H locs ls hP hS hl) (fun q => kf q H locs ls hP hS hl)
theorem s_if_ge (h : gSim l D cs L ad Z d own cc nL ret G Rt) {x : Int32} {off : Int} {tgt : Nat} (hd : decode cc pc = .ok (.ifCond .ge off, 3)) (ht : (pc : Int) + off = (tgt : Int)) (hn : pc + 3 = n) (kt : 0 ≤ x → G tgt lv st S) (kf : ¬ 0 ≤ x → G n lv st S) : G pc lv (.int x :: st) S := by
  subst hn
  obtain ⟨p, e, s, m, args, below, meth, c, hx, hb, hml, ho, hts, hr, hlk, hK, hZ, hi, hz, rfl⟩ := h
  intro H locs ls hP hS hl
  exact lv_if_ge hx hb hd ht (fun q => kt q H locs ls hP hS hl) (fun q => kf q H locs ls hP hS hl)
theorem s_if_gt (h : gSim l D cs L ad Z d own cc nL ret G Rt) {x : Int32} {off : Int} {tgt : Nat} (hd : decode cc pc = .ok (.ifCond .gt off, 3)) (ht : (pc : Int) + off = (tgt : Int)) (hn : pc + 3 = n) (kt : 0 < x → G tgt lv st S) (kf : ¬ 0 < x → G n lv st S) : G pc lv (.int x :: st) S := by
  subst hn
  obtain ⟨p, e, s, m, args, below, meth, c, hx, hb, hml, ho, hts, hr, hlk, hK, hZ, hi, hz, rfl⟩ := h
  intro H locs ls hP hS hl
  exact lv_if_gt hx hb hd ht (fun q => kt q H locs ls hP hS hl) (fun q => kf q H locs ls hP hS hl)
theorem s_if_le (h : gSim l D cs L ad Z d own cc nL ret G Rt) {x : Int32} {off : Int} {tgt : Nat} (hd : decode cc pc = .ok (.ifCond .le off, 3)) (ht : (pc : Int) + off = (tgt : Int)) (hn : pc + 3 = n) (kt : x ≤ 0 → G tgt lv st S) (kf : ¬ x ≤ 0 → G n lv st S) : G pc lv (.int x :: st) S := by
  subst hn
  obtain ⟨p, e, s, m, args, below, meth, c, hx, hb, hml, ho, hts, hr, hlk, hK, hZ, hi, hz, rfl⟩ := h
  intro H locs ls hP hS hl
  exact lv_if_le hx hb hd ht (fun q => kt q H locs ls hP hS hl) (fun q => kf q H locs ls hP hS hl)
theorem s_icmp_eq (h : gSim l D cs L ad Z d own cc nL ret G Rt) {x y : Int32} {off : Int} {tgt : Nat} (hd : decode cc pc = .ok (.if_icmp .eq off, 3)) (ht : (pc : Int) + off = (tgt : Int)) (hn : pc + 3 = n) (kt : x = y → G tgt lv st S) (kf : ¬ x = y → G n lv st S) : G pc lv (.int y :: .int x :: st) S := by
  subst hn
  obtain ⟨p, e, s, m, args, below, meth, c, hx, hb, hml, ho, hts, hr, hlk, hK, hZ, hi, hz, rfl⟩ := h
  intro H locs ls hP hS hl
  exact lv_icmp_eq hx hb hd ht (fun q => kt q H locs ls hP hS hl) (fun q => kf q H locs ls hP hS hl)
theorem s_icmp_ne (h : gSim l D cs L ad Z d own cc nL ret G Rt) {x y : Int32} {off : Int} {tgt : Nat} (hd : decode cc pc = .ok (.if_icmp .ne off, 3)) (ht : (pc : Int) + off = (tgt : Int)) (hn : pc + 3 = n) (kt : ¬ x = y → G tgt lv st S) (kf : x = y → G n lv st S) : G pc lv (.int y :: .int x :: st) S := by
  subst hn
  obtain ⟨p, e, s, m, args, below, meth, c, hx, hb, hml, ho, hts, hr, hlk, hK, hZ, hi, hz, rfl⟩ := h
  intro H locs ls hP hS hl
  exact lv_icmp_ne hx hb hd ht (fun q => kt q H locs ls hP hS hl) (fun q => kf q H locs ls hP hS hl)
theorem s_icmp_lt (h : gSim l D cs L ad Z d own cc nL ret G Rt) {x y : Int32} {off : Int} {tgt : Nat} (hd : decode cc pc = .ok (.if_icmp .lt off, 3)) (ht : (pc : Int) + off = (tgt : Int)) (hn : pc + 3 = n) (kt : x < y → G tgt lv st S) (kf : ¬ x < y → G n lv st S) : G pc lv (.int y :: .int x :: st) S := by
  subst hn
  obtain ⟨p, e, s, m, args, below, meth, c, hx, hb, hml, ho, hts, hr, hlk, hK, hZ, hi, hz, rfl⟩ := h
  intro H locs ls hP hS hl
  exact lv_icmp_lt hx hb hd ht (fun q => kt q H locs ls hP hS hl) (fun q => kf q H locs ls hP hS hl)
theorem s_icmp_ge (h : gSim l D cs L ad Z d own cc nL ret G Rt) {x y : Int32} {off : Int} {tgt : Nat} (hd : decode cc pc = .ok (.if_icmp .ge off, 3)) (ht : (pc : Int) + off = (tgt : Int)) (hn : pc + 3 = n) (kt : y ≤ x → G tgt lv st S) (kf : ¬ y ≤ x → G n lv st S) : G pc lv (.int y :: .int x :: st) S := by
  subst hn
  obtain ⟨p, e, s, m, args, below, meth, c, hx, hb, hml, ho, hts, hr, hlk, hK, hZ, hi, hz, rfl⟩ := h
  intro H locs ls hP hS hl
  exact lv_icmp_ge hx hb hd ht (fun q => kt q H locs ls hP hS hl) (fun q => kf q H locs ls hP hS hl)
theorem s_icmp_gt (h : gSim l D cs L ad Z d own cc nL ret G Rt) {x y : Int32} {off : Int} {tgt : Nat} (hd : decode cc pc = .ok (.if_icmp .gt off, 3)) (ht : (pc : Int) + off = (tgt : Int)) (hn : pc + 3 = n) (kt : y < x → G tgt lv st S) (kf : ¬ y < x → G n lv st S) : G pc lv (.int y :: .int x :: st) S := by
  subst hn
  obtain ⟨p, e, s, m, args, below, meth, c, hx, hb, hml, ho, hts, hr, hlk, hK, hZ, hi, hz, rfl⟩ := h
  intro H locs ls hP hS hl
  exact lv_icmp_gt hx hb hd ht (fun q => kt q H locs ls hP hS hl) (fun q => kf q H locs ls hP hS hl)
theorem s_icmp_le (h : gSim l D cs L ad Z d own cc nL ret G Rt) {x y : Int32} {off : Int} {tgt : Nat} (hd : decode cc pc = .ok (.if_icmp .le off, 3)) (ht : (pc : Int) + off = (tgt : Int)) (hn : pc + 3 = n) (kt : x ≤ y → G tgt lv st S) (kf : ¬ x ≤ y → G n lv st S) : G pc lv (.int y :: .int x :: st) S := by
  subst hn
  obtain ⟨p, e, s, m, args, below, meth, c, hx, hb, hml, ho, hts, hr, hlk, hK, hZ, hi, hz, rfl⟩ := h
  intro H locs ls hP hS hl
  exact lv_icmp_le hx hb hd ht (fun q => kt q H locs ls hP hS hl) (fun q => kf q H locs ls hP hS hl)
theorem s_goto (h : gSim l D cs L ad Z d own cc nL ret G Rt) {off : Int} {tgt : Nat} (hd : decode cc pc = .ok (.goto off, 3)) (ht : (pc : Int) + off = (tgt : Int)) (k : G tgt lv st S) : G pc lv st S := by
  obtain ⟨p, e, s, m, args, below, meth, c, hx, hb, hml, ho, hts, hr, hlk, hK, hZ, hi, hz, rfl⟩ := h
  intro H locs ls hP hS hl
  exact lv_goto hx hb hd ht (k H locs ls hP hS hl)
/-- a computed number gets a name -/
theorem s_topi {x : Int32} (k : ∀ y : Int32, y = x → G pc lv (.int y :: st) S) : G pc lv (.int x :: st) S := k x rfl
theorem s_topl {x : Int64} (k : ∀ y : Int64, y = x → G pc lv (.long y :: st) S) : G pc lv (.long x :: st) S := k x rfl
theorem s_weak (h : gSim l D cs L ad Z d own cc nL ret G Rt) (hl : gle lv2 lv) (k : G pc lv2 st S) : G pc lv st S := by
  obtain ⟨p, e, s, m, args, below, meth, c, hx, hb, hml, ho, hts, hr, hlk, hK, hZ, hi, hz, rfl⟩ := h
  intro H locs ls hP hS hl2
  exact k H locs ls hP hS (hl2.le hl)
theorem s_tabIn (h : gSim l D cs L ad Z d own cc nL ret G Rt) {dflt lo hi off : Int} {offs : Array Int} {len tgt : Nat} {x v : Int32} (hd : decode cc pc = .ok (.tableswitch dflt lo hi offs, len)) (hx0 : x = v) (hc : ¬ v.toInt < lo ∧ ¬ hi < v.toInt ∧ offs[(v.toInt - lo).toNat]? = some off ∧ (pc : Int) + off = (tgt : Int)) (k : G tgt lv st S) : G pc lv (.int x :: st) S := by
  subst hx0
  obtain ⟨p, e, s, m, args, below, meth, c, hx, hb, hml, ho, hts, hr, hlk, hK, hZ, hi, hz, rfl⟩ := h
  intro H locs ls hP hS hl
  exact lv_tableIn hx hb hd hc.1 hc.2.1 hc.2.2.1 hc.2.2.2 (k H locs ls hP hS hl)
theorem s_tabOut (h : gSim l D cs L ad Z d own cc nL ret G Rt) {dflt lo hi : Int} {offs : Array Int} {len tgt : Nat} {x : Int32} (hd : decode cc pc = .ok (.tableswitch dflt lo hi offs, len)) (hc : x.toInt < lo ∨ hi < x.toInt) (ht : (pc : Int) + dflt = (tgt : Int)) (k : G tgt lv st S) : G pc lv (.int x :: st) S := by
  obtain ⟨p, e, s, m, args, below, meth, c, hx, hb, hml, ho, hts, hr, hlk, hK, hZ, hi, hz, rfl⟩ := h
  intro H locs ls hP hS hl
  exact lv_tableOut hx hb hd hc ht (k H locs ls hP hS hl)
theorem s_look (h : gSim l D cs L ad Z d own cc nL ret G Rt) {dflt off : Int} {ps : Array (Int × Int)} {len tgt : Nat} {x : Int32} (hd : decode cc pc = .ok (.lookupswitch dflt ps, len)) (hp : (ps.toList.zip (ps.toList.drop 1)).all (fun (a, next) => a.1 < next.1) = true) (ho : Op.lookupswitch.offset ps.toList dflt x.toInt = off) (ht : (pc : Int) + off = (tgt : Int)) (k : G tgt lv st S) : G pc lv (.int x :: st) S := by
  have ho2 := ho
  obtain ⟨p, e, s, m, args, below, meth, c, hx, hb, hml, ho, hts, hr, hlk, hK, hZ, hi, hz, rfl⟩ := h
  intro H locs ls hP hS hl
  exact lv_lookup hx hb hd hp ho2 ht (k H locs ls hP hS hl)
theorem s_iret (h : gSim l D cs L ad Z d own cc nL (some .int) G Rt) {x : Int32} (hd : decode cc pc = .ok (.ireturn, 1)) (k : Rt (some (.int x)) S) : G pc lv [.int x] S := by
  obtain ⟨p, e, s, m, args, below, meth, c, hx, hb, hml, ho, hts, hr, hlk, hK, hZ, hi, hz, rfl⟩ := h
  intro H locs ls hP hS hl
  exact W.iret hx hb hr (fun t ht hW => ⟨⟨_, S, rfl, k, by rw [ht]; exact hP⟩, hS.F ht⟩) hS.2.2 hd
theorem s_zret (h : gSim l D cs L ad Z d own cc nL (some .boolean) G Rt) {x : Int32} (hd : decode cc pc = .ok (.ireturn, 1)) (hv : narrow .boolean (.int x) = .int x) (k : Rt (some (.int x)) S) : G pc lv [.int x] S := by
  obtain ⟨p, e, s, m, args, below, meth, c, hx, hb, hml, ho, hts, hr, hlk, hK, hZ, hi, hz, rfl⟩ := h
  intro H locs ls hP hS hl
  exact W.zret hx hb hr hv (fun t ht hW => ⟨⟨_, S, rfl, k, by rw [ht]; exact hP⟩, hS.F ht⟩) hS.2.2 hd
theorem s_vret (h : gSim l D cs L ad Z d own cc nL none G Rt) (hd : decode cc pc = .ok (.return_, 1)) (k : Rt none S) : G pc lv [] S := by
  obtain ⟨p, e, s, m, args, below, meth, c, hx, hb, hml, ho, hts, hr, hlk, hK, hZ, hi, hz, rfl⟩ := h
  intro H locs ls hP hS hl
  exact W.vret hx hb hr (fun t ht hW => ⟨⟨_, S, rfl, k, by rw [ht]; exact hP⟩, hS.F ht⟩) hS.2.2 hd
theorem s_aret {C : String} (h : gSim l D cs L ad Z d own cc nL (some (.object C)) G Rt) {a : Nat} (hd : decode cc pc = .ok (.areturn, 1)) (k : Rt (some (.ref a)) S) : G pc lv [.ref a] S := by
  obtain ⟨p, e, s, m, args, below, meth, c, hx, hb, hml, ho, hts, hr, hlk, hK, hZ, hi, hz, rfl⟩ := h
  intro H locs ls hP hS hl
  exact W.aret hx hb hr (Or.inl ⟨C, rfl⟩) (Or.inr ⟨a, rfl⟩) (fun t ht hW => ⟨⟨_, S, rfl, k, by rw [ht]; exact hP⟩, hS.F ht⟩) hS.2.2 hd
theorem gc1 {k : Nat} (h : L.2.1 k = 1) : gcell L cs ad S k = .inl (cs.1, L.2.2.1 k, .inl (S.2.1 k)) := by simp only [gcell, h]
theorem gc2 {k : Nat} (h : L.2.1 k = 2) : gcell L cs ad S k = .inl (cs.2.1, L.2.2.1 k, .inl (S.2.1 k)) := by simp only [gcell, h]
theorem gc3 {k : Nat} (h : L.2.1 k = 3) : gcell L cs ad S k = .inl (cs.2.2, L.2.2.1 k, .inr (.inr (.inr (.inr (fun i => if i < L.2.2.1 k then some (ad (L.2.2.2.2 k + i)) else none))))) := by simp only [gcell, h]
theorem gc0 {k : Nat} (h : L.2.1 k = 0) : gcell L cs ad S k = .inr ((L.2.2.2.1 k).1, (L.2.2.2.1 k).2.map (gfv ad S)) := by simp only [gcell, h]
theorem gcf {g : Nat → Int32} {f : Nat → Nat → Int32} {w : Int64} {k j : Nat} {a : Nat → Int32} (hj : j ≠ k) : gcell L cs ad (g, va_up f k a, w) j = gcell L cs ad (g, f, w) j := by
  have e : (va_up f k a) j = f j := by simp [va_up, hj]
  have e2 : gfv ad (g, va_up f k a, w) = gfv ad (g, f, w) := by funext d; simp only [gfv]
  simp only [gcell, e, e2]
theorem gcn {g g2 : Nat → Int32} {f : Nat → Nat → Int32} {w w2 : Int64} {k : Nat} (h : ¬ L.2.1 k = 0) : gcell L cs ad (g, f, w) k = gcell L cs ad (g2, f, w2) k := by
  simp only [gcell]
  generalize L.2.1 k = t at h ⊢
  match t, h with
  | 0, h => exact absurd rfl h
  | 1, _ => rfl
  | 2, _ => rfl
  | t + 3, _ => rfl
/-- an index into the int array k -/
def gia (L : gL) (k : Nat) (i : Int32) : Prop := k < L.1 ∧ L.2.1 k = 1 ∧ vp_in i (L.2.2.1 k)
def giz (L : gL) (k : Nat) (i : Int32) : Prop := k < L.1 ∧ L.2.1 k = 2 ∧ vp_in i (L.2.2.1 k)
theorem s_iald (h : gSim l D cs L ad Z d own cc nL ret G Rt) {g : Nat → Int32} {f : Nat → Nat → Int32} {w : Int64} {a : Nat} {i : Int32} (hd : decode cc pc = .ok (.iaload, 1)) (hc : gia L a i) (hn : pc + 1 = n) (k : G n lv (.int (f a i.toNatClampNeg) :: st) (g, f, w)) : G pc lv (.int i :: .ref (ad a) :: st) (g, f, w) := by
  subst hn
  obtain ⟨p, e, s, m, args, below, meth, c, hx, hb, hml, ho, hts, hr, hlk, hK, hZ, hi, hz, rfl⟩ := h
  intro H locs ls hP hS hl
  exact va_iald hx hb hK hP a 0 ((gW_at hc.1).trans (by rw [gc1 hc.2.1])) rfl hc.2.2 hd (k H locs ls hP hS hl)
theorem s_zald (h : gSim l D cs L ad Z d own cc nL ret G Rt) {g : Nat → Int32} {f : Nat → Nat → Int32} {w : Int64} {a : Nat} {i : Int32} (hd : decode cc pc = .ok (.baload, 1)) (hc : giz L a i) (hn : pc + 1 = n) (k : G n lv (.int (f a i.toNatClampNeg) :: st) (g, f, w)) : G pc lv (.int i :: .ref (ad a) :: st) (g, f, w) := by
  subst hn
  obtain ⟨p, e, s, m, args, below, meth, c, hx, hb, hml, ho, hts, hr, hlk, hK, hZ, hi, hz, rfl⟩ := h
  intro H locs ls hP hS hl
  exact va_zald hx hb hK hP a 1 ((gW_at hc.1).trans (by rw [gc2 hc.2.1])) rfl hc.2.2 hd (k H locs ls hP hS hl)
theorem s_iast (h : gSim l D cs L ad Z d own cc nL ret G Rt) {g : Nat → Int32} {f : Nat → Nat → Int32} {w : Int64} {a : Nat} {i x : Int32} (hd : decode cc pc = .ok (.iastore, 1)) (hc : gia L a i) (hn : pc + 1 = n) (k : G n lv st (g, va_up f a (upd (f a) i.toNatClampNeg x), w)) : G pc lv (.int x :: .int i :: .ref (ad a) :: st) (g, f, w) := by
  subst hn
  obtain ⟨p, e, s, m, args, below, meth, c, hx, hb, hml, ho, hts, hr, hlk, hK, hZ, hi, hz, rfl⟩ := h
  intro H locs ls hP hS hl
  refine va_iast hx hb hK hP (gW_D _ hi) hS a 0 ((gW_at hc.1).trans (by rw [gc1 hc.2.1])) rfl hc.2.2 hd (fun H1 locs1 hP1 hD1 hS1 => ?_)
  rw [gW_set (S' := (g, va_up f a (upd (f a) i.toNatClampNeg x), w)) (by rw [gc1 hc.2.1]; simp [va_up]) (fun j _ hj => gcf hj)] at hP1
  exact k H1 locs1 ls hP1 hS1 hl
theorem s_zast (h : gSim l D cs L ad Z d own cc nL ret G Rt) {g : Nat → Int32} {f : Nat → Nat → Int32} {w : Int64} {a : Nat} {i x : Int32} (hd : decode cc pc = .ok (.bastore, 1)) (hc : giz L a i) (hx0 : vp_nar .boolean x = x) (hn : pc + 1 = n) (k : G n lv st (g, va_up f a (upd (f a) i.toNatClampNeg x), w)) : G pc lv (.int x :: .int i :: .ref (ad a) :: st) (g, f, w) := by
  subst hn
  obtain ⟨p, e, s, m, args, below, meth, c, hx, hb, hml, ho, hts, hr, hlk, hK, hZ, hi, hz, rfl⟩ := h
  intro H locs ls hP hS hl
  refine va_zast hx hb hK hP (gW_D _ hi) hS a 1 ((gW_at hc.1).trans (by rw [gc2 hc.2.1])) rfl hc.2.2 hd (fun H1 locs1 hP1 hD1 hS1 => ?_)
  rw [hx0, gW_set (S' := (g, va_up f a (upd (f a) i.toNatClampNeg x), w)) (by rw [gc2 hc.2.1]; simp [va_up]) (fun j _ hj => gcf hj)] at hP1
  exact k H1 locs1 ls hP1 hS1 hl
theorem s_aald (h : gSim l D cs L ad Z d own cc nL ret G Rt) {a : Nat} {i : Int32} (hd : decode cc pc = .ok (.aaload, 1)) (hc : a < L.1 ∧ L.2.1 a = 3) (hin : vp_in i (L.2.2.1 a)) (hn : pc + 1 = n) (k : G n lv (.ref (ad (L.2.2.2.2 a + i.toNatClampNeg)) :: st) S) : G pc lv (.int i :: .ref (ad a) :: st) S := by
  subst hn
  obtain ⟨p, e, s, m, args, below, meth, c, hx, hb, hml, ho, hts, hr, hlk, hK, hZ, hi, hz, rfl⟩ := h
  intro H locs ls hP hS hl
  have hlt : i.toNatClampNeg < L.2.2.1 a := Nat.not_le.mp fun q => hin (Or.inr q)
  have ha := hP a _ ((gW_at hc.1).trans (by rw [gc3 hc.2]))
  exact W.aald (v := .ref (ad (L.2.2.2.2 a + i.toNatClampNeg))) (ty := .array .int) hx hb ha ((hK.2 2 _ rfl).1 (L.2.2.1 a) (fun j => va_rf (if j < L.2.2.1 a then some (ad (L.2.2.2.2 a + j)) else none))) rfl (fun q => by cases q) (by show ¬ (i < 0 ∨ (arrV _ _ _).slots.size ≤ _); rw [arrV_size]; exact hin) (by show (arrV _ _ _).slots[_]? = _; rw [arrV_read _ _ hlt]; show some (va_rf (if i.toNatClampNeg < L.2.2.1 a then _ else _)) = _; rw [if_pos hlt]; rfl) rfl rfl hd (k H locs ls hP hS hl)
theorem s_ialen (h : gSim l D cs L ad Z d own cc nL ret G Rt) {a : Nat} {v : Int32} (hd : decode cc pc = .ok (.arraylength, 1)) (hc : a < L.1 ∧ L.2.1 a = 1) (hv : Int32.ofNat (L.2.2.1 a) = v) (hn : pc + 1 = n) (k : G n lv (.int v :: st) S) : G pc lv (.ref (ad a) :: st) S := by
  subst hn
  obtain ⟨p, e, s, m, args, below, meth, c, hx, hb, hml, ho, hts, hr, hlk, hK, hZ, hi, hz, rfl⟩ := h
  intro H locs ls hP hS hl
  exact va_alen hx hb hK hP a 0 ((gW_at hc.1).trans (by rw [gc1 hc.2])) rfl hv hd (k H locs ls hP hS hl)
theorem s_get (h : gSim l D cs L ad Z d own cc nL ret G Rt) {C : String} {T : u_T} {N a j idx : Nat} {ds : Nat × Nat} {v : Value} (hc : a < L.1 ∧ L.2.1 a = 0 ∧ gcl[(L.2.2.2.1 a).1]? = some (C, T, N) ∧ (L.2.2.2.1 a).2[j]? = some ds ∧ j < N) (hin : ∀ w ∈ u_ws C T N, w ∈ TT) (hw : Cond.fieldLink own idx (T j).1 (T j).2.1 (T j).2.2.1 ∈ TT) (hv : gfv ad S ds = v) (hd : decode cc pc = .ok (.getfield idx, 3)) (hn : pc + 3 = n) (k : G n lv (v :: st) S) : G pc lv (.ref (ad a) :: st) S := by
  subst hn
  obtain ⟨p, e, s, m, args, below, meth, c, hx, hb, hml, ho, hts, hr, hlk, hK, hZ, hi, hz, rfl⟩ := h
  intro H locs ls hP hS hl
  obtain ⟨c1, c2, c3, c4, c5⟩ := hc
  exact va_get hx hb hts hin ho hK hP a ((gW_at c1).trans (by rw [gc0 c2])) c3 j c5 (hts _ hw) (fun _ h9 => h9) (by rw [List.getElem?_map, c4, ← hv]; rfl) hd (k H locs ls hP hS hl)
/-- no other field shows the number id -/
def gun (L : gL) (a j id : Nat) : Bool := (List.range L.1).all (fun b => !(L.2.1 b == 0) || (L.2.2.2.1 b).2.zipIdx.all (fun q => !((q.1.1 == 0 || q.1.1 == 2) && q.1.2 == id) || (b == a && q.2 == j)))
theorem gun_at {a j id b i : Nat} {q : Nat × Nat} (h : gun L a j id = true) (hb : b < L.1) (hk : L.2.1 b = 0) (hq : (L.2.2.2.1 b).2[i]? = some q) (h0 : (q.1 = 0 ∨ q.1 = 2) ∧ q.2 = id) : b = a ∧ i = j := by
  have h1 := List.all_eq_true.mp h b (List.mem_range.mpr hb)
  simp only [hk, beq_self_eq_true, Bool.not_true, Bool.false_or] at h1
  have h2 := List.all_eq_true.mp h1 (q, i) (List.mem_of_getElem? (i := i) (by rw [List.getElem?_zipIdx, hq]; simp))
  obtain ⟨h3, h4⟩ := h0
  rcases h3 with h3 | h3 <;> simp [h3, h4] at h2 <;> exact h2
theorem gfv_up {g : Nat → Int32} {f : Nat → Nat → Int32} {w : Int64} {id : Nat} {x : Int32} {q : Nat × Nat} (h : ¬ ((q.1 = 0 ∨ q.1 = 2) ∧ q.2 = id)) : gfv ad (va_up g id x, f, w) q = gfv ad (g, f, w) q := by
  obtain ⟨q1, q2⟩ := q
  match q1, h with
  | 0, h => simp only [gfv]; rw [show va_up g id x q2 = g q2 from if_neg (fun e => h ⟨Or.inl rfl, e⟩)]
  | 1, h => rfl
  | 2, h => simp only [gfv]; rw [show va_up g id x q2 = g q2 from if_neg (fun e => h ⟨Or.inr rfl, e⟩)]
  | q + 3, h => rfl
theorem gcg {g : Nat → Int32} {f : Nat → Nat → Int32} {w : Int64} {a j id b : Nat} {x : Int32} (h : gun L a j id = true) (hb : b < L.1) (hne : b ≠ a) : gcell L cs ad (va_up g id x, f, w) b = gcell L cs ad (g, f, w) b := by
  by_cases hk : L.2.1 b = 0
  · rw [gc0 hk, gc0 hk]
    congr 2
    apply List.map_congr_left
    intro q hq
    obtain ⟨i, hi⟩ := List.getElem?_of_mem hq
    exact gfv_up (fun h0 => hne (gun_at h hb hk hi h0).1)
  · exact gcn hk
theorem gcs {g : Nat → Int32} {f : Nat → Nat → Int32} {w : Int64} {a j id t : Nat} {x : Int32} (h : gun L a j id = true) (ha : a < L.1) (hk : L.2.1 a = 0) (hj : (L.2.2.2.1 a).2[j]? = some (t, id)) : gcell L cs ad (va_up g id x, f, w) a = .inr ((L.2.2.2.1 a).1, ((L.2.2.2.1 a).2.map (gfv ad (g, f, w))).set j (gfv ad (va_up g id x, f, w) (t, id))) := by
  rw [gc0 hk]
  congr 2
  apply List.ext_getElem?
  intro i
  have hl : j < ((L.2.2.2.1 a).2.map (gfv ad (g, f, w))).length := by
    rw [List.length_map]; exact (List.getElem?_eq_some_iff.mp hj).1
  by_cases e : i = j
  · subst e
    rw [List.getElem?_set_self hl, List.getElem?_map, hj]; rfl
  · rw [List.getElem?_set_ne (Ne.symm e), List.getElem?_map, List.getElem?_map]
    cases hq : (L.2.2.2.1 a).2[i]? with
    | none => rfl
    | some q =>
      simp only [Option.map_some]
      rw [gfv_up (fun h0 => e (gun_at h ha hk hq h0).2)]
theorem s_put (h : gSim l D cs L ad Z d own cc nL ret G Rt) {g : Nat → Int32} {f : Nat → Nat → Int32} {w : Int64} {C : String} {T : u_T} {N a j idx id t : Nat} {v : Value} {x : Int32} {ty : Nat → FieldType} (hc : a < L.1 ∧ L.2.1 a = 0 ∧ gcl[(L.2.2.2.1 a).1]? = some (C, T, N) ∧ (L.2.2.2.1 a).2[j]? = some (t, id) ∧ j < N ∧ (T j).2.2.2 = false) (hu : gun L a j id = true) (hin : ∀ w ∈ u_ws C T N, w ∈ TT) (hty : ∀ k, k < N → parseFieldDescriptor (T k).2.2.1 = some (ty k)) (hnm : ∀ a, a < N → ∀ b, b < N → a ≠ b → (T a).2.1 ≠ (T b).2.1) (hw : Cond.fieldLink own idx (T j).1 (T j).2.1 (T j).2.2.1 ∈ TT) (hv : gfv ad (va_up g id x, f, w) (t, id) = v) (hnr : narrow (ty j) v = v ∧ fits (ty j) v = true) (hd : decode cc pc = .ok (.putfield idx, 3)) (hn : pc + 3 = n) (k : G n lv st (va_up g id x, f, w)) : G pc lv (v :: .ref (ad a) :: st) (g, f, w) := by
  subst hn
  obtain ⟨p, e, s, m, args, below, meth, c, hx, hb, hml, ho, hts, hr, hlk, hK, hZ, hi, hz, rfl⟩ := h
  intro H locs ls hP hS hl
  obtain ⟨c1, c2, c3, c4, c5, c6⟩ := hc
  refine va_put hx hb hts hin ty hty hnm ho hK hP (gW_D _ hi) hS a ((gW_at c1).trans (by rw [gc0 c2])) c3 j c5 (hts _ hw) (fun _ h9 => h9) c6 (hty j c5) hnr.1 hnr.2 (by rw [List.length_map]; exact (List.getElem?_eq_some_iff.mp c4).1) hd (fun H1 locs1 hP1 hD1 hS1 => ?_)
  rw [gW_set (S' := (va_up g id x, f, w)) (by rw [gcs hu c1 c2 c4, hv]) (fun b hb2 hne => gcg hu hb2 hne)] at hP1
  exact k H1 locs1 ls hP1 hS1 hl
def gunl (L : gL) (a j : Nat) : Bool := (List.range L.1).all (fun b => !(L.2.1 b == 0) || (L.2.2.2.1 b).2.zipIdx.all (fun q => Nat.ble q.1.1 2 || (b == a && q.2 == j)))
theorem gunl_at {a j b i : Nat} {q : Nat × Nat} (h : gunl L a j = true) (hb : b < L.1) (hk : L.2.1 b = 0) (hq : (L.2.2.2.1 b).2[i]? = some q) (h0 : ¬ q.1 ≤ 2) : b = a ∧ i = j := by
  have h1 := List.all_eq_true.mp h b (List.mem_range.mpr hb)
  simp only [hk, beq_self_eq_true, Bool.not_true, Bool.false_or] at h1
  have h2 := List.all_eq_true.mp h1 (q, i) (List.mem_of_getElem? (i := i) (by rw [List.getElem?_zipIdx, hq]; simp))
  simp only [Bool.or_eq_true] at h2
  rcases h2 with h2 | h2
  · exact absurd (Nat.le_of_ble_eq_true h2) h0
  · simpa using h2
theorem gfv_w {g : Nat → Int32} {f : Nat → Nat → Int32} {w w2 : Int64} {q : Nat × Nat} (h : q.1 ≤ 2) : gfv ad (g, f, w2) q = gfv ad (g, f, w) q := by
  obtain ⟨q1, q2⟩ := q
  match q1, h with
  | 0, h => rfl
  | 1, h => rfl
  | 2, h => rfl
  | q + 3, h => simp at h
theorem s_putl (h : gSim l D cs L ad Z d own cc nL ret G Rt) {g : Nat → Int32} {f : Nat → Nat → Int32} {w x : Int64} {C : String} {T : u_T} {N a j idx id : Nat} {ty : Nat → FieldType} (hc : a < L.1 ∧ L.2.1 a = 0 ∧ gcl[(L.2.2.2.1 a).1]? = some (C, T, N) ∧ (L.2.2.2.1 a).2[j]? = some (3, id) ∧ j < N ∧ (T j).2.2.2 = false) (hu : gunl L a j = true) (hin : ∀ w ∈ u_ws C T N, w ∈ TT) (hty : ∀ k, k < N → parseFieldDescriptor (T k).2.2.1 = some (ty k)) (hnm : ∀ a, a < N → ∀ b, b < N → a ≠ b → (T a).2.1 ≠ (T b).2.1) (hw : Cond.fieldLink own idx (T j).1 (T j).2.1 (T j).2.2.1 ∈ TT) (hnr : ty j = .long) (hd : decode cc pc = .ok (.putfield idx, 3)) (hn : pc + 3 = n) (k : G n lv st (g, f, x)) : G pc lv (.long x :: .ref (ad a) :: st) (g, f, w) := by
  subst hn
  obtain ⟨p, e, s, m, args, below, meth, c, hx, hb, hml, ho, hts, hr, hlk, hK, hZ, hi, hz, rfl⟩ := h
  intro H locs ls hP hS hl
  obtain ⟨c1, c2, c3, c4, c5, c6⟩ := hc
  refine va_put hx hb hts hin ty hty hnm ho hK hP (gW_D _ hi) hS a ((gW_at c1).trans (by rw [gc0 c2])) c3 j c5 (hts _ hw) (fun _ h9 => h9) c6 (hty j c5) (by rw [hnr]; rfl) (by rw [hnr]; rfl) (by rw [List.length_map]; exact (List.getElem?_eq_some_iff.mp c4).1) hd (fun H1 locs1 hP1 hD1 hS1 => ?_)
  rw [gW_set (S' := (g, f, x)) ?_ ?_] at hP1
  · exact k H1 locs1 ls hP1 hS1 hl
  · rw [gc0 c2]
    congr 2
    apply List.ext_getElem?
    intro i
    have hl : j < ((L.2.2.2.1 a).2.map (gfv ad (g, f, w))).length := by
      rw [List.length_map]; exact (List.getElem?_eq_some_iff.mp c4).1
    by_cases e : i = j
    · subst e
      rw [List.getElem?_set_self hl, List.getElem?_map, c4]; rfl
    · rw [List.getElem?_set_ne (Ne.symm e), List.getElem?_map, List.getElem?_map]
      cases hq : (L.2.2.2.1 a).2[i]? with
      | none => rfl
      | some q =>
        simp only [Option.map_some]
        by_cases h2 : q.1 ≤ 2
        · rw [gfv_w h2]
        · exact absurd (gunl_at hu c1 c2 hq h2).2 e
  · intro b hb2 hne
    by_cases hk : L.2.1 b = 0
    · rw [gc0 hk, gc0 hk]
      congr 2
      apply List.map_congr_left
      intro q hq
      obtain ⟨i, hi⟩ := List.getElem?_of_mem hq
      by_cases h2 : q.1 ≤ 2
      · exact gfv_w h2
      · exact absurd (gunl_at hu hb2 hk hi h2).1 hne
    · exact gcn hk
theorem gTT {y : MethodName} {b : ByteArray} {mL : Nat} {rt : Option FieldType} (h : Cond.code y b mL rt ∈ TT) : GoodIn TT (Cond.code y b mL rt :: TT) := fun w hw => by
  rcases List.mem_cons.mp hw with rfl | hw
  · exact ⟨h, good_of_word (TT_good h)⟩
  · exact ⟨hw, good_of_word (TT_good hw)⟩
/-- what a callee's name needs -/
def gCe (y : MethodName) (b : ByteArray) (mL k : Nat) (rt : Option FieldType) : Prop := Cond.code y b mL rt ∈ TT ∧ Cond.initialized y.cls ∈ TT ∧ mL ≤ 40 ∧ (y.cls ≠ "java/lang/invoke/MethodHandle" ∧ y.cls ≠ "java/lang/invoke/VarHandle" ∧ (parseMethodDescriptor y.desc).map (fun d => d.parameters.length) = some k)
theorem gBlind {av : List Value} (hz : gZok (gA L ad) Z) : FrameBlind (gPre D cs L ad Z av S) := fun a U g mk q => by
  obtain ⟨q0, qP, qK, qZ⟩ := q
  exact ⟨q0, qP, va_K.moved (u := U) (U := U.calling g mk a) (Vm.Alike.refl U.vm) qK, hz.1 U _ rfl rfl qZ⟩
theorem gRun {p : Program} {e : Env} {R : Room} {s : State} {m : MethodId} {args : Array Value} {below : List Frame} {meth : Method} {c : Code} {H : Heap} {locs : List Loc} {Qf : State → Prop} {ls : Array Slot} {rest st0 : List Value} {a : Array Value} {Q : Option Value → gSt → Prop}
    (hr : va_Run p l e R s m args below meth c H locs 0 0 0 0 (F0 m pc ls st0) rest (gPost D cs L ad Q a) (gA L ad)) (hS : va_S (gA L ad) s.heap H locs)
    (kk : ∀ (v : Option Value) (S' : gSt) (H1 : Heap) (locs1 : List Loc), Q v S' → va_P D gcl (gW L cs ad S') H1 → va_S (gA L ad) s.heap H1 locs1 → W p l e R s m args below meth c H1 locs1 0 0 Qf (F0 m (pc + 3) ls (v.toList ++ rest))) : W p l e R s m args below meth c H locs 0 0 Qf (F0 m pc ls st0) := by
  intro T hT X
  obtain ⟨v, st₀, t, T', Lc, h0, X', hL, e1, e2, ⟨⟨v', S', hv, hq, hp⟩, hz, hk⟩, st⟩ := hr T hT X
  cases hv
  rw [h0] at hz hk
  obtain ⟨t2, a1, b1⟩ := kk v S' T'.heap (locs ++ Lc) hq (by rw [e1]; exact hp)
    ⟨Nat.le_trans hS.1 (by rw [e1]; exact hz), fun q h1 h2 => by rw [e1, hk q (Nat.lt_of_lt_of_le h1 hS.1) h2]; exact hS.2.1 q h1 h2, fun q hq => by
      rcases List.mem_append.mp hq with h | h
      · exact hS.2.2 q h
      · exact hL q h⟩ T' rfl X'
  exact ⟨t2, st t2 a1, b1⟩
theorem s_callV (h : gSim l D cs L ad Z d own cc nL ret G Rt) {y : MethodName} {b : ByteArray} {mL d2 idx na : Nat} {rt : Option FieldType} {o : Nat} {As st0 : List Value} {Q : Option Value → gSt → Prop} {T : u_T} {N : Nat} (hm : gCT l D cs L ad Z d2 y b mL rt (.ref (ad o) :: As) S Q) (hce : gCe y b mL na rt ∧ Cond.instanceMethod y ∈ TT ∧ Cond.selects y.cls y y ∈ TT) (hw : Cond.methodLink own idx y ∈ TT) (ho2 : o < L.1 ∧ L.2.1 o = 0 ∧ gcl[(L.2.2.2.1 o).1]? = some (y.cls, T, N)) (hst : st0 = As.reverse ++ .ref (ad o) :: st) (hk : As.length = na ∧ (st.map fun v => v.category).sum ≤ 8 ∧ d2 < d) (hd : decode cc pc = .ok (.invokevirtual idx, 3)) (hn : pc + 3 = n) (k : ∀ (v : Option Value) (S' : gSt), Q v S' → G n lv (v.toList ++ st) S') : G pc lv st0 S := by
  subst hn
  obtain ⟨p, e, s, m, args, below, meth, c, hx, hb, hml, ho, hts, hr, hlk, hK, hZ, hi, hz, rfl⟩ := h
  intro H locs ls hP hS hl
  obtain ⟨⟨c1, c2, c3, c4⟩, c5, c6⟩ := hce
  have cb : CallB (gRm d) s args own idx y b mL rt (Cond.code y b mL rt :: TT) (gRm d2) 0 0 na := callB_of na hts (gTT c1) rfl rfl rfl (hts _ c2) (hts _ hw) c4 ⟨hk.2.2, by show 8 + (mL + 11) + 60 * d2 ≤ 60 * d; omega⟩
  refine gRun (va_runV (As := As) (rest := st) ⟨hx, hb, hml, ho, hts⟩ hm ⟨cb, hts _ c5, hts _ c6⟩ ⟨gBlind hz, va_recv hK hP ho2.2.2 ((gW_at ho2.1).trans (by rw [gc0 ho2.2.1])), fun U hU hW => ⟨rfl, by rw [hU]; exact hP, va_K.moved hW.alike hK, hz.2 s U hW (fun q h1 h2 => by rw [hU]; exact hS.2.1 q h1 h2) hZ⟩⟩ rfl hk.1 hl.1 hst (by show 2 * 0 + _ ≤ 8; omega) hd ⟨Nat.zero_le _, Nat.zero_le _⟩) hS (fun v S' H1 locs1 hq hp1 hs1 => k v S' hq H1 locs1 ls hp1 hs1 hl)
theorem s_callS (h : gSim l D cs L ad Z d own cc nL ret G Rt) {y : MethodName} {b : ByteArray} {mL d2 idx na : Nat} {rt : Option FieldType} {As st0 : List Value} {Q : Option Value → gSt → Prop} (hm : gCT l D cs L ad Z d2 y b mL rt As S Q) (hce : gCe y b mL na rt ∧ Cond.static y ∈ TT) (hw : Cond.methodLink own idx y ∈ TT) (hst : st0 = As.reverse ++ st) (hk : As.length = na ∧ (st.map fun v => v.category).sum ≤ 8 ∧ d2 < d) (hd : decode cc pc = .ok (.invokestatic idx, 3)) (hn : pc + 3 = n) (k : ∀ (v : Option Value) (S' : gSt), Q v S' → G n lv (v.toList ++ st) S') : G pc lv st0 S := by
  subst hn
  obtain ⟨p, e, s, m, args, below, meth, c, hx, hb, hml, ho, hts, hr, hlk, hK, hZ, hi, hz, rfl⟩ := h
  intro H locs ls hP hS hl
  obtain ⟨⟨c1, c2, c3, c4⟩, c5⟩ := hce
  have cb : CallB (gRm d) s args own idx y b mL rt (Cond.code y b mL rt :: TT) (gRm d2) 0 0 na := callB_of na hts (gTT c1) rfl rfl rfl (hts _ c2) (hts _ hw) c4 ⟨hk.2.2, by show 8 + (mL + 11) + 60 * d2 ≤ 60 * d; omega⟩
  refine gRun (va_runS (As := As) (rest := st) ⟨hx, hb, hml, ho, hts⟩ hm ⟨cb, hts _ c5⟩ ⟨gBlind hz, fun U hU hW => ⟨rfl, by rw [hU]; exact hP, va_K.moved hW.alike hK, hz.2 s U hW (fun q h1 h2 => by rw [hU]; exact hS.2.1 q h1 h2) hZ⟩⟩ rfl hk.1 hl.1 hst (by show 2 * 0 + _ ≤ 8; omega) hd ⟨Nat.zero_le _, Nat.zero_le _⟩) hS (fun v S' H1 locs1 hq hp1 hs1 => k v S' hq H1 locs1 ls hp1 hs1 hl)
theorem s_callSN (h : gSim l D cs L ad Z d own cc nL ret G Rt) {y : MethodName} {b : ByteArray} {mL d2 idx na : Nat} {host : String} {rt : Option FieldType} {As st0 : List Value} {Q : Option Value → gSt → Prop} (hm : gCT l D cs L ad Z d2 y b mL rt As S Q) (hce : gCe y b mL na rt ∧ Cond.static y ∈ TT) (hw : ∀ U, Z U → va_Nw (.methodLinkNest own idx y host) U) (hst : st0 = As.reverse ++ st) (hk : As.length = na ∧ (st.map fun v => v.category).sum ≤ 8 ∧ d2 < d) (hd : decode cc pc = .ok (.invokestatic idx, 3)) (hn : pc + 3 = n) (k : ∀ (v : Option Value) (S' : gSt), Q v S' → G n lv (v.toList ++ st) S') : G pc lv st0 S := by
  subst hn
  obtain ⟨p, e, s, m, args, below, meth, c, hx, hb, hml, ho, hts, hr, hlk, hK, hZ, hi, hz, rfl⟩ := h
  intro H locs ls hP hS hl
  obtain ⟨⟨c1, c2, c3, c4⟩, c5⟩ := hce
  refine gRun (va_runSN (As := As) (rest := st) (host := host) ⟨hx, hb, hml, ho, hts⟩ hm ⟨va_cnB na hts (gTT c1) rfl rfl rfl (hw s hZ) (hts _ c2) c4 ⟨hk.2.2, by show 8 + (mL + 11) + 60 * d2 ≤ 60 * d; omega⟩, hts _ c5, trivial⟩ ⟨gBlind hz, fun U hU hW => ⟨rfl, by rw [hU]; exact hP, va_K.moved hW.alike hK, hz.2 s U hW (fun q h1 h2 => by rw [hU]; exact hS.2.1 q h1 h2) hZ⟩⟩ rfl hk.1 hl.1 hst (by show 2 * 0 + _ ≤ 8; omega) hd ⟨Nat.zero_le _, Nat.zero_le _⟩) hS (fun v S' H1 locs1 hq hp1 hs1 => k v S' hq H1 locs1 ls hp1 hs1 hl)
theorem s_gets (h : gSim l D cs L ad Z d own cc nL ret G Rt) {C nm ds : String} {v : Value} {idx : Nat} {host : String} (hz0 : ∀ U, Z U → va_Z C nm ds v (gA L ad) U U.heap ∧ va_Nw (.fieldLinkNest own idx C nm ds host) U) (hd : decode cc pc = .ok (.getstatic idx, 3)) (hn : pc + 3 = n) (k : G n lv (v :: st) S) : G pc lv st S := by
  subst hn
  obtain ⟨p, e, s, m, args, below, meth, c, hx, hb, hml, ho, hts, hr, hlk, hK, hZ, hi, hz, rfl⟩ := h
  intro H locs ls hP hS hl
  exact va_getsN hx hb (hz0 s hZ).1 hS ho (va_Nw.use rfl (hz0 s hZ).2) (fun _ h9 => h9) hd (k H locs ls hP hS hl)
theorem s_tald (h : gSim l D cs L ad Z d own cc nL ret G Rt) {t N : Nat} {i : Int32} {tb : Nat → Int32} (hz0 : ∀ U, Z U → va_T .int t N (fun j => .int (tb j)) (gA L ad) U U.heap) (hd : decode cc pc = .ok (.iaload, 1)) (hin : vp_in i N) (hn : pc + 1 = n) (k : G n lv (.int (tb i.toNatClampNeg) :: st) S) : G pc lv (.int i :: .ref t :: st) S := by
  subst hn
  obtain ⟨p, e, s, m, args, below, meth, c, hx, hb, hml, ho, hts, hr, hlk, hK, hZ, hi, hz, rfl⟩ := h
  intro H locs ls hP hS hl
  exact va_ti hx hb (hz0 s hZ) hS hin rfl hd (k H locs ls hP hS hl)
end GROWS
