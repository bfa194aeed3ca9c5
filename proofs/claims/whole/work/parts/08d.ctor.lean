def mkX2 (cs : gCs) (h0 : Nat) (u : List Nat) : va_W := [(h0, .inr (2, [.ref (u.getD 0 0), .int 8, .int 8, .int 0])), ((u.getD 0 0), .inl (cs.1, 144, .inl (fun _ => 0)))]
theorem kX2 {l : Launch} {D : va_G} {cs : gCs} {h0 : Nat} : nCT l D cs (fun _ => True) 1 yX2_init cX2_init 1 h0 2 [.null, .int 0, .int 0, .int 0] [] 1 144 (mkX2 cs h0) := by
  refine met_new (lv0 := [some (.ref h0)]) nZ_true (by decide) rfl (Nat.le_of_ble_eq_true rfl) rfl (fun G Rt hG hR => ?_)
  replace hG : nSim l D cs (fun _ => True) 1 1 144 RX2 cX2_init 1 h0 2 G Rt := hG
  refine n_aload_n (n := 1) hG dX2_init_0 rfl rfl ?_
  refine n_objinit (n := 4) hG (TT_1 35 (by decide +kernel) rfl) dX2_init_1 (by decide) rfl ?_
  refine n_aload_n (n := 5) hG dX2_init_4 rfl rfl ?_
  refine n_sipush (n := 8) hG dX2_init_5 ks_144 rfl ?_
  refine n_newI (n := 10) (N := 144) hG dX2_init_8 ⟨by decide, by decide, by decide⟩ ⟨by decide, by decide⟩ rfl (fun q8 => ?_)
  refine n_put (n := 13) (C := RX2) (T := TX2) (N := 4) (j := 0) (fs2 := [.ref q8, .int 0, .int 0, .int 0]) (ty := tyX2) hG ⟨rfl, by decide, rfl, Nat.le_of_ble_eq_true rfl⟩ inX2 tyX2_ok nmX2 lfX2_9 ⟨rfl, rfl⟩ dX2_init_10 rfl rfl ?_
  refine n_aload_n (n := 14) hG dX2_init_13 rfl rfl ?_
  refine n_bipush (n := 16) hG dX2_init_14 kb_8 rfl ?_
  refine n_put (n := 19) (C := RX2) (T := TX2) (N := 4) (j := 1) (fs2 := [.ref q8, .int 8, .int 0, .int 0]) (ty := tyX2) hG ⟨rfl, by decide, rfl, Nat.le_of_ble_eq_true rfl⟩ inX2 tyX2_ok nmX2 lfX2_15 ⟨rfl, rfl⟩ dX2_init_16 rfl rfl ?_
  refine n_aload_n (n := 20) hG dX2_init_19 rfl rfl ?_
  refine n_bipush (n := 22) hG dX2_init_20 kb_8 rfl ?_
  refine n_put (n := 25) (C := RX2) (T := TX2) (N := 4) (j := 2) (fs2 := [.ref q8, .int 8, .int 8, .int 0]) (ty := tyX2) hG ⟨rfl, by decide, rfl, Nat.le_of_ble_eq_true rfl⟩ inX2 tyX2_ok nmX2 lfX2_19 ⟨rfl, rfl⟩ dX2_init_22 rfl rfl ?_
  refine n_aload_n (n := 26) hG dX2_init_25 rfl rfl ?_
  refine n_iconst (n := 27) hG dX2_init_26 ki_0 rfl ?_
  refine n_put (n := 30) (C := RX2) (T := TX2) (N := 4) (j := 3) (fs2 := [.ref q8, .int 8, .int 8, .int 0]) (ty := tyX2) hG ⟨rfl, by decide, rfl, Nat.le_of_ble_eq_true rfl⟩ inX2 tyX2_ok nmX2 lfX2_22 ⟨rfl, rfl⟩ dX2_init_27 rfl rfl ?_
  exact n_ret hG dX2_init_30 (hR [q8])
def mkX1 (cs : gCs) (h0 : Nat) (a1 : Nat) (u : List Nat) : va_W := [(h0, .inr (1, [.ref a1, .ref (u.getD 0 0), .ref (u.getD 1 0), .ref (u.getD 2 0), .int 0, .int 0, .int (-1)])), ((u.getD 0 0), .inl (cs.1, 144, .inl (fun _ => 0))), ((u.getD 1 0), .inl (cs.2.1, 144, .inl (fun _ => 0))), ((u.getD 2 0), .inl (cs.1, 144, .inl (fun _ => 0)))]
theorem kX1 {l : Launch} {D : va_G} {cs : gCs} {h0 : Nat} {a1 : Nat} : nCT l D cs (fun _ => True) 1 yX1_init cX1_init 2 h0 1 [.null, .null, .null, .null, .int 0, .int 0, .int 0] [.ref a1] 3 432 (mkX1 cs h0 a1) := by
  refine met_new (lv0 := [some (.ref h0), some (.ref a1)]) nZ_true (by decide) rfl (Nat.le_of_ble_eq_true rfl) rfl (fun G Rt hG hR => ?_)
  replace hG : nSim l D cs (fun _ => True) 1 3 432 RX1 cX1_init 2 h0 1 G Rt := hG
  refine n_aload_n (n := 1) hG dX1_init_0 rfl rfl ?_
  refine n_objinit (n := 4) hG (TT_1 55 (by decide +kernel) rfl) dX1_init_1 (by decide) rfl ?_
  refine n_aload_n (n := 5) hG dX1_init_4 rfl rfl ?_
  refine n_sipush (n := 8) hG dX1_init_5 ks_144 rfl ?_
  refine n_newI (n := 10) (N := 144) hG dX1_init_8 ⟨by decide, by decide, by decide⟩ ⟨by decide, by decide⟩ rfl (fun q8 => ?_)
  refine n_put (n := 13) (C := RX1) (T := TX1) (N := 7) (j := 1) (fs2 := [.null, .ref q8, .null, .null, .int 0, .int 0, .int 0]) (ty := tyX1) hG ⟨rfl, by decide, rfl, Nat.le_of_ble_eq_true rfl⟩ inX1 tyX1_ok nmX1 lfX1_9 ⟨rfl, rfl⟩ dX1_init_10 rfl rfl ?_
  refine n_aload_n (n := 14) hG dX1_init_13 rfl rfl ?_
  refine n_sipush (n := 17) hG dX1_init_14 ks_144 rfl ?_
  refine n_newZ (n := 19) (N := 144) hG dX1_init_17 ⟨by decide, by decide, by decide⟩ ⟨by decide, by decide⟩ rfl (fun q17 => ?_)
  refine n_put (n := 22) (C := RX1) (T := TX1) (N := 7) (j := 2) (fs2 := [.null, .ref q8, .ref q17, .null, .int 0, .int 0, .int 0]) (ty := tyX1) hG ⟨rfl, by decide, rfl, Nat.le_of_ble_eq_true rfl⟩ inX1 tyX1_ok nmX1 lfX1_15 ⟨rfl, rfl⟩ dX1_init_19 rfl rfl ?_
  refine n_aload_n (n := 23) hG dX1_init_22 rfl rfl ?_
  refine n_sipush (n := 26) hG dX1_init_23 ks_144 rfl ?_
  refine n_newI (n := 28) (N := 144) hG dX1_init_26 ⟨by decide, by decide, by decide⟩ ⟨by decide, by decide⟩ rfl (fun q26 => ?_)
  refine n_put (n := 31) (C := RX1) (T := TX1) (N := 7) (j := 3) (fs2 := [.null, .ref q8, .ref q17, .ref q26, .int 0, .int 0, .int 0]) (ty := tyX1) hG ⟨rfl, by decide, rfl, Nat.le_of_ble_eq_true rfl⟩ inX1 tyX1_ok nmX1 lfX1_19 ⟨rfl, rfl⟩ dX1_init_28 rfl rfl ?_
  refine n_aload_n (n := 32) hG dX1_init_31 rfl rfl ?_
  refine n_iconst (n := 33) hG dX1_init_32 ki_0 rfl ?_
  refine n_put (n := 36) (C := RX1) (T := TX1) (N := 7) (j := 4) (fs2 := [.null, .ref q8, .ref q17, .ref q26, .int 0, .int 0, .int 0]) (ty := tyX1) hG ⟨rfl, by decide, rfl, Nat.le_of_ble_eq_true rfl⟩ inX1 tyX1_ok nmX1 lfX1_22 ⟨rfl, rfl⟩ dX1_init_33 rfl rfl ?_
  refine n_aload_n (n := 37) hG dX1_init_36 rfl rfl ?_
  refine n_iconst (n := 38) hG dX1_init_37 ki_0 rfl ?_
  refine n_put (n := 41) (C := RX1) (T := TX1) (N := 7) (j := 5) (fs2 := [.null, .ref q8, .ref q17, .ref q26, .int 0, .int 0, .int 0]) (ty := tyX1) hG ⟨rfl, by decide, rfl, Nat.le_of_ble_eq_true rfl⟩ inX1 tyX1_ok nmX1 lfX1_26 ⟨rfl, rfl⟩ dX1_init_38 rfl rfl ?_
  refine n_aload_n (n := 42) hG dX1_init_41 rfl rfl ?_
  refine n_iconst (n := 43) hG dX1_init_42 ki_m1 rfl ?_
  refine n_put (n := 46) (C := RX1) (T := TX1) (N := 7) (j := 6) (fs2 := [.null, .ref q8, .ref q17, .ref q26, .int 0, .int 0, .int (-1)]) (ty := tyX1) hG ⟨rfl, by decide, rfl, Nat.le_of_ble_eq_true rfl⟩ inX1 tyX1_ok nmX1 lfX1_29 ⟨rfl, rfl⟩ dX1_init_43 rfl rfl ?_
  refine n_aload_n (n := 47) hG dX1_init_46 rfl rfl ?_
  refine n_aload_n (n := 48) hG dX1_init_47 rfl rfl ?_
  refine n_put (n := 51) (C := RX1) (T := TX1) (N := 7) (j := 0) (fs2 := [.ref a1, .ref q8, .ref q17, .ref q26, .int 0, .int 0, .int (-1)]) (ty := tyX1) hG ⟨rfl, by decide, rfl, Nat.le_of_ble_eq_true rfl⟩ inX1 tyX1_ok nmX1 lfX1_32 ⟨rfl, rfl⟩ dX1_init_48 rfl rfl ?_
  exact n_ret hG dX1_init_51 (hR [q8, q17, q26])
def mkX8 (cs : gCs) (h0 : Nat) (a1 : Nat) (u : List Nat) : va_W := [(h0, .inr (8, [.ref a1, .ref (u.getD 0 0), .ref (u.getD 1 0), .ref (u.getD 2 0), .int 0, .int 0, .int (-1)])), ((u.getD 0 0), .inl (cs.1, 32, .inl (fun _ => 0))), ((u.getD 1 0), .inl (cs.1, 8, .inl (fun _ => 0))), ((u.getD 2 0), .inl (cs.1, 8, .inl (fun _ => 0)))]
theorem kX8 {l : Launch} {D : va_G} {cs : gCs} {h0 : Nat} {a1 : Nat} : nCT l D cs (fun _ => True) 1 yX8_init cX8_init 2 h0 8 [.null, .null, .null, .null, .int 0, .int 0, .int 0] [.ref a1] 3 48 (mkX8 cs h0 a1) := by
  refine met_new (lv0 := [some (.ref h0), some (.ref a1)]) nZ_true (by decide) rfl (Nat.le_of_ble_eq_true rfl) rfl (fun G Rt hG hR => ?_)
  replace hG : nSim l D cs (fun _ => True) 1 3 48 RX8 cX8_init 2 h0 8 G Rt := hG
  refine n_aload_n (n := 1) hG dX8_init_0 rfl rfl ?_
  refine n_objinit (n := 4) hG (TT_1 84 (by decide +kernel) rfl) dX8_init_1 (by decide) rfl ?_
  refine n_aload_n (n := 5) hG dX8_init_4 rfl rfl ?_
  refine n_bipush (n := 7) hG dX8_init_5 kb_32 rfl ?_
  refine n_newI (n := 9) (N := 32) hG dX8_init_7 ⟨by decide, by decide, by decide⟩ ⟨by decide, by decide⟩ rfl (fun q7 => ?_)
  refine n_put (n := 12) (C := RX8) (T := TX8) (N := 7) (j := 1) (fs2 := [.null, .ref q7, .null, .null, .int 0, .int 0, .int 0]) (ty := tyX8) hG ⟨rfl, by decide, rfl, Nat.le_of_ble_eq_true rfl⟩ inX8 tyX8_ok nmX8 lfX8_9 ⟨rfl, rfl⟩ dX8_init_9 rfl rfl ?_
  refine n_aload_n (n := 13) hG dX8_init_12 rfl rfl ?_
  refine n_bipush (n := 15) hG dX8_init_13 kb_8 rfl ?_
  refine n_newI (n := 17) (N := 8) hG dX8_init_15 ⟨by decide, by decide, by decide⟩ ⟨by decide, by decide⟩ rfl (fun q15 => ?_)
  refine n_put (n := 20) (C := RX8) (T := TX8) (N := 7) (j := 2) (fs2 := [.null, .ref q7, .ref q15, .null, .int 0, .int 0, .int 0]) (ty := tyX8) hG ⟨rfl, by decide, rfl, Nat.le_of_ble_eq_true rfl⟩ inX8 tyX8_ok nmX8 lfX8_15 ⟨rfl, rfl⟩ dX8_init_17 rfl rfl ?_
  refine n_aload_n (n := 21) hG dX8_init_20 rfl rfl ?_
  refine n_bipush (n := 23) hG dX8_init_21 kb_8 rfl ?_
  refine n_newI (n := 25) (N := 8) hG dX8_init_23 ⟨by decide, by decide, by decide⟩ ⟨by decide, by decide⟩ rfl (fun q23 => ?_)
  refine n_put (n := 28) (C := RX8) (T := TX8) (N := 7) (j := 3) (fs2 := [.null, .ref q7, .ref q15, .ref q23, .int 0, .int 0, .int 0]) (ty := tyX8) hG ⟨rfl, by decide, rfl, Nat.le_of_ble_eq_true rfl⟩ inX8 tyX8_ok nmX8 lfX8_18 ⟨rfl, rfl⟩ dX8_init_25 rfl rfl ?_
  refine n_aload_n (n := 29) hG dX8_init_28 rfl rfl ?_
  refine n_iconst (n := 30) hG dX8_init_29 ki_0 rfl ?_
  refine n_put (n := 33) (C := RX8) (T := TX8) (N := 7) (j := 4) (fs2 := [.null, .ref q7, .ref q15, .ref q23, .int 0, .int 0, .int 0]) (ty := tyX8) hG ⟨rfl, by decide, rfl, Nat.le_of_ble_eq_true rfl⟩ inX8 tyX8_ok nmX8 lfX8_21 ⟨rfl, rfl⟩ dX8_init_30 rfl rfl ?_
  refine n_aload_n (n := 34) hG dX8_init_33 rfl rfl ?_
  refine n_iconst (n := 35) hG dX8_init_34 ki_0 rfl ?_
  refine n_put (n := 38) (C := RX8) (T := TX8) (N := 7) (j := 5) (fs2 := [.null, .ref q7, .ref q15, .ref q23, .int 0, .int 0, .int 0]) (ty := tyX8) hG ⟨rfl, by decide, rfl, Nat.le_of_ble_eq_true rfl⟩ inX8 tyX8_ok nmX8 lfX8_25 ⟨rfl, rfl⟩ dX8_init_35 rfl rfl ?_
  refine n_aload_n (n := 39) hG dX8_init_38 rfl rfl ?_
  refine n_iconst (n := 40) hG dX8_init_39 ki_m1 rfl ?_
  refine n_put (n := 43) (C := RX8) (T := TX8) (N := 7) (j := 6) (fs2 := [.null, .ref q7, .ref q15, .ref q23, .int 0, .int 0, .int (-1)]) (ty := tyX8) hG ⟨rfl, by decide, rfl, Nat.le_of_ble_eq_true rfl⟩ inX8 tyX8_ok nmX8 lfX8_28 ⟨rfl, rfl⟩ dX8_init_40 rfl rfl ?_
  refine n_aload_n (n := 44) hG dX8_init_43 rfl rfl ?_
  refine n_aload_n (n := 45) hG dX8_init_44 rfl rfl ?_
  refine n_put (n := 48) (C := RX8) (T := TX8) (N := 7) (j := 0) (fs2 := [.ref a1, .ref q7, .ref q15, .ref q23, .int 0, .int 0, .int (-1)]) (ty := tyX8) hG ⟨rfl, by decide, rfl, Nat.le_of_ble_eq_true rfl⟩ inX8 tyX8_ok nmX8 lfX8_31 ⟨rfl, rfl⟩ dX8_init_45 rfl rfl ?_
  exact n_ret hG dX8_init_48 (hR [q7, q15, q23])
def mkX4 (cs : gCs) (h0 : Nat) (u : List Nat) : va_W := [(h0, .inr (4, [.ref (u.getD 0 0), .ref (u.getD 1 0), .ref (u.getD 2 0), .ref (u.getD 3 0), .int 0])), ((u.getD 0 0), .inl (cs.1, 6, .inl (fun _ => 0))), ((u.getD 1 0), .inl (cs.1, 6, .inl (fun _ => 0))), ((u.getD 2 0), .inl (cs.1, 6, .inl (fun _ => 0))), ((u.getD 3 0), .inl (cs.1, 6, .inl (fun _ => 0)))]
theorem kX4 {l : Launch} {D : va_G} {cs : gCs} {h0 : Nat} : nCT l D cs (fun _ => True) 1 yX4_init cX4_init 1 h0 4 [.null, .null, .null, .null, .int 0] [] 4 24 (mkX4 cs h0) := by
  refine met_new (lv0 := [some (.ref h0)]) nZ_true (by decide) rfl (Nat.le_of_ble_eq_true rfl) rfl (fun G Rt hG hR => ?_)
  replace hG : nSim l D cs (fun _ => True) 1 4 24 RX4 cX4_init 1 h0 4 G Rt := hG
  refine n_aload_n (n := 1) hG dX4_init_0 rfl rfl ?_
  refine n_objinit (n := 4) hG (TT_1 112 (by decide +kernel) rfl) dX4_init_1 (by decide) rfl ?_
  refine n_aload_n (n := 5) hG dX4_init_4 rfl rfl ?_
  refine n_bipush (n := 7) hG dX4_init_5 kb_6 rfl ?_
  refine n_newI (n := 9) (N := 6) hG dX4_init_7 ⟨by decide, by decide, by decide⟩ ⟨by decide, by decide⟩ rfl (fun q7 => ?_)
  refine n_put (n := 12) (C := RX4) (T := TX4) (N := 5) (j := 0) (fs2 := [.ref q7, .null, .null, .null, .int 0]) (ty := tyX4) hG ⟨rfl, by decide, rfl, Nat.le_of_ble_eq_true rfl⟩ inX4 tyX4_ok nmX4 lfX4_9 ⟨rfl, rfl⟩ dX4_init_9 rfl rfl ?_
  refine n_aload_n (n := 13) hG dX4_init_12 rfl rfl ?_
  refine n_bipush (n := 15) hG dX4_init_13 kb_6 rfl ?_
  refine n_newI (n := 17) (N := 6) hG dX4_init_15 ⟨by decide, by decide, by decide⟩ ⟨by decide, by decide⟩ rfl (fun q15 => ?_)
  refine n_put (n := 20) (C := RX4) (T := TX4) (N := 5) (j := 1) (fs2 := [.ref q7, .ref q15, .null, .null, .int 0]) (ty := tyX4) hG ⟨rfl, by decide, rfl, Nat.le_of_ble_eq_true rfl⟩ inX4 tyX4_ok nmX4 lfX4_15 ⟨rfl, rfl⟩ dX4_init_17 rfl rfl ?_
  refine n_aload_n (n := 21) hG dX4_init_20 rfl rfl ?_
  refine n_bipush (n := 23) hG dX4_init_21 kb_6 rfl ?_
  refine n_newI (n := 25) (N := 6) hG dX4_init_23 ⟨by decide, by decide, by decide⟩ ⟨by decide, by decide⟩ rfl (fun q23 => ?_)
  refine n_put (n := 28) (C := RX4) (T := TX4) (N := 5) (j := 2) (fs2 := [.ref q7, .ref q15, .ref q23, .null, .int 0]) (ty := tyX4) hG ⟨rfl, by decide, rfl, Nat.le_of_ble_eq_true rfl⟩ inX4 tyX4_ok nmX4 lfX4_18 ⟨rfl, rfl⟩ dX4_init_25 rfl rfl ?_
  refine n_aload_n (n := 29) hG dX4_init_28 rfl rfl ?_
  refine n_bipush (n := 31) hG dX4_init_29 kb_6 rfl ?_
  refine n_newI (n := 33) (N := 6) hG dX4_init_31 ⟨by decide, by decide, by decide⟩ ⟨by decide, by decide⟩ rfl (fun q31 => ?_)
  refine n_put (n := 36) (C := RX4) (T := TX4) (N := 5) (j := 3) (fs2 := [.ref q7, .ref q15, .ref q23, .ref q31, .int 0]) (ty := tyX4) hG ⟨rfl, by decide, rfl, Nat.le_of_ble_eq_true rfl⟩ inX4 tyX4_ok nmX4 lfX4_21 ⟨rfl, rfl⟩ dX4_init_33 rfl rfl ?_
  refine n_aload_n (n := 37) hG dX4_init_36 rfl rfl ?_
  refine n_iconst (n := 38) hG dX4_init_37 ki_0 rfl ?_
  refine n_put (n := 41) (C := RX4) (T := TX4) (N := 5) (j := 4) (fs2 := [.ref q7, .ref q15, .ref q23, .ref q31, .int 0]) (ty := tyX4) hG ⟨rfl, by decide, rfl, Nat.le_of_ble_eq_true rfl⟩ inX4 tyX4_ok nmX4 lfX4_24 ⟨rfl, rfl⟩ dX4_init_38 rfl rfl ?_
  exact n_ret hG dX4_init_41 (hR [q7, q15, q23, q31])
def mkX0 (cs : gCs) (h0 : Nat) (a1 : Nat) (u : List Nat) : va_W := [(h0, .inr (0, [.ref a1, .ref (u.getD 0 0)])), ((u.getD 0 0), .inl (cs.1, 6, .inl (fun _ => 0)))]
theorem kX0 {l : Launch} {D : va_G} {cs : gCs} {h0 : Nat} {a1 : Nat} : nCT l D cs (fun _ => True) 1 yX0_init cX0_init 2 h0 0 [.null, .null] [.ref a1] 1 6 (mkX0 cs h0 a1) := by
  refine met_new (lv0 := [some (.ref h0), some (.ref a1)]) nZ_true (by decide) rfl (Nat.le_of_ble_eq_true rfl) rfl (fun G Rt hG hR => ?_)
  replace hG : nSim l D cs (fun _ => True) 1 1 6 RX0 cX0_init 2 h0 0 G Rt := hG
  refine n_aload_n (n := 1) hG dX0_init_0 rfl rfl ?_
  refine n_objinit (n := 4) hG (TT_1 134 (by decide +kernel) rfl) dX0_init_1 (by decide) rfl ?_
  refine n_aload_n (n := 5) hG dX0_init_4 rfl rfl ?_
  refine n_bipush (n := 7) hG dX0_init_5 kb_6 rfl ?_
  refine n_newI (n := 9) (N := 6) hG dX0_init_7 ⟨by decide, by decide, by decide⟩ ⟨by decide, by decide⟩ rfl (fun q7 => ?_)
  refine n_put (n := 12) (C := RX0) (T := TX0) (N := 2) (j := 1) (fs2 := [.null, .ref q7]) (ty := tyX0) hG ⟨rfl, by decide, rfl, Nat.le_of_ble_eq_true rfl⟩ inX0 tyX0_ok nmX0 lfX0_9 ⟨rfl, rfl⟩ dX0_init_9 rfl rfl ?_
  refine n_aload_n (n := 13) hG dX0_init_12 rfl rfl ?_
  refine n_aload_n (n := 14) hG dX0_init_13 rfl rfl ?_
  refine n_put (n := 17) (C := RX0) (T := TX0) (N := 2) (j := 0) (fs2 := [.ref a1, .ref q7]) (ty := tyX0) hG ⟨rfl, by decide, rfl, Nat.le_of_ble_eq_true rfl⟩ inX0 tyX0_ok nmX0 lfX0_15 ⟨rfl, rfl⟩ dX0_init_14 rfl rfl ?_
  exact n_ret hG dX0_init_17 (hR [q7])
def mkX9 (cs : gCs) (h0 : Nat) (u : List Nat) : va_W := [(h0, .inr (9, [.ref (u.getD 0 0), .int 0])), ((u.getD 0 0), .inl (cs.1, 300, .inl (fun _ => 0)))]
theorem kX9 {l : Launch} {D : va_G} {cs : gCs} {h0 : Nat} : nCT l D cs (fun _ => True) 1 yX9_init cX9_init 1 h0 9 [.null, .int 0] [] 1 300 (mkX9 cs h0) := by
  refine met_new (lv0 := [some (.ref h0)]) nZ_true (by decide) rfl (Nat.le_of_ble_eq_true rfl) rfl (fun G Rt hG hR => ?_)
  replace hG : nSim l D cs (fun _ => True) 1 1 300 RX9 cX9_init 1 h0 9 G Rt := hG
  refine n_aload_n (n := 1) hG dX9_init_0 rfl rfl ?_
  refine n_objinit (n := 4) hG (TT_1 147 (by decide +kernel) rfl) dX9_init_1 (by decide) rfl ?_
  refine n_aload_n (n := 5) hG dX9_init_4 rfl rfl ?_
  refine n_sipush (n := 8) hG dX9_init_5 ks_300 rfl ?_
  refine n_newI (n := 10) (N := 300) hG dX9_init_8 ⟨by decide, by decide, by decide⟩ ⟨by decide, by decide⟩ rfl (fun q8 => ?_)
  refine n_put (n := 13) (C := RX9) (T := TX9) (N := 2) (j := 0) (fs2 := [.ref q8, .int 0]) (ty := tyX9) hG ⟨rfl, by decide, rfl, Nat.le_of_ble_eq_true rfl⟩ inX9 tyX9_ok nmX9 lfX9_9 ⟨rfl, rfl⟩ dX9_init_10 rfl rfl ?_
  refine n_aload_n (n := 14) hG dX9_init_13 rfl rfl ?_
  refine n_iconst (n := 15) hG dX9_init_14 ki_0 rfl ?_
  refine n_put (n := 18) (C := RX9) (T := TX9) (N := 2) (j := 1) (fs2 := [.ref q8, .int 0]) (ty := tyX9) hG ⟨rfl, by decide, rfl, Nat.le_of_ble_eq_true rfl⟩ inX9 tyX9_ok nmX9 lfX9_15 ⟨rfl, rfl⟩ dX9_init_15 rfl rfl ?_
  exact n_ret hG dX9_init_18 (hR [q8])
def mkX7 (cs : gCs) (h0 : Nat) (a1 : Nat) (u : List Nat) : va_W := [(h0, .inr (7, [.ref a1, .int 0, .int 0]))]
theorem kX7 {l : Launch} {D : va_G} {cs : gCs} {h0 : Nat} {a1 : Nat} : nCT l D cs (fun _ => True) 1 yX7_init cX7_init 2 h0 7 [.null, .int 0, .int 0] [.ref a1] 0 0 (mkX7 cs h0 a1) := by
  refine met_new (lv0 := [some (.ref h0), some (.ref a1)]) nZ_true (by decide) rfl (Nat.le_of_ble_eq_true rfl) rfl (fun G Rt hG hR => ?_)
  replace hG : nSim l D cs (fun _ => True) 1 0 0 RX7 cX7_init 2 h0 7 G Rt := hG
  refine n_aload_n (n := 1) hG dX7_init_0 rfl rfl ?_
  refine n_objinit (n := 4) hG (TT_1 205 (by decide +kernel) rfl) dX7_init_1 (by decide) rfl ?_
  refine n_aload_n (n := 5) hG dX7_init_4 rfl rfl ?_
  refine n_iconst (n := 6) hG dX7_init_5 ki_0 rfl ?_
  refine n_put (n := 9) (C := RX7) (T := TX7) (N := 3) (j := 1) (fs2 := [.null, .int 0, .int 0]) (ty := tyX7) hG ⟨rfl, by decide, rfl, Nat.le_of_ble_eq_true rfl⟩ inX7 tyX7_ok nmX7 lfX7_9 ⟨rfl, rfl⟩ dX7_init_6 rfl rfl ?_
  refine n_aload_n (n := 10) hG dX7_init_9 rfl rfl ?_
  refine n_iconst (n := 11) hG dX7_init_10 ki_0 rfl ?_
  refine n_put (n := 14) (C := RX7) (T := TX7) (N := 3) (j := 2) (fs2 := [.null, .int 0, .int 0]) (ty := tyX7) hG ⟨rfl, by decide, rfl, Nat.le_of_ble_eq_true rfl⟩ inX7 tyX7_ok nmX7 lfX7_15 ⟨rfl, rfl⟩ dX7_init_11 rfl rfl ?_
  refine n_aload_n (n := 15) hG dX7_init_14 rfl rfl ?_
  refine n_aload_n (n := 16) hG dX7_init_15 rfl rfl ?_
  refine n_put (n := 19) (C := RX7) (T := TX7) (N := 3) (j := 0) (fs2 := [.ref a1, .int 0, .int 0]) (ty := tyX7) hG ⟨rfl, by decide, rfl, Nat.le_of_ble_eq_true rfl⟩ inX7 tyX7_ok nmX7 lfX7_18 ⟨rfl, rfl⟩ dX7_init_16 rfl rfl ?_
  exact n_ret hG dX7_init_19 (hR [])
def mkX3 (cs : gCs) (h0 : Nat) (a1 : Nat) (a2 : Nat) (a3 : Nat) (u : List Nat) : va_W := [(h0, .inr (3, [.ref a1, .ref a2, .ref a3]))]
theorem kX3 {l : Launch} {D : va_G} {cs : gCs} {h0 : Nat} {a1 : Nat} {a2 : Nat} {a3 : Nat} : nCT l D cs (fun _ => True) 1 yX3_init cX3_init 4 h0 3 [.null, .null, .null] [.ref a1, .ref a2, .ref a3] 0 0 (mkX3 cs h0 a1 a2 a3) := by
  refine met_new (lv0 := [some (.ref h0), some (.ref a1), some (.ref a2), some (.ref a3)]) nZ_true (by decide) rfl (Nat.le_of_ble_eq_true rfl) rfl (fun G Rt hG hR => ?_)
  replace hG : nSim l D cs (fun _ => True) 1 0 0 RX3 cX3_init 4 h0 3 G Rt := hG
  refine n_aload_n (n := 1) hG dX3_init_0 rfl rfl ?_
  refine n_objinit (n := 4) hG (TT_1 221 (by decide +kernel) rfl) dX3_init_1 (by decide) rfl ?_
  refine n_aload_n (n := 5) hG dX3_init_4 rfl rfl ?_
  refine n_aload_n (n := 6) hG dX3_init_5 rfl rfl ?_
  refine n_put (n := 9) (C := RX3) (T := TX3) (N := 3) (j := 0) (fs2 := [.ref a1, .null, .null]) (ty := tyX3) hG ⟨rfl, by decide, rfl, Nat.le_of_ble_eq_true rfl⟩ inX3 tyX3_ok nmX3 lfX3_9 ⟨rfl, rfl⟩ dX3_init_6 rfl rfl ?_
  refine n_aload_n (n := 10) hG dX3_init_9 rfl rfl ?_
  refine n_aload_n (n := 11) hG dX3_init_10 rfl rfl ?_
  refine n_put (n := 14) (C := RX3) (T := TX3) (N := 3) (j := 1) (fs2 := [.ref a1, .ref a2, .null]) (ty := tyX3) hG ⟨rfl, by decide, rfl, Nat.le_of_ble_eq_true rfl⟩ inX3 tyX3_ok nmX3 lfX3_15 ⟨rfl, rfl⟩ dX3_init_11 rfl rfl ?_
  refine n_aload_n (n := 15) hG dX3_init_14 rfl rfl ?_
  refine n_aload_n (n := 16) hG dX3_init_15 rfl rfl ?_
  refine n_put (n := 19) (C := RX3) (T := TX3) (N := 3) (j := 2) (fs2 := [.ref a1, .ref a2, .ref a3]) (ty := tyX3) hG ⟨rfl, by decide, rfl, Nat.le_of_ble_eq_true rfl⟩ inX3 tyX3_ok nmX3 lfX3_19 ⟨rfl, rfl⟩ dX3_init_16 rfl rfl ?_
  exact n_ret hG dX3_init_19 (hR [])
def mkX10 (cs : gCs) (h0 : Nat) (u : List Nat) : va_W := [(h0, .inr (10, [.ref (u.getD 0 0), .ref (u.getD 1 0), .ref (u.getD 2 0), .ref (u.getD 3 0), .ref (u.getD 4 0), .ref (u.getD 5 0), .int 0, .int 0])), ((u.getD 0 0), .inl (cs.1, 320, .inl (fun _ => 0))), ((u.getD 1 0), .inl (cs.1, 150, .inl (fun _ => 0))), ((u.getD 2 0), .inl (cs.1, 150, .inl (fun _ => 0))), ((u.getD 3 0), .inl (cs.1, 150, .inl (fun _ => 0))), ((u.getD 4 0), .inl (cs.1, 8, .inl (fun _ => 0))), ((u.getD 5 0), .inl (cs.1, 8, .inl (fun _ => 0)))]
theorem kX10 {l : Launch} {D : va_G} {cs : gCs} {h0 : Nat} : nCT l D cs (fun _ => True) 1 yX10_init cX10_init 1 h0 10 [.null, .null, .null, .null, .null, .null, .int 0, .int 0] [] 6 786 (mkX10 cs h0) := by
  refine met_new (lv0 := [some (.ref h0)]) nZ_true (by decide) rfl (Nat.le_of_ble_eq_true rfl) rfl (fun G Rt hG hR => ?_)
  replace hG : nSim l D cs (fun _ => True) 1 6 786 RX10 cX10_init 1 h0 10 G Rt := hG
  refine n_aload_n (n := 1) hG dX10_init_0 rfl rfl ?_
  refine n_objinit (n := 4) hG (TT_1 237 (by decide +kernel) rfl) dX10_init_1 (by decide) rfl ?_
  refine n_aload_n (n := 5) hG dX10_init_4 rfl rfl ?_
  refine n_sipush (n := 8) hG dX10_init_5 ks_320 rfl ?_
  refine n_newI (n := 10) (N := 320) hG dX10_init_8 ⟨by decide, by decide, by decide⟩ ⟨by decide, by decide⟩ rfl (fun q8 => ?_)
  refine n_put (n := 13) (C := RX10) (T := TX10) (N := 8) (j := 0) (fs2 := [.ref q8, .null, .null, .null, .null, .null, .int 0, .int 0]) (ty := tyX10) hG ⟨rfl, by decide, rfl, Nat.le_of_ble_eq_true rfl⟩ inX10 tyX10_ok nmX10 lfX10_9 ⟨rfl, rfl⟩ dX10_init_10 rfl rfl ?_
  refine n_aload_n (n := 14) hG dX10_init_13 rfl rfl ?_
  refine n_sipush (n := 17) hG dX10_init_14 ks_150 rfl ?_
  refine n_newI (n := 19) (N := 150) hG dX10_init_17 ⟨by decide, by decide, by decide⟩ ⟨by decide, by decide⟩ rfl (fun q17 => ?_)
  refine n_put (n := 22) (C := RX10) (T := TX10) (N := 8) (j := 1) (fs2 := [.ref q8, .ref q17, .null, .null, .null, .null, .int 0, .int 0]) (ty := tyX10) hG ⟨rfl, by decide, rfl, Nat.le_of_ble_eq_true rfl⟩ inX10 tyX10_ok nmX10 lfX10_15 ⟨rfl, rfl⟩ dX10_init_19 rfl rfl ?_
  refine n_aload_n (n := 23) hG dX10_init_22 rfl rfl ?_
  refine n_sipush (n := 26) hG dX10_init_23 ks_150 rfl ?_
  refine n_newI (n := 28) (N := 150) hG dX10_init_26 ⟨by decide, by decide, by decide⟩ ⟨by decide, by decide⟩ rfl (fun q26 => ?_)
  refine n_put (n := 31) (C := RX10) (T := TX10) (N := 8) (j := 2) (fs2 := [.ref q8, .ref q17, .ref q26, .null, .null, .null, .int 0, .int 0]) (ty := tyX10) hG ⟨rfl, by decide, rfl, Nat.le_of_ble_eq_true rfl⟩ inX10 tyX10_ok nmX10 lfX10_18 ⟨rfl, rfl⟩ dX10_init_28 rfl rfl ?_
  refine n_aload_n (n := 32) hG dX10_init_31 rfl rfl ?_
  refine n_sipush (n := 35) hG dX10_init_32 ks_150 rfl ?_
  refine n_newI (n := 37) (N := 150) hG dX10_init_35 ⟨by decide, by decide, by decide⟩ ⟨by decide, by decide⟩ rfl (fun q35 => ?_)
  refine n_put (n := 40) (C := RX10) (T := TX10) (N := 8) (j := 3) (fs2 := [.ref q8, .ref q17, .ref q26, .ref q35, .null, .null, .int 0, .int 0]) (ty := tyX10) hG ⟨rfl, by decide, rfl, Nat.le_of_ble_eq_true rfl⟩ inX10 tyX10_ok nmX10 lfX10_21 ⟨rfl, rfl⟩ dX10_init_37 rfl rfl ?_
  refine n_aload_n (n := 41) hG dX10_init_40 rfl rfl ?_
  refine n_bipush (n := 43) hG dX10_init_41 kb_8 rfl ?_
  refine n_newI (n := 45) (N := 8) hG dX10_init_43 ⟨by decide, by decide, by decide⟩ ⟨by decide, by decide⟩ rfl (fun q43 => ?_)
  refine n_put (n := 48) (C := RX10) (T := TX10) (N := 8) (j := 4) (fs2 := [.ref q8, .ref q17, .ref q26, .ref q35, .ref q43, .null, .int 0, .int 0]) (ty := tyX10) hG ⟨rfl, by decide, rfl, Nat.le_of_ble_eq_true rfl⟩ inX10 tyX10_ok nmX10 lfX10_24 ⟨rfl, rfl⟩ dX10_init_45 rfl rfl ?_
  refine n_aload_n (n := 49) hG dX10_init_48 rfl rfl ?_
  refine n_bipush (n := 51) hG dX10_init_49 kb_8 rfl ?_
  refine n_newI (n := 53) (N := 8) hG dX10_init_51 ⟨by decide, by decide, by decide⟩ ⟨by decide, by decide⟩ rfl (fun q51 => ?_)
  refine n_put (n := 56) (C := RX10) (T := TX10) (N := 8) (j := 5) (fs2 := [.ref q8, .ref q17, .ref q26, .ref q35, .ref q43, .ref q51, .int 0, .int 0]) (ty := tyX10) hG ⟨rfl, by decide, rfl, Nat.le_of_ble_eq_true rfl⟩ inX10 tyX10_ok nmX10 lfX10_27 ⟨rfl, rfl⟩ dX10_init_53 rfl rfl ?_
  refine n_aload_n (n := 57) hG dX10_init_56 rfl rfl ?_
  refine n_iconst (n := 58) hG dX10_init_57 ki_0 rfl ?_
  refine n_put (n := 61) (C := RX10) (T := TX10) (N := 8) (j := 6) (fs2 := [.ref q8, .ref q17, .ref q26, .ref q35, .ref q43, .ref q51, .int 0, .int 0]) (ty := tyX10) hG ⟨rfl, by decide, rfl, Nat.le_of_ble_eq_true rfl⟩ inX10 tyX10_ok nmX10 lfX10_30 ⟨rfl, rfl⟩ dX10_init_58 rfl rfl ?_
  refine n_aload_n (n := 62) hG dX10_init_61 rfl rfl ?_
  refine n_iconst (n := 63) hG dX10_init_62 ki_0 rfl ?_
  refine n_put (n := 66) (C := RX10) (T := TX10) (N := 8) (j := 7) (fs2 := [.ref q8, .ref q17, .ref q26, .ref q35, .ref q43, .ref q51, .int 0, .int 0]) (ty := tyX10) hG ⟨rfl, by decide, rfl, Nat.le_of_ble_eq_true rfl⟩ inX10 tyX10_ok nmX10 lfX10_34 ⟨rfl, rfl⟩ dX10_init_63 rfl rfl ?_
  exact n_ret hG dX10_init_66 (hR [q8, q17, q26, q35, q43, q51])
def mkX6 (cs : gCs) (h0 : Nat) (u : List Nat) : va_W := [(h0, .inr (6, [.ref (u.getD 0 0), .ref (u.getD 1 0), .ref (u.getD 2 0), .int 0])), ((u.getD 0 0), .inl (cs.1, 20, .inl (fun _ => 0))), ((u.getD 1 0), .inl (cs.1, 20, .inl (fun _ => 0))), ((u.getD 2 0), .inl (cs.1, 20, .inl (fun _ => 0)))]
theorem kX6 {l : Launch} {D : va_G} {cs : gCs} {h0 : Nat} : nCT l D cs (fun _ => True) 1 yX6_init cX6_init 1 h0 6 [.null, .null, .null, .int 0] [] 3 60 (mkX6 cs h0) := by
  refine met_new (lv0 := [some (.ref h0)]) nZ_true (by decide) rfl (Nat.le_of_ble_eq_true rfl) rfl (fun G Rt hG hR => ?_)
  replace hG : nSim l D cs (fun _ => True) 1 3 60 RX6 cX6_init 1 h0 6 G Rt := hG
  refine n_aload_n (n := 1) hG dX6_init_0 rfl rfl ?_
  refine n_objinit (n := 4) hG (TT_2 28 (by decide +kernel) rfl) dX6_init_1 (by decide) rfl ?_
  refine n_aload_n (n := 5) hG dX6_init_4 rfl rfl ?_
  refine n_bipush (n := 7) hG dX6_init_5 kb_20 rfl ?_
  refine n_newI (n := 9) (N := 20) hG dX6_init_7 ⟨by decide, by decide, by decide⟩ ⟨by decide, by decide⟩ rfl (fun q7 => ?_)
  refine n_put (n := 12) (C := RX6) (T := TX6) (N := 4) (j := 0) (fs2 := [.ref q7, .null, .null, .int 0]) (ty := tyX6) hG ⟨rfl, by decide, rfl, Nat.le_of_ble_eq_true rfl⟩ inX6 tyX6_ok nmX6 lfX6_9 ⟨rfl, rfl⟩ dX6_init_9 rfl rfl ?_
  refine n_aload_n (n := 13) hG dX6_init_12 rfl rfl ?_
  refine n_bipush (n := 15) hG dX6_init_13 kb_20 rfl ?_
  refine n_newI (n := 17) (N := 20) hG dX6_init_15 ⟨by decide, by decide, by decide⟩ ⟨by decide, by decide⟩ rfl (fun q15 => ?_)
  refine n_put (n := 20) (C := RX6) (T := TX6) (N := 4) (j := 1) (fs2 := [.ref q7, .ref q15, .null, .int 0]) (ty := tyX6) hG ⟨rfl, by decide, rfl, Nat.le_of_ble_eq_true rfl⟩ inX6 tyX6_ok nmX6 lfX6_15 ⟨rfl, rfl⟩ dX6_init_17 rfl rfl ?_
  refine n_aload_n (n := 21) hG dX6_init_20 rfl rfl ?_
  refine n_bipush (n := 23) hG dX6_init_21 kb_20 rfl ?_
  refine n_newI (n := 25) (N := 20) hG dX6_init_23 ⟨by decide, by decide, by decide⟩ ⟨by decide, by decide⟩ rfl (fun q23 => ?_)
  refine n_put (n := 28) (C := RX6) (T := TX6) (N := 4) (j := 2) (fs2 := [.ref q7, .ref q15, .ref q23, .int 0]) (ty := tyX6) hG ⟨rfl, by decide, rfl, Nat.le_of_ble_eq_true rfl⟩ inX6 tyX6_ok nmX6 lfX6_18 ⟨rfl, rfl⟩ dX6_init_25 rfl rfl ?_
  refine n_aload_n (n := 29) hG dX6_init_28 rfl rfl ?_
  refine n_iconst (n := 30) hG dX6_init_29 ki_0 rfl ?_
  refine n_put (n := 33) (C := RX6) (T := TX6) (N := 4) (j := 3) (fs2 := [.ref q7, .ref q15, .ref q23, .int 0]) (ty := tyX6) hG ⟨rfl, by decide, rfl, Nat.le_of_ble_eq_true rfl⟩ inX6 tyX6_ok nmX6 lfX6_21 ⟨rfl, rfl⟩ dX6_init_30 rfl rfl ?_
  exact n_ret hG dX6_init_33 (hR [q7, q15, q23])
def mkX5 (cs : gCs) (h0 : Nat) (a1 : Nat) (u : List Nat) : va_W := [(h0, .inr (5, [.ref a1, .ref (u.getD 0 0), .ref (u.getD 5 0), .ref (u.getD 10 0), .ref (u.getD 15 0), .ref (u.getD 16 0), .ref (u.getD 17 0), .ref (u.getD 18 0), .int 1, .int 0, .int 0, .int 0])), ((u.getD 0 0), .inl (cs.2.2, 4, .inr (.inr (.inr (.inr (nrow [(u.getD 1 0), (u.getD 2 0), (u.getD 3 0), (u.getD 4 0)])))))), ((u.getD 1 0), .inl (cs.1, 6, .inl (fun _ => 0))), ((u.getD 2 0), .inl (cs.1, 6, .inl (fun _ => 0))), ((u.getD 3 0), .inl (cs.1, 6, .inl (fun _ => 0))), ((u.getD 4 0), .inl (cs.1, 6, .inl (fun _ => 0))), ((u.getD 5 0), .inl (cs.2.2, 4, .inr (.inr (.inr (.inr (nrow [(u.getD 6 0), (u.getD 7 0), (u.getD 8 0), (u.getD 9 0)])))))), ((u.getD 6 0), .inl (cs.1, 287, .inl (fun _ => 0))), ((u.getD 7 0), .inl (cs.1, 287, .inl (fun _ => 0))), ((u.getD 8 0), .inl (cs.1, 287, .inl (fun _ => 0))), ((u.getD 9 0), .inl (cs.1, 287, .inl (fun _ => 0))), ((u.getD 10 0), .inl (cs.2.2, 4, .inr (.inr (.inr (.inr (nrow [(u.getD 11 0), (u.getD 12 0), (u.getD 13 0), (u.getD 14 0)])))))), ((u.getD 11 0), .inl (cs.1, 7, .inl (fun _ => 0))), ((u.getD 12 0), .inl (cs.1, 7, .inl (fun _ => 0))), ((u.getD 13 0), .inl (cs.1, 7, .inl (fun _ => 0))), ((u.getD 14 0), .inl (cs.1, 7, .inl (fun _ => 0))), ((u.getD 15 0), .inl (cs.1, 4, .inl (fun _ => 0))), ((u.getD 16 0), .inl (cs.1, 7, .inl (fun _ => 0))), ((u.getD 17 0), .inl (cs.1, 6, .inl (fun _ => 0))), ((u.getD 18 0), .inl (cs.1, 6, .inl (fun _ => 0)))]
theorem kX5 {l : Launch} {D : va_G} {cs : gCs} {h0 : Nat} {a1 : Nat} : nCT l D cs (fun U => va_AOA .int U) 1 yX5_init cX5_init 2 h0 5 [.null, .null, .null, .null, .null, .null, .null, .null, .int 0, .int 0, .int 0, .int 0] [.ref a1] 19 1235 (mkX5 cs h0 a1) := by
  refine met_new (lv0 := [some (.ref h0), some (.ref a1)]) nZ_aoa (by decide) rfl (Nat.le_of_ble_eq_true rfl) rfl (fun G Rt hG hR => ?_)
  replace hG : nSim l D cs (fun U => va_AOA .int U) 1 19 1235 RX5 cX5_init 2 h0 5 G Rt := hG
  refine n_aload_n (n := 1) hG dX5_init_0 rfl rfl ?_
  refine n_objinit (n := 4) hG (TT_1 160 (by decide +kernel) rfl) dX5_init_1 (by decide) rfl ?_
  refine n_aload_n (n := 5) hG dX5_init_4 rfl rfl ?_
  refine n_iconst (n := 6) hG dX5_init_5 ki_4 rfl ?_
  refine n_bipush (n := 8) hG dX5_init_6 kb_6 rfl ?_
  refine n_mna (n := 12) (K := 6) hG dX5_init_8 ⟨by decide, by decide, by decide⟩ ⟨by decide, by decide⟩ rfl (fun q8 r8_0 r8_1 r8_2 r8_3 => ?_)
  refine n_put (n := 15) (C := RX5) (T := TX5) (N := 12) (j := 1) (fs2 := [.null, .ref q8, .null, .null, .null, .null, .null, .null, .int 0, .int 0, .int 0, .int 0]) (ty := tyX5) hG ⟨rfl, by decide, rfl, Nat.le_of_ble_eq_true rfl⟩ inX5 tyX5_ok nmX5 lfX5_13 ⟨rfl, rfl⟩ dX5_init_12 rfl rfl ?_
  refine n_aload_n (n := 16) hG dX5_init_15 rfl rfl ?_
  refine n_iconst (n := 17) hG dX5_init_16 ki_4 rfl ?_
  refine n_sipush (n := 20) hG dX5_init_17 ks_287 rfl ?_
  refine n_mna (n := 24) (K := 287) hG dX5_init_20 ⟨by decide, by decide, by decide⟩ ⟨by decide, by decide⟩ rfl (fun q20 r20_0 r20_1 r20_2 r20_3 => ?_)
  refine n_put (n := 27) (C := RX5) (T := TX5) (N := 12) (j := 2) (fs2 := [.null, .ref q8, .ref q20, .null, .null, .null, .null, .null, .int 0, .int 0, .int 0, .int 0]) (ty := tyX5) hG ⟨rfl, by decide, rfl, Nat.le_of_ble_eq_true rfl⟩ inX5 tyX5_ok nmX5 lfX5_16 ⟨rfl, rfl⟩ dX5_init_24 rfl rfl ?_
  refine n_aload_n (n := 28) hG dX5_init_27 rfl rfl ?_
  refine n_iconst (n := 29) hG dX5_init_28 ki_4 rfl ?_
  refine n_bipush (n := 31) hG dX5_init_29 kb_7 rfl ?_
  refine n_mna (n := 35) (K := 7) hG dX5_init_31 ⟨by decide, by decide, by decide⟩ ⟨by decide, by decide⟩ rfl (fun q31 r31_0 r31_1 r31_2 r31_3 => ?_)
  refine n_put (n := 38) (C := RX5) (T := TX5) (N := 12) (j := 3) (fs2 := [.null, .ref q8, .ref q20, .ref q31, .null, .null, .null, .null, .int 0, .int 0, .int 0, .int 0]) (ty := tyX5) hG ⟨rfl, by decide, rfl, Nat.le_of_ble_eq_true rfl⟩ inX5 tyX5_ok nmX5 lfX5_19 ⟨rfl, rfl⟩ dX5_init_35 rfl rfl ?_
  refine n_aload_n (n := 39) hG dX5_init_38 rfl rfl ?_
  refine n_iconst (n := 40) hG dX5_init_39 ki_4 rfl ?_
  refine n_newI (n := 42) (N := 4) hG dX5_init_40 ⟨by decide, by decide, by decide⟩ ⟨by decide, by decide⟩ rfl (fun q40 => ?_)
  refine n_put (n := 45) (C := RX5) (T := TX5) (N := 12) (j := 4) (fs2 := [.null, .ref q8, .ref q20, .ref q31, .ref q40, .null, .null, .null, .int 0, .int 0, .int 0, .int 0]) (ty := tyX5) hG ⟨rfl, by decide, rfl, Nat.le_of_ble_eq_true rfl⟩ inX5 tyX5_ok nmX5 lfX5_22 ⟨rfl, rfl⟩ dX5_init_42 rfl rfl ?_
  refine n_aload_n (n := 46) hG dX5_init_45 rfl rfl ?_
  refine n_bipush (n := 48) hG dX5_init_46 kb_7 rfl ?_
  refine n_newI (n := 50) (N := 7) hG dX5_init_48 ⟨by decide, by decide, by decide⟩ ⟨by decide, by decide⟩ rfl (fun q48 => ?_)
  refine n_put (n := 53) (C := RX5) (T := TX5) (N := 12) (j := 5) (fs2 := [.null, .ref q8, .ref q20, .ref q31, .ref q40, .ref q48, .null, .null, .int 0, .int 0, .int 0, .int 0]) (ty := tyX5) hG ⟨rfl, by decide, rfl, Nat.le_of_ble_eq_true rfl⟩ inX5 tyX5_ok nmX5 lfX5_26 ⟨rfl, rfl⟩ dX5_init_50 rfl rfl ?_
  refine n_aload_n (n := 54) hG dX5_init_53 rfl rfl ?_
  refine n_bipush (n := 56) hG dX5_init_54 kb_6 rfl ?_
  refine n_newI (n := 58) (N := 6) hG dX5_init_56 ⟨by decide, by decide, by decide⟩ ⟨by decide, by decide⟩ rfl (fun q56 => ?_)
  refine n_put (n := 61) (C := RX5) (T := TX5) (N := 12) (j := 6) (fs2 := [.null, .ref q8, .ref q20, .ref q31, .ref q40, .ref q48, .ref q56, .null, .int 0, .int 0, .int 0, .int 0]) (ty := tyX5) hG ⟨rfl, by decide, rfl, Nat.le_of_ble_eq_true rfl⟩ inX5 tyX5_ok nmX5 lfX5_29 ⟨rfl, rfl⟩ dX5_init_58 rfl rfl ?_
  refine n_aload_n (n := 62) hG dX5_init_61 rfl rfl ?_
  refine n_bipush (n := 64) hG dX5_init_62 kb_6 rfl ?_
  refine n_newI (n := 66) (N := 6) hG dX5_init_64 ⟨by decide, by decide, by decide⟩ ⟨by decide, by decide⟩ rfl (fun q64 => ?_)
  refine n_put (n := 69) (C := RX5) (T := TX5) (N := 12) (j := 7) (fs2 := [.null, .ref q8, .ref q20, .ref q31, .ref q40, .ref q48, .ref q56, .ref q64, .int 0, .int 0, .int 0, .int 0]) (ty := tyX5) hG ⟨rfl, by decide, rfl, Nat.le_of_ble_eq_true rfl⟩ inX5 tyX5_ok nmX5 lfX5_32 ⟨rfl, rfl⟩ dX5_init_66 rfl rfl ?_
  refine n_aload_n (n := 70) hG dX5_init_69 rfl rfl ?_
  refine n_iconst (n := 71) hG dX5_init_70 ki_1 rfl ?_
  refine n_put (n := 74) (C := RX5) (T := TX5) (N := 12) (j := 8) (fs2 := [.null, .ref q8, .ref q20, .ref q31, .ref q40, .ref q48, .ref q56, .ref q64, .int 1, .int 0, .int 0, .int 0]) (ty := tyX5) hG ⟨rfl, by decide, rfl, Nat.le_of_ble_eq_true rfl⟩ inX5 tyX5_ok nmX5 lfX5_35 ⟨rfl, rfl⟩ dX5_init_71 rfl rfl ?_
  refine n_aload_n (n := 75) hG dX5_init_74 rfl rfl ?_
  refine n_iconst (n := 76) hG dX5_init_75 ki_0 rfl ?_
  refine n_put (n := 79) (C := RX5) (T := TX5) (N := 12) (j := 9) (fs2 := [.null, .ref q8, .ref q20, .ref q31, .ref q40, .ref q48, .ref q56, .ref q64, .int 1, .int 0, .int 0, .int 0]) (ty := tyX5) hG ⟨rfl, by decide, rfl, Nat.le_of_ble_eq_true rfl⟩ inX5 tyX5_ok nmX5 lfX5_39 ⟨rfl, rfl⟩ dX5_init_76 rfl rfl ?_
  refine n_aload_n (n := 80) hG dX5_init_79 rfl rfl ?_
  refine n_iconst (n := 81) hG dX5_init_80 ki_0 rfl ?_
  refine n_put (n := 84) (C := RX5) (T := TX5) (N := 12) (j := 10) (fs2 := [.null, .ref q8, .ref q20, .ref q31, .ref q40, .ref q48, .ref q56, .ref q64, .int 1, .int 0, .int 0, .int 0]) (ty := tyX5) hG ⟨rfl, by decide, rfl, Nat.le_of_ble_eq_true rfl⟩ inX5 tyX5_ok nmX5 lfX5_42 ⟨rfl, rfl⟩ dX5_init_81 rfl rfl ?_
  refine n_aload_n (n := 85) hG dX5_init_84 rfl rfl ?_
  refine n_iconst (n := 86) hG dX5_init_85 ki_0 rfl ?_
  refine n_put (n := 89) (C := RX5) (T := TX5) (N := 12) (j := 11) (fs2 := [.null, .ref q8, .ref q20, .ref q31, .ref q40, .ref q48, .ref q56, .ref q64, .int 1, .int 0, .int 0, .int 0]) (ty := tyX5) hG ⟨rfl, by decide, rfl, Nat.le_of_ble_eq_true rfl⟩ inX5 tyX5_ok nmX5 lfX5_45 ⟨by decide, by decide⟩ dX5_init_86 rfl rfl ?_
  refine n_aload_n (n := 90) hG dX5_init_89 rfl rfl ?_
  refine n_aload_n (n := 91) hG dX5_init_90 rfl rfl ?_
  refine n_put (n := 94) (C := RX5) (T := TX5) (N := 12) (j := 0) (fs2 := [.ref a1, .ref q8, .ref q20, .ref q31, .ref q40, .ref q48, .ref q56, .ref q64, .int 1, .int 0, .int 0, .int 0]) (ty := tyX5) hG ⟨rfl, by decide, rfl, Nat.le_of_ble_eq_true rfl⟩ inX5 tyX5_ok nmX5 lfX5_49 ⟨rfl, rfl⟩ dX5_init_91 rfl rfl ?_
  exact n_ret hG dX5_init_94 (hR [q8, r8_0, r8_1, r8_2, r8_3, q20, r20_0, r20_1, r20_2, r20_3, q31, r31_0, r31_1, r31_2, r31_3, q40, q48, q56, q64])
def nZpm : State → Prop := fun U => va_Nw (.methodLinkNest RX11 11 yX2_init "PieceMoulds") U ∧ va_Nw (.methodLinkNest RX11 22 yX4_init "PieceMoulds") U ∧ va_Nw (.methodLinkNest RX11 30 yX9_init "PieceMoulds") U ∧ va_Nw (.methodLinkNest RX11 82 yX10_init "PieceMoulds") U ∧ va_Nw (.methodLinkNest RX11 89 yX6_init "PieceMoulds") U ∧ va_AOA .int U
theorem nZ_pm : nZok nZpm := ⟨fun U U' hv h => ⟨h.1.same rfl hv, h.2.1.same rfl hv, h.2.2.1.same rfl hv, h.2.2.2.1.same rfl hv, h.2.2.2.2.1.same rfl hv, nZ_aoa.1 U U' hv h.2.2.2.2.2⟩, fun U U' hW h => ⟨h.1.warmM hW, h.2.1.warmM hW, h.2.2.1.warmM hW, h.2.2.2.1.warmM hW, h.2.2.2.2.1.warmM hW, nZ_aoa.2 U U' hW h.2.2.2.2.2⟩⟩
def mkX11 (cs : gCs) (h0 : Nat) (u : List Nat) : va_W := [(h0, .inr (11, [.ref (u.getD 0 0), .ref (u.getD 2 0), .ref (u.getD 6 0), .ref (u.getD 10 0), .ref (u.getD 19 0), .ref (u.getD 15 0), .ref (u.getD 17 0), .ref (u.getD 39 0), .ref (u.getD 40 0), .ref (u.getD 41 0), .ref (u.getD 48 0), .ref (u.getD 52 0), .int (-1), .int 0])), ((u.getD 0 0), .inr (2, [.ref (u.getD 1 0), .int 8, .int 8, .int 0])), ((u.getD 1 0), .inl (cs.1, 144, .inl (fun _ => 0))), ((u.getD 2 0), .inr (1, [.ref (u.getD 0 0), .ref (u.getD 3 0), .ref (u.getD 4 0), .ref (u.getD 5 0), .int 0, .int 0, .int (-1)])), ((u.getD 3 0), .inl (cs.1, 144, .inl (fun _ => 0))), ((u.getD 4 0), .inl (cs.2.1, 144, .inl (fun _ => 0))), ((u.getD 5 0), .inl (cs.1, 144, .inl (fun _ => 0))), ((u.getD 6 0), .inr (8, [.ref (u.getD 0 0), .ref (u.getD 7 0), .ref (u.getD 8 0), .ref (u.getD 9 0), .int 0, .int 0, .int (-1)])), ((u.getD 7 0), .inl (cs.1, 32, .inl (fun _ => 0))), ((u.getD 8 0), .inl (cs.1, 8, .inl (fun _ => 0))), ((u.getD 9 0), .inl (cs.1, 8, .inl (fun _ => 0))), ((u.getD 10 0), .inr (4, [.ref (u.getD 11 0), .ref (u.getD 12 0), .ref (u.getD 13 0), .ref (u.getD 14 0), .int 0])), ((u.getD 11 0), .inl (cs.1, 6, .inl (fun _ => 0))), ((u.getD 12 0), .inl (cs.1, 6, .inl (fun _ => 0))), ((u.getD 13 0), .inl (cs.1, 6, .inl (fun _ => 0))), ((u.getD 14 0), .inl (cs.1, 6, .inl (fun _ => 0))), ((u.getD 15 0), .inr (0, [.ref (u.getD 10 0), .ref (u.getD 16 0)])), ((u.getD 16 0), .inl (cs.1, 6, .inl (fun _ => 0))), ((u.getD 17 0), .inr (9, [.ref (u.getD 18 0), .int 0])), ((u.getD 18 0), .inl (cs.1, 300, .inl (fun _ => 0))), ((u.getD 19 0), .inr (5, [.ref (u.getD 10 0), .ref (u.getD 20 0), .ref (u.getD 25 0), .ref (u.getD 30 0), .ref (u.getD 35 0), .ref (u.getD 36 0), .ref (u.getD 37 0), .ref (u.getD 38 0), .int 1, .int 0, .int 0, .int 0])), ((u.getD 20 0), .inl (cs.2.2, 4, .inr (.inr (.inr (.inr (nrow [(u.getD 21 0), (u.getD 22 0), (u.getD 23 0), (u.getD 24 0)])))))), ((u.getD 21 0), .inl (cs.1, 6, .inl (fun _ => 0))), ((u.getD 22 0), .inl (cs.1, 6, .inl (fun _ => 0))), ((u.getD 23 0), .inl (cs.1, 6, .inl (fun _ => 0))), ((u.getD 24 0), .inl (cs.1, 6, .inl (fun _ => 0))), ((u.getD 25 0), .inl (cs.2.2, 4, .inr (.inr (.inr (.inr (nrow [(u.getD 26 0), (u.getD 27 0), (u.getD 28 0), (u.getD 29 0)])))))), ((u.getD 26 0), .inl (cs.1, 287, .inl (fun _ => 0))), ((u.getD 27 0), .inl (cs.1, 287, .inl (fun _ => 0))), ((u.getD 28 0), .inl (cs.1, 287, .inl (fun _ => 0))), ((u.getD 29 0), .inl (cs.1, 287, .inl (fun _ => 0))), ((u.getD 30 0), .inl (cs.2.2, 4, .inr (.inr (.inr (.inr (nrow [(u.getD 31 0), (u.getD 32 0), (u.getD 33 0), (u.getD 34 0)])))))), ((u.getD 31 0), .inl (cs.1, 7, .inl (fun _ => 0))), ((u.getD 32 0), .inl (cs.1, 7, .inl (fun _ => 0))), ((u.getD 33 0), .inl (cs.1, 7, .inl (fun _ => 0))), ((u.getD 34 0), .inl (cs.1, 7, .inl (fun _ => 0))), ((u.getD 35 0), .inl (cs.1, 4, .inl (fun _ => 0))), ((u.getD 36 0), .inl (cs.1, 7, .inl (fun _ => 0))), ((u.getD 37 0), .inl (cs.1, 6, .inl (fun _ => 0))), ((u.getD 38 0), .inl (cs.1, 6, .inl (fun _ => 0))), ((u.getD 39 0), .inr (7, [.ref (u.getD 17 0), .int 0, .int 0])), ((u.getD 40 0), .inr (3, [.ref (u.getD 2 0), .ref (u.getD 6 0), .ref (u.getD 15 0)])), ((u.getD 41 0), .inr (10, [.ref (u.getD 42 0), .ref (u.getD 43 0), .ref (u.getD 44 0), .ref (u.getD 45 0), .ref (u.getD 46 0), .ref (u.getD 47 0), .int 0, .int 0])), ((u.getD 42 0), .inl (cs.1, 320, .inl (fun _ => 0))), ((u.getD 43 0), .inl (cs.1, 150, .inl (fun _ => 0))), ((u.getD 44 0), .inl (cs.1, 150, .inl (fun _ => 0))), ((u.getD 45 0), .inl (cs.1, 150, .inl (fun _ => 0))), ((u.getD 46 0), .inl (cs.1, 8, .inl (fun _ => 0))), ((u.getD 47 0), .inl (cs.1, 8, .inl (fun _ => 0))), ((u.getD 48 0), .inr (6, [.ref (u.getD 49 0), .ref (u.getD 50 0), .ref (u.getD 51 0), .int 0])), ((u.getD 49 0), .inl (cs.1, 20, .inl (fun _ => 0))), ((u.getD 50 0), .inl (cs.1, 20, .inl (fun _ => 0))), ((u.getD 51 0), .inl (cs.1, 20, .inl (fun _ => 0))), ((u.getD 52 0), .inr (6, [.ref (u.getD 53 0), .ref (u.getD 54 0), .ref (u.getD 55 0), .int 0])), ((u.getD 53 0), .inl (cs.1, 20, .inl (fun _ => 0))), ((u.getD 54 0), .inl (cs.1, 20, .inl (fun _ => 0))), ((u.getD 55 0), .inl (cs.1, 20, .inl (fun _ => 0)))]
set_option maxHeartbeats 4000000 in
theorem kX11 {l : Launch} {D : va_G} {cs : gCs} {h0 : Nat} : nCT l D cs nZpm 2 yX11_init cX11_init 7 h0 11 [.null, .null, .null, .null, .null, .null, .null, .null, .null, .null, .null, .null, .int 0, .int 0] [] 56 3156 (mkX11 cs h0) := by
  refine met_new (lv0 := [some (.ref h0), none, none, none, none, none, none]) nZ_pm (by decide) rfl (Nat.le_of_ble_eq_true rfl) rfl (fun G Rt hG hR => ?_)
  replace hG : nSim l D cs nZpm 2 56 3156 RX11 cX11_init 7 h0 11 G Rt := hG
  refine n_aload_n (n := 1) hG dX11_init_0 rfl rfl ?_
  refine n_objinit (n := 4) hG (TT_1 27 (by decide +kernel) rfl) dX11_init_1 (by decide) rfl ?_
  refine n_new (n := 7) (C := RX2) (T := TX2) (N := 4) (cj := 2) (f0 := [.null, .int 0, .int 0, .int 0]) (ty := tyX2) hG rfl inX2 tyX2_ok ⟨TT_1 30 (by decide +kernel) rfl, TT_1 31 (by decide +kernel) rfl, TT_1 2 (by decide +kernel) rfl⟩ (by decide +kernel) ⟨by decide, by decide⟩ dX11_init_4 rfl (fun q4 => ?_)
  refine n_dup (n := 8) hG dX11_init_7 rfl ?_
  refine n_call (n := 11) (st := [.ref q4]) (host := "PieceMoulds") (na := 0) hG (kX2 (h0 := q4)) ⟨nZ_true, fun _ _ => trivial⟩ ⟨⟨TT_1 34 (by decide +kernel) rfl, TT_1 2 (by decide +kernel) rfl, by decide, by decide +kernel⟩, TT_1 33 (by decide +kernel) rfl, rfl⟩ (Or.inr (fun U hU => hU.1)) rfl ⟨rfl, Nat.le_of_ble_eq_true rfl, by decide⟩ ⟨by decide, by decide⟩ dX11_init_8 rfl (fun u8 => ?_)
  refine n_astore_n (n := 12) (lv2 := [some (.ref h0), some (.ref q4), none, none, none, none, none]) hG dX11_init_11 rfl rfl rfl ?_
  refine n_new (n := 15) (C := RX1) (T := TX1) (N := 7) (cj := 1) (f0 := [.null, .null, .null, .null, .int 0, .int 0, .int 0]) (ty := tyX1) hG rfl inX1 tyX1_ok ⟨TT_1 50 (by decide +kernel) rfl, TT_1 51 (by decide +kernel) rfl, TT_1 3 (by decide +kernel) rfl⟩ (by decide +kernel) ⟨by decide, by decide⟩ dX11_init_12 rfl (fun q12 => ?_)
  refine n_dup (n := 16) hG dX11_init_15 rfl ?_
  refine n_aload_n (n := 17) hG dX11_init_16 rfl rfl ?_
  refine n_call (n := 20) (st := [.ref q12]) (host := "PieceMoulds") (na := 1) hG (kX1 (h0 := q12) (a1 := q4)) ⟨nZ_true, fun _ _ => trivial⟩ ⟨⟨TT_1 54 (by decide +kernel) rfl, TT_1 3 (by decide +kernel) rfl, by decide, by decide +kernel⟩, TT_1 53 (by decide +kernel) rfl, rfl⟩ (Or.inl (TT_1 52 (by decide +kernel) rfl)) rfl ⟨rfl, Nat.le_of_ble_eq_true rfl, by decide⟩ ⟨by decide, by decide⟩ dX11_init_17 rfl (fun u17 => ?_)
  refine n_astore_n (n := 21) (lv2 := [some (.ref h0), some (.ref q4), some (.ref q12), none, none, none, none]) hG dX11_init_20 rfl rfl rfl ?_
  refine n_new (n := 24) (C := RX8) (T := TX8) (N := 7) (cj := 8) (f0 := [.null, .null, .null, .null, .int 0, .int 0, .int 0]) (ty := tyX8) hG rfl inX8 tyX8_ok ⟨TT_1 79 (by decide +kernel) rfl, TT_1 80 (by decide +kernel) rfl, TT_1 4 (by decide +kernel) rfl⟩ (by decide +kernel) ⟨by decide, by decide⟩ dX11_init_21 rfl (fun q21 => ?_)
  refine n_dup (n := 25) hG dX11_init_24 rfl ?_
  refine n_aload_n (n := 26) hG dX11_init_25 rfl rfl ?_
  refine n_call (n := 29) (st := [.ref q21]) (host := "PieceMoulds") (na := 1) hG (kX8 (h0 := q21) (a1 := q4)) ⟨nZ_true, fun _ _ => trivial⟩ ⟨⟨TT_1 83 (by decide +kernel) rfl, TT_1 4 (by decide +kernel) rfl, by decide, by decide +kernel⟩, TT_1 82 (by decide +kernel) rfl, rfl⟩ (Or.inl (TT_1 81 (by decide +kernel) rfl)) rfl ⟨rfl, Nat.le_of_ble_eq_true rfl, by decide⟩ ⟨by decide, by decide⟩ dX11_init_26 rfl (fun u26 => ?_)
  refine n_astore_n (n := 30) (lv2 := [some (.ref h0), some (.ref q4), some (.ref q12), some (.ref q21), none, none, none]) hG dX11_init_29 rfl rfl rfl ?_
  refine n_new (n := 33) (C := RX4) (T := TX4) (N := 5) (cj := 4) (f0 := [.null, .null, .null, .null, .int 0]) (ty := tyX4) hG rfl inX4 tyX4_ok ⟨TT_1 107 (by decide +kernel) rfl, TT_1 108 (by decide +kernel) rfl, TT_1 5 (by decide +kernel) rfl⟩ (by decide +kernel) ⟨by decide, by decide⟩ dX11_init_30 rfl (fun q30 => ?_)
  refine n_dup (n := 34) hG dX11_init_33 rfl ?_
  refine n_call (n := 37) (st := [.ref q30]) (host := "PieceMoulds") (na := 0) hG (kX4 (h0 := q30)) ⟨nZ_true, fun _ _ => trivial⟩ ⟨⟨TT_1 111 (by decide +kernel) rfl, TT_1 5 (by decide +kernel) rfl, by decide, by decide +kernel⟩, TT_1 110 (by decide +kernel) rfl, rfl⟩ (Or.inr (fun U hU => hU.2.1)) rfl ⟨rfl, Nat.le_of_ble_eq_true rfl, by decide⟩ ⟨by decide, by decide⟩ dX11_init_34 rfl (fun u34 => ?_)
  refine n_astore (n := 39) (lv2 := [some (.ref h0), some (.ref q4), some (.ref q12), some (.ref q21), some (.ref q30), none, none]) hG dX11_init_37 rfl rfl rfl ?_
  refine n_new (n := 42) (C := RX0) (T := TX0) (N := 2) (cj := 0) (f0 := [.null, .null]) (ty := tyX0) hG rfl inX0 tyX0_ok ⟨TT_1 129 (by decide +kernel) rfl, TT_1 130 (by decide +kernel) rfl, TT_1 6 (by decide +kernel) rfl⟩ (by decide +kernel) ⟨by decide, by decide⟩ dX11_init_39 rfl (fun q39 => ?_)
  refine n_dup (n := 43) hG dX11_init_42 rfl ?_
  refine n_aload (n := 45) hG dX11_init_43 rfl rfl ?_
  refine n_call (n := 48) (st := [.ref q39]) (host := "PieceMoulds") (na := 1) hG (kX0 (h0 := q39) (a1 := q30)) ⟨nZ_true, fun _ _ => trivial⟩ ⟨⟨TT_1 133 (by decide +kernel) rfl, TT_1 6 (by decide +kernel) rfl, by decide, by decide +kernel⟩, TT_1 132 (by decide +kernel) rfl, rfl⟩ (Or.inl (TT_1 131 (by decide +kernel) rfl)) rfl ⟨rfl, Nat.le_of_ble_eq_true rfl, by decide⟩ ⟨by decide, by decide⟩ dX11_init_45 rfl (fun u45 => ?_)
  refine n_astore (n := 50) (lv2 := [some (.ref h0), some (.ref q4), some (.ref q12), some (.ref q21), some (.ref q30), some (.ref q39), none]) hG dX11_init_48 rfl rfl rfl ?_
  refine n_new (n := 53) (C := RX9) (T := TX9) (N := 2) (cj := 9) (f0 := [.null, .int 0]) (ty := tyX9) hG rfl inX9 tyX9_ok ⟨TT_1 142 (by decide +kernel) rfl, TT_1 143 (by decide +kernel) rfl, TT_1 7 (by decide +kernel) rfl⟩ (by decide +kernel) ⟨by decide, by decide⟩ dX11_init_50 rfl (fun q50 => ?_)
  refine n_dup (n := 54) hG dX11_init_53 rfl ?_
  refine n_call (n := 57) (st := [.ref q50]) (host := "PieceMoulds") (na := 0) hG (kX9 (h0 := q50)) ⟨nZ_true, fun _ _ => trivial⟩ ⟨⟨TT_1 146 (by decide +kernel) rfl, TT_1 7 (by decide +kernel) rfl, by decide, by decide +kernel⟩, TT_1 145 (by decide +kernel) rfl, rfl⟩ (Or.inr (fun U hU => hU.2.2.1)) rfl ⟨rfl, Nat.le_of_ble_eq_true rfl, by decide⟩ ⟨by decide, by decide⟩ dX11_init_54 rfl (fun u54 => ?_)
  refine n_astore (n := 59) (lv2 := [some (.ref h0), some (.ref q4), some (.ref q12), some (.ref q21), some (.ref q30), some (.ref q39), some (.ref q50)]) hG dX11_init_57 rfl rfl rfl ?_
  refine n_aload_n (n := 60) hG dX11_init_59 rfl rfl ?_
  refine n_aload_n (n := 61) hG dX11_init_60 rfl rfl ?_
  refine n_put (n := 64) (C := RX11) (T := TX11) (N := 14) (j := 0) (fs2 := [.ref q4, .null, .null, .null, .null, .null, .null, .null, .null, .null, .null, .null, .int 0, .int 0]) (ty := tyX11) hG ⟨rfl, by decide, rfl, Nat.le_of_ble_eq_true rfl⟩ inX11 tyX11_ok nmX11 lfX11_31 ⟨rfl, rfl⟩ dX11_init_61 rfl rfl ?_
  refine n_aload_n (n := 65) hG dX11_init_64 rfl rfl ?_
  refine n_aload_n (n := 66) hG dX11_init_65 rfl rfl ?_
  refine n_put (n := 69) (C := RX11) (T := TX11) (N := 14) (j := 1) (fs2 := [.ref q4, .ref q12, .null, .null, .null, .null, .null, .null, .null, .null, .null, .null, .int 0, .int 0]) (ty := tyX11) hG ⟨rfl, by decide, rfl, Nat.le_of_ble_eq_true rfl⟩ inX11 tyX11_ok nmX11 lfX11_35 ⟨rfl, rfl⟩ dX11_init_66 rfl rfl ?_
  refine n_aload_n (n := 70) hG dX11_init_69 rfl rfl ?_
  refine n_aload_n (n := 71) hG dX11_init_70 rfl rfl ?_
  refine n_put (n := 74) (C := RX11) (T := TX11) (N := 14) (j := 2) (fs2 := [.ref q4, .ref q12, .ref q21, .null, .null, .null, .null, .null, .null, .null, .null, .null, .int 0, .int 0]) (ty := tyX11) hG ⟨rfl, by decide, rfl, Nat.le_of_ble_eq_true rfl⟩ inX11 tyX11_ok nmX11 lfX11_39 ⟨rfl, rfl⟩ dX11_init_71 rfl rfl ?_
  refine n_aload_n (n := 75) hG dX11_init_74 rfl rfl ?_
  refine n_aload (n := 77) hG dX11_init_75 rfl rfl ?_
  refine n_put (n := 80) (C := RX11) (T := TX11) (N := 14) (j := 3) (fs2 := [.ref q4, .ref q12, .ref q21, .ref q30, .null, .null, .null, .null, .null, .null, .null, .null, .int 0, .int 0]) (ty := tyX11) hG ⟨rfl, by decide, rfl, Nat.le_of_ble_eq_true rfl⟩ inX11 tyX11_ok nmX11 lfX11_43 ⟨rfl, rfl⟩ dX11_init_77 rfl rfl ?_
  refine n_aload_n (n := 81) hG dX11_init_80 rfl rfl ?_
  refine n_new (n := 84) (C := RX5) (T := TX5) (N := 12) (cj := 5) (f0 := [.null, .null, .null, .null, .null, .null, .null, .null, .int 0, .int 0, .int 0, .int 0]) (ty := tyX5) hG rfl inX5 tyX5_ok ⟨TT_1 155 (by decide +kernel) rfl, TT_1 156 (by decide +kernel) rfl, TT_1 8 (by decide +kernel) rfl⟩ (by decide +kernel) ⟨by decide, by decide⟩ dX11_init_81 rfl (fun q81 => ?_)
  refine n_dup (n := 85) hG dX11_init_84 rfl ?_
  refine n_aload (n := 87) hG dX11_init_85 rfl rfl ?_
  refine n_call (n := 90) (st := [.ref q81, .ref h0]) (host := "PieceMoulds") (na := 1) hG (kX5 (h0 := q81) (a1 := q30)) ⟨nZ_aoa, fun U hU => hU.2.2.2.2.2⟩ ⟨⟨TT_1 159 (by decide +kernel) rfl, TT_1 8 (by decide +kernel) rfl, by decide, by decide +kernel⟩, TT_1 158 (by decide +kernel) rfl, rfl⟩ (Or.inl (TT_1 157 (by decide +kernel) rfl)) rfl ⟨rfl, Nat.le_of_ble_eq_true rfl, by decide⟩ ⟨by decide, by decide⟩ dX11_init_87 rfl (fun u87 => ?_)
  refine n_put (n := 93) (C := RX11) (T := TX11) (N := 14) (j := 4) (fs2 := [.ref q4, .ref q12, .ref q21, .ref q30, .ref q81, .null, .null, .null, .null, .null, .null, .null, .int 0, .int 0]) (ty := tyX11) hG ⟨rfl, by decide, rfl, Nat.le_of_ble_eq_true rfl⟩ inX11 tyX11_ok nmX11 lfX11_50 ⟨rfl, rfl⟩ dX11_init_90 rfl rfl ?_
  refine n_aload_n (n := 94) hG dX11_init_93 rfl rfl ?_
  refine n_aload (n := 96) hG dX11_init_94 rfl rfl ?_
  refine n_put (n := 99) (C := RX11) (T := TX11) (N := 14) (j := 5) (fs2 := [.ref q4, .ref q12, .ref q21, .ref q30, .ref q81, .ref q39, .null, .null, .null, .null, .null, .null, .int 0, .int 0]) (ty := tyX11) hG ⟨rfl, by decide, rfl, Nat.le_of_ble_eq_true rfl⟩ inX11 tyX11_ok nmX11 lfX11_54 ⟨rfl, rfl⟩ dX11_init_96 rfl rfl ?_
  refine n_aload_n (n := 100) hG dX11_init_99 rfl rfl ?_
  refine n_aload (n := 102) hG dX11_init_100 rfl rfl ?_
  refine n_put (n := 105) (C := RX11) (T := TX11) (N := 14) (j := 6) (fs2 := [.ref q4, .ref q12, .ref q21, .ref q30, .ref q81, .ref q39, .ref q50, .null, .null, .null, .null, .null, .int 0, .int 0]) (ty := tyX11) hG ⟨rfl, by decide, rfl, Nat.le_of_ble_eq_true rfl⟩ inX11 tyX11_ok nmX11 lfX11_58 ⟨rfl, rfl⟩ dX11_init_102 rfl rfl ?_
  refine n_aload_n (n := 106) hG dX11_init_105 rfl rfl ?_
  refine n_new (n := 109) (C := RX7) (T := TX7) (N := 3) (cj := 7) (f0 := [.null, .int 0, .int 0]) (ty := tyX7) hG rfl inX7 tyX7_ok ⟨TT_1 200 (by decide +kernel) rfl, TT_1 201 (by decide +kernel) rfl, TT_1 9 (by decide +kernel) rfl⟩ (by decide +kernel) ⟨by decide, by decide⟩ dX11_init_106 rfl (fun q106 => ?_)
  refine n_dup (n := 110) hG dX11_init_109 rfl ?_
  refine n_aload (n := 112) hG dX11_init_110 rfl rfl ?_
  refine n_call (n := 115) (st := [.ref q106, .ref h0]) (host := "PieceMoulds") (na := 1) hG (kX7 (h0 := q106) (a1 := q50)) ⟨nZ_true, fun _ _ => trivial⟩ ⟨⟨TT_1 204 (by decide +kernel) rfl, TT_1 9 (by decide +kernel) rfl, by decide, by decide +kernel⟩, TT_1 203 (by decide +kernel) rfl, rfl⟩ (Or.inl (TT_1 202 (by decide +kernel) rfl)) rfl ⟨rfl, Nat.le_of_ble_eq_true rfl, by decide⟩ ⟨by decide, by decide⟩ dX11_init_112 rfl (fun u112 => ?_)
  refine n_put (n := 118) (C := RX11) (T := TX11) (N := 14) (j := 7) (fs2 := [.ref q4, .ref q12, .ref q21, .ref q30, .ref q81, .ref q39, .ref q50, .ref q106, .null, .null, .null, .null, .int 0, .int 0]) (ty := tyX11) hG ⟨rfl, by decide, rfl, Nat.le_of_ble_eq_true rfl⟩ inX11 tyX11_ok nmX11 lfX11_67 ⟨rfl, rfl⟩ dX11_init_115 rfl rfl ?_
  refine n_aload_n (n := 119) hG dX11_init_118 rfl rfl ?_
  refine n_new (n := 122) (C := RX3) (T := TX3) (N := 3) (cj := 3) (f0 := [.null, .null, .null]) (ty := tyX3) hG rfl inX3 tyX3_ok ⟨TT_1 216 (by decide +kernel) rfl, TT_1 217 (by decide +kernel) rfl, TT_1 10 (by decide +kernel) rfl⟩ (by decide +kernel) ⟨by decide, by decide⟩ dX11_init_119 rfl (fun q119 => ?_)
  refine n_dup (n := 123) hG dX11_init_122 rfl ?_
  refine n_aload_n (n := 124) hG dX11_init_123 rfl rfl ?_
  refine n_aload_n (n := 125) hG dX11_init_124 rfl rfl ?_
  refine n_aload (n := 127) hG dX11_init_125 rfl rfl ?_
  refine n_call (n := 130) (st := [.ref q119, .ref h0]) (host := "PieceMoulds") (na := 3) hG (kX3 (h0 := q119) (a1 := q12) (a2 := q21) (a3 := q39)) ⟨nZ_true, fun _ _ => trivial⟩ ⟨⟨TT_1 220 (by decide +kernel) rfl, TT_1 10 (by decide +kernel) rfl, by decide, by decide +kernel⟩, TT_1 219 (by decide +kernel) rfl, rfl⟩ (Or.inl (TT_1 218 (by decide +kernel) rfl)) rfl ⟨rfl, Nat.le_of_ble_eq_true rfl, by decide⟩ ⟨by decide, by decide⟩ dX11_init_127 rfl (fun u127 => ?_)
  refine n_put (n := 133) (C := RX11) (T := TX11) (N := 14) (j := 8) (fs2 := [.ref q4, .ref q12, .ref q21, .ref q30, .ref q81, .ref q39, .ref q50, .ref q106, .ref q119, .null, .null, .null, .int 0, .int 0]) (ty := tyX11) hG ⟨rfl, by decide, rfl, Nat.le_of_ble_eq_true rfl⟩ inX11 tyX11_ok nmX11 lfX11_76 ⟨rfl, rfl⟩ dX11_init_130 rfl rfl ?_
  refine n_aload_n (n := 134) hG dX11_init_133 rfl rfl ?_
  refine n_new (n := 137) (C := RX10) (T := TX10) (N := 8) (cj := 10) (f0 := [.null, .null, .null, .null, .null, .null, .int 0, .int 0]) (ty := tyX10) hG rfl inX10 tyX10_ok ⟨TT_1 232 (by decide +kernel) rfl, TT_1 233 (by decide +kernel) rfl, TT_1 11 (by decide +kernel) rfl⟩ (by decide +kernel) ⟨by decide, by decide⟩ dX11_init_134 rfl (fun q134 => ?_)
  refine n_dup (n := 138) hG dX11_init_137 rfl ?_
  refine n_call (n := 141) (st := [.ref q134, .ref h0]) (host := "PieceMoulds") (na := 0) hG (kX10 (h0 := q134)) ⟨nZ_true, fun _ _ => trivial⟩ ⟨⟨TT_1 236 (by decide +kernel) rfl, TT_1 11 (by decide +kernel) rfl, by decide, by decide +kernel⟩, TT_1 235 (by decide +kernel) rfl, rfl⟩ (Or.inr (fun U hU => hU.2.2.2.1)) rfl ⟨rfl, Nat.le_of_ble_eq_true rfl, by decide⟩ ⟨by decide, by decide⟩ dX11_init_138 rfl (fun u138 => ?_)
  refine n_put (n := 144) (C := RX11) (T := TX11) (N := 14) (j := 9) (fs2 := [.ref q4, .ref q12, .ref q21, .ref q30, .ref q81, .ref q39, .ref q50, .ref q106, .ref q119, .ref q134, .null, .null, .int 0, .int 0]) (ty := tyX11) hG ⟨rfl, by decide, rfl, Nat.le_of_ble_eq_true rfl⟩ inX11 tyX11_ok nmX11 lfX11_83 ⟨rfl, rfl⟩ dX11_init_141 rfl rfl ?_
  refine n_aload_n (n := 145) hG dX11_init_144 rfl rfl ?_
  refine n_new (n := 148) (C := RX6) (T := TX6) (N := 4) (cj := 6) (f0 := [.null, .null, .null, .int 0]) (ty := tyX6) hG rfl inX6 tyX6_ok ⟨TT_2 23 (by decide +kernel) rfl, TT_2 24 (by decide +kernel) rfl, TT_1 12 (by decide +kernel) rfl⟩ (by decide +kernel) ⟨by decide, by decide⟩ dX11_init_145 rfl (fun q145 => ?_)
  refine n_dup (n := 149) hG dX11_init_148 rfl ?_
  refine n_call (n := 152) (st := [.ref q145, .ref h0]) (host := "PieceMoulds") (na := 0) hG (kX6 (h0 := q145)) ⟨nZ_true, fun _ _ => trivial⟩ ⟨⟨TT_2 27 (by decide +kernel) rfl, TT_1 12 (by decide +kernel) rfl, by decide, by decide +kernel⟩, TT_2 26 (by decide +kernel) rfl, rfl⟩ (Or.inr (fun U hU => hU.2.2.2.2.1)) rfl ⟨rfl, Nat.le_of_ble_eq_true rfl, by decide⟩ ⟨by decide, by decide⟩ dX11_init_149 rfl (fun u149 => ?_)
  refine n_put (n := 155) (C := RX11) (T := TX11) (N := 14) (j := 10) (fs2 := [.ref q4, .ref q12, .ref q21, .ref q30, .ref q81, .ref q39, .ref q50, .ref q106, .ref q119, .ref q134, .ref q145, .null, .int 0, .int 0]) (ty := tyX11) hG ⟨rfl, by decide, rfl, Nat.le_of_ble_eq_true rfl⟩ inX11 tyX11_ok nmX11 lfX11_90 ⟨rfl, rfl⟩ dX11_init_152 rfl rfl ?_
  refine n_aload_n (n := 156) hG dX11_init_155 rfl rfl ?_
  refine n_new (n := 159) (C := RX6) (T := TX6) (N := 4) (cj := 6) (f0 := [.null, .null, .null, .int 0]) (ty := tyX6) hG rfl inX6 tyX6_ok ⟨TT_2 23 (by decide +kernel) rfl, TT_2 24 (by decide +kernel) rfl, TT_1 12 (by decide +kernel) rfl⟩ (by decide +kernel) ⟨by decide, by decide⟩ dX11_init_156 rfl (fun q156 => ?_)
  refine n_dup (n := 160) hG dX11_init_159 rfl ?_
  refine n_call (n := 163) (st := [.ref q156, .ref h0]) (host := "PieceMoulds") (na := 0) hG (kX6 (h0 := q156)) ⟨nZ_true, fun _ _ => trivial⟩ ⟨⟨TT_2 27 (by decide +kernel) rfl, TT_1 12 (by decide +kernel) rfl, by decide, by decide +kernel⟩, TT_2 26 (by decide +kernel) rfl, rfl⟩ (Or.inr (fun U hU => hU.2.2.2.2.1)) rfl ⟨rfl, Nat.le_of_ble_eq_true rfl, by decide⟩ ⟨by decide, by decide⟩ dX11_init_160 rfl (fun u160 => ?_)
  refine n_put (n := 166) (C := RX11) (T := TX11) (N := 14) (j := 11) (fs2 := [.ref q4, .ref q12, .ref q21, .ref q30, .ref q81, .ref q39, .ref q50, .ref q106, .ref q119, .ref q134, .ref q145, .ref q156, .int 0, .int 0]) (ty := tyX11) hG ⟨rfl, by decide, rfl, Nat.le_of_ble_eq_true rfl⟩ inX11 tyX11_ok nmX11 lfX11_94 ⟨rfl, rfl⟩ dX11_init_163 rfl rfl ?_
  refine n_aload_n (n := 167) hG dX11_init_166 rfl rfl ?_
  refine n_iconst (n := 168) hG dX11_init_167 ki_m1 rfl ?_
  refine n_put (n := 171) (C := RX11) (T := TX11) (N := 14) (j := 12) (fs2 := [.ref q4, .ref q12, .ref q21, .ref q30, .ref q81, .ref q39, .ref q50, .ref q106, .ref q119, .ref q134, .ref q145, .ref q156, .int (-1), .int 0]) (ty := tyX11) hG ⟨rfl, by decide, rfl, Nat.le_of_ble_eq_true rfl⟩ inX11 tyX11_ok nmX11 lfX11_97 ⟨rfl, rfl⟩ dX11_init_168 rfl rfl ?_
  refine n_aload_n (n := 172) hG dX11_init_171 rfl rfl ?_
  refine n_iconst (n := 173) hG dX11_init_172 ki_0 rfl ?_
  refine n_put (n := 176) (C := RX11) (T := TX11) (N := 14) (j := 13) (fs2 := [.ref q4, .ref q12, .ref q21, .ref q30, .ref q81, .ref q39, .ref q50, .ref q106, .ref q119, .ref q134, .ref q145, .ref q156, .int (-1), .int 0]) (ty := tyX11) hG ⟨rfl, by decide, rfl, Nat.le_of_ble_eq_true rfl⟩ inX11 tyX11_ok nmX11 lfX11_101 ⟨rfl, rfl⟩ dX11_init_173 rfl rfl ?_
  exact n_ret hG dX11_init_176 (hR [q4, (u8.getD 0 0), q12, (u17.getD 0 0), (u17.getD 1 0), (u17.getD 2 0), q21, (u26.getD 0 0), (u26.getD 1 0), (u26.getD 2 0), q30, (u34.getD 0 0), (u34.getD 1 0), (u34.getD 2 0), (u34.getD 3 0), q39, (u45.getD 0 0), q50, (u54.getD 0 0), q81, (u87.getD 0 0), (u87.getD 1 0), (u87.getD 2 0), (u87.getD 3 0), (u87.getD 4 0), (u87.getD 5 0), (u87.getD 6 0), (u87.getD 7 0), (u87.getD 8 0), (u87.getD 9 0), (u87.getD 10 0), (u87.getD 11 0), (u87.getD 12 0), (u87.getD 13 0), (u87.getD 14 0), (u87.getD 15 0), (u87.getD 16 0), (u87.getD 17 0), (u87.getD 18 0), q106, q119, q134, (u138.getD 0 0), (u138.getD 1 0), (u138.getD 2 0), (u138.getD 3 0), (u138.getD 4 0), (u138.getD 5 0), q145, (u149.getD 0 0), (u149.getD 1 0), (u149.getD 2 0), q156, (u160.getD 0 0), (u160.getD 1 0), (u160.getD 2 0)])
