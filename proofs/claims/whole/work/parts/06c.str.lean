/-! the words: String's own methods on the class's constant texts -/
def gsN (k : Nat) : Int32 := Int32.ofNat (gsl.getD k 0)
def gsE (k : Nat) : Int32 := if gsl.getD k 0 = 0 then 1 else 0
def gsC (k : Nat) (i : Int32) : Int32 := (gsb.getD k []).getD i.toNatClampNeg 0
theorem gsb_ok : ∀ k : Nat, k < 14 → ∀ j : Nat, j < 8 → ((gsb.getD k []).getD j 0) &&& 255 = (gsb.getD k []).getD j 0 := by decide
theorem gsl_ok : ∀ k : Nat, k < 14 → gsl.getD k 0 < 8 := by decide
section GSTR
variable {l : Launch} {D : va_G} {cs : gCs} {ad : Nat → Nat} {tX tY : Nat} {sK sV : Nat → Nat} {d : Nat} {own : String} {cc : ByteArray} {nL : Nat} {ret : Option FieldType} {G : gG} {Rt : Option Value → gSt → Prop} {pc n : Nat} {lv lv2 : List (Option Value)} {st : List Value} {S : gSt}
theorem s_sval (h : gSim l D cs layC ad (gZc ad tX tY sK sV) d "java/lang/String" cc nL ret G Rt) {i : Nat} (hi : i < 14) (hd : decode cc pc = .ok (.getfield 9, 3)) (hn : pc + 3 = n) (k : G n lv (.ref (sV i) :: st) S) : G pc lv (.ref (sK i) :: st) S := by
  subst hn
  obtain ⟨p, e, s, m, args, below, meth, c, hx, hb, hml, ho, hts, hr, hlk, hK, hZ, hi0, hz, rfl⟩ := h
  intro H locs ls hP hS hl
  exact vk_getf hx hb (hZ.2.2.2.1.1 i hi).2.2.1 hS ho (hts _ (TT_in 1429 (by decide +kernel) rfl)) (fun _ h9 => h9) hd (k H locs ls hP hS hl)
theorem s_scod (h : gSim l D cs layC ad (gZc ad tX tY sK sV) d "java/lang/String" cc nL ret G Rt) {i : Nat} (hi : i < 14) (hd : decode cc pc = .ok (.getfield 15, 3)) (hn : pc + 3 = n) (k : G n lv (.int 0 :: st) S) : G pc lv (.ref (sK i) :: st) S := by
  subst hn
  obtain ⟨p, e, s, m, args, below, meth, c, hx, hb, hml, ho, hts, hr, hlk, hK, hZ, hi0, hz, rfl⟩ := h
  intro H locs ls hP hS hl
  exact vk_getf hx hb (hZ.2.2.2.1.1 i hi).2.1 hS ho (hts _ (TT_in 1430 (by decide +kernel) rfl)) (fun _ h9 => h9) hd (k H locs ls hP hS hl)
theorem s_svlen (h : gSim l D cs layC ad (gZc ad tX tY sK sV) d own cc nL ret G Rt) {i : Nat} (hi : i < 14) (hd : decode cc pc = .ok (.arraylength, 1)) (hn : pc + 1 = n) (k : G n lv (.int (gsN i) :: st) S) : G pc lv (.ref (sV i) :: st) S := by
  subst hn
  obtain ⟨p, e, s, m, args, below, meth, c, hx, hb, hml, ho, hts, hr, hlk, hK, hZ, hi0, hz, rfl⟩ := h
  intro H locs ls hP hS hl
  exact va_tlen hx hb (hZ.2.2.2.1.1 i hi).2.2.2 hS rfl hd (k H locs ls hP hS hl)
theorem s_svald (h : gSim l D cs layC ad (gZc ad tX tY sK sV) d own cc nL ret G Rt) {i : Nat} {x : Int32} (hi : i < 14) (hin : vp_in x (gsl.getD i 0)) (hd : decode cc pc = .ok (.baload, 1)) (hn : pc + 1 = n) (k : G n lv (.int (gsC i x) :: st) S) : G pc lv (.int x :: .ref (sV i) :: st) S := by
  subst hn
  obtain ⟨p, e, s, m, args, below, meth, c, hx, hb, hml, ho, hts, hr, hlk, hK, hZ, hi0, hz, rfl⟩ := h
  intro H locs ls hP hS hl
  exact va_tb hx hb (hZ.2.2.2.1.1 i hi).2.2.2 hS hin rfl hd (k H locs ls hP hS hl)
theorem s_cmps (h : gSim l D cs layC ad (gZc ad tX tY sK sV) d "java/lang/String" cc nL ret G Rt) (hd : decode cc pc = .ok (.getstatic 38, 3)) (hn : pc + 3 = n) (k : G n lv (.int 1 :: st) S) : G pc lv st S := by
  subst hn
  obtain ⟨p, e, s, m, args, below, meth, c, hx, hb, hml, ho, hts, hr, hlk, hK, hZ, hi0, hz, rfl⟩ := h
  intro H locs ls hP hS hl
  exact va_gets hx hb hZ.2.2.2.2.2.1 hS ho (hts _ (TT_in 846 (by decide +kernel) rfl)) (fun _ h9 => h9) hd (k H locs ls hP hS hl)
theorem s_form (h : gSim l D cs layC ad (gZc ad tX tY sK sV) d "java/lang/String" cc nL ret G Rt) (hd : decode cc pc = .ok (.getstatic 1053, 3)) (hn : pc + 3 = n) (k : ∀ v : Value, (v = .null ∨ ∃ t, v = .ref t) → G n lv (v :: st) S) : G pc lv st S := by
  subst hn
  obtain ⟨p, e, s, m, args, below, meth, c, hx, hb, hml, ho, hts, hr, hlk, hK, hZ, hi0, hz, rfl⟩ := h
  intro H locs ls hP hS hl
  rcases hZ.2.2.2.2.2.2 with h1 | ⟨t, h1⟩
  · exact va_gets hx hb h1 hS ho (hts _ (TT_in 862 (by decide +kernel) rfl)) (fun _ h9 => h9) hd (k _ (Or.inl rfl) H locs ls hP hS hl)
  · exact va_gets hx hb h1 hS ho (hts _ (TT_in 862 (by decide +kernel) rfl)) (fun _ h9 => h9) hd (k _ (Or.inr ⟨t, rfl⟩) H locs ls hP hS hl)
theorem s_i2c {L : gL} {Z : State → Prop} (h : gSim l D cs L ad Z d own cc nL ret G Rt) {x : Int32} (hd : decode cc pc = .ok (.i2c, 1)) (hn : pc + 1 = n) (k : G n lv (.int ((x.toUInt32 % 65536).toInt32) :: st) S) : G pc lv (.int x :: st) S := by
  subst hn
  obtain ⟨p, e, s, m, args, below, meth, c, hx, hb, hml, ho, hts, hr, hlk, hK, hZ, hi, hz, rfl⟩ := h
  intro H locs ls hP hS hl
  exact lv_i2c hx hb hd rfl (k H locs ls hP hS hl)
theorem s_nret {L : gL} {Z : State → Prop} {ty : FieldType} (h : gSim l D cs L ad Z d own cc nL (some ty) G Rt) {x : Int32} (hd : decode cc pc = .ok (.ireturn, 1)) (hv : narrow ty (.int x) = .int x) (k : Rt (some (.int x)) S) : G pc lv [.int x] S := by
  obtain ⟨p, e, s, m, args, below, meth, c, hx, hb, hml, ho, hts, hr, hlk, hK, hZ, hi, hz, rfl⟩ := h
  intro H locs ls hP hS hl
  exact W.zret hx hb hr hv (fun t ht hW => ⟨⟨_, S, rfl, k, by rw [ht]; exact hP⟩, hS.F ht⟩) hS.2.2 hd
/-- a call on a constant text -/
theorem s_callT (h : gSim l D cs layC ad (gZc ad tX tY sK sV) d own cc nL ret G Rt) {y : MethodName} {b : ByteArray} {mL d2 idx na : Nat} {rt : Option FieldType} {o : Nat} {As st0 : List Value} {Q : Option Value → gSt → Prop} (hm : gCT l D cs layC ad (gZc ad tX tY sK sV) d2 y b mL rt (.ref (sK o) :: As) S Q) (hce : gCe y b mL na rt ∧ Cond.instanceMethod y ∈ TT ∧ Cond.selects y.cls y y ∈ TT) (hyc : y.cls = "java/lang/String") (hw : Cond.methodLink own idx y ∈ TT) (ho2 : o < 14) (hst : st0 = As.reverse ++ .ref (sK o) :: st) (hk : As.length = na ∧ (st.map fun v => v.category).sum ≤ 8 ∧ d2 < d) (hd : decode cc pc = .ok (.invokevirtual idx, 3)) (hn : pc + 3 = n) (k : ∀ (v : Option Value) (S' : gSt), Q v S' → G n lv (v.toList ++ st) S') : G pc lv st0 S := by
  subst hn
  obtain ⟨p, e, s, m, args, below, meth, c, hx, hb, hml, ho, hts, hr, hlk, hK, hZ, hi, hz, rfl⟩ := h
  intro H locs ls hP hS hl
  obtain ⟨⟨c1, c2, c3, c4⟩, c5, c6⟩ := hce
  have cb : CallB (gRm d) s args own idx y b mL rt (Cond.code y b mL rt :: TT) (gRm d2) 0 0 na := callB_of na hts (gTT c1) rfl rfl rfl (hts _ c2) (hts _ hw) c4 ⟨hk.2.2, by show 8 + (mL + 11) + 60 * d2 ≤ 60 * d; omega⟩
  refine gRun (va_runV (As := As) (rest := st) (C := y.cls) ⟨hx, hb, hml, ho, hts⟩ hm ⟨cb, hts _ c5, hts _ c6⟩ ⟨gBlind hz, by rw [hyc]; exact vk_recv hZ.2.2.2.1 ho2 hS, fun U hU hW => ⟨rfl, by rw [hU]; exact hP, va_K.moved hW.alike hK, hz.2 s U hW (fun q h1 h2 => by rw [hU]; exact hS.2.1 q h1 h2) hZ⟩⟩ rfl hk.1 hl.1 hst (by show 2 * 0 + _ ≤ 8; omega) hd ⟨Nat.zero_le _, Nat.zero_le _⟩) hS (fun v S' H1 locs1 hq hp1 hs1 => k v S' hq H1 locs1 ls hp1 hs1 hl)
/-- an answer, the state as it was -/
def gSame (x : Int32) (S : gSt) : Option Value → gSt → Prop := fun v S' => v = some (.int x) ∧ S' = S
theorem mJ0_coder (hE : gInj layC ad) {i : Nat} (hi : i < 14) : gCT l D cs layC ad (gZc ad tX tY sK sV) 1 yJ0_coder_7d493 cJ0_coder_7d493 1 (some .byte) [.ref (sK i)] S (gSame 0 S) := by
  refine met_walk (lv0 := [some (.ref (sK i))]) ⟨hE, gZc_ok _ _ _ _ _⟩ (by decide) (Nat.le_of_ble_eq_true rfl) rfl (fun G Rt hG hQ => ?_)
  replace hG : gSim l D cs layC ad (gZc ad tX tY sK sV) 1 "java/lang/String" cJ0_coder_7d493 1 (some .byte) G Rt := hG
  refine s_cmps (n := 3) hG dJ0_coder_7d493_0 rfl ?_
  refine s_if_eq (n := 6) (tgt := 13) hG dJ0_coder_7d493_3 rfl rfl (fun c => absurd c (by decide)) (fun c => ?_)
  refine s_aload_n (n := 7) hG dJ0_coder_7d493_6 rfl rfl ?_
  refine s_scod (n := 10) hG hi dJ0_coder_7d493_7 rfl ?_
  refine s_goto (tgt := 14) hG dJ0_coder_7d493_10 rfl ?_
  exact s_nret hG dJ0_coder_7d493_14 (by decide) (hQ _ _ ⟨rfl, rfl⟩)
theorem mJ0_length (hE : gInj layC ad) {i : Nat} (hi : i < 14) : gCT l D cs layC ad (gZc ad tX tY sK sV) 2 yJ0_length_8abf5 cJ0_length_8abf5 1 (some .int) [.ref (sK i)] S (gSame (gsN i) S) := by
  refine met_walk (lv0 := [some (.ref (sK i))]) ⟨hE, gZc_ok _ _ _ _ _⟩ (by decide) (Nat.le_of_ble_eq_true rfl) rfl (fun G Rt hG hQ => ?_)
  replace hG : gSim l D cs layC ad (gZc ad tX tY sK sV) 2 "java/lang/String" cJ0_length_8abf5 1 (some .int) G Rt := hG
  refine s_aload_n (n := 1) hG dJ0_length_8abf5_0 rfl rfl ?_
  refine s_sval (n := 4) hG hi dJ0_length_8abf5_1 rfl ?_
  refine s_svlen (n := 5) hG hi dJ0_length_8abf5_4 rfl ?_
  refine s_aload_n (n := 6) hG dJ0_length_8abf5_5 rfl rfl ?_
  refine s_callT (n := 9) (st := [.int (gsN i)]) hG (mJ0_coder hE hi) ceJ0_coder_7d493 rfl lmJ0_335 hi rfl ⟨rfl, Nat.le_of_ble_eq_true rfl, by decide⟩ dJ0_length_8abf5_6 rfl ?_
  rintro _ _ ⟨rfl, rfl⟩
  refine s_ishr (n := 10) hG dJ0_length_8abf5_9 rfl ?_
  exact s_iret hG dJ0_length_8abf5_10 (hQ _ _ ⟨by rw [sb_shr0], rfl⟩)
theorem mJ0_isEmpty (hE : gInj layC ad) {i : Nat} (hi : i < 14) : gCT l D cs layC ad (gZc ad tX tY sK sV) 1 yJ0_isEmpty_aae02 cJ0_isEmpty_aae02 1 (some .boolean) [.ref (sK i)] S (gSame (gsE i) S) := by
  refine met_walk (lv0 := [some (.ref (sK i))]) ⟨hE, gZc_ok _ _ _ _ _⟩ (by decide) (Nat.le_of_ble_eq_true rfl) rfl (fun G Rt hG hQ => ?_)
  replace hG : gSim l D cs layC ad (gZc ad tX tY sK sV) 1 "java/lang/String" cJ0_isEmpty_aae02 1 (some .boolean) G Rt := hG
  have hb : gsl.getD i 0 < 2 ^ 31 := Nat.lt_trans (gsl_ok i hi) (by decide)
  refine s_aload_n (n := 1) hG dJ0_isEmpty_aae02_0 rfl rfl ?_
  refine s_sval (n := 4) hG hi dJ0_isEmpty_aae02_1 rfl ?_
  refine s_svlen (n := 5) hG hi dJ0_isEmpty_aae02_4 rfl ?_
  refine s_if_ne (n := 8) (tgt := 12) hG dJ0_isEmpty_aae02_5 rfl rfl (fun c => ?_) (fun c => ?_)
  · refine s_iconst (n := 13) hG dJ0_isEmpty_aae02_12 ki_0 rfl ?_
    refine s_zret hG dJ0_isEmpty_aae02_13 (gz_n gz_0) (hQ _ _ ⟨?_, rfl⟩)
    unfold gsE
    rw [if_neg]
    intro q
    exact c (by unfold gsN; rw [q]; rfl)
  · refine s_iconst (n := 9) hG dJ0_isEmpty_aae02_8 ki_1 rfl ?_
    refine s_goto (tgt := 13) hG dJ0_isEmpty_aae02_9 rfl ?_
    refine s_zret hG dJ0_isEmpty_aae02_13 (gz_n gz_1) (hQ _ _ ⟨?_, rfl⟩)
    unfold gsE
    rw [if_pos]
    exact (nI_eq hb (by decide)).mp (show nI (gsl.getD i 0) = nI 0 from c)
theorem mJ3_checkIndex (hE : gInj layC ad) {x y : Int32} {v : Value} (h0 : ¬ x < 0) (h1 : x < y) (hv : v = .null ∨ ∃ t, v = .ref t) : gCT l D cs layC ad (gZc ad tX tY sK sV) 1 yJ3_checkIndex_8e157 cJ3_checkIndex_8e157 3 (some .int) [.int x, .int y, v] S (gSame x S) := by
  have hcat : v.category = 1 := by rcases hv with rfl | ⟨t, rfl⟩ <;> rfl
  refine met_walk (lv0 := [some (.int x), some (.int y), some v]) ⟨hE, gZc_ok _ _ _ _ _⟩ (by decide) ?_ ?_ (fun G Rt hG hQ => ?_)
  · rcases hv with rfl | ⟨t, rfl⟩ <;> exact Nat.le_of_ble_eq_true rfl
  · rcases hv with rfl | ⟨t, rfl⟩ <;> rfl
  replace hG : gSim l D cs layC ad (gZc ad tX tY sK sV) 1 "jdk/internal/util/Preconditions" cJ3_checkIndex_8e157 3 (some .int) G Rt := hG
  refine s_iload_n (n := 1) hG dJ3_checkIndex_8e157_0 rfl rfl ?_
  refine s_if_lt (n := 4) (tgt := 9) hG dJ3_checkIndex_8e157_1 rfl rfl (fun c => absurd c h0) (fun c => ?_)
  refine s_iload_n (n := 5) hG dJ3_checkIndex_8e157_4 rfl rfl ?_
  refine s_iload_n (n := 6) hG dJ3_checkIndex_8e157_5 rfl rfl ?_
  refine s_icmp_lt (n := 9) (tgt := 16) hG dJ3_checkIndex_8e157_6 rfl rfl (fun c => ?_) (fun c => absurd h1 c)
  refine s_iload_n (n := 17) hG dJ3_checkIndex_8e157_16 rfl rfl ?_
  exact s_iret hG dJ3_checkIndex_8e157_17 (hQ _ _ ⟨rfl, rfl⟩)
theorem mJ0_checkIndex (hE : gInj layC ad) {x y : Int32} (h0 : ¬ x < 0) (h1 : x < y) : gCT l D cs layC ad (gZc ad tX tY sK sV) 2 yJ0_checkIndex_df160 cJ0_checkIndex_df160 2 none [.int x, .int y] S (fun v S' => v = none ∧ S' = S) := by
  refine met_walk (lv0 := [some (.int x), some (.int y)]) ⟨hE, gZc_ok _ _ _ _ _⟩ (by decide) (Nat.le_of_ble_eq_true rfl) rfl (fun G Rt hG hQ => ?_)
  replace hG : gSim l D cs layC ad (gZc ad tX tY sK sV) 2 "java/lang/String" cJ0_checkIndex_df160 2 none G Rt := hG
  refine s_iload_n (n := 1) hG dJ0_checkIndex_df160_0 rfl rfl ?_
  refine s_iload_n (n := 2) hG dJ0_checkIndex_df160_1 rfl rfl ?_
  refine s_form (n := 5) hG dJ0_checkIndex_df160_2 rfl (fun v hv => ?_)
  refine s_callS (n := 8) (st := []) hG (mJ3_checkIndex hE h0 h1 hv) ceJ3_checkIndex_8e157 lmJ0_1059 rfl ⟨rfl, Nat.le_of_ble_eq_true rfl, by decide⟩ dJ0_checkIndex_df160_5 rfl ?_
  rintro _ _ ⟨rfl, rfl⟩
  refine s_pop (n := 9) hG dJ0_checkIndex_df160_8 rfl rfl ?_
  exact s_vret hG dJ0_checkIndex_df160_9 (hQ _ _ ⟨rfl, rfl⟩)
theorem mJ1_charAt (hE : gInj layC ad) {i : Nat} {x : Int32} (hi : i < 14) (hin : vp_in x (gsl.getD i 0)) : gCT l D cs layC ad (gZc ad tX tY sK sV) 3 yJ1_charAt_3b067 cJ1_charAt_3b067 2 (some .char) [.ref (sV i), .int x] S (gSame (gsC i x) S) := by
  refine met_walk (lv0 := [some (.ref (sV i)), some (.int x)]) ⟨hE, gZc_ok _ _ _ _ _⟩ (by decide) (Nat.le_of_ble_eq_true rfl) rfl (fun G Rt hG hQ => ?_)
  replace hG : gSim l D cs layC ad (gZc ad tX tY sK sV) 3 "java/lang/StringLatin1" cJ1_charAt_3b067 2 (some .char) G Rt := hG
  have hb : gsl.getD i 0 < 2 ^ 31 := Nat.lt_trans (gsl_ok i hi) (by decide)
  obtain ⟨j, hj, rfl⟩ := vp_in_of hin hb
  refine s_iload_n (n := 1) hG dJ1_charAt_3b067_0 rfl rfl ?_
  refine s_aload_n (n := 2) hG dJ1_charAt_3b067_1 rfl rfl ?_
  refine s_svlen (n := 3) hG hi dJ1_charAt_3b067_2 rfl ?_
  refine s_callS (n := 6) (st := []) hG (mJ0_checkIndex hE (nI_pos (by omega)) (nI_lt hj hb)) ceJ0_checkIndex_df160 lmJ1_9 rfl ⟨rfl, Nat.le_of_ble_eq_true rfl, by decide⟩ dJ1_charAt_3b067_3 rfl ?_
  rintro _ _ ⟨rfl, rfl⟩
  refine s_aload_n (n := 7) hG dJ1_charAt_3b067_6 rfl rfl ?_
  refine s_iload_n (n := 8) hG dJ1_charAt_3b067_7 rfl rfl ?_
  refine s_svald (n := 9) hG hi hin dJ1_charAt_3b067_8 rfl ?_
  refine s_sipush (n := 12) hG dJ1_charAt_3b067_9 ks_255 rfl ?_
  refine s_iand (n := 13) hG dJ1_charAt_3b067_12 rfl ?_
  refine s_i2c (n := 14) hG dJ1_charAt_3b067_13 rfl ?_
  have e : ((gsC i (nI j) &&& 255).toUInt32 % 65536).toInt32 = gsC i (nI j) := by
    rw [sc_c2]
    unfold gsC
    rw [nI_clamp (by omega)]
    exact gsb_ok i hi j (by have := gsl_ok i hi; omega)
  rw [e]
  refine s_nret hG dJ1_charAt_3b067_14 ?_ (hQ _ _ ⟨rfl, rfl⟩)
  have e2 : gsC i (nI j) = gsC i (nI j) &&& 255 := by
    unfold gsC
    rw [nI_clamp (by omega)]
    exact (gsb_ok i hi j (by have := gsl_ok i hi; omega)).symm
  rw [e2]
  exact sc_nar _
theorem mJ0_isLatin1 (hE : gInj layC ad) {i : Nat} (hi : i < 14) : gCT l D cs layC ad (gZc ad tX tY sK sV) 1 yJ0_isLatin1_aae02 cJ0_isLatin1_aae02 1 (some .boolean) [.ref (sK i)] S (gSame 1 S) := by
  refine met_walk (lv0 := [some (.ref (sK i))]) ⟨hE, gZc_ok _ _ _ _ _⟩ (by decide) (Nat.le_of_ble_eq_true rfl) rfl (fun G Rt hG hQ => ?_)
  replace hG : gSim l D cs layC ad (gZc ad tX tY sK sV) 1 "java/lang/String" cJ0_isLatin1_aae02 1 (some .boolean) G Rt := hG
  refine s_cmps (n := 3) hG dJ0_isLatin1_aae02_0 rfl ?_
  refine s_if_eq (n := 6) (tgt := 17) hG dJ0_isLatin1_aae02_3 rfl rfl (fun c => absurd c (by decide)) (fun c => ?_)
  refine s_aload_n (n := 7) hG dJ0_isLatin1_aae02_6 rfl rfl ?_
  refine s_scod (n := 10) hG hi dJ0_isLatin1_aae02_7 rfl ?_
  refine s_if_ne (n := 13) (tgt := 17) hG dJ0_isLatin1_aae02_10 rfl rfl (fun c => absurd rfl c) (fun c => ?_)
  refine s_iconst (n := 14) hG dJ0_isLatin1_aae02_13 ki_1 rfl ?_
  refine s_goto (tgt := 18) hG dJ0_isLatin1_aae02_14 rfl ?_
  exact s_zret hG dJ0_isLatin1_aae02_18 (gz_n gz_1) (hQ _ _ ⟨rfl, rfl⟩)
theorem mJ0_charAt (hE : gInj layC ad) {i : Nat} {x : Int32} (hi : i < 14) (hin : vp_in x (gsl.getD i 0)) : gCT l D cs layC ad (gZc ad tX tY sK sV) 4 yJ0_charAt_5068e cJ0_charAt_5068e 2 (some .char) [.ref (sK i), .int x] S (gSame (gsC i x) S) := by
  refine met_walk (lv0 := [some (.ref (sK i)), some (.int x)]) ⟨hE, gZc_ok _ _ _ _ _⟩ (by decide) (Nat.le_of_ble_eq_true rfl) rfl (fun G Rt hG hQ => ?_)
  replace hG : gSim l D cs layC ad (gZc ad tX tY sK sV) 4 "java/lang/String" cJ0_charAt_5068e 2 (some .char) G Rt := hG
  refine s_aload_n (n := 1) hG dJ0_charAt_5068e_0 rfl rfl ?_
  refine s_callT (n := 4) (st := []) hG (mJ0_isLatin1 hE hi) ceJ0_isLatin1_aae02 rfl lmJ0_492 hi rfl ⟨rfl, Nat.le_of_ble_eq_true rfl, by decide⟩ dJ0_charAt_5068e_1 rfl ?_
  rintro _ _ ⟨rfl, rfl⟩
  refine s_if_eq (n := 7) (tgt := 16) hG dJ0_charAt_5068e_4 rfl rfl (fun c => absurd c (by decide)) (fun c => ?_)
  refine s_aload_n (n := 8) hG dJ0_charAt_5068e_7 rfl rfl ?_
  refine s_sval (n := 11) hG hi dJ0_charAt_5068e_8 rfl ?_
  refine s_iload_n (n := 12) hG dJ0_charAt_5068e_11 rfl rfl ?_
  refine s_callS (n := 15) (st := []) hG (mJ1_charAt hE hi hin) ceJ1_charAt_3b067 lmJ0_495 rfl ⟨rfl, Nat.le_of_ble_eq_true rfl, by decide⟩ dJ0_charAt_5068e_12 rfl ?_
  rintro _ _ ⟨rfl, rfl⟩
  have hb : gsl.getD i 0 < 2 ^ 31 := Nat.lt_trans (gsl_ok i hi) (by decide)
  obtain ⟨j, hj, rfl⟩ := vp_in_of hin hb
  refine s_nret hG dJ0_charAt_5068e_15 ?_ (hQ _ _ ⟨rfl, rfl⟩)
  have e2 : gsC i (nI j) = gsC i (nI j) &&& 255 := by
    unfold gsC
    rw [nI_clamp (by omega)]
    exact (gsb_ok i hi j (by have := gsl_ok i hi; omega)).symm
  rw [e2]
  exact sc_nar _
theorem s_slen (h : gSim l D cs layC ad (gZc ad tX tY sK sV) d RX7 cc nL ret G Rt) (hE : gInj layC ad) {i : Nat} (hd : decode cc pc = .ok (.invokevirtual 118, 3)) (hin : i < 14) (hst : (st.map fun v => v.category).sum ≤ 8) (hdd : 5 ≤ d) (hn : pc + 3 = n) (k : G n lv (.int (gsN i) :: st) S) : G pc lv (.ref (sK i) :: st) S := by
  refine s_callT (n := n) (st := st) h (mJ0_length hE hin) ceJ0_length_8abf5 rfl lmX7_118 hin rfl ⟨rfl, hst, by omega⟩ hd hn ?_
  rintro _ _ ⟨rfl, rfl⟩
  exact k
theorem s_sempty (h : gSim l D cs layC ad (gZc ad tX tY sK sV) d RX7 cc nL ret G Rt) (hE : gInj layC ad) {i : Nat} (hd : decode cc pc = .ok (.invokevirtual 52, 3)) (hin : i < 14) (hst : (st.map fun v => v.category).sum ≤ 8) (hdd : 5 ≤ d) (hn : pc + 3 = n) (k : G n lv (.int (gsE i) :: st) S) : G pc lv (.ref (sK i) :: st) S := by
  refine s_callT (n := n) (st := st) h (mJ0_isEmpty hE hin) ceJ0_isEmpty_aae02 rfl lmX7_52 hin rfl ⟨rfl, hst, by omega⟩ hd hn ?_
  rintro _ _ ⟨rfl, rfl⟩
  exact k
theorem s_schar (h : gSim l D cs layC ad (gZc ad tX tY sK sV) d RX7 cc nL ret G Rt) (hE : gInj layC ad) {i : Nat} {x : Int32} (hd : decode cc pc = .ok (.invokevirtual 121, 3)) (hin : i < 14 ∧ vp_in x (gsl.getD i 0)) (hst : (st.map fun v => v.category).sum ≤ 8) (hdd : 5 ≤ d) (hn : pc + 3 = n) (k : G n lv (.int (gsC i x) :: st) S) : G pc lv (.int x :: .ref (sK i) :: st) S := by
  refine s_callT (n := n) (st := st) h (mJ0_charAt hE hin.1 hin.2) ceJ0_charAt_5068e rfl lmX7_121 hin.1 rfl ⟨rfl, hst, by omega⟩ hd hn ?_
  rintro _ _ ⟨rfl, rfl⟩
  exact k
theorem s_ldcS (h : gSim l D cs layC ad (gZc ad tX tY sK sV) d RX7 cc nL ret G Rt) {i idx : Nat} {tx : String} (hd : decode cc pc = .ok (.ldc idx, 2)) (hx0 : gsx[i]? = some (idx, tx)) (hn : pc + 2 = n) (k : G n lv (.ref (sK i) :: st) S) : G pc lv st S := by
  subst hn
  obtain ⟨p, e, s, m, args, below, meth, c, hx, hb, hml, ho, hts, hr, hlk, hK, hZ, hi, hz, rfl⟩ := h
  intro H locs ls hP hS hl
  exact va_ldcS hx hb ho (hZ.2.2.2.2.1 i _ hx0) hd (k H locs ls hP hS hl)
end GSTR
