section GWb
variable {l : Launch} {D : va_G} {cs : gCs} {ad : Nat → Nat} {tX tY : Nat} {sK sV : Nat → Nat}
def wX3_isOutside_j30 (N : Nat)  (Q : Int32 → gFG → gFF → Prop)  (g : gFG) (f : gFF) : Prop := Q 1 g f
theorem sX3_isOutside_j30 {G : gG} {Rt : Option Value → gSt → Prop} (hE : gInj layC ad) (hG : gSim l D cs layC ad (gZc ad tX tY sK sV) 2 RX3 cX3_isOutside 5 (some .boolean) G Rt) {Q : Int32 → gFG → gFF → Prop} (hQ : ∀ v S, gQi Q v S → Rt v S) {N : Nat}    {g : gFG} {f : gFF}  (h : wX3_isOutside_j30 N  Q  g f) : G 30 [none, none, none, none, none] [] (g, f, 0) := by
  unfold wX3_isOutside_j30 at h
  refine s_iconst (n := 31) hG dX3_isOutside_30 ki_1 rfl ?_
  refine s_goto (tgt := 35) hG dX3_isOutside_31 rfl ?_
  exact s_zret hG dX3_isOutside_35 (gz_n gz_1) (hQ _ _ ⟨_, _, _, rfl, rfl, h⟩)
def wX3_isOutside (N : Nat) (a1 : Int32) (a2 : Int32) (a3 : Int32) (g : gFG) (f : gFF) (Q : Int32 → gFG → gFF → Prop) : Prop := wX0_total N g f (fun r4 g4 f4 => ((r4 = 0) → wX3_isOutside_j30 N  Q g4 f4) ∧ ((¬ r4 = 0) → ((a1 < (a2 * r4)) → wX3_isOutside_j30 N  Q g4 f4) ∧ ((¬ a1 < (a2 * r4)) → ((a1 ≤ (a3 * r4)) → Q 0 g4 f4) ∧ ((¬ a1 ≤ (a3 * r4)) → wX3_isOutside_j30 N  Q g4 f4))))
theorem mX3_isOutside (hE : gInj layC ad) {N : Nat} {a1 : Int32} {a2 : Int32} {a3 : Int32} {g : gFG} {f : gFF} {Q : Int32 → gFG → gFF → Prop} (h : wX3_isOutside N a1 a2 a3 g f Q) : gCT l D cs layC ad (gZc ad tX tY sK sV) 2 yX3_isOutside cX3_isOutside 5 (some .boolean) [.ref (ad 9), .int a1, .int a2, .int a3] (g, f, 0) (gQi Q) := by
  refine met_walk (lv0 := [some (.ref (ad 9)), some (.int a1), some (.int a2), some (.int a3), none]) ⟨hE, gZc_ok _ _ _ _ _⟩ (by decide) (Nat.le_of_ble_eq_true rfl) rfl (fun G Rt hG hQ => ?_)
  replace hG : gSim l D cs layC ad (gZc ad tX tY sK sV) 2 RX3 cX3_isOutside 5 (some .boolean) G Rt := hG
  unfold wX3_isOutside at h
  refine s_aload_n (n := 1) hG dX3_isOutside_0 rfl rfl ?_
  refine gtX3_19 (n := 4) hG dX3_isOutside_1 rfl ?_
  refine s_callV (n := 7) (st := []) hG (mX0_total hE h) ceX0_total lmX3_62 ⟨by decide, rfl, rfl⟩ rfl ⟨rfl, Nat.le_of_ble_eq_true rfl, by decide⟩ dX3_isOutside_4 rfl ?_
  rintro _ _ ⟨r4, g4, f4, rfl, rfl, h⟩
  refine s_istore (n := 9) (lv2 := [some (.ref (ad 9)), some (.int a1), some (.int a2), some (.int a3), some (.int r4)]) hG dX3_isOutside_7 rfl rfl rfl ?_
  refine s_iload (n := 11) hG dX3_isOutside_9 rfl rfl ?_
  refine s_if_eq (n := 14) (tgt := 30) hG dX3_isOutside_11 rfl rfl (fun c => ?_) (fun c => ?_)
  · replace h := h.1 c
    exact s_wk hG (sX3_isOutside_j30 hE hG hQ  h) trivial
  · replace h := h.2 c
    refine s_iload_n (n := 15) hG dX3_isOutside_14 rfl rfl ?_
    refine s_iload_n (n := 16) hG dX3_isOutside_15 rfl rfl ?_
    refine s_iload (n := 18) hG dX3_isOutside_16 rfl rfl ?_
    refine s_imul (n := 19) hG dX3_isOutside_18 rfl ?_
    refine s_icmp_lt (n := 22) (tgt := 30) hG dX3_isOutside_19 rfl rfl (fun c => ?_) (fun c => ?_)
    · replace h := h.1 c
      exact s_wk hG (sX3_isOutside_j30 hE hG hQ  h) trivial
    · replace h := h.2 c
      refine s_iload_n (n := 23) hG dX3_isOutside_22 rfl rfl ?_
      refine s_iload_n (n := 24) hG dX3_isOutside_23 rfl rfl ?_
      refine s_iload (n := 26) hG dX3_isOutside_24 rfl rfl ?_
      refine s_imul (n := 27) hG dX3_isOutside_26 rfl ?_
      refine s_icmp_le (n := 30) (tgt := 34) hG dX3_isOutside_27 rfl rfl (fun c => ?_) (fun c => ?_)
      · replace h := h.1 c
        refine s_iconst (n := 35) hG dX3_isOutside_34 ki_0 rfl ?_
        exact s_zret hG dX3_isOutside_35 (gz_n gz_0) (hQ _ _ ⟨_, _, _, rfl, rfl, h⟩)
      · replace h := h.2 c
        exact s_wk hG (sX3_isOutside_j30 hE hG hQ  h) trivial
def wJ6_bitCount_0f7a4 (N : Nat) (a1 : Int32) (g : gFG) (f : gFF) (Q : Int32 → gFG → gFF → Prop) : Prop := ∀ x0_9 : Int32, x0_9 = (a1 - (((a1.toUInt32 >>> ((1 : Int32).toUInt32 &&& Int32.toUInt32 31)).toInt32) &&& 1431655765)) → ∀ x0_23 : Int32, x0_23 = ((x0_9 &&& 858993459) + (((x0_9.toUInt32 >>> ((2 : Int32).toUInt32 &&& Int32.toUInt32 31)).toInt32) &&& 858993459)) → ∀ x0_33 : Int32, x0_33 = ((x0_23 + ((x0_23.toUInt32 >>> ((4 : Int32).toUInt32 &&& Int32.toUInt32 31)).toInt32)) &&& 252645135) → ∀ x0_40 : Int32, x0_40 = (x0_33 + ((x0_33.toUInt32 >>> ((8 : Int32).toUInt32 &&& Int32.toUInt32 31)).toInt32)) → ∀ x0_47 : Int32, x0_47 = (x0_40 + ((x0_40.toUInt32 >>> ((16 : Int32).toUInt32 &&& Int32.toUInt32 31)).toInt32)) → Q (x0_47 &&& 63) g f
theorem mJ6_bitCount_0f7a4 (hE : gInj layC ad) {N : Nat} {a1 : Int32} {g : gFG} {f : gFF} {Q : Int32 → gFG → gFF → Prop} (h : wJ6_bitCount_0f7a4 N a1 g f Q) : gCT l D cs layC ad (gZc ad tX tY sK sV) 1 yJ6_bitCount_0f7a4 cJ6_bitCount_0f7a4 1 (some .int) [.int a1] (g, f, 0) (gQi Q) := by
  refine met_walk (lv0 := [some (.int a1)]) ⟨hE, gZc_ok _ _ _ _ _⟩ (by decide) (Nat.le_of_ble_eq_true rfl) rfl (fun G Rt hG hQ => ?_)
  replace hG : gSim l D cs layC ad (gZc ad tX tY sK sV) 1 RJ6 cJ6_bitCount_0f7a4 1 (some .int) G Rt := hG
  unfold wJ6_bitCount_0f7a4 at h
  refine s_iload_n (n := 1) hG dJ6_bitCount_0f7a4_0 rfl rfl ?_
  refine s_iload_n (n := 2) hG dJ6_bitCount_0f7a4_1 rfl rfl ?_
  refine s_iconst (n := 3) hG dJ6_bitCount_0f7a4_2 ki_1 rfl ?_
  refine s_iushr (n := 4) hG dJ6_bitCount_0f7a4_3 rfl ?_
  refine s_ldc_w (n := 7) hG dJ6_bitCount_0f7a4_4 lcJ6_265 rfl ?_
  refine s_iand (n := 8) hG dJ6_bitCount_0f7a4_7 rfl ?_
  refine s_isub (n := 9) hG dJ6_bitCount_0f7a4_8 rfl ?_
  refine s_topi (fun x0_9 hx0_9 => ?_)
  replace h := h x0_9 hx0_9
  refine s_istore_n (n := 10) (lv2 := [some (.int x0_9)]) hG dJ6_bitCount_0f7a4_9 rfl rfl rfl ?_
  refine s_iload_n (n := 11) hG dJ6_bitCount_0f7a4_10 rfl rfl ?_
  refine s_ldc_w (n := 14) hG dJ6_bitCount_0f7a4_11 lcJ6_266 rfl ?_
  refine s_iand (n := 15) hG dJ6_bitCount_0f7a4_14 rfl ?_
  refine s_iload_n (n := 16) hG dJ6_bitCount_0f7a4_15 rfl rfl ?_
  refine s_iconst (n := 17) hG dJ6_bitCount_0f7a4_16 ki_2 rfl ?_
  refine s_iushr (n := 18) hG dJ6_bitCount_0f7a4_17 rfl ?_
  refine s_ldc_w (n := 21) hG dJ6_bitCount_0f7a4_18 lcJ6_266 rfl ?_
  refine s_iand (n := 22) hG dJ6_bitCount_0f7a4_21 rfl ?_
  refine s_iadd (n := 23) hG dJ6_bitCount_0f7a4_22 rfl ?_
  refine s_topi (fun x0_23 hx0_23 => ?_)
  replace h := h x0_23 hx0_23
  refine s_istore_n (n := 24) (lv2 := [some (.int x0_23)]) hG dJ6_bitCount_0f7a4_23 rfl rfl rfl ?_
  refine s_iload_n (n := 25) hG dJ6_bitCount_0f7a4_24 rfl rfl ?_
  refine s_iload_n (n := 26) hG dJ6_bitCount_0f7a4_25 rfl rfl ?_
  refine s_iconst (n := 27) hG dJ6_bitCount_0f7a4_26 ki_4 rfl ?_
  refine s_iushr (n := 28) hG dJ6_bitCount_0f7a4_27 rfl ?_
  refine s_iadd (n := 29) hG dJ6_bitCount_0f7a4_28 rfl ?_
  refine s_ldc_w (n := 32) hG dJ6_bitCount_0f7a4_29 lcJ6_267 rfl ?_
  refine s_iand (n := 33) hG dJ6_bitCount_0f7a4_32 rfl ?_
  refine s_topi (fun x0_33 hx0_33 => ?_)
  replace h := h x0_33 hx0_33
  refine s_istore_n (n := 34) (lv2 := [some (.int x0_33)]) hG dJ6_bitCount_0f7a4_33 rfl rfl rfl ?_
  refine s_iload_n (n := 35) hG dJ6_bitCount_0f7a4_34 rfl rfl ?_
  refine s_iload_n (n := 36) hG dJ6_bitCount_0f7a4_35 rfl rfl ?_
  refine s_bipush (n := 38) hG dJ6_bitCount_0f7a4_36 kb_8 rfl ?_
  refine s_iushr (n := 39) hG dJ6_bitCount_0f7a4_38 rfl ?_
  refine s_iadd (n := 40) hG dJ6_bitCount_0f7a4_39 rfl ?_
  refine s_topi (fun x0_40 hx0_40 => ?_)
  replace h := h x0_40 hx0_40
  refine s_istore_n (n := 41) (lv2 := [some (.int x0_40)]) hG dJ6_bitCount_0f7a4_40 rfl rfl rfl ?_
  refine s_iload_n (n := 42) hG dJ6_bitCount_0f7a4_41 rfl rfl ?_
  refine s_iload_n (n := 43) hG dJ6_bitCount_0f7a4_42 rfl rfl ?_
  refine s_bipush (n := 45) hG dJ6_bitCount_0f7a4_43 kb_16 rfl ?_
  refine s_iushr (n := 46) hG dJ6_bitCount_0f7a4_45 rfl ?_
  refine s_iadd (n := 47) hG dJ6_bitCount_0f7a4_46 rfl ?_
  refine s_topi (fun x0_47 hx0_47 => ?_)
  replace h := h x0_47 hx0_47
  refine s_istore_n (n := 48) (lv2 := [some (.int x0_47)]) hG dJ6_bitCount_0f7a4_47 rfl rfl rfl ?_
  refine s_iload_n (n := 49) hG dJ6_bitCount_0f7a4_48 rfl rfl ?_
  refine s_bipush (n := 51) hG dJ6_bitCount_0f7a4_49 kb_63 rfl ?_
  refine s_iand (n := 52) hG dJ6_bitCount_0f7a4_51 rfl ?_
  exact s_iret hG dJ6_bitCount_0f7a4_52 (hQ _ _ ⟨_, _, _, rfl, rfl, h⟩)
def wX8_pieceCount (N : Nat)  (g : gFG) (f : gFF) (Q : Int32 → gFG → gFF → Prop) : Prop := wJ6_bitCount_0f7a4 N (g 10) g f (fun r4 g4 f4 => Q r4 g4 f4)
theorem mX8_pieceCount (hE : gInj layC ad) {N : Nat}  {g : gFG} {f : gFF} {Q : Int32 → gFG → gFF → Prop} (h : wX8_pieceCount N  g f Q) : gCT l D cs layC ad (gZc ad tX tY sK sV) 2 yX8_pieceCount cX8_pieceCount 1 (some .int) [.ref (ad 3)] (g, f, 0) (gQi Q) := by
  refine met_walk (lv0 := [some (.ref (ad 3))]) ⟨hE, gZc_ok _ _ _ _ _⟩ (by decide) (Nat.le_of_ble_eq_true rfl) rfl (fun G Rt hG hQ => ?_)
  replace hG : gSim l D cs layC ad (gZc ad tX tY sK sV) 2 RX8 cX8_pieceCount 1 (some .int) G Rt := hG
  unfold wX8_pieceCount at h
  refine s_aload_n (n := 1) hG dX8_pieceCount_0 rfl rfl ?_
  refine gtX8_21 (n := 4) hG dX8_pieceCount_1 rfl ?_
  refine s_callS (n := 7) (st := []) hG (mJ6_bitCount_0f7a4 hE h) ceJ6_bitCount_0f7a4 lmX8_35 rfl ⟨rfl, Nat.le_of_ble_eq_true rfl, by decide⟩ dX8_pieceCount_4 rfl ?_
  rintro _ _ ⟨r4, g4, f4, rfl, rfl, h⟩
  exact s_iret hG dX8_pieceCount_7 (hQ _ _ ⟨_, _, _, rfl, rfl, h⟩)
def wX8_goneCount (N : Nat)  (g : gFG) (f : gFF) (Q : Int32 → gFG → gFF → Prop) : Prop := wJ6_bitCount_0f7a4 N (g 11) g f (fun r4 g4 f4 => Q r4 g4 f4)
theorem mX8_goneCount (hE : gInj layC ad) {N : Nat}  {g : gFG} {f : gFF} {Q : Int32 → gFG → gFF → Prop} (h : wX8_goneCount N  g f Q) : gCT l D cs layC ad (gZc ad tX tY sK sV) 2 yX8_goneCount cX8_goneCount 1 (some .int) [.ref (ad 3)] (g, f, 0) (gQi Q) := by
  refine met_walk (lv0 := [some (.ref (ad 3))]) ⟨hE, gZc_ok _ _ _ _ _⟩ (by decide) (Nat.le_of_ble_eq_true rfl) rfl (fun G Rt hG hQ => ?_)
  replace hG : gSim l D cs layC ad (gZc ad tX tY sK sV) 2 RX8 cX8_goneCount 1 (some .int) G Rt := hG
  unfold wX8_goneCount at h
  refine s_aload_n (n := 1) hG dX8_goneCount_0 rfl rfl ?_
  refine gtX8_25 (n := 4) hG dX8_goneCount_1 rfl ?_
  refine s_callS (n := 7) (st := []) hG (mJ6_bitCount_0f7a4 hE h) ceJ6_bitCount_0f7a4 lmX8_35 rfl ⟨rfl, Nat.le_of_ble_eq_true rfl, by decide⟩ dX8_goneCount_4 rfl ?_
  rintro _ _ ⟨r4, g4, f4, rfl, rfl, h⟩
  exact s_iret hG dX8_goneCount_7 (hQ _ _ ⟨_, _, _, rfl, rfl, h⟩)
def wX8_stuckCount (N : Nat)  (g : gFG) (f : gFF) (Q : Int32 → gFG → gFF → Prop) : Prop := wX8_pieceCount N g f (fun r1 g1 f1 => wX8_goneCount N g1 f1 (fun r5 g5 f5 => Q (r1 - r5) g5 f5))
theorem mX8_stuckCount (hE : gInj layC ad) {N : Nat}  {g : gFG} {f : gFF} {Q : Int32 → gFG → gFF → Prop} (h : wX8_stuckCount N  g f Q) : gCT l D cs layC ad (gZc ad tX tY sK sV) 3 yX8_stuckCount cX8_stuckCount 1 (some .int) [.ref (ad 3)] (g, f, 0) (gQi Q) := by
  refine met_walk (lv0 := [some (.ref (ad 3))]) ⟨hE, gZc_ok _ _ _ _ _⟩ (by decide) (Nat.le_of_ble_eq_true rfl) rfl (fun G Rt hG hQ => ?_)
  replace hG : gSim l D cs layC ad (gZc ad tX tY sK sV) 3 RX8 cX8_stuckCount 1 (some .int) G Rt := hG
  unfold wX8_stuckCount at h
  refine s_aload_n (n := 1) hG dX8_stuckCount_0 rfl rfl ?_
  refine s_callV (n := 4) (st := []) hG (mX8_pieceCount hE h) ceX8_pieceCount lmX8_41 ⟨by decide, rfl, rfl⟩ rfl ⟨rfl, Nat.le_of_ble_eq_true rfl, by decide⟩ dX8_stuckCount_1 rfl ?_
  rintro _ _ ⟨r1, g1, f1, rfl, rfl, h⟩
  refine s_aload_n (n := 5) hG dX8_stuckCount_4 rfl rfl ?_
  refine s_callV (n := 8) (st := [.int r1]) hG (mX8_goneCount hE h) ceX8_goneCount lmX8_45 ⟨by decide, rfl, rfl⟩ rfl ⟨rfl, Nat.le_of_ble_eq_true rfl, by decide⟩ dX8_stuckCount_5 rfl ?_
  rintro _ _ ⟨r5, g5, f5, rfl, rfl, h⟩
  refine s_isub (n := 9) hG dX8_stuckCount_8 rfl ?_
  exact s_iret hG dX8_stuckCount_9 (hQ _ _ ⟨_, _, _, rfl, rfl, h⟩)
def wX3_isBroken (N : Nat) (a1 : Int32) (a2 : Int32) (a3 : Int32) (g : gFG) (f : gFF) (Q : Int32 → gFG → gFF → Prop) : Prop := ((a1 = 0) → wX0_tin N g f (fun r57 g57 f57 => wX3_isOutside N r57 a2 a3 g57 f57 (fun r62 g62 f62 => (gz r62) ∧ Q r62 g62 f62))) ∧ ((¬ a1 = 0) → ((a1 = 1) → wX0_lead N g f (fun r71 g71 f71 => wX3_isOutside N r71 a2 a3 g71 f71 (fun r76 g76 f76 => (gz r76) ∧ Q r76 g76 f76))) ∧ ((¬ a1 = 1) → ((a1 = 2) → wX0_copper N g f (fun r85 g85 f85 => wX3_isOutside N r85 a2 a3 g85 f85 (fun r90 g90 f90 => (gz r90) ∧ Q r90 g90 f90))) ∧ ((¬ a1 = 2) → ((a1 = 3) → wX1_leastWall N g f (fun r98 g98 f98 => ((a2 ≤ r98) → Q 0 g98 f98) ∧ ((¬ a2 ≤ r98) → Q 1 g98 f98))) ∧ ((¬ a1 = 3) → ((a1 = 4) → wX1_howMany N 3 g f (fun r116 g116 f116 => ((r116 ≤ a2) → Q 0 g116 f116) ∧ ((¬ r116 ≤ a2) → Q 1 g116 f116))) ∧ ((¬ a1 = 4) → ((a1 = 5) → wX1_howMany N 2 g f (fun r134 g134 f134 => ((r134 ≤ a2) → Q 0 g134 f134) ∧ ((¬ r134 ≤ a2) → Q 1 g134 f134))) ∧ ((¬ a1 = 5) → ((a1 = 6) → wX8_stuckCount N g f (fun r151 g151 f151 => ((r151 ≤ a2) → Q 0 g151 f151) ∧ ((¬ r151 ≤ a2) → Q 1 g151 f151))) ∧ ((¬ a1 = 6) → ((a1 = 7) → wX8_pieceCount N g f (fun r168 g168 f168 => ((r168 ≤ a2) → Q 0 g168 f168) ∧ ((¬ r168 ≤ a2) → Q 1 g168 f168))) ∧ ((¬ a1 = 7) → ((a1 = 8) → wX1_howManySpacers N g f (fun r185 g185 f185 => wX1_howManyCores N g185 f185 (fun r195 g195 f195 => (((a2 * r195) ≤ (r185 * a3)) → Q 0 g195 f195) ∧ ((¬ (a2 * r195) ≤ (r185 * a3)) → Q 1 g195 f195)))) ∧ ((¬ a1 = 8) → Q 0 g f)))))))))
theorem mX3_isBroken (hE : gInj layC ad) {N : Nat} {a1 : Int32} {a2 : Int32} {a3 : Int32} {g : gFG} {f : gFF} {Q : Int32 → gFG → gFF → Prop} (h : wX3_isBroken N a1 a2 a3 g f Q) : gCT l D cs layC ad (gZc ad tX tY sK sV) 6 yX3_isBroken cX3_isBroken 4 (some .boolean) [.ref (ad 9), .int a1, .int a2, .int a3] (g, f, 0) (gQi Q) := by
  refine met_walk (lv0 := [some (.ref (ad 9)), some (.int a1), some (.int a2), some (.int a3)]) ⟨hE, gZc_ok _ _ _ _ _⟩ (by decide) (Nat.le_of_ble_eq_true rfl) rfl (fun G Rt hG hQ => ?_)
  replace hG : gSim l D cs layC ad (gZc ad tX tY sK sV) 6 RX3 cX3_isBroken 4 (some .boolean) G Rt := hG
  unfold wX3_isBroken at h
  refine s_iload_n (n := 1) hG dX3_isBroken_0 rfl rfl ?_
  by_cases c0 : a1 = 0
  · replace h := h.1 c0
    refine s_tabIn (v := 0) (tgt := 52) (off := 51) hG dX3_isBroken_1 c0 (by decide) ?_
    refine s_aload_n (n := 53) hG dX3_isBroken_52 rfl rfl ?_
    refine s_aload_n (n := 54) hG dX3_isBroken_53 rfl rfl ?_
    refine gtX3_19 (n := 57) hG dX3_isBroken_54 rfl ?_
    refine s_callV (n := 60) (st := [.ref (ad 9)]) hG (mX0_tin hE h) ceX0_tin lmX3_23 ⟨by decide, rfl, rfl⟩ rfl ⟨rfl, Nat.le_of_ble_eq_true rfl, by decide⟩ dX3_isBroken_57 rfl ?_
    rintro _ _ ⟨r57, g57, f57, rfl, rfl, h⟩
    refine s_iload_n (n := 61) hG dX3_isBroken_60 rfl rfl ?_
    refine s_iload_n (n := 62) hG dX3_isBroken_61 rfl rfl ?_
    refine s_callV (n := 65) (st := []) hG (mX3_isOutside hE h) ceX3_isOutside lmX3_29 ⟨by decide, rfl, rfl⟩ rfl ⟨rfl, Nat.le_of_ble_eq_true rfl, by decide⟩ dX3_isBroken_62 rfl ?_
    rintro _ _ ⟨r62, g62, f62, rfl, rfl, h⟩
    obtain ⟨hz, h⟩ := h
    exact s_zret hG dX3_isBroken_65 (gz_n hz) (hQ _ _ ⟨_, _, _, rfl, rfl, h⟩)
  · replace h := h.2 c0
    by_cases c1 : a1 = 1
    · replace h := h.1 c1
      refine s_tabIn (v := 1) (tgt := 66) (off := 65) hG dX3_isBroken_1 c1 (by decide) ?_
      refine s_aload_n (n := 67) hG dX3_isBroken_66 rfl rfl ?_
      refine s_aload_n (n := 68) hG dX3_isBroken_67 rfl rfl ?_
      refine gtX3_19 (n := 71) hG dX3_isBroken_68 rfl ?_
      refine s_callV (n := 74) (st := [.ref (ad 9)]) hG (mX0_lead hE h) ceX0_lead lmX3_33 ⟨by decide, rfl, rfl⟩ rfl ⟨rfl, Nat.le_of_ble_eq_true rfl, by decide⟩ dX3_isBroken_71 rfl ?_
      rintro _ _ ⟨r71, g71, f71, rfl, rfl, h⟩
      refine s_iload_n (n := 75) hG dX3_isBroken_74 rfl rfl ?_
      refine s_iload_n (n := 76) hG dX3_isBroken_75 rfl rfl ?_
      refine s_callV (n := 79) (st := []) hG (mX3_isOutside hE h) ceX3_isOutside lmX3_29 ⟨by decide, rfl, rfl⟩ rfl ⟨rfl, Nat.le_of_ble_eq_true rfl, by decide⟩ dX3_isBroken_76 rfl ?_
      rintro _ _ ⟨r76, g76, f76, rfl, rfl, h⟩
      obtain ⟨hz, h⟩ := h
      exact s_zret hG dX3_isBroken_79 (gz_n hz) (hQ _ _ ⟨_, _, _, rfl, rfl, h⟩)
    · replace h := h.2 c1
      by_cases c2 : a1 = 2
      · replace h := h.1 c2
        refine s_tabIn (v := 2) (tgt := 80) (off := 79) hG dX3_isBroken_1 c2 (by decide) ?_
        refine s_aload_n (n := 81) hG dX3_isBroken_80 rfl rfl ?_
        refine s_aload_n (n := 82) hG dX3_isBroken_81 rfl rfl ?_
        refine gtX3_19 (n := 85) hG dX3_isBroken_82 rfl ?_
        refine s_callV (n := 88) (st := [.ref (ad 9)]) hG (mX0_copper hE h) ceX0_copper lmX3_36 ⟨by decide, rfl, rfl⟩ rfl ⟨rfl, Nat.le_of_ble_eq_true rfl, by decide⟩ dX3_isBroken_85 rfl ?_
        rintro _ _ ⟨r85, g85, f85, rfl, rfl, h⟩
        refine s_iload_n (n := 89) hG dX3_isBroken_88 rfl rfl ?_
        refine s_iload_n (n := 90) hG dX3_isBroken_89 rfl rfl ?_
        refine s_callV (n := 93) (st := []) hG (mX3_isOutside hE h) ceX3_isOutside lmX3_29 ⟨by decide, rfl, rfl⟩ rfl ⟨rfl, Nat.le_of_ble_eq_true rfl, by decide⟩ dX3_isBroken_90 rfl ?_
        rintro _ _ ⟨r90, g90, f90, rfl, rfl, h⟩
        obtain ⟨hz, h⟩ := h
        exact s_zret hG dX3_isBroken_93 (gz_n hz) (hQ _ _ ⟨_, _, _, rfl, rfl, h⟩)
      · replace h := h.2 c2
        by_cases c3 : a1 = 3
        · replace h := h.1 c3
          refine s_tabIn (v := 3) (tgt := 94) (off := 93) hG dX3_isBroken_1 c3 (by decide) ?_
          refine s_aload_n (n := 95) hG dX3_isBroken_94 rfl rfl ?_
          refine gtX3_9 (n := 98) hG dX3_isBroken_95 rfl ?_
          refine s_callV (n := 101) (st := []) hG (mX1_leastWall hE h) ceX1_leastWall lmX3_39 ⟨by decide, rfl, rfl⟩ rfl ⟨rfl, Nat.le_of_ble_eq_true rfl, by decide⟩ dX3_isBroken_98 rfl ?_
          rintro _ _ ⟨r98, g98, f98, rfl, rfl, h⟩
          refine s_iload_n (n := 102) hG dX3_isBroken_101 rfl rfl ?_
          refine s_icmp_ge (n := 105) (tgt := 109) hG dX3_isBroken_102 rfl rfl (fun c => ?_) (fun c => ?_)
          · replace h := h.1 c
            refine s_iconst (n := 110) hG dX3_isBroken_109 ki_0 rfl ?_
            exact s_zret hG dX3_isBroken_110 (gz_n gz_0) (hQ _ _ ⟨_, _, _, rfl, rfl, h⟩)
          · replace h := h.2 c
            refine s_iconst (n := 106) hG dX3_isBroken_105 ki_1 rfl ?_
            refine s_goto (tgt := 110) hG dX3_isBroken_106 rfl ?_
            exact s_zret hG dX3_isBroken_110 (gz_n gz_1) (hQ _ _ ⟨_, _, _, rfl, rfl, h⟩)
        · replace h := h.2 c3
          by_cases c4 : a1 = 4
          · replace h := h.1 c4
            refine s_tabIn (v := 4) (tgt := 111) (off := 110) hG dX3_isBroken_1 c4 (by decide) ?_
            refine s_aload_n (n := 112) hG dX3_isBroken_111 rfl rfl ?_
            refine gtX3_9 (n := 115) hG dX3_isBroken_112 rfl ?_
            refine s_iconst (n := 116) hG dX3_isBroken_115 ki_3 rfl ?_
            refine s_callV (n := 119) (st := []) hG (mX1_howMany hE h) ceX1_howMany lmX3_44 ⟨by decide, rfl, rfl⟩ rfl ⟨rfl, Nat.le_of_ble_eq_true rfl, by decide⟩ dX3_isBroken_116 rfl ?_
            rintro _ _ ⟨r116, g116, f116, rfl, rfl, h⟩
            refine s_iload_n (n := 120) hG dX3_isBroken_119 rfl rfl ?_
            refine s_icmp_le (n := 123) (tgt := 127) hG dX3_isBroken_120 rfl rfl (fun c => ?_) (fun c => ?_)
            · replace h := h.1 c
              refine s_iconst (n := 128) hG dX3_isBroken_127 ki_0 rfl ?_
              exact s_zret hG dX3_isBroken_128 (gz_n gz_0) (hQ _ _ ⟨_, _, _, rfl, rfl, h⟩)
            · replace h := h.2 c
              refine s_iconst (n := 124) hG dX3_isBroken_123 ki_1 rfl ?_
              refine s_goto (tgt := 128) hG dX3_isBroken_124 rfl ?_
              exact s_zret hG dX3_isBroken_128 (gz_n gz_1) (hQ _ _ ⟨_, _, _, rfl, rfl, h⟩)
          · replace h := h.2 c4
            by_cases c5 : a1 = 5
            · replace h := h.1 c5
              refine s_tabIn (v := 5) (tgt := 129) (off := 128) hG dX3_isBroken_1 c5 (by decide) ?_
              refine s_aload_n (n := 130) hG dX3_isBroken_129 rfl rfl ?_
              refine gtX3_9 (n := 133) hG dX3_isBroken_130 rfl ?_
              refine s_iconst (n := 134) hG dX3_isBroken_133 ki_2 rfl ?_
              refine s_callV (n := 137) (st := []) hG (mX1_howMany hE h) ceX1_howMany lmX3_44 ⟨by decide, rfl, rfl⟩ rfl ⟨rfl, Nat.le_of_ble_eq_true rfl, by decide⟩ dX3_isBroken_134 rfl ?_
              rintro _ _ ⟨r134, g134, f134, rfl, rfl, h⟩
              refine s_iload_n (n := 138) hG dX3_isBroken_137 rfl rfl ?_
              refine s_icmp_le (n := 141) (tgt := 145) hG dX3_isBroken_138 rfl rfl (fun c => ?_) (fun c => ?_)
              · replace h := h.1 c
                refine s_iconst (n := 146) hG dX3_isBroken_145 ki_0 rfl ?_
                exact s_zret hG dX3_isBroken_146 (gz_n gz_0) (hQ _ _ ⟨_, _, _, rfl, rfl, h⟩)
              · replace h := h.2 c
                refine s_iconst (n := 142) hG dX3_isBroken_141 ki_1 rfl ?_
                refine s_goto (tgt := 146) hG dX3_isBroken_142 rfl ?_
                exact s_zret hG dX3_isBroken_146 (gz_n gz_1) (hQ _ _ ⟨_, _, _, rfl, rfl, h⟩)
            · replace h := h.2 c5
              by_cases c6 : a1 = 6
              · replace h := h.1 c6
                refine s_tabIn (v := 6) (tgt := 147) (off := 146) hG dX3_isBroken_1 c6 (by decide) ?_
                refine s_aload_n (n := 148) hG dX3_isBroken_147 rfl rfl ?_
                refine gtX3_15 (n := 151) hG dX3_isBroken_148 rfl ?_
                refine s_callV (n := 154) (st := []) hG (mX8_stuckCount hE h) ceX8_stuckCount lmX3_48 ⟨by decide, rfl, rfl⟩ rfl ⟨rfl, Nat.le_of_ble_eq_true rfl, by decide⟩ dX3_isBroken_151 rfl ?_
                rintro _ _ ⟨r151, g151, f151, rfl, rfl, h⟩
                refine s_iload_n (n := 155) hG dX3_isBroken_154 rfl rfl ?_
                refine s_icmp_le (n := 158) (tgt := 162) hG dX3_isBroken_155 rfl rfl (fun c => ?_) (fun c => ?_)
                · replace h := h.1 c
                  refine s_iconst (n := 163) hG dX3_isBroken_162 ki_0 rfl ?_
                  exact s_zret hG dX3_isBroken_163 (gz_n gz_0) (hQ _ _ ⟨_, _, _, rfl, rfl, h⟩)
                · replace h := h.2 c
                  refine s_iconst (n := 159) hG dX3_isBroken_158 ki_1 rfl ?_
                  refine s_goto (tgt := 163) hG dX3_isBroken_159 rfl ?_
                  exact s_zret hG dX3_isBroken_163 (gz_n gz_1) (hQ _ _ ⟨_, _, _, rfl, rfl, h⟩)
              · replace h := h.2 c6
                by_cases c7 : a1 = 7
                · replace h := h.1 c7
                  refine s_tabIn (v := 7) (tgt := 164) (off := 163) hG dX3_isBroken_1 c7 (by decide) ?_
                  refine s_aload_n (n := 165) hG dX3_isBroken_164 rfl rfl ?_
                  refine gtX3_15 (n := 168) hG dX3_isBroken_165 rfl ?_
                  refine s_callV (n := 171) (st := []) hG (mX8_pieceCount hE h) ceX8_pieceCount lmX3_53 ⟨by decide, rfl, rfl⟩ rfl ⟨rfl, Nat.le_of_ble_eq_true rfl, by decide⟩ dX3_isBroken_168 rfl ?_
                  rintro _ _ ⟨r168, g168, f168, rfl, rfl, h⟩
                  refine s_iload_n (n := 172) hG dX3_isBroken_171 rfl rfl ?_
                  refine s_icmp_le (n := 175) (tgt := 179) hG dX3_isBroken_172 rfl rfl (fun c => ?_) (fun c => ?_)
                  · replace h := h.1 c
                    refine s_iconst (n := 180) hG dX3_isBroken_179 ki_0 rfl ?_
                    exact s_zret hG dX3_isBroken_180 (gz_n gz_0) (hQ _ _ ⟨_, _, _, rfl, rfl, h⟩)
                  · replace h := h.2 c
                    refine s_iconst (n := 176) hG dX3_isBroken_175 ki_1 rfl ?_
                    refine s_goto (tgt := 180) hG dX3_isBroken_176 rfl ?_
                    exact s_zret hG dX3_isBroken_180 (gz_n gz_1) (hQ _ _ ⟨_, _, _, rfl, rfl, h⟩)
                · replace h := h.2 c7
                  by_cases c8 : a1 = 8
                  · replace h := h.1 c8
                    refine s_tabIn (v := 8) (tgt := 181) (off := 180) hG dX3_isBroken_1 c8 (by decide) ?_
                    refine s_aload_n (n := 182) hG dX3_isBroken_181 rfl rfl ?_
                    refine gtX3_9 (n := 185) hG dX3_isBroken_182 rfl ?_
                    refine s_callV (n := 188) (st := []) hG (mX1_howManySpacers hE h) ceX1_howManySpacers lmX3_56 ⟨by decide, rfl, rfl⟩ rfl ⟨rfl, Nat.le_of_ble_eq_true rfl, by decide⟩ dX3_isBroken_185 rfl ?_
                    rintro _ _ ⟨r185, g185, f185, rfl, rfl, h⟩
                    refine s_iload_n (n := 189) hG dX3_isBroken_188 rfl rfl ?_
                    refine s_imul (n := 190) hG dX3_isBroken_189 rfl ?_
                    refine s_iload_n (n := 191) hG dX3_isBroken_190 rfl rfl ?_
                    refine s_aload_n (n := 192) hG dX3_isBroken_191 rfl rfl ?_
                    refine gtX3_9 (n := 195) hG dX3_isBroken_192 rfl ?_
                    refine s_callV (n := 198) (st := [.int a2, .int (r185 * a3)]) hG (mX1_howManyCores hE h) ceX1_howManyCores lmX3_59 ⟨by decide, rfl, rfl⟩ rfl ⟨rfl, Nat.le_of_ble_eq_true rfl, by decide⟩ dX3_isBroken_195 rfl ?_
                    rintro _ _ ⟨r195, g195, f195, rfl, rfl, h⟩
                    refine s_imul (n := 199) hG dX3_isBroken_198 rfl ?_
                    refine s_icmp_ge (n := 202) (tgt := 206) hG dX3_isBroken_199 rfl rfl (fun c => ?_) (fun c => ?_)
                    · replace h := h.1 c
                      refine s_iconst (n := 207) hG dX3_isBroken_206 ki_0 rfl ?_
                      exact s_zret hG dX3_isBroken_207 (gz_n gz_0) (hQ _ _ ⟨_, _, _, rfl, rfl, h⟩)
                    · replace h := h.2 c
                      refine s_iconst (n := 203) hG dX3_isBroken_202 ki_1 rfl ?_
                      refine s_goto (tgt := 207) hG dX3_isBroken_203 rfl ?_
                      exact s_zret hG dX3_isBroken_207 (gz_n gz_1) (hQ _ _ ⟨_, _, _, rfl, rfl, h⟩)
                  · replace h := h.2 c8
                    refine s_tabOut (tgt := 208) hG dX3_isBroken_1 (by have hh := And.intro trivial trivial; have q0 := lv_neT c0 (show (0 : Int32).toInt = 0 from by decide); have q1 := lv_neT c1 (show (1 : Int32).toInt = 1 from by decide); have q2 := lv_neT c2 (show (2 : Int32).toInt = 2 from by decide); have q3 := lv_neT c3 (show (3 : Int32).toInt = 3 from by decide); have q4 := lv_neT c4 (show (4 : Int32).toInt = 4 from by decide); have q5 := lv_neT c5 (show (5 : Int32).toInt = 5 from by decide); have q6 := lv_neT c6 (show (6 : Int32).toInt = 6 from by decide); have q7 := lv_neT c7 (show (7 : Int32).toInt = 7 from by decide); have q8 := lv_neT c8 (show (8 : Int32).toInt = 8 from by decide);  omega) rfl ?_
                    refine s_iconst (n := 209) hG dX3_isBroken_208 ki_0 rfl ?_
                    exact s_zret hG dX3_isBroken_209 (gz_n gz_0) (hQ _ _ ⟨_, _, _, rfl, rfl, h⟩)
def wJ9_max_7cf53 (N : Nat) (a1 : Int32) (a2 : Int32) (g : gFG) (f : gFF) (Q : Int32 → gFG → gFF → Prop) : Prop := ((a1 < a2) → Q a2 g f) ∧ ((¬ a1 < a2) → Q a1 g f)
theorem mJ9_max_7cf53 (hE : gInj layC ad) {N : Nat} {a1 : Int32} {a2 : Int32} {g : gFG} {f : gFF} {Q : Int32 → gFG → gFF → Prop} (h : wJ9_max_7cf53 N a1 a2 g f Q) : gCT l D cs layC ad (gZc ad tX tY sK sV) 1 yJ9_max_7cf53 cJ9_max_7cf53 2 (some .int) [.int a1, .int a2] (g, f, 0) (gQi Q) := by
  refine met_walkF (lv0 := [some (.int a1), some (.int a2)]) ⟨hE, gZc_ok _ _ _ _ _⟩ (by decide +kernel) (Nat.le_of_ble_eq_true rfl) rfl (fun G Rt hG hQ => ?_)
  replace hG : gSim l D cs layC ad (gZc ad tX tY sK sV) 1 RJ9 cJ9_max_7cf53 2 (some .int) G Rt := hG
  unfold wJ9_max_7cf53 at h
  refine s_iload_n (n := 1) hG dJ9_max_7cf53_0 rfl rfl ?_
  refine s_iload_n (n := 2) hG dJ9_max_7cf53_1 rfl rfl ?_
  refine s_icmp_lt (n := 5) (tgt := 9) hG dJ9_max_7cf53_2 rfl rfl (fun c => ?_) (fun c => ?_)
  · replace h := h.1 c
    refine s_iload_n (n := 10) hG dJ9_max_7cf53_9 rfl rfl ?_
    exact s_iret hG dJ9_max_7cf53_10 (hQ _ _ ⟨_, _, _, rfl, rfl, h⟩)
  · replace h := h.2 c
    refine s_iload_n (n := 6) hG dJ9_max_7cf53_5 rfl rfl ?_
    refine s_goto (tgt := 10) hG dJ9_max_7cf53_6 rfl ?_
    exact s_iret hG dJ9_max_7cf53_10 (hQ _ _ ⟨_, _, _, rfl, rfl, h⟩)
def wJ9_floorDiv_7cf53 (N : Nat) (a1 : Int32) (a2 : Int32) (g : gFG) (f : gFF) (Q : Int32 → gFG → gFF → Prop) : Prop := (¬ a2 = 0) ∧ (∀ x2_3 : Int32, x2_3 = (a1 / a2) → ((0 ≤ (a1 ^^^ a2)) → Q x2_3 g f) ∧ ((¬ 0 ≤ (a1 ^^^ a2)) → (((x2_3 * a2) = a1) → Q x2_3 g f) ∧ ((¬ (x2_3 * a2) = a1) → Q (x2_3 - 1) g f)))
theorem mJ9_floorDiv_7cf53 (hE : gInj layC ad) {N : Nat} {a1 : Int32} {a2 : Int32} {g : gFG} {f : gFF} {Q : Int32 → gFG → gFF → Prop} (h : wJ9_floorDiv_7cf53 N a1 a2 g f Q) : gCT l D cs layC ad (gZc ad tX tY sK sV) 1 yJ9_floorDiv_7cf53 cJ9_floorDiv_7cf53 3 (some .int) [.int a1, .int a2] (g, f, 0) (gQi Q) := by
  refine met_walkF (lv0 := [some (.int a1), some (.int a2), none]) ⟨hE, gZc_ok _ _ _ _ _⟩ (by decide +kernel) (Nat.le_of_ble_eq_true rfl) rfl (fun G Rt hG hQ => ?_)
  replace hG : gSim l D cs layC ad (gZc ad tX tY sK sV) 1 RJ9 cJ9_floorDiv_7cf53 3 (some .int) G Rt := hG
  unfold wJ9_floorDiv_7cf53 at h
  refine s_iload_n (n := 1) hG dJ9_floorDiv_7cf53_0 rfl rfl ?_
  refine s_iload_n (n := 2) hG dJ9_floorDiv_7cf53_1 rfl rfl ?_
  obtain ⟨hne, h⟩ := h
  refine s_idiv (n := 3) hG dJ9_floorDiv_7cf53_2 hne rfl ?_
  refine s_topi (fun x2_3 hx2_3 => ?_)
  replace h := h x2_3 hx2_3
  refine s_istore_n (n := 4) (lv2 := [some (.int a1), some (.int a2), some (.int x2_3)]) hG dJ9_floorDiv_7cf53_3 rfl rfl rfl ?_
  refine s_iload_n (n := 5) hG dJ9_floorDiv_7cf53_4 rfl rfl ?_
  refine s_iload_n (n := 6) hG dJ9_floorDiv_7cf53_5 rfl rfl ?_
  refine s_ixor (n := 7) hG dJ9_floorDiv_7cf53_6 rfl ?_
  refine s_if_ge (n := 10) (tgt := 21) hG dJ9_floorDiv_7cf53_7 rfl rfl (fun c => ?_) (fun c => ?_)
  · replace h := h.1 c
    refine s_iload_n (n := 22) hG dJ9_floorDiv_7cf53_21 rfl rfl ?_
    exact s_iret hG dJ9_floorDiv_7cf53_22 (hQ _ _ ⟨_, _, _, rfl, rfl, h⟩)
  · replace h := h.2 c
    refine s_iload_n (n := 11) hG dJ9_floorDiv_7cf53_10 rfl rfl ?_
    refine s_iload_n (n := 12) hG dJ9_floorDiv_7cf53_11 rfl rfl ?_
    refine s_imul (n := 13) hG dJ9_floorDiv_7cf53_12 rfl ?_
    refine s_iload_n (n := 14) hG dJ9_floorDiv_7cf53_13 rfl rfl ?_
    refine s_icmp_eq (n := 17) (tgt := 21) hG dJ9_floorDiv_7cf53_14 rfl rfl (fun c => ?_) (fun c => ?_)
    · replace h := h.1 c
      refine s_iload_n (n := 22) hG dJ9_floorDiv_7cf53_21 rfl rfl ?_
      exact s_iret hG dJ9_floorDiv_7cf53_22 (hQ _ _ ⟨_, _, _, rfl, rfl, h⟩)
    · replace h := h.2 c
      refine s_iload_n (n := 18) hG dJ9_floorDiv_7cf53_17 rfl rfl ?_
      refine s_iconst (n := 19) hG dJ9_floorDiv_7cf53_18 ki_1 rfl ?_
      refine s_isub (n := 20) hG dJ9_floorDiv_7cf53_19 rfl ?_
      exact s_iret hG dJ9_floorDiv_7cf53_20 (hQ _ _ ⟨_, _, _, rfl, rfl, h⟩)
def wX6_length (N : Nat) (b : Int32) (g : gFG) (f : gFF) (Q : Int32 → gFG → gFF → Prop) : Prop := Q (g (gbl b)) g f
theorem mX6_length (hE : gInj layC ad) {N : Nat} {b : Int32} {g : gFG} {f : gFF} {Q : Int32 → gFG → gFF → Prop} (h : wX6_length N b g f Q) : gCT l D cs layC ad (gZc ad tX tY sK sV) 1 yX6_length cX6_length 1 (some .int) [.ref (ad (gbk b))] (g, f, 0) (gQi Q) := by
  refine met_walk (lv0 := [some (.ref (ad (gbk b)))]) ⟨hE, gZc_ok _ _ _ _ _⟩ (by decide) (Nat.le_of_ble_eq_true rfl) rfl (fun G Rt hG hQ => ?_)
  replace hG : gSim l D cs layC ad (gZc ad tX tY sK sV) 1 RX6 cX6_length 1 (some .int) G Rt := hG
  unfold wX6_length at h
  refine s_aload_n (n := 1) hG dX6_length_0 rfl rfl ?_
  refine gtX6_21 (n := 4) hG dX6_length_1 rfl ?_
  exact s_iret hG dX6_length_4 (hQ _ _ ⟨_, _, _, rfl, rfl, h⟩)
def wX6_clear (N : Nat) (b : Int32) (g : gFG) (f : gFF) (Q : gFG → gFF → Prop) : Prop := ∀ g2 : gFG, g2 = (va_up g (gbl b) 0) → Q g2 f
theorem mX6_clear (hE : gInj layC ad) {N : Nat} {b : Int32} {g : gFG} {f : gFF} {Q : gFG → gFF → Prop} (h : wX6_clear N b g f Q) : gCT l D cs layC ad (gZc ad tX tY sK sV) 1 yX6_clear cX6_clear 1 none [.ref (ad (gbk b))] (g, f, 0) (gQv Q) := by
  refine met_walk (lv0 := [some (.ref (ad (gbk b)))]) ⟨hE, gZc_ok _ _ _ _ _⟩ (by decide) (Nat.le_of_ble_eq_true rfl) rfl (fun G Rt hG hQ => ?_)
  replace hG : gSim l D cs layC ad (gZc ad tX tY sK sV) 1 RX6 cX6_clear 1 none G Rt := hG
  unfold wX6_clear at h
  refine s_aload_n (n := 1) hG dX6_clear_0 rfl rfl ?_
  refine s_iconst (n := 2) hG dX6_clear_1 ki_0 rfl ?_
  refine ptX6_21 (n := 5) hG dX6_clear_2 rfl ?_
  refine s_ng (fun g2 hg2 => ?_)
  replace h := h g2 hg2
  exact s_vret hG dX6_clear_5 (hQ _ _ ⟨_, _, rfl, rfl, h⟩)
def wX6_add (N : Nat) (b : Int32) (a1 : Int32) (a2 : Int32) (a3 : Int32) (g : gFG) (f : gFF) (Q : gFG → gFF → Prop) : Prop := ((20 ≤ (g (gbl b))) → Q g f) ∧ ((¬ 20 ≤ (g (gbl b))) → ∀ i18 : Int32, i18 = (g (gbl b)) → (vp_in i18 20) ∧ (∀ f18 : gFF, f18 = (va_up f (gbq 45 b) (upd (f (gbq 45 b)) i18.toNatClampNeg a1)) → ∀ i28 : Int32, i28 = (g (gbl b)) → (vp_in i28 20) ∧ (∀ f28 : gFF, f28 = (va_up f18 (gbq 46 b) (upd (f18 (gbq 46 b)) i28.toNatClampNeg a2)) → ∀ i38 : Int32, i38 = (g (gbl b)) → (vp_in i38 20) ∧ (∀ f38 : gFF, f38 = (va_up f28 (gbq 47 b) (upd (f28 (gbq 47 b)) i38.toNatClampNeg a3)) → ∀ y46 : Int32, y46 = ((g (gbl b)) + 1) → ∀ g46 : gFG, g46 = (va_up g (gbl b) y46) → Q g46 f38))))
theorem mX6_add (hE : gInj layC ad) {N : Nat} {b : Int32} {a1 : Int32} {a2 : Int32} {a3 : Int32} {g : gFG} {f : gFF} {Q : gFG → gFF → Prop} (h : wX6_add N b a1 a2 a3 g f Q) : gCT l D cs layC ad (gZc ad tX tY sK sV) 1 yX6_add cX6_add 4 none [.ref (ad (gbk b)), .int a1, .int a2, .int a3] (g, f, 0) (gQv Q) := by
  refine met_walk (lv0 := [some (.ref (ad (gbk b))), some (.int a1), some (.int a2), some (.int a3)]) ⟨hE, gZc_ok _ _ _ _ _⟩ (by decide) (Nat.le_of_ble_eq_true rfl) rfl (fun G Rt hG hQ => ?_)
  replace hG : gSim l D cs layC ad (gZc ad tX tY sK sV) 1 RX6 cX6_add 4 none G Rt := hG
  unfold wX6_add at h
  refine s_aload_n (n := 1) hG dX6_add_0 rfl rfl ?_
  refine gtX6_21 (n := 4) hG dX6_add_1 rfl ?_
  refine s_bipush (n := 6) hG dX6_add_4 kb_20 rfl ?_
  refine s_icmp_ge (n := 9) (tgt := 49) hG dX6_add_6 rfl rfl (fun c => ?_) (fun c => ?_)
  · replace h := h.1 c
    exact s_vret hG dX6_add_49 (hQ _ _ ⟨_, _, rfl, rfl, h⟩)
  · replace h := h.2 c
    refine s_aload_n (n := 10) hG dX6_add_9 rfl rfl ?_
    refine gtX6_9 (n := 13) hG dX6_add_10 rfl ?_
    refine s_aload_n (n := 14) hG dX6_add_13 rfl rfl ?_
    refine gtX6_21 (n := 17) hG dX6_add_14 rfl ?_
    refine s_iload_n (n := 18) hG dX6_add_17 rfl rfl ?_
    refine s_topi2 (fun i18 hi18 => ?_)
    replace h := h i18 hi18
    obtain ⟨hin, h⟩ := h
    refine s_iast (n := 19) hG dX6_add_18 (gbq_a 45 (Or.inl rfl) hin) rfl ?_
    refine s_nf (fun f18 hf18 => ?_)
    replace h := h f18 hf18
    refine s_aload_n (n := 20) hG dX6_add_19 rfl rfl ?_
    refine gtX6_15 (n := 23) hG dX6_add_20 rfl ?_
    refine s_aload_n (n := 24) hG dX6_add_23 rfl rfl ?_
    refine gtX6_21 (n := 27) hG dX6_add_24 rfl ?_
    refine s_iload_n (n := 28) hG dX6_add_27 rfl rfl ?_
    refine s_topi2 (fun i28 hi28 => ?_)
    replace h := h i28 hi28
    obtain ⟨hin, h⟩ := h
    refine s_iast (n := 29) hG dX6_add_28 (gbq_a 46 (Or.inr (Or.inl rfl)) hin) rfl ?_
    refine s_nf (fun f28 hf28 => ?_)
    replace h := h f28 hf28
    refine s_aload_n (n := 30) hG dX6_add_29 rfl rfl ?_
    refine gtX6_18 (n := 33) hG dX6_add_30 rfl ?_
    refine s_aload_n (n := 34) hG dX6_add_33 rfl rfl ?_
    refine gtX6_21 (n := 37) hG dX6_add_34 rfl ?_
    refine s_iload_n (n := 38) hG dX6_add_37 rfl rfl ?_
    refine s_topi2 (fun i38 hi38 => ?_)
    replace h := h i38 hi38
    obtain ⟨hin, h⟩ := h
    refine s_iast (n := 39) hG dX6_add_38 (gbq_a 47 (Or.inr (Or.inr rfl)) hin) rfl ?_
    refine s_nf (fun f38 hf38 => ?_)
    replace h := h f38 hf38
    refine s_aload_n (n := 40) hG dX6_add_39 rfl rfl ?_
    refine s_dup (n := 41) hG dX6_add_40 rfl rfl ?_
    refine gtX6_21 (n := 44) hG dX6_add_41 rfl ?_
    refine s_iconst (n := 45) hG dX6_add_44 ki_1 rfl ?_
    refine s_iadd (n := 46) hG dX6_add_45 rfl ?_
    refine s_topi (fun y46 hy46 => ?_)
    replace h := h y46 hy46
    refine ptX6_21 (n := 49) hG dX6_add_46 rfl ?_
    refine s_ng (fun g46 hg46 => ?_)
    replace h := h g46 hg46
    exact s_vret hG dX6_add_49 (hQ _ _ ⟨_, _, rfl, rfl, h⟩)
def wX6_kindAt (N : Nat) (b : Int32) (a1 : Int32) (g : gFG) (f : gFF) (Q : Int32 → gFG → gFF → Prop) : Prop := ((a1 < 0) → Q (-1) g f) ∧ ((¬ a1 < 0) → (((g (gbl b)) ≤ a1) → Q (-1) g f) ∧ ((¬ (g (gbl b)) ≤ a1) → ((20 ≤ a1) → Q (-1) g f) ∧ ((¬ 20 ≤ a1) → (vp_in a1 20) ∧ (Q (f (gbq 45 b) a1.toNatClampNeg) g f))))
theorem mX6_kindAt (hE : gInj layC ad) {N : Nat} {b : Int32} {a1 : Int32} {g : gFG} {f : gFF} {Q : Int32 → gFG → gFF → Prop} (h : wX6_kindAt N b a1 g f Q) : gCT l D cs layC ad (gZc ad tX tY sK sV) 1 yX6_kindAt cX6_kindAt 2 (some .int) [.ref (ad (gbk b)), .int a1] (g, f, 0) (gQi Q) := by
  refine met_walk (lv0 := [some (.ref (ad (gbk b))), some (.int a1)]) ⟨hE, gZc_ok _ _ _ _ _⟩ (by decide) (Nat.le_of_ble_eq_true rfl) rfl (fun G Rt hG hQ => ?_)
  replace hG : gSim l D cs layC ad (gZc ad tX tY sK sV) 1 RX6 cX6_kindAt 2 (some .int) G Rt := hG
  unfold wX6_kindAt at h
  refine s_iload_n (n := 1) hG dX6_kindAt_0 rfl rfl ?_
  refine s_if_lt (n := 4) (tgt := 27) hG dX6_kindAt_1 rfl rfl (fun c => ?_) (fun c => ?_)
  · replace h := h.1 c
    refine s_iconst (n := 28) hG dX6_kindAt_27 ki_m1 rfl ?_
    exact s_iret hG dX6_kindAt_28 (hQ _ _ ⟨_, _, _, rfl, rfl, h⟩)
  · replace h := h.2 c
    refine s_iload_n (n := 5) hG dX6_kindAt_4 rfl rfl ?_
    refine s_aload_n (n := 6) hG dX6_kindAt_5 rfl rfl ?_
    refine gtX6_21 (n := 9) hG dX6_kindAt_6 rfl ?_
    refine s_icmp_ge (n := 12) (tgt := 27) hG dX6_kindAt_9 rfl rfl (fun c => ?_) (fun c => ?_)
    · replace h := h.1 c
      refine s_iconst (n := 28) hG dX6_kindAt_27 ki_m1 rfl ?_
      exact s_iret hG dX6_kindAt_28 (hQ _ _ ⟨_, _, _, rfl, rfl, h⟩)
    · replace h := h.2 c
      refine s_iload_n (n := 13) hG dX6_kindAt_12 rfl rfl ?_
      refine s_bipush (n := 15) hG dX6_kindAt_13 kb_20 rfl ?_
      refine s_icmp_ge (n := 18) (tgt := 27) hG dX6_kindAt_15 rfl rfl (fun c => ?_) (fun c => ?_)
      · replace h := h.1 c
        refine s_iconst (n := 28) hG dX6_kindAt_27 ki_m1 rfl ?_
        exact s_iret hG dX6_kindAt_28 (hQ _ _ ⟨_, _, _, rfl, rfl, h⟩)
      · replace h := h.2 c
        refine s_aload_n (n := 19) hG dX6_kindAt_18 rfl rfl ?_
        refine gtX6_9 (n := 22) hG dX6_kindAt_19 rfl ?_
        refine s_iload_n (n := 23) hG dX6_kindAt_22 rfl rfl ?_
        obtain ⟨hin, h⟩ := h
        refine s_iald (n := 24) hG dX6_kindAt_23 (gbq_a 45 (Or.inl rfl) hin) rfl ?_
        refine s_goto (tgt := 28) hG dX6_kindAt_24 rfl ?_
        exact s_iret hG dX6_kindAt_28 (hQ _ _ ⟨_, _, _, rfl, rfl, h⟩)
def wX6_firstAt (N : Nat) (b : Int32) (a1 : Int32) (g : gFG) (f : gFF) (Q : Int32 → gFG → gFF → Prop) : Prop := ((a1 < 0) → Q 0 g f) ∧ ((¬ a1 < 0) → (((g (gbl b)) ≤ a1) → Q 0 g f) ∧ ((¬ (g (gbl b)) ≤ a1) → ((20 ≤ a1) → Q 0 g f) ∧ ((¬ 20 ≤ a1) → (vp_in a1 20) ∧ (Q (f (gbq 46 b) a1.toNatClampNeg) g f))))
theorem mX6_firstAt (hE : gInj layC ad) {N : Nat} {b : Int32} {a1 : Int32} {g : gFG} {f : gFF} {Q : Int32 → gFG → gFF → Prop} (h : wX6_firstAt N b a1 g f Q) : gCT l D cs layC ad (gZc ad tX tY sK sV) 1 yX6_firstAt cX6_firstAt 2 (some .int) [.ref (ad (gbk b)), .int a1] (g, f, 0) (gQi Q) := by
  refine met_walk (lv0 := [some (.ref (ad (gbk b))), some (.int a1)]) ⟨hE, gZc_ok _ _ _ _ _⟩ (by decide) (Nat.le_of_ble_eq_true rfl) rfl (fun G Rt hG hQ => ?_)
  replace hG : gSim l D cs layC ad (gZc ad tX tY sK sV) 1 RX6 cX6_firstAt 2 (some .int) G Rt := hG
  unfold wX6_firstAt at h
  refine s_iload_n (n := 1) hG dX6_firstAt_0 rfl rfl ?_
  refine s_if_lt (n := 4) (tgt := 27) hG dX6_firstAt_1 rfl rfl (fun c => ?_) (fun c => ?_)
  · replace h := h.1 c
    refine s_iconst (n := 28) hG dX6_firstAt_27 ki_0 rfl ?_
    exact s_iret hG dX6_firstAt_28 (hQ _ _ ⟨_, _, _, rfl, rfl, h⟩)
  · replace h := h.2 c
    refine s_iload_n (n := 5) hG dX6_firstAt_4 rfl rfl ?_
    refine s_aload_n (n := 6) hG dX6_firstAt_5 rfl rfl ?_
    refine gtX6_21 (n := 9) hG dX6_firstAt_6 rfl ?_
    refine s_icmp_ge (n := 12) (tgt := 27) hG dX6_firstAt_9 rfl rfl (fun c => ?_) (fun c => ?_)
    · replace h := h.1 c
      refine s_iconst (n := 28) hG dX6_firstAt_27 ki_0 rfl ?_
      exact s_iret hG dX6_firstAt_28 (hQ _ _ ⟨_, _, _, rfl, rfl, h⟩)
    · replace h := h.2 c
      refine s_iload_n (n := 13) hG dX6_firstAt_12 rfl rfl ?_
      refine s_bipush (n := 15) hG dX6_firstAt_13 kb_20 rfl ?_
      refine s_icmp_ge (n := 18) (tgt := 27) hG dX6_firstAt_15 rfl rfl (fun c => ?_) (fun c => ?_)
      · replace h := h.1 c
        refine s_iconst (n := 28) hG dX6_firstAt_27 ki_0 rfl ?_
        exact s_iret hG dX6_firstAt_28 (hQ _ _ ⟨_, _, _, rfl, rfl, h⟩)
      · replace h := h.2 c
        refine s_aload_n (n := 19) hG dX6_firstAt_18 rfl rfl ?_
        refine gtX6_15 (n := 22) hG dX6_firstAt_19 rfl ?_
        refine s_iload_n (n := 23) hG dX6_firstAt_22 rfl rfl ?_
        obtain ⟨hin, h⟩ := h
        refine s_iald (n := 24) hG dX6_firstAt_23 (gbq_a 46 (Or.inr (Or.inl rfl)) hin) rfl ?_
        refine s_goto (tgt := 28) hG dX6_firstAt_24 rfl ?_
        exact s_iret hG dX6_firstAt_28 (hQ _ _ ⟨_, _, _, rfl, rfl, h⟩)
def wX6_secondAt (N : Nat) (b : Int32) (a1 : Int32) (g : gFG) (f : gFF) (Q : Int32 → gFG → gFF → Prop) : Prop := ((a1 < 0) → Q 0 g f) ∧ ((¬ a1 < 0) → (((g (gbl b)) ≤ a1) → Q 0 g f) ∧ ((¬ (g (gbl b)) ≤ a1) → ((20 ≤ a1) → Q 0 g f) ∧ ((¬ 20 ≤ a1) → (vp_in a1 20) ∧ (Q (f (gbq 47 b) a1.toNatClampNeg) g f))))
theorem mX6_secondAt (hE : gInj layC ad) {N : Nat} {b : Int32} {a1 : Int32} {g : gFG} {f : gFF} {Q : Int32 → gFG → gFF → Prop} (h : wX6_secondAt N b a1 g f Q) : gCT l D cs layC ad (gZc ad tX tY sK sV) 1 yX6_secondAt cX6_secondAt 2 (some .int) [.ref (ad (gbk b)), .int a1] (g, f, 0) (gQi Q) := by
  refine met_walk (lv0 := [some (.ref (ad (gbk b))), some (.int a1)]) ⟨hE, gZc_ok _ _ _ _ _⟩ (by decide) (Nat.le_of_ble_eq_true rfl) rfl (fun G Rt hG hQ => ?_)
  replace hG : gSim l D cs layC ad (gZc ad tX tY sK sV) 1 RX6 cX6_secondAt 2 (some .int) G Rt := hG
  unfold wX6_secondAt at h
  refine s_iload_n (n := 1) hG dX6_secondAt_0 rfl rfl ?_
  refine s_if_lt (n := 4) (tgt := 27) hG dX6_secondAt_1 rfl rfl (fun c => ?_) (fun c => ?_)
  · replace h := h.1 c
    refine s_iconst (n := 28) hG dX6_secondAt_27 ki_0 rfl ?_
    exact s_iret hG dX6_secondAt_28 (hQ _ _ ⟨_, _, _, rfl, rfl, h⟩)
  · replace h := h.2 c
    refine s_iload_n (n := 5) hG dX6_secondAt_4 rfl rfl ?_
    refine s_aload_n (n := 6) hG dX6_secondAt_5 rfl rfl ?_
    refine gtX6_21 (n := 9) hG dX6_secondAt_6 rfl ?_
    refine s_icmp_ge (n := 12) (tgt := 27) hG dX6_secondAt_9 rfl rfl (fun c => ?_) (fun c => ?_)
    · replace h := h.1 c
      refine s_iconst (n := 28) hG dX6_secondAt_27 ki_0 rfl ?_
      exact s_iret hG dX6_secondAt_28 (hQ _ _ ⟨_, _, _, rfl, rfl, h⟩)
    · replace h := h.2 c
      refine s_iload_n (n := 13) hG dX6_secondAt_12 rfl rfl ?_
      refine s_bipush (n := 15) hG dX6_secondAt_13 kb_20 rfl ?_
      refine s_icmp_ge (n := 18) (tgt := 27) hG dX6_secondAt_15 rfl rfl (fun c => ?_) (fun c => ?_)
      · replace h := h.1 c
        refine s_iconst (n := 28) hG dX6_secondAt_27 ki_0 rfl ?_
        exact s_iret hG dX6_secondAt_28 (hQ _ _ ⟨_, _, _, rfl, rfl, h⟩)
      · replace h := h.2 c
        refine s_aload_n (n := 19) hG dX6_secondAt_18 rfl rfl ?_
        refine gtX6_18 (n := 22) hG dX6_secondAt_19 rfl ?_
        refine s_iload_n (n := 23) hG dX6_secondAt_22 rfl rfl ?_
        obtain ⟨hin, h⟩ := h
        refine s_iald (n := 24) hG dX6_secondAt_23 (gbq_a 47 (Or.inr (Or.inr rfl)) hin) rfl ?_
        refine s_goto (tgt := 28) hG dX6_secondAt_24 rfl ?_
        exact s_iret hG dX6_secondAt_28 (hQ _ _ ⟨_, _, _, rfl, rfl, h⟩)
def wX9_length (N : Nat)  (g : gFG) (f : gFF) (Q : Int32 → gFG → gFF → Prop) : Prop := Q (g 18) g f
theorem mX9_length (hE : gInj layC ad) {N : Nat}  {g : gFG} {f : gFF} {Q : Int32 → gFG → gFF → Prop} (h : wX9_length N  g f Q) : gCT l D cs layC ad (gZc ad tX tY sK sV) 1 yX9_length cX9_length 1 (some .int) [.ref (ad 7)] (g, f, 0) (gQi Q) := by
  refine met_walk (lv0 := [some (.ref (ad 7))]) ⟨hE, gZc_ok _ _ _ _ _⟩ (by decide) (Nat.le_of_ble_eq_true rfl) rfl (fun G Rt hG hQ => ?_)
  replace hG : gSim l D cs layC ad (gZc ad tX tY sK sV) 1 RX9 cX9_length 1 (some .int) G Rt := hG
  unfold wX9_length at h
  refine s_aload_n (n := 1) hG dX9_length_0 rfl rfl ?_
  refine gtX9_15 (n := 4) hG dX9_length_1 rfl ?_
  exact s_iret hG dX9_length_4 (hQ _ _ ⟨_, _, _, rfl, rfl, h⟩)
def wX9_byteAt (N : Nat) (a1 : Int32) (g : gFG) (f : gFF) (Q : Int32 → gFG → gFF → Prop) : Prop := ((a1 < 0) → Q (-1) g f) ∧ ((¬ a1 < 0) → (((g 18) ≤ a1) → Q (-1) g f) ∧ ((¬ (g 18) ≤ a1) → ((300 ≤ a1) → Q (-1) g f) ∧ ((¬ 300 ≤ a1) → (vp_in a1 300) ∧ (Q (f 44 a1.toNatClampNeg) g f))))
theorem mX9_byteAt (hE : gInj layC ad) {N : Nat} {a1 : Int32} {g : gFG} {f : gFF} {Q : Int32 → gFG → gFF → Prop} (h : wX9_byteAt N a1 g f Q) : gCT l D cs layC ad (gZc ad tX tY sK sV) 1 yX9_byteAt cX9_byteAt 2 (some .int) [.ref (ad 7), .int a1] (g, f, 0) (gQi Q) := by
  refine met_walk (lv0 := [some (.ref (ad 7)), some (.int a1)]) ⟨hE, gZc_ok _ _ _ _ _⟩ (by decide) (Nat.le_of_ble_eq_true rfl) rfl (fun G Rt hG hQ => ?_)
  replace hG : gSim l D cs layC ad (gZc ad tX tY sK sV) 1 RX9 cX9_byteAt 2 (some .int) G Rt := hG
  unfold wX9_byteAt at h
  refine s_iload_n (n := 1) hG dX9_byteAt_0 rfl rfl ?_
  refine s_if_lt (n := 4) (tgt := 28) hG dX9_byteAt_1 rfl rfl (fun c => ?_) (fun c => ?_)
  · replace h := h.1 c
    refine s_iconst (n := 29) hG dX9_byteAt_28 ki_m1 rfl ?_
    exact s_iret hG dX9_byteAt_29 (hQ _ _ ⟨_, _, _, rfl, rfl, h⟩)
  · replace h := h.2 c
    refine s_iload_n (n := 5) hG dX9_byteAt_4 rfl rfl ?_
    refine s_aload_n (n := 6) hG dX9_byteAt_5 rfl rfl ?_
    refine gtX9_15 (n := 9) hG dX9_byteAt_6 rfl ?_
    refine s_icmp_ge (n := 12) (tgt := 28) hG dX9_byteAt_9 rfl rfl (fun c => ?_) (fun c => ?_)
    · replace h := h.1 c
      refine s_iconst (n := 29) hG dX9_byteAt_28 ki_m1 rfl ?_
      exact s_iret hG dX9_byteAt_29 (hQ _ _ ⟨_, _, _, rfl, rfl, h⟩)
    · replace h := h.2 c
      refine s_iload_n (n := 13) hG dX9_byteAt_12 rfl rfl ?_
      refine s_sipush (n := 16) hG dX9_byteAt_13 ks_300 rfl ?_
      refine s_icmp_ge (n := 19) (tgt := 28) hG dX9_byteAt_16 rfl rfl (fun c => ?_) (fun c => ?_)
      · replace h := h.1 c
        refine s_iconst (n := 29) hG dX9_byteAt_28 ki_m1 rfl ?_
        exact s_iret hG dX9_byteAt_29 (hQ _ _ ⟨_, _, _, rfl, rfl, h⟩)
      · replace h := h.2 c
        refine s_aload_n (n := 20) hG dX9_byteAt_19 rfl rfl ?_
        refine gtX9_9 (n := 23) hG dX9_byteAt_20 rfl ?_
        refine s_iload_n (n := 24) hG dX9_byteAt_23 rfl rfl ?_
        obtain ⟨hin, h⟩ := h
        refine s_iald (n := 25) hG dX9_byteAt_24 (gaC_44 hin) rfl ?_
        refine s_goto (tgt := 29) hG dX9_byteAt_25 rfl ?_
        exact s_iret hG dX9_byteAt_29 (hQ _ _ ⟨_, _, _, rfl, rfl, h⟩)
def wX8_pieceAt (N : Nat) (a1 : Int32) (g : gFG) (f : gFF) (Q : Int32 → gFG → gFF → Prop) : Prop := ((a1 < 0) → Q (-1) g f) ∧ ((¬ a1 < 0) → wX8_goneCount N g f (fun r6 g6 f6 => ((r6 ≤ a1) → Q (-1) g6 f6) ∧ ((¬ r6 ≤ a1) → ((8 ≤ a1) → Q (-1) g6 f6) ∧ ((¬ 8 ≤ a1) → (vp_in a1 8) ∧ (Q (f6 18 a1.toNatClampNeg) g6 f6)))))
theorem mX8_pieceAt (hE : gInj layC ad) {N : Nat} {a1 : Int32} {g : gFG} {f : gFF} {Q : Int32 → gFG → gFF → Prop} (h : wX8_pieceAt N a1 g f Q) : gCT l D cs layC ad (gZc ad tX tY sK sV) 3 yX8_pieceAt cX8_pieceAt 2 (some .int) [.ref (ad 3), .int a1] (g, f, 0) (gQi Q) := by
  refine met_walk (lv0 := [some (.ref (ad 3)), some (.int a1)]) ⟨hE, gZc_ok _ _ _ _ _⟩ (by decide) (Nat.le_of_ble_eq_true rfl) rfl (fun G Rt hG hQ => ?_)
  replace hG : gSim l D cs layC ad (gZc ad tX tY sK sV) 3 RX8 cX8_pieceAt 2 (some .int) G Rt := hG
  unfold wX8_pieceAt at h
  refine s_iload_n (n := 1) hG dX8_pieceAt_0 rfl rfl ?_
  refine s_if_lt (n := 4) (tgt := 27) hG dX8_pieceAt_1 rfl rfl (fun c => ?_) (fun c => ?_)
  · replace h := h.1 c
    refine s_iconst (n := 28) hG dX8_pieceAt_27 ki_m1 rfl ?_
    exact s_iret hG dX8_pieceAt_28 (hQ _ _ ⟨_, _, _, rfl, rfl, h⟩)
  · replace h := h.2 c
    refine s_iload_n (n := 5) hG dX8_pieceAt_4 rfl rfl ?_
    refine s_aload_n (n := 6) hG dX8_pieceAt_5 rfl rfl ?_
    refine s_callV (n := 9) (st := [.int a1]) hG (mX8_goneCount hE h) ceX8_goneCount lmX8_45 ⟨by decide, rfl, rfl⟩ rfl ⟨rfl, Nat.le_of_ble_eq_true rfl, by decide⟩ dX8_pieceAt_6 rfl ?_
    rintro _ _ ⟨r6, g6, f6, rfl, rfl, h⟩
    refine s_icmp_ge (n := 12) (tgt := 27) hG dX8_pieceAt_9 rfl rfl (fun c => ?_) (fun c => ?_)
    · replace h := h.1 c
      refine s_iconst (n := 28) hG dX8_pieceAt_27 ki_m1 rfl ?_
      exact s_iret hG dX8_pieceAt_28 (hQ _ _ ⟨_, _, _, rfl, rfl, h⟩)
    · replace h := h.2 c
      refine s_iload_n (n := 13) hG dX8_pieceAt_12 rfl rfl ?_
      refine s_bipush (n := 15) hG dX8_pieceAt_13 kb_8 rfl ?_
      refine s_icmp_ge (n := 18) (tgt := 27) hG dX8_pieceAt_15 rfl rfl (fun c => ?_) (fun c => ?_)
      · replace h := h.1 c
        refine s_iconst (n := 28) hG dX8_pieceAt_27 ki_m1 rfl ?_
        exact s_iret hG dX8_pieceAt_28 (hQ _ _ ⟨_, _, _, rfl, rfl, h⟩)
      · replace h := h.2 c
        refine s_aload_n (n := 19) hG dX8_pieceAt_18 rfl rfl ?_
        refine gtX8_15 (n := 22) hG dX8_pieceAt_19 rfl ?_
        refine s_iload_n (n := 23) hG dX8_pieceAt_22 rfl rfl ?_
        obtain ⟨hin, h⟩ := h
        refine s_iald (n := 24) hG dX8_pieceAt_23 (gaC_18 hin) rfl ?_
        refine s_goto (tgt := 28) hG dX8_pieceAt_24 rfl ?_
        exact s_iret hG dX8_pieceAt_28 (hQ _ _ ⟨_, _, _, rfl, rfl, h⟩)
def wX8_wayAt (N : Nat) (a1 : Int32) (g : gFG) (f : gFF) (Q : Int32 → gFG → gFF → Prop) : Prop := ((a1 < 0) → Q (-1) g f) ∧ ((¬ a1 < 0) → wX8_goneCount N g f (fun r6 g6 f6 => ((r6 ≤ a1) → Q (-1) g6 f6) ∧ ((¬ r6 ≤ a1) → ((8 ≤ a1) → Q (-1) g6 f6) ∧ ((¬ 8 ≤ a1) → (vp_in a1 8) ∧ (Q (f6 19 a1.toNatClampNeg) g6 f6)))))
theorem mX8_wayAt (hE : gInj layC ad) {N : Nat} {a1 : Int32} {g : gFG} {f : gFF} {Q : Int32 → gFG → gFF → Prop} (h : wX8_wayAt N a1 g f Q) : gCT l D cs layC ad (gZc ad tX tY sK sV) 3 yX8_wayAt cX8_wayAt 2 (some .int) [.ref (ad 3), .int a1] (g, f, 0) (gQi Q) := by
  refine met_walk (lv0 := [some (.ref (ad 3)), some (.int a1)]) ⟨hE, gZc_ok _ _ _ _ _⟩ (by decide) (Nat.le_of_ble_eq_true rfl) rfl (fun G Rt hG hQ => ?_)
  replace hG : gSim l D cs layC ad (gZc ad tX tY sK sV) 3 RX8 cX8_wayAt 2 (some .int) G Rt := hG
  unfold wX8_wayAt at h
  refine s_iload_n (n := 1) hG dX8_wayAt_0 rfl rfl ?_
  refine s_if_lt (n := 4) (tgt := 27) hG dX8_wayAt_1 rfl rfl (fun c => ?_) (fun c => ?_)
  · replace h := h.1 c
    refine s_iconst (n := 28) hG dX8_wayAt_27 ki_m1 rfl ?_
    exact s_iret hG dX8_wayAt_28 (hQ _ _ ⟨_, _, _, rfl, rfl, h⟩)
  · replace h := h.2 c
    refine s_iload_n (n := 5) hG dX8_wayAt_4 rfl rfl ?_
    refine s_aload_n (n := 6) hG dX8_wayAt_5 rfl rfl ?_
    refine s_callV (n := 9) (st := [.int a1]) hG (mX8_goneCount hE h) ceX8_goneCount lmX8_45 ⟨by decide, rfl, rfl⟩ rfl ⟨rfl, Nat.le_of_ble_eq_true rfl, by decide⟩ dX8_wayAt_6 rfl ?_
    rintro _ _ ⟨r6, g6, f6, rfl, rfl, h⟩
    refine s_icmp_ge (n := 12) (tgt := 27) hG dX8_wayAt_9 rfl rfl (fun c => ?_) (fun c => ?_)
    · replace h := h.1 c
      refine s_iconst (n := 28) hG dX8_wayAt_27 ki_m1 rfl ?_
      exact s_iret hG dX8_wayAt_28 (hQ _ _ ⟨_, _, _, rfl, rfl, h⟩)
    · replace h := h.2 c
      refine s_iload_n (n := 13) hG dX8_wayAt_12 rfl rfl ?_
      refine s_bipush (n := 15) hG dX8_wayAt_13 kb_8 rfl ?_
      refine s_icmp_ge (n := 18) (tgt := 27) hG dX8_wayAt_15 rfl rfl (fun c => ?_) (fun c => ?_)
      · replace h := h.1 c
        refine s_iconst (n := 28) hG dX8_wayAt_27 ki_m1 rfl ?_
        exact s_iret hG dX8_wayAt_28 (hQ _ _ ⟨_, _, _, rfl, rfl, h⟩)
      · replace h := h.2 c
        refine s_aload_n (n := 19) hG dX8_wayAt_18 rfl rfl ?_
        refine gtX8_18 (n := 22) hG dX8_wayAt_19 rfl ?_
        refine s_iload_n (n := 23) hG dX8_wayAt_22 rfl rfl ?_
        obtain ⟨hin, h⟩ := h
        refine s_iald (n := 24) hG dX8_wayAt_23 (gaC_19 hin) rfl ?_
        refine s_goto (tgt := 28) hG dX8_wayAt_24 rfl ?_
        exact s_iret hG dX8_wayAt_28 (hQ _ _ ⟨_, _, _, rfl, rfl, h⟩)
def wX11_isClay (N : Nat) (a1 : Int32) (g : gFG) (f : gFF) (Q : Int32 → gFG → gFF → Prop) : Prop := ((a1 < 10) → Q 0 g f) ∧ ((¬ a1 < 10) → ((18 ≤ a1) → Q 0 g f) ∧ ((¬ 18 ≤ a1) → Q 1 g f))
theorem mX11_isClay (hE : gInj layC ad) {N : Nat} {a1 : Int32} {g : gFG} {f : gFF} {Q : Int32 → gFG → gFF → Prop} (h : wX11_isClay N a1 g f Q) : gCT l D cs layC ad (gZc ad tX tY sK sV) 1 yX11_isClay cX11_isClay 1 (some .boolean) [.int a1] (g, f, 0) (gQi Q) := by
  refine met_walk (lv0 := [some (.int a1)]) ⟨hE, gZc_ok _ _ _ _ _⟩ (by decide) (Nat.le_of_ble_eq_true rfl) rfl (fun G Rt hG hQ => ?_)
  replace hG : gSim l D cs layC ad (gZc ad tX tY sK sV) 1 RX11 cX11_isClay 1 (some .boolean) G Rt := hG
  unfold wX11_isClay at h
  refine s_iload_n (n := 1) hG dX11_isClay_0 rfl rfl ?_
  refine s_bipush (n := 3) hG dX11_isClay_1 kb_10 rfl ?_
  refine s_icmp_lt (n := 6) (tgt := 16) hG dX11_isClay_3 rfl rfl (fun c => ?_) (fun c => ?_)
  · replace h := h.1 c
    refine s_iconst (n := 17) hG dX11_isClay_16 ki_0 rfl ?_
    exact s_zret hG dX11_isClay_17 (gz_n gz_0) (hQ _ _ ⟨_, _, _, rfl, rfl, h⟩)
  · replace h := h.2 c
    refine s_iload_n (n := 7) hG dX11_isClay_6 rfl rfl ?_
    refine s_bipush (n := 9) hG dX11_isClay_7 kb_18 rfl ?_
    refine s_icmp_ge (n := 12) (tgt := 16) hG dX11_isClay_9 rfl rfl (fun c => ?_) (fun c => ?_)
    · replace h := h.1 c
      refine s_iconst (n := 17) hG dX11_isClay_16 ki_0 rfl ?_
      exact s_zret hG dX11_isClay_17 (gz_n gz_0) (hQ _ _ ⟨_, _, _, rfl, rfl, h⟩)
    · replace h := h.2 c
      refine s_iconst (n := 13) hG dX11_isClay_12 ki_1 rfl ?_
      refine s_goto (tgt := 17) hG dX11_isClay_13 rfl ?_
      exact s_zret hG dX11_isClay_17 (gz_n gz_1) (hQ _ _ ⟨_, _, _, rfl, rfl, h⟩)
def wX8_maskOf_j24 (N : Nat)  (Q : Int32 → gFG → gFF → Prop)  (g : gFG) (f : gFF) : Prop := Q 0 g f
theorem sX8_maskOf_j24 {G : gG} {Rt : Option Value → gSt → Prop} (hE : gInj layC ad) (hG : gSim l D cs layC ad (gZc ad tX tY sK sV) 2 RX8 cX8_maskOf 1 (some .int) G Rt) {Q : Int32 → gFG → gFF → Prop} (hQ : ∀ v S, gQi Q v S → Rt v S) {N : Nat}    {g : gFG} {f : gFF}  (h : wX8_maskOf_j24 N  Q  g f) : G 24 [none] [] (g, f, 0) := by
  unfold wX8_maskOf_j24 at h
  refine s_iconst (n := 25) hG dX8_maskOf_24 ki_0 rfl ?_
  refine s_goto (tgt := 31) hG dX8_maskOf_25 rfl ?_
  exact s_iret hG dX8_maskOf_31 (hQ _ _ ⟨_, _, _, rfl, rfl, h⟩)
def wX8_maskOf (N : Nat) (a1 : Int32) (g : gFG) (f : gFF) (Q : Int32 → gFG → gFF → Prop) : Prop := wX11_isClay N a1 g f (fun r1 g1 f1 => ((r1 = 0) → ((a1 = 3) → wX8_maskOf_j24 N  Q g1 f1) ∧ ((¬ a1 = 3) → ((¬ a1 = 4) → Q 256 g1 f1) ∧ ((a1 = 4) → wX8_maskOf_j24 N  Q g1 f1))) ∧ ((¬ r1 = 0) → Q (1 <<< ((a1 - 10) &&& 31)) g1 f1))
theorem mX8_maskOf (hE : gInj layC ad) {N : Nat} {a1 : Int32} {g : gFG} {f : gFF} {Q : Int32 → gFG → gFF → Prop} (h : wX8_maskOf N a1 g f Q) : gCT l D cs layC ad (gZc ad tX tY sK sV) 2 yX8_maskOf cX8_maskOf 1 (some .int) [.int a1] (g, f, 0) (gQi Q) := by
  refine met_walk (lv0 := [some (.int a1)]) ⟨hE, gZc_ok _ _ _ _ _⟩ (by decide) (Nat.le_of_ble_eq_true rfl) rfl (fun G Rt hG hQ => ?_)
  replace hG : gSim l D cs layC ad (gZc ad tX tY sK sV) 2 RX8 cX8_maskOf 1 (some .int) G Rt := hG
  unfold wX8_maskOf at h
  refine s_iload_n (n := 1) hG dX8_maskOf_0 rfl rfl ?_
  refine s_callSN (n := 4) (st := []) (host := "PieceMoulds") hG (mX11_isClay hE h) ceX11_isClay (fun U hU => hU.2.2.1.2.2.2.2) rfl ⟨rfl, Nat.le_of_ble_eq_true rfl, by decide⟩ dX8_maskOf_1 rfl ?_
  rintro _ _ ⟨r1, g1, f1, rfl, rfl, h⟩
  refine s_if_eq (n := 7) (tgt := 14) hG dX8_maskOf_4 rfl rfl (fun c => ?_) (fun c => ?_)
  · replace h := h.1 c
    refine s_iload_n (n := 15) hG dX8_maskOf_14 rfl rfl ?_
    refine s_iconst (n := 16) hG dX8_maskOf_15 ki_3 rfl ?_
    refine s_icmp_eq (n := 19) (tgt := 24) hG dX8_maskOf_16 rfl rfl (fun c => ?_) (fun c => ?_)
    · replace h := h.1 c
      exact s_wk hG (sX8_maskOf_j24 hE hG hQ  h) trivial
    · replace h := h.2 c
      refine s_iload_n (n := 20) hG dX8_maskOf_19 rfl rfl ?_
      refine s_iconst (n := 21) hG dX8_maskOf_20 ki_4 rfl ?_
      refine s_icmp_ne (n := 24) (tgt := 28) hG dX8_maskOf_21 rfl rfl (fun c => ?_) (fun c => ?_)
      · replace h := h.1 c
        refine s_sipush (n := 31) hG dX8_maskOf_28 ks_256 rfl ?_
        exact s_iret hG dX8_maskOf_31 (hQ _ _ ⟨_, _, _, rfl, rfl, h⟩)
      · replace h := h.2 c
        exact s_wk hG (sX8_maskOf_j24 hE hG hQ  h) trivial
  · replace h := h.2 c
    refine s_iconst (n := 8) hG dX8_maskOf_7 ki_1 rfl ?_
    refine s_iload_n (n := 9) hG dX8_maskOf_8 rfl rfl ?_
    refine s_bipush (n := 11) hG dX8_maskOf_9 kb_10 rfl ?_
    refine s_isub (n := 12) hG dX8_maskOf_11 rfl ?_
    refine s_ishl (n := 13) hG dX8_maskOf_12 rfl ?_
    exact s_iret hG dX8_maskOf_13 (hQ _ _ ⟨_, _, _, rfl, rfl, h⟩)
def wX8_lookBack_j94 (N : Nat) (K6 : Int32 → Int32 → gFG → gFF → Prop) (Q : gFG → gFF → Prop) (v1 : Int32) (v2 : Int32) (v3 : Int32) (v4 : Int32) (v5 : Int32) (v6 : Int32) (g : gFG) (f : gFF) : Prop := wX8_maskOf N v6 g f (fun r98 g98 f98 => ∀ x4_102 : Int32, x4_102 = (v4 ||| r98) → ∀ x5_104 : Int32, x5_104 = (v5 + 1) → K6 x4_102 x5_104 g98 f98)
theorem sX8_lookBack_j94 {G : gG} {Rt : Option Value → gSt → Prop} (hE : gInj layC ad) (hG : gSim l D cs layC ad (gZc ad tX tY sK sV) 3 RX8 cX8_lookBack 7 none G Rt) {Q : gFG → gFF → Prop} (hQ : ∀ v S, gQv Q v S → Rt v S) {N : Nat} {K6 : Int32 → Int32 → gFG → gFF → Prop}  {v1 : Int32} {v2 : Int32} {v3 : Int32} {v4 : Int32} {v5 : Int32} {v6 : Int32} {g : gFG} {f : gFF} (hK6 : ∀ (uv4 : Int32) (uv5 : Int32) (ug : gFG) (uf : gFF), K6 uv4 uv5 ug uf → G 6 [some (.ref (ad 3)), some (.int v1), some (.int v2), some (.int v3), some (.int uv4), some (.int uv5), none] [] (ug, uf, 0)) (h : wX8_lookBack_j94 N K6 Q v1 v2 v3 v4 v5 v6 g f) : G 94 [some (.ref (ad 3)), some (.int v1), some (.int v2), some (.int v3), some (.int v4), some (.int v5), some (.int v6)] [] (g, f, 0) := by
  unfold wX8_lookBack_j94 at h
  refine s_iload (n := 96) hG dX8_lookBack_94 rfl rfl ?_
  refine s_iload (n := 98) hG dX8_lookBack_96 rfl rfl ?_
  refine s_callS (n := 101) (st := [.int v4]) hG (mX8_maskOf hE h) ceX8_maskOf lmX8_93 rfl ⟨rfl, Nat.le_of_ble_eq_true rfl, by decide⟩ dX8_lookBack_98 rfl ?_
  rintro _ _ ⟨r98, g98, f98, rfl, rfl, h⟩
  refine s_ior (n := 102) hG dX8_lookBack_101 rfl ?_
  refine s_topi (fun x4_102 hx4_102 => ?_)
  replace h := h x4_102 hx4_102
  refine s_istore (n := 104) (lv2 := [some (.ref (ad 3)), some (.int v1), some (.int v2), some (.int v3), some (.int x4_102), some (.int v5), some (.int v6)]) hG dX8_lookBack_102 rfl rfl rfl ?_
  obtain ⟨x5_104, hx5_104⟩ : ∃ z : Int32, z = (v5 + 1) := ⟨_, rfl⟩
  replace h := h x5_104 hx5_104
  refine s_iinc (n := 107) (v := x5_104) (lv2 := [some (.ref (ad 3)), some (.int v1), some (.int v2), some (.int v3), some (.int x4_102), some (.int x5_104), some (.int v6)]) hG dX8_lookBack_104 ki_1 rfl hx5_104 rfl rfl rfl ?_
  refine s_goto (tgt := 6) hG dX8_lookBack_107 rfl ?_
  exact s_wk hG (hK6 _ _ _ _ h) ⟨rfl, rfl, rfl, rfl, rfl, rfl, trivial⟩
def wX8_lookBack_l6 (N : Nat) (v1 : Int32) (v2 : Int32) (v3 : Int32)  (Q : gFG → gFF → Prop) : Nat → Int32 → Int32 → gFG → gFF → Prop
  | 0, _, _, _, _ => False
  | n + 1, v4, v5, g, f => ((12 ≤ v5) → Q g f) ∧ ((¬ 12 ≤ v5) → (vp_in v3 4) ∧ ((vp_in v3 4) ∧ (wX2_sortAt N (v1 - (v5 * (gwx v3.toNatClampNeg))) (v2 - (v5 * (gwy v3.toNatClampNeg))) g f (fun r37 g37 f37 => ((¬ r37 = (-1)) → wX11_isClay N r37 g37 f37 (fun r53 g53 f53 => ((r53 = 0) → wX8_lookBack_j94 N (wX8_lookBack_l6 N v1 v2 v3  Q n) Q v1 v2 v3 v4 v5 r37 g53 f53) ∧ ((¬ r53 = 0) → ∀ i73 : Int32, i73 = (((r37 - 10) * 4) + v3) → (vp_in i73 32) ∧ (∀ y77 : Int32, y77 = ((f53 17 i73.toNatClampNeg) ||| v4) → ∀ i77 : Int32, i77 = (((r37 - 10) * 4) + v3) → (vp_in i77 32) ∧ (∀ f77 : gFF, f77 = (va_up f53 17 (upd (f53 17) i77.toNatClampNeg y77)) → ∀ y91 : Int32, y91 = ((g53 10) ||| (1 <<< ((r37 - 10) &&& 31))) → ∀ g91 : gFG, g91 = (va_up g53 10 y91) → wX8_lookBack_j94 N (wX8_lookBack_l6 N v1 v2 v3  Q n) Q v1 v2 v3 v4 v5 r37 g91 f77))))) ∧ ((r37 = (-1)) → Q g37 f37)))))
theorem sX8_lookBack_l6 {G : gG} {Rt : Option Value → gSt → Prop} (hE : gInj layC ad) (hG : gSim l D cs layC ad (gZc ad tX tY sK sV) 3 RX8 cX8_lookBack 7 none G Rt) {Q : gFG → gFF → Prop} (hQ : ∀ v S, gQv Q v S → Rt v S) {N : Nat} {v1 : Int32} {v2 : Int32} {v3 : Int32}    : ∀ (n : Nat) (v4 : Int32) (v5 : Int32) (g : gFG) (f : gFF), wX8_lookBack_l6 N v1 v2 v3  Q n v4 v5 g f → G 6 [some (.ref (ad 3)), some (.int v1), some (.int v2), some (.int v3), some (.int v4), some (.int v5), none] [] (g, f, 0) := by
  intro n
  induction n with
  | zero => intro _ _ _ _ h; unfold wX8_lookBack_l6 at h; exact h.elim
  | succ n ih =>
    intro v4 v5 g f h
    unfold wX8_lookBack_l6 at h
    refine s_iload (n := 8) hG dX8_lookBack_6 rfl rfl ?_
    refine s_bipush (n := 10) hG dX8_lookBack_8 kb_12 rfl ?_
    refine s_icmp_ge (n := 13) (tgt := 110) hG dX8_lookBack_10 rfl rfl (fun c => ?_) (fun c => ?_)
    · replace h := h.1 c
      exact s_vret hG dX8_lookBack_110 (hQ _ _ ⟨_, _, rfl, rfl, h⟩)
    · replace h := h.2 c
      refine s_aload_n (n := 14) hG dX8_lookBack_13 rfl rfl ?_
      refine gtX8_31 (n := 17) hG dX8_lookBack_14 rfl ?_
      refine s_iload_n (n := 18) hG dX8_lookBack_17 rfl rfl ?_
      refine s_iload (n := 20) hG dX8_lookBack_18 rfl rfl ?_
      refine s_gets (n := 23) hG (fun U hU => ⟨hU.1.1, hU.2.2.1.2.2.1⟩) dX8_lookBack_20 rfl ?_
      refine s_iload_n (n := 24) hG dX8_lookBack_23 rfl rfl ?_
      obtain ⟨hin, h⟩ := h
      refine s_tald (n := 25) (N := 4) (tb := gwx) hG (fun U hU => hU.1.2) dX8_lookBack_24 hin rfl ?_
      refine s_imul (n := 26) hG dX8_lookBack_25 rfl ?_
      refine s_isub (n := 27) hG dX8_lookBack_26 rfl ?_
      refine s_iload_n (n := 28) hG dX8_lookBack_27 rfl rfl ?_
      refine s_iload (n := 30) hG dX8_lookBack_28 rfl rfl ?_
      refine s_gets (n := 33) hG (fun U hU => ⟨hU.2.1.1, hU.2.2.1.2.2.2.1⟩) dX8_lookBack_30 rfl ?_
      refine s_iload_n (n := 34) hG dX8_lookBack_33 rfl rfl ?_
      obtain ⟨hin, h⟩ := h
      refine s_tald (n := 35) (N := 4) (tb := gwy) hG (fun U hU => hU.2.1.2) dX8_lookBack_34 hin rfl ?_
      refine s_imul (n := 36) hG dX8_lookBack_35 rfl ?_
      refine s_isub (n := 37) hG dX8_lookBack_36 rfl ?_
      refine s_callV (n := 40) (st := []) hG (mX2_sortAt hE h) ceX2_sortAt lmX8_86 ⟨by decide, rfl, rfl⟩ rfl ⟨rfl, Nat.le_of_ble_eq_true rfl, by decide⟩ dX8_lookBack_37 rfl ?_
      rintro _ _ ⟨r37, g37, f37, rfl, rfl, h⟩
      refine s_istore (n := 42) (lv2 := [some (.ref (ad 3)), some (.int v1), some (.int v2), some (.int v3), some (.int v4), some (.int v5), some (.int r37)]) hG dX8_lookBack_40 rfl rfl rfl ?_
      refine s_iload (n := 44) hG dX8_lookBack_42 rfl rfl ?_
      refine s_iconst (n := 45) hG dX8_lookBack_44 ki_m1 rfl ?_
      refine s_icmp_ne (n := 48) (tgt := 51) hG dX8_lookBack_45 rfl rfl (fun c => ?_) (fun c => ?_)
      · replace h := h.1 c
        refine s_iload (n := 53) hG dX8_lookBack_51 rfl rfl ?_
        refine s_callSN (n := 56) (st := []) (host := "PieceMoulds") hG (mX11_isClay hE h) ceX11_isClay (fun U hU => hU.2.2.1.2.2.2.2) rfl ⟨rfl, Nat.le_of_ble_eq_true rfl, by decide⟩ dX8_lookBack_53 rfl ?_
        rintro _ _ ⟨r53, g53, f53, rfl, rfl, h⟩
        refine s_if_eq (n := 59) (tgt := 94) hG dX8_lookBack_56 rfl rfl (fun c => ?_) (fun c => ?_)
        · replace h := h.1 c
          exact s_wk hG (sX8_lookBack_j94 hE hG hQ ih h) ⟨rfl, rfl, rfl, rfl, rfl, rfl, rfl, trivial⟩
        · replace h := h.2 c
          refine s_aload_n (n := 60) hG dX8_lookBack_59 rfl rfl ?_
          refine gtX8_9 (n := 63) hG dX8_lookBack_60 rfl ?_
          refine s_iload (n := 65) hG dX8_lookBack_63 rfl rfl ?_
          refine s_bipush (n := 67) hG dX8_lookBack_65 kb_10 rfl ?_
          refine s_isub (n := 68) hG dX8_lookBack_67 rfl ?_
          refine s_iconst (n := 69) hG dX8_lookBack_68 ki_4 rfl ?_
          refine s_imul (n := 70) hG dX8_lookBack_69 rfl ?_
          refine s_iload_n (n := 71) hG dX8_lookBack_70 rfl rfl ?_
          refine s_iadd (n := 72) hG dX8_lookBack_71 rfl ?_
          refine s_dup2 (n := 73) hG dX8_lookBack_72 rfl rfl rfl ?_
          refine s_topi (fun i73 hi73 => ?_)
          replace h := h i73 hi73
          obtain ⟨hin, h⟩ := h
          refine s_iald (n := 74) hG dX8_lookBack_73 (gaC_17 hin) rfl ?_
          refine s_iload (n := 76) hG dX8_lookBack_74 rfl rfl ?_
          refine s_ior (n := 77) hG dX8_lookBack_76 rfl ?_
          refine s_topi (fun y77 hy77 => ?_)
          replace h := h y77 hy77
          refine s_topi2 (fun i77 hi77 => ?_)
          replace h := h i77 hi77
          obtain ⟨hin, h⟩ := h
          refine s_iast (n := 78) hG dX8_lookBack_77 (gaC_17 hin) rfl ?_
          refine s_nf (fun f77 hf77 => ?_)
          replace h := h f77 hf77
          refine s_aload_n (n := 79) hG dX8_lookBack_78 rfl rfl ?_
          refine s_dup (n := 80) hG dX8_lookBack_79 rfl rfl ?_
          refine gtX8_21 (n := 83) hG dX8_lookBack_80 rfl ?_
          refine s_iconst (n := 84) hG dX8_lookBack_83 ki_1 rfl ?_
          refine s_iload (n := 86) hG dX8_lookBack_84 rfl rfl ?_
          refine s_bipush (n := 88) hG dX8_lookBack_86 kb_10 rfl ?_
          refine s_isub (n := 89) hG dX8_lookBack_88 rfl ?_
          refine s_ishl (n := 90) hG dX8_lookBack_89 rfl ?_
          refine s_ior (n := 91) hG dX8_lookBack_90 rfl ?_
          refine s_topi (fun y91 hy91 => ?_)
          replace h := h y91 hy91
          refine ptX8_21 (n := 94) hG dX8_lookBack_91 rfl ?_
          refine s_ng (fun g91 hg91 => ?_)
          replace h := h g91 hg91
          exact s_wk hG (sX8_lookBack_j94 hE hG hQ ih h) ⟨rfl, rfl, rfl, rfl, rfl, rfl, rfl, trivial⟩
      · replace h := h.2 c
        refine s_goto (tgt := 110) hG dX8_lookBack_48 rfl ?_
        exact s_vret hG dX8_lookBack_110 (hQ _ _ ⟨_, _, rfl, rfl, h⟩)
def wX8_lookBack (N : Nat) (a1 : Int32) (a2 : Int32) (a3 : Int32) (g : gFG) (f : gFF) (Q : gFG → gFF → Prop) : Prop := wX8_lookBack_l6 N a1 a2 a3 Q N 0 0 g f
theorem mX8_lookBack (hE : gInj layC ad) {N : Nat} {a1 : Int32} {a2 : Int32} {a3 : Int32} {g : gFG} {f : gFF} {Q : gFG → gFF → Prop} (h : wX8_lookBack N a1 a2 a3 g f Q) : gCT l D cs layC ad (gZc ad tX tY sK sV) 3 yX8_lookBack cX8_lookBack 7 none [.ref (ad 3), .int a1, .int a2, .int a3] (g, f, 0) (gQv Q) := by
  refine met_walk (lv0 := [some (.ref (ad 3)), some (.int a1), some (.int a2), some (.int a3), none, none, none]) ⟨hE, gZc_ok _ _ _ _ _⟩ (by decide) (Nat.le_of_ble_eq_true rfl) rfl (fun G Rt hG hQ => ?_)
  replace hG : gSim l D cs layC ad (gZc ad tX tY sK sV) 3 RX8 cX8_lookBack 7 none G Rt := hG
  unfold wX8_lookBack at h
  refine s_iconst (n := 1) hG dX8_lookBack_0 ki_0 rfl ?_
  refine s_istore (n := 3) (lv2 := [some (.ref (ad 3)), some (.int a1), some (.int a2), some (.int a3), some (.int 0), none, none]) hG dX8_lookBack_1 rfl rfl rfl ?_
  refine s_iconst (n := 4) hG dX8_lookBack_3 ki_0 rfl ?_
  refine s_istore (n := 6) (lv2 := [some (.ref (ad 3)), some (.int a1), some (.int a2), some (.int a3), some (.int 0), some (.int 0), none]) hG dX8_lookBack_4 rfl rfl rfl ?_
  exact s_wk hG (sX8_lookBack_l6 hE hG hQ  N _ _ _ _ h) ⟨rfl, rfl, rfl, rfl, rfl, rfl, trivial⟩
def wX8_lookFromEdge_j57 (N : Nat) (K2 : Int32 → gFG → gFF → Prop) (K15 : Int32 → gFG → gFF → Prop) (Q : gFG → gFF → Prop) (v1 : Int32) (v2 : Int32) (v3 : Int32) (g : gFG) (f : gFF) : Prop := ∀ x3_57 : Int32, x3_57 = (v3 + 1) → K15 x3_57 g f
theorem sX8_lookFromEdge_j57 {G : gG} {Rt : Option Value → gSt → Prop} (hE : gInj layC ad) (hG : gSim l D cs layC ad (gZc ad tX tY sK sV) 4 RX8 cX8_lookFromEdge 4 none G Rt) {Q : gFG → gFF → Prop} (hQ : ∀ v S, gQv Q v S → Rt v S) {N : Nat} {K2 : Int32 → gFG → gFF → Prop} {K15 : Int32 → gFG → gFF → Prop}  {v1 : Int32} {v2 : Int32} {v3 : Int32} {g : gFG} {f : gFF} (hK2 : ∀ (uv2 : Int32) (ug : gFG) (uf : gFF), K2 uv2 ug uf → G 2 [some (.ref (ad 3)), some (.int v1), some (.int uv2), none] [] (ug, uf, 0)) (hK15 : ∀ (uv3 : Int32) (ug : gFG) (uf : gFF), K15 uv3 ug uf → G 15 [some (.ref (ad 3)), some (.int v1), some (.int v2), some (.int uv3)] [] (ug, uf, 0)) (h : wX8_lookFromEdge_j57 N K2 K15 Q v1 v2 v3 g f) : G 57 [some (.ref (ad 3)), some (.int v1), some (.int v2), some (.int v3)] [] (g, f, 0) := by
  unfold wX8_lookFromEdge_j57 at h
  obtain ⟨x3_57, hx3_57⟩ : ∃ z : Int32, z = (v3 + 1) := ⟨_, rfl⟩
  replace h := h x3_57 hx3_57
  refine s_iinc (n := 60) (v := x3_57) (lv2 := [some (.ref (ad 3)), some (.int v1), some (.int v2), some (.int x3_57)]) hG dX8_lookFromEdge_57 ki_1 rfl hx3_57 rfl rfl rfl ?_
  refine s_goto (tgt := 15) hG dX8_lookFromEdge_60 rfl ?_
  exact s_wk hG (hK15 _ _ _ h) ⟨rfl, rfl, rfl, rfl, trivial⟩
def wX8_lookFromEdge_l15 (N : Nat) (v1 : Int32) (v2 : Int32) (K2 : Int32 → gFG → gFF → Prop) (Q : gFG → gFF → Prop) : Nat → Int32 → gFG → gFF → Prop
  | 0, _, _, _ => False
  | n + 1, v3, g, f => wX2_width N g f (fun r20 g20 f20 => ((r20 ≤ v3) → ∀ x2_63 : Int32, x2_63 = (v2 + 1) → K2 x2_63 g20 f20) ∧ ((¬ r20 ≤ v3) → (vp_in v1 4) ∧ ((vp_in v1 4) ∧ (wX2_has N (v3 + (gwx v1.toNatClampNeg)) (v2 + (gwy v1.toNatClampNeg)) g20 f20 (fun r44 g44 f44 => ((¬ r44 = 0) → wX8_lookFromEdge_j57 N (K2) (wX8_lookFromEdge_l15 N v1 v2 K2 Q n) Q v1 v2 v3 g44 f44) ∧ ((r44 = 0) → wX8_lookBack N v3 v2 v1 g44 f44 (fun g54 f54 => wX8_lookFromEdge_j57 N (K2) (wX8_lookFromEdge_l15 N v1 v2 K2 Q n) Q v1 v2 v3 g54 f54)))))))
theorem sX8_lookFromEdge_l15 {G : gG} {Rt : Option Value → gSt → Prop} (hE : gInj layC ad) (hG : gSim l D cs layC ad (gZc ad tX tY sK sV) 4 RX8 cX8_lookFromEdge 4 none G Rt) {Q : gFG → gFF → Prop} (hQ : ∀ v S, gQv Q v S → Rt v S) {N : Nat} {v1 : Int32} {v2 : Int32} {K2 : Int32 → gFG → gFF → Prop}  (hK2 : ∀ (uv2 : Int32) (ug : gFG) (uf : gFF), K2 uv2 ug uf → G 2 [some (.ref (ad 3)), some (.int v1), some (.int uv2), none] [] (ug, uf, 0)) : ∀ (n : Nat) (v3 : Int32) (g : gFG) (f : gFF), wX8_lookFromEdge_l15 N v1 v2 K2 Q n v3 g f → G 15 [some (.ref (ad 3)), some (.int v1), some (.int v2), some (.int v3)] [] (g, f, 0) := by
  intro n
  induction n with
  | zero => intro _ _ _ h; unfold wX8_lookFromEdge_l15 at h; exact h.elim
  | succ n ih =>
    intro v3 g f h
    unfold wX8_lookFromEdge_l15 at h
    refine s_iload_n (n := 16) hG dX8_lookFromEdge_15 rfl rfl ?_
    refine s_aload_n (n := 17) hG dX8_lookFromEdge_16 rfl rfl ?_
    refine gtX8_31 (n := 20) hG dX8_lookFromEdge_17 rfl ?_
    refine s_callV (n := 23) (st := [.int v3]) hG (mX2_width hE h) ceX2_width lmX8_69 ⟨by decide, rfl, rfl⟩ rfl ⟨rfl, Nat.le_of_ble_eq_true rfl, by decide⟩ dX8_lookFromEdge_20 rfl ?_
    rintro _ _ ⟨r20, g20, f20, rfl, rfl, h⟩
    refine s_icmp_ge (n := 26) (tgt := 63) hG dX8_lookFromEdge_23 rfl rfl (fun c => ?_) (fun c => ?_)
    · replace h := h.1 c
      obtain ⟨x2_63, hx2_63⟩ : ∃ z : Int32, z = (v2 + 1) := ⟨_, rfl⟩
      replace h := h x2_63 hx2_63
      refine s_iinc (n := 66) (v := x2_63) (lv2 := [some (.ref (ad 3)), some (.int v1), some (.int x2_63), some (.int v3)]) hG dX8_lookFromEdge_63 ki_1 rfl hx2_63 rfl rfl rfl ?_
      refine s_goto (tgt := 2) hG dX8_lookFromEdge_66 rfl ?_
      exact s_wk hG (hK2 _ _ _ h) ⟨rfl, rfl, rfl, trivial⟩
    · replace h := h.2 c
      refine s_aload_n (n := 27) hG dX8_lookFromEdge_26 rfl rfl ?_
      refine gtX8_31 (n := 30) hG dX8_lookFromEdge_27 rfl ?_
      refine s_iload_n (n := 31) hG dX8_lookFromEdge_30 rfl rfl ?_
      refine s_gets (n := 34) hG (fun U hU => ⟨hU.1.1, hU.2.2.1.2.2.1⟩) dX8_lookFromEdge_31 rfl ?_
      refine s_iload_n (n := 35) hG dX8_lookFromEdge_34 rfl rfl ?_
      obtain ⟨hin, h⟩ := h
      refine s_tald (n := 36) (N := 4) (tb := gwx) hG (fun U hU => hU.1.2) dX8_lookFromEdge_35 hin rfl ?_
      refine s_iadd (n := 37) hG dX8_lookFromEdge_36 rfl ?_
      refine s_iload_n (n := 38) hG dX8_lookFromEdge_37 rfl rfl ?_
      refine s_gets (n := 41) hG (fun U hU => ⟨hU.2.1.1, hU.2.2.1.2.2.2.1⟩) dX8_lookFromEdge_38 rfl ?_
      refine s_iload_n (n := 42) hG dX8_lookFromEdge_41 rfl rfl ?_
      obtain ⟨hin, h⟩ := h
      refine s_tald (n := 43) (N := 4) (tb := gwy) hG (fun U hU => hU.2.1.2) dX8_lookFromEdge_42 hin rfl ?_
      refine s_iadd (n := 44) hG dX8_lookFromEdge_43 rfl ?_
      refine s_callV (n := 47) (st := []) hG (mX2_has hE h) ceX2_has lmX8_78 ⟨by decide, rfl, rfl⟩ rfl ⟨rfl, Nat.le_of_ble_eq_true rfl, by decide⟩ dX8_lookFromEdge_44 rfl ?_
      rintro _ _ ⟨r44, g44, f44, rfl, rfl, h⟩
      refine s_if_ne (n := 50) (tgt := 57) hG dX8_lookFromEdge_47 rfl rfl (fun c => ?_) (fun c => ?_)
      · replace h := h.1 c
        exact s_wk hG (sX8_lookFromEdge_j57 hE hG hQ hK2 ih h) ⟨rfl, rfl, rfl, rfl, trivial⟩
      · replace h := h.2 c
        refine s_aload_n (n := 51) hG dX8_lookFromEdge_50 rfl rfl ?_
        refine s_iload_n (n := 52) hG dX8_lookFromEdge_51 rfl rfl ?_
        refine s_iload_n (n := 53) hG dX8_lookFromEdge_52 rfl rfl ?_
        refine s_iload_n (n := 54) hG dX8_lookFromEdge_53 rfl rfl ?_
        refine s_callV (n := 57) (st := []) hG (mX8_lookBack hE h) ceX8_lookBack lmX8_82 ⟨by decide, rfl, rfl⟩ rfl ⟨rfl, Nat.le_of_ble_eq_true rfl, by decide⟩ dX8_lookFromEdge_54 rfl ?_
        rintro _ _ ⟨g54, f54, rfl, rfl, h⟩
        exact s_wk hG (sX8_lookFromEdge_j57 hE hG hQ hK2 ih h) ⟨rfl, rfl, rfl, rfl, trivial⟩
def wX8_lookFromEdge_l2 (N : Nat) (v1 : Int32)  (Q : gFG → gFF → Prop) : Nat → Int32 → gFG → gFF → Prop
  | 0, _, _, _ => False
  | n + 1, v2, g, f => wX2_height N g f (fun r7 g7 f7 => ((r7 ≤ v2) → Q g7 f7) ∧ ((¬ r7 ≤ v2) → wX8_lookFromEdge_l15 N v1 v2 (wX8_lookFromEdge_l2 N v1  Q n) Q N 0 g7 f7))
theorem sX8_lookFromEdge_l2 {G : gG} {Rt : Option Value → gSt → Prop} (hE : gInj layC ad) (hG : gSim l D cs layC ad (gZc ad tX tY sK sV) 4 RX8 cX8_lookFromEdge 4 none G Rt) {Q : gFG → gFF → Prop} (hQ : ∀ v S, gQv Q v S → Rt v S) {N : Nat} {v1 : Int32}    : ∀ (n : Nat) (v2 : Int32) (g : gFG) (f : gFF), wX8_lookFromEdge_l2 N v1  Q n v2 g f → G 2 [some (.ref (ad 3)), some (.int v1), some (.int v2), none] [] (g, f, 0) := by
  intro n
  induction n with
  | zero => intro _ _ _ h; unfold wX8_lookFromEdge_l2 at h; exact h.elim
  | succ n ih =>
    intro v2 g f h
    unfold wX8_lookFromEdge_l2 at h
    refine s_iload_n (n := 3) hG dX8_lookFromEdge_2 rfl rfl ?_
    refine s_aload_n (n := 4) hG dX8_lookFromEdge_3 rfl rfl ?_
    refine gtX8_31 (n := 7) hG dX8_lookFromEdge_4 rfl ?_
    refine s_callV (n := 10) (st := [.int v2]) hG (mX2_height hE h) ceX2_height lmX8_66 ⟨by decide, rfl, rfl⟩ rfl ⟨rfl, Nat.le_of_ble_eq_true rfl, by decide⟩ dX8_lookFromEdge_7 rfl ?_
    rintro _ _ ⟨r7, g7, f7, rfl, rfl, h⟩
    refine s_icmp_ge (n := 13) (tgt := 69) hG dX8_lookFromEdge_10 rfl rfl (fun c => ?_) (fun c => ?_)
    · replace h := h.1 c
      exact s_vret hG dX8_lookFromEdge_69 (hQ _ _ ⟨_, _, rfl, rfl, h⟩)
    · replace h := h.2 c
      refine s_iconst (n := 14) hG dX8_lookFromEdge_13 ki_0 rfl ?_
      refine s_istore_n (n := 15) (lv2 := [some (.ref (ad 3)), some (.int v1), some (.int v2), some (.int 0)]) hG dX8_lookFromEdge_14 rfl rfl rfl ?_
      exact s_wk hG (sX8_lookFromEdge_l15 hE hG hQ ih N _ _ _ h) ⟨rfl, rfl, rfl, rfl, trivial⟩
def wX8_lookFromEdge (N : Nat) (a1 : Int32) (g : gFG) (f : gFF) (Q : gFG → gFF → Prop) : Prop := wX8_lookFromEdge_l2 N a1 Q N 0 g f
theorem mX8_lookFromEdge (hE : gInj layC ad) {N : Nat} {a1 : Int32} {g : gFG} {f : gFF} {Q : gFG → gFF → Prop} (h : wX8_lookFromEdge N a1 g f Q) : gCT l D cs layC ad (gZc ad tX tY sK sV) 4 yX8_lookFromEdge cX8_lookFromEdge 4 none [.ref (ad 3), .int a1] (g, f, 0) (gQv Q) := by
  refine met_walk (lv0 := [some (.ref (ad 3)), some (.int a1), none, none]) ⟨hE, gZc_ok _ _ _ _ _⟩ (by decide) (Nat.le_of_ble_eq_true rfl) rfl (fun G Rt hG hQ => ?_)
  replace hG : gSim l D cs layC ad (gZc ad tX tY sK sV) 4 RX8 cX8_lookFromEdge 4 none G Rt := hG
  unfold wX8_lookFromEdge at h
  refine s_iconst (n := 1) hG dX8_lookFromEdge_0 ki_0 rfl ?_
  refine s_istore_n (n := 2) (lv2 := [some (.ref (ad 3)), some (.int a1), some (.int 0), none]) hG dX8_lookFromEdge_1 rfl rfl rfl ?_
  exact s_wk hG (sX8_lookFromEdge_l2 hE hG hQ  N _ _ _ h) ⟨rfl, rfl, rfl, trivial⟩
def wX8_lowestWay_l11 (N : Nat) (v1 : Int32) (v2 : Int32)  (Q : Int32 → gFG → gFF → Prop) : Nat → Int32 → gFG → gFF → Prop
  | 0, _, _, _ => False
  | n + 1, v3, g, f => ((4 ≤ v3) → Q (-1) g f) ∧ ((¬ 4 ≤ v3) → ∀ i25 : Int32, i25 = ((v1 * 4) + v3) → (vp_in i25 32) ∧ (((¬ ((f 17 i25.toNatClampNeg) &&& (v2 ^^^ (-1))) = 0) → ∀ x3_35 : Int32, x3_35 = (v3 + 1) → wX8_lowestWay_l11 N v1 v2  Q n x3_35 g f) ∧ ((((f 17 i25.toNatClampNeg) &&& (v2 ^^^ (-1))) = 0) → Q v3 g f)))
theorem sX8_lowestWay_l11 {G : gG} {Rt : Option Value → gSt → Prop} (hE : gInj layC ad) (hG : gSim l D cs layC ad (gZc ad tX tY sK sV) 1 RX8 cX8_lowestWay 4 (some .int) G Rt) {Q : Int32 → gFG → gFF → Prop} (hQ : ∀ v S, gQi Q v S → Rt v S) {N : Nat} {v1 : Int32} {v2 : Int32}    : ∀ (n : Nat) (v3 : Int32) (g : gFG) (f : gFF), wX8_lowestWay_l11 N v1 v2  Q n v3 g f → G 11 [some (.ref (ad 3)), some (.int v1), some (.int v2), some (.int v3)] [] (g, f, 0) := by
  intro n
  induction n with
  | zero => intro _ _ _ h; unfold wX8_lowestWay_l11 at h; exact h.elim
  | succ n ih =>
    intro v3 g f h
    unfold wX8_lowestWay_l11 at h
    refine s_iload_n (n := 12) hG dX8_lowestWay_11 rfl rfl ?_
    refine s_iconst (n := 13) hG dX8_lowestWay_12 ki_4 rfl ?_
    refine s_icmp_ge (n := 16) (tgt := 41) hG dX8_lowestWay_13 rfl rfl (fun c => ?_) (fun c => ?_)
    · replace h := h.1 c
      refine s_iconst (n := 42) hG dX8_lowestWay_41 ki_m1 rfl ?_
      exact s_iret hG dX8_lowestWay_42 (hQ _ _ ⟨_, _, _, rfl, rfl, h⟩)
    · replace h := h.2 c
      refine s_aload_n (n := 17) hG dX8_lowestWay_16 rfl rfl ?_
      refine gtX8_9 (n := 20) hG dX8_lowestWay_17 rfl ?_
      refine s_iload_n (n := 21) hG dX8_lowestWay_20 rfl rfl ?_
      refine s_iconst (n := 22) hG dX8_lowestWay_21 ki_4 rfl ?_
      refine s_imul (n := 23) hG dX8_lowestWay_22 rfl ?_
      refine s_iload_n (n := 24) hG dX8_lowestWay_23 rfl rfl ?_
      refine s_iadd (n := 25) hG dX8_lowestWay_24 rfl ?_
      refine s_topi (fun i25 hi25 => ?_)
      replace h := h i25 hi25
      obtain ⟨hin, h⟩ := h
      refine s_iald (n := 26) hG dX8_lowestWay_25 (gaC_17 hin) rfl ?_
      refine s_iload_n (n := 27) hG dX8_lowestWay_26 rfl rfl ?_
      refine s_iconst (n := 28) hG dX8_lowestWay_27 ki_m1 rfl ?_
      refine s_ixor (n := 29) hG dX8_lowestWay_28 rfl ?_
      refine s_iand (n := 30) hG dX8_lowestWay_29 rfl ?_
      refine s_if_ne (n := 33) (tgt := 35) hG dX8_lowestWay_30 rfl rfl (fun c => ?_) (fun c => ?_)
      · replace h := h.1 c
        obtain ⟨x3_35, hx3_35⟩ : ∃ z : Int32, z = (v3 + 1) := ⟨_, rfl⟩
        replace h := h x3_35 hx3_35
        refine s_iinc (n := 38) (v := x3_35) (lv2 := [some (.ref (ad 3)), some (.int v1), some (.int v2), some (.int x3_35)]) hG dX8_lowestWay_35 ki_1 rfl hx3_35 rfl rfl rfl ?_
        refine s_goto (tgt := 11) hG dX8_lowestWay_38 rfl ?_
        exact s_wk hG (ih _ _ _ h) ⟨rfl, rfl, rfl, rfl, trivial⟩
      · replace h := h.2 c
        refine s_iload_n (n := 34) hG dX8_lowestWay_33 rfl rfl ?_
        exact s_iret hG dX8_lowestWay_34 (hQ _ _ ⟨_, _, _, rfl, rfl, h⟩)
def wX8_lowestWay (N : Nat) (a1 : Int32) (g : gFG) (f : gFF) (Q : Int32 → gFG → gFF → Prop) : Prop := ∀ x2_8 : Int32, x2_8 = ((g 11) ||| (1 <<< (a1 &&& 31))) → wX8_lowestWay_l11 N a1 x2_8 Q N 0 g f
theorem mX8_lowestWay (hE : gInj layC ad) {N : Nat} {a1 : Int32} {g : gFG} {f : gFF} {Q : Int32 → gFG → gFF → Prop} (h : wX8_lowestWay N a1 g f Q) : gCT l D cs layC ad (gZc ad tX tY sK sV) 1 yX8_lowestWay cX8_lowestWay 4 (some .int) [.ref (ad 3), .int a1] (g, f, 0) (gQi Q) := by
  refine met_walk (lv0 := [some (.ref (ad 3)), some (.int a1), none, none]) ⟨hE, gZc_ok _ _ _ _ _⟩ (by decide) (Nat.le_of_ble_eq_true rfl) rfl (fun G Rt hG hQ => ?_)
  replace hG : gSim l D cs layC ad (gZc ad tX tY sK sV) 1 RX8 cX8_lowestWay 4 (some .int) G Rt := hG
  unfold wX8_lowestWay at h
  refine s_aload_n (n := 1) hG dX8_lowestWay_0 rfl rfl ?_
  refine gtX8_25 (n := 4) hG dX8_lowestWay_1 rfl ?_
  refine s_iconst (n := 5) hG dX8_lowestWay_4 ki_1 rfl ?_
  refine s_iload_n (n := 6) hG dX8_lowestWay_5 rfl rfl ?_
  refine s_ishl (n := 7) hG dX8_lowestWay_6 rfl ?_
  refine s_ior (n := 8) hG dX8_lowestWay_7 rfl ?_
  refine s_topi (fun x2_8 hx2_8 => ?_)
  replace h := h x2_8 hx2_8
  refine s_istore_n (n := 9) (lv2 := [some (.ref (ad 3)), some (.int a1), some (.int x2_8), none]) hG dX8_lowestWay_8 rfl rfl rfl ?_
  refine s_iconst (n := 10) hG dX8_lowestWay_9 ki_0 rfl ?_
  refine s_istore_n (n := 11) (lv2 := [some (.ref (ad 3)), some (.int a1), some (.int x2_8), some (.int 0)]) hG dX8_lowestWay_10 rfl rfl rfl ?_
  exact s_wk hG (sX8_lowestWay_l11 hE hG hQ  N _ _ _ h) ⟨rfl, rfl, rfl, rfl, trivial⟩
def wX8_takeLowestOff_j50 (N : Nat) (K2 : Int32 → gFG → gFF → Prop) (Q : Int32 → gFG → gFF → Prop) (v1 : Int32) (v2 : Int32) (t0 : Int32) (g : gFG) (f : gFF) : Prop := ((t0 = (-1)) → ∀ x2_87 : Int32, x2_87 = (v2 + 1) → K2 x2_87 g f) ∧ ((¬ t0 = (-1)) → ∀ y67 : Int32, y67 = ((g 11) ||| (1 <<< (v2 &&& 31))) → ∀ g67 : gFG, g67 = (va_up g 11 y67) → (vp_in v1 8) ∧ (∀ f76 : gFF, f76 = (va_up f 18 (upd (f 18) v1.toNatClampNeg v2)) → (vp_in v1 8) ∧ (∀ f84 : gFF, f84 = (va_up f76 19 (upd (f76 19) v1.toNatClampNeg t0)) → Q 1 g67 f84)))
theorem sX8_takeLowestOff_j50 {G : gG} {Rt : Option Value → gSt → Prop} (hE : gInj layC ad) (hG : gSim l D cs layC ad (gZc ad tX tY sK sV) 2 RX8 cX8_takeLowestOff 5 (some .boolean) G Rt) {Q : Int32 → gFG → gFF → Prop} (hQ : ∀ v S, gQi Q v S → Rt v S) {N : Nat} {K2 : Int32 → gFG → gFF → Prop}  {v1 : Int32} {v2 : Int32} {t0 : Int32} {g : gFG} {f : gFF} (hK2 : ∀ (uv2 : Int32) (ug : gFG) (uf : gFF), K2 uv2 ug uf → G 2 [some (.ref (ad 3)), some (.int v1), some (.int uv2), none, none] [] (ug, uf, 0)) (h : wX8_takeLowestOff_j50 N K2 Q v1 v2 t0 g f) : G 50 [some (.ref (ad 3)), some (.int v1), some (.int v2), none, none] [.int t0] (g, f, 0) := by
  unfold wX8_takeLowestOff_j50 at h
  refine s_istore (n := 52) (lv2 := [some (.ref (ad 3)), some (.int v1), some (.int v2), none, some (.int t0)]) hG dX8_takeLowestOff_50 rfl rfl rfl ?_
  refine s_iload (n := 54) hG dX8_takeLowestOff_52 rfl rfl ?_
  refine s_iconst (n := 55) hG dX8_takeLowestOff_54 ki_m1 rfl ?_
  refine s_icmp_eq (n := 58) (tgt := 87) hG dX8_takeLowestOff_55 rfl rfl (fun c => ?_) (fun c => ?_)
  · replace h := h.1 c
    obtain ⟨x2_87, hx2_87⟩ : ∃ z : Int32, z = (v2 + 1) := ⟨_, rfl⟩
    replace h := h x2_87 hx2_87
    refine s_iinc (n := 90) (v := x2_87) (lv2 := [some (.ref (ad 3)), some (.int v1), some (.int x2_87), none, some (.int t0)]) hG dX8_takeLowestOff_87 ki_1 rfl hx2_87 rfl rfl rfl ?_
    refine s_goto (tgt := 2) hG dX8_takeLowestOff_90 rfl ?_
    exact s_wk hG (hK2 _ _ _ h) ⟨rfl, rfl, rfl, trivial⟩
  · replace h := h.2 c
    refine s_aload_n (n := 59) hG dX8_takeLowestOff_58 rfl rfl ?_
    refine s_dup (n := 60) hG dX8_takeLowestOff_59 rfl rfl ?_
    refine gtX8_25 (n := 63) hG dX8_takeLowestOff_60 rfl ?_
    refine s_iconst (n := 64) hG dX8_takeLowestOff_63 ki_1 rfl ?_
    refine s_iload_n (n := 65) hG dX8_takeLowestOff_64 rfl rfl ?_
    refine s_ishl (n := 66) hG dX8_takeLowestOff_65 rfl ?_
    refine s_ior (n := 67) hG dX8_takeLowestOff_66 rfl ?_
    refine s_topi (fun y67 hy67 => ?_)
    replace h := h y67 hy67
    refine ptX8_25 (n := 70) hG dX8_takeLowestOff_67 rfl ?_
    refine s_ng (fun g67 hg67 => ?_)
    replace h := h g67 hg67
    refine s_aload_n (n := 71) hG dX8_takeLowestOff_70 rfl rfl ?_
    refine gtX8_15 (n := 74) hG dX8_takeLowestOff_71 rfl ?_
    refine s_iload_n (n := 75) hG dX8_takeLowestOff_74 rfl rfl ?_
    refine s_iload_n (n := 76) hG dX8_takeLowestOff_75 rfl rfl ?_
    obtain ⟨hin, h⟩ := h
    refine s_iast (n := 77) hG dX8_takeLowestOff_76 (gaC_18 hin) rfl ?_
    refine s_nf (fun f76 hf76 => ?_)
    replace h := h f76 hf76
    refine s_aload_n (n := 78) hG dX8_takeLowestOff_77 rfl rfl ?_
    refine gtX8_18 (n := 81) hG dX8_takeLowestOff_78 rfl ?_
    refine s_iload_n (n := 82) hG dX8_takeLowestOff_81 rfl rfl ?_
    refine s_iload (n := 84) hG dX8_takeLowestOff_82 rfl rfl ?_
    obtain ⟨hin, h⟩ := h
    refine s_iast (n := 85) hG dX8_takeLowestOff_84 (gaC_19 hin) rfl ?_
    refine s_nf (fun f84 hf84 => ?_)
    replace h := h f84 hf84
    refine s_iconst (n := 86) hG dX8_takeLowestOff_85 ki_1 rfl ?_
    exact s_zret hG dX8_takeLowestOff_86 (gz_n gz_1) (hQ _ _ ⟨_, _, _, rfl, rfl, h⟩)
def wX8_takeLowestOff_j36 (N : Nat) (K2 : Int32 → gFG → gFF → Prop) (Q : Int32 → gFG → gFF → Prop) (v1 : Int32) (v2 : Int32) (t0 : Int32) (g : gFG) (f : gFF) : Prop := ((t0 = 0) → wX8_takeLowestOff_j50 N (K2) Q v1 v2 (-1) g f) ∧ ((¬ t0 = 0) → wX8_lowestWay N v2 g f (fun r43 g43 f43 => wX8_takeLowestOff_j50 N (K2) Q v1 v2 r43 g43 f43))
theorem sX8_takeLowestOff_j36 {G : gG} {Rt : Option Value → gSt → Prop} (hE : gInj layC ad) (hG : gSim l D cs layC ad (gZc ad tX tY sK sV) 2 RX8 cX8_takeLowestOff 5 (some .boolean) G Rt) {Q : Int32 → gFG → gFF → Prop} (hQ : ∀ v S, gQi Q v S → Rt v S) {N : Nat} {K2 : Int32 → gFG → gFF → Prop}  {v1 : Int32} {v2 : Int32} {t0 : Int32} {g : gFG} {f : gFF} (hK2 : ∀ (uv2 : Int32) (ug : gFG) (uf : gFF), K2 uv2 ug uf → G 2 [some (.ref (ad 3)), some (.int v1), some (.int uv2), none, none] [] (ug, uf, 0)) (h : wX8_takeLowestOff_j36 N K2 Q v1 v2 t0 g f) : G 36 [some (.ref (ad 3)), some (.int v1), some (.int v2), none, none] [.int t0] (g, f, 0) := by
  unfold wX8_takeLowestOff_j36 at h
  refine s_istore_n (n := 37) (lv2 := [some (.ref (ad 3)), some (.int v1), some (.int v2), some (.int t0), none]) hG dX8_takeLowestOff_36 rfl rfl rfl ?_
  refine s_iload_n (n := 38) hG dX8_takeLowestOff_37 rfl rfl ?_
  refine s_if_eq (n := 41) (tgt := 49) hG dX8_takeLowestOff_38 rfl rfl (fun c => ?_) (fun c => ?_)
  · replace h := h.1 c
    refine s_iconst (n := 50) hG dX8_takeLowestOff_49 ki_m1 rfl ?_
    exact s_wk hG (sX8_takeLowestOff_j50 hE hG hQ hK2 h) ⟨rfl, rfl, rfl, trivial⟩
  · replace h := h.2 c
    refine s_aload_n (n := 42) hG dX8_takeLowestOff_41 rfl rfl ?_
    refine s_iload_n (n := 43) hG dX8_takeLowestOff_42 rfl rfl ?_
    refine s_callV (n := 46) (st := []) hG (mX8_lowestWay hE h) ceX8_lowestWay lmX8_96 ⟨by decide, rfl, rfl⟩ rfl ⟨rfl, Nat.le_of_ble_eq_true rfl, by decide⟩ dX8_takeLowestOff_43 rfl ?_
    rintro _ _ ⟨r43, g43, f43, rfl, rfl, h⟩
    refine s_goto (tgt := 50) hG dX8_takeLowestOff_46 rfl ?_
    exact s_wk hG (sX8_takeLowestOff_j50 hE hG hQ hK2 h) ⟨rfl, rfl, rfl, trivial⟩
def wX8_takeLowestOff_j35 (N : Nat) (K2 : Int32 → gFG → gFF → Prop) (Q : Int32 → gFG → gFF → Prop) (v1 : Int32) (v2 : Int32) (g : gFG) (f : gFF) : Prop := wX8_takeLowestOff_j36 N (K2) Q v1 v2 0 g f
theorem sX8_takeLowestOff_j35 {G : gG} {Rt : Option Value → gSt → Prop} (hE : gInj layC ad) (hG : gSim l D cs layC ad (gZc ad tX tY sK sV) 2 RX8 cX8_takeLowestOff 5 (some .boolean) G Rt) {Q : Int32 → gFG → gFF → Prop} (hQ : ∀ v S, gQi Q v S → Rt v S) {N : Nat} {K2 : Int32 → gFG → gFF → Prop}  {v1 : Int32} {v2 : Int32} {g : gFG} {f : gFF} (hK2 : ∀ (uv2 : Int32) (ug : gFG) (uf : gFF), K2 uv2 ug uf → G 2 [some (.ref (ad 3)), some (.int v1), some (.int uv2), none, none] [] (ug, uf, 0)) (h : wX8_takeLowestOff_j35 N K2 Q v1 v2 g f) : G 35 [some (.ref (ad 3)), some (.int v1), some (.int v2), none, none] [] (g, f, 0) := by
  unfold wX8_takeLowestOff_j35 at h
  refine s_iconst (n := 36) hG dX8_takeLowestOff_35 ki_0 rfl ?_
  exact s_wk hG (sX8_takeLowestOff_j36 hE hG hQ hK2 h) ⟨rfl, rfl, rfl, trivial⟩
def wX8_takeLowestOff_l2 (N : Nat) (v1 : Int32)  (Q : Int32 → gFG → gFF → Prop) : Nat → Int32 → gFG → gFF → Prop
  | 0, _, _, _ => False
  | n + 1, v2, g, f => ((8 ≤ v2) → Q 0 g f) ∧ ((¬ 8 ≤ v2) → ((¬ (((g 10) >>> (v2 &&& 31)) &&& 1) = 1) → wX8_takeLowestOff_j35 N (wX8_takeLowestOff_l2 N v1  Q n) Q v1 v2 g f) ∧ (((((g 10) >>> (v2 &&& 31)) &&& 1) = 1) → ((¬ (((g 11) >>> (v2 &&& 31)) &&& 1) = 0) → wX8_takeLowestOff_j35 N (wX8_takeLowestOff_l2 N v1  Q n) Q v1 v2 g f) ∧ (((((g 11) >>> (v2 &&& 31)) &&& 1) = 0) → wX8_takeLowestOff_j36 N (wX8_takeLowestOff_l2 N v1  Q n) Q v1 v2 1 g f)))
theorem sX8_takeLowestOff_l2 {G : gG} {Rt : Option Value → gSt → Prop} (hE : gInj layC ad) (hG : gSim l D cs layC ad (gZc ad tX tY sK sV) 2 RX8 cX8_takeLowestOff 5 (some .boolean) G Rt) {Q : Int32 → gFG → gFF → Prop} (hQ : ∀ v S, gQi Q v S → Rt v S) {N : Nat} {v1 : Int32}    : ∀ (n : Nat) (v2 : Int32) (g : gFG) (f : gFF), wX8_takeLowestOff_l2 N v1  Q n v2 g f → G 2 [some (.ref (ad 3)), some (.int v1), some (.int v2), none, none] [] (g, f, 0) := by
  intro n
  induction n with
  | zero => intro _ _ _ h; unfold wX8_takeLowestOff_l2 at h; exact h.elim
  | succ n ih =>
    intro v2 g f h
    unfold wX8_takeLowestOff_l2 at h
    refine s_iload_n (n := 3) hG dX8_takeLowestOff_2 rfl rfl ?_
    refine s_bipush (n := 5) hG dX8_takeLowestOff_3 kb_8 rfl ?_
    refine s_icmp_ge (n := 8) (tgt := 93) hG dX8_takeLowestOff_5 rfl rfl (fun c => ?_) (fun c => ?_)
    · replace h := h.1 c
      refine s_iconst (n := 94) hG dX8_takeLowestOff_93 ki_0 rfl ?_
      exact s_zret hG dX8_takeLowestOff_94 (gz_n gz_0) (hQ _ _ ⟨_, _, _, rfl, rfl, h⟩)
    · replace h := h.2 c
      refine s_aload_n (n := 9) hG dX8_takeLowestOff_8 rfl rfl ?_
      refine gtX8_21 (n := 12) hG dX8_takeLowestOff_9 rfl ?_
      refine s_iload_n (n := 13) hG dX8_takeLowestOff_12 rfl rfl ?_
      refine s_ishr (n := 14) hG dX8_takeLowestOff_13 rfl ?_
      refine s_iconst (n := 15) hG dX8_takeLowestOff_14 ki_1 rfl ?_
      refine s_iand (n := 16) hG dX8_takeLowestOff_15 rfl ?_
      refine s_iconst (n := 17) hG dX8_takeLowestOff_16 ki_1 rfl ?_
      refine s_icmp_ne (n := 20) (tgt := 35) hG dX8_takeLowestOff_17 rfl rfl (fun c => ?_) (fun c => ?_)
      · replace h := h.1 c
        exact s_wk hG (sX8_takeLowestOff_j35 hE hG hQ ih h) ⟨rfl, rfl, rfl, trivial⟩
      · replace h := h.2 c
        refine s_aload_n (n := 21) hG dX8_takeLowestOff_20 rfl rfl ?_
        refine gtX8_25 (n := 24) hG dX8_takeLowestOff_21 rfl ?_
        refine s_iload_n (n := 25) hG dX8_takeLowestOff_24 rfl rfl ?_
        refine s_ishr (n := 26) hG dX8_takeLowestOff_25 rfl ?_
        refine s_iconst (n := 27) hG dX8_takeLowestOff_26 ki_1 rfl ?_
        refine s_iand (n := 28) hG dX8_takeLowestOff_27 rfl ?_
        refine s_if_ne (n := 31) (tgt := 35) hG dX8_takeLowestOff_28 rfl rfl (fun c => ?_) (fun c => ?_)
        · replace h := h.1 c
          exact s_wk hG (sX8_takeLowestOff_j35 hE hG hQ ih h) ⟨rfl, rfl, rfl, trivial⟩
        · replace h := h.2 c
          refine s_iconst (n := 32) hG dX8_takeLowestOff_31 ki_1 rfl ?_
          refine s_goto (tgt := 36) hG dX8_takeLowestOff_32 rfl ?_
          exact s_wk hG (sX8_takeLowestOff_j36 hE hG hQ ih h) ⟨rfl, rfl, rfl, trivial⟩
def wX8_takeLowestOff (N : Nat) (a1 : Int32) (g : gFG) (f : gFF) (Q : Int32 → gFG → gFF → Prop) : Prop := wX8_takeLowestOff_l2 N a1 Q N 0 g f
theorem mX8_takeLowestOff (hE : gInj layC ad) {N : Nat} {a1 : Int32} {g : gFG} {f : gFF} {Q : Int32 → gFG → gFF → Prop} (h : wX8_takeLowestOff N a1 g f Q) : gCT l D cs layC ad (gZc ad tX tY sK sV) 2 yX8_takeLowestOff cX8_takeLowestOff 5 (some .boolean) [.ref (ad 3), .int a1] (g, f, 0) (gQi Q) := by
  refine met_walk (lv0 := [some (.ref (ad 3)), some (.int a1), none, none, none]) ⟨hE, gZc_ok _ _ _ _ _⟩ (by decide) (Nat.le_of_ble_eq_true rfl) rfl (fun G Rt hG hQ => ?_)
  replace hG : gSim l D cs layC ad (gZc ad tX tY sK sV) 2 RX8 cX8_takeLowestOff 5 (some .boolean) G Rt := hG
  unfold wX8_takeLowestOff at h
  refine s_iconst (n := 1) hG dX8_takeLowestOff_0 ki_0 rfl ?_
  refine s_istore_n (n := 2) (lv2 := [some (.ref (ad 3)), some (.int a1), some (.int 0), none, none]) hG dX8_takeLowestOff_1 rfl rfl rfl ?_
  exact s_wk hG (sX8_takeLowestOff_l2 hE hG hQ  N _ _ _ h) ⟨rfl, rfl, rfl, trivial⟩
def wX8_refresh_l64 (N : Nat)   (Q : gFG → gFF → Prop) : Nat → Int32 → gFG → gFF → Prop
  | 0, _, _, _ => False
  | n + 1, v1, g, f => ((8 ≤ v1) → Q g f) ∧ ((¬ 8 ≤ v1) → wX8_takeLowestOff N v1 g f (fun r72 g72 f72 => ((¬ r72 = 0) → ∀ x1_81 : Int32, x1_81 = (v1 + 1) → wX8_refresh_l64 N   Q n x1_81 g72 f72) ∧ ((r72 = 0) → Q g72 f72)))
theorem sX8_refresh_l64 {G : gG} {Rt : Option Value → gSt → Prop} (hE : gInj layC ad) (hG : gSim l D cs layC ad (gZc ad tX tY sK sV) 5 RX8 cX8_refresh 2 none G Rt) {Q : gFG → gFF → Prop} (hQ : ∀ v S, gQv Q v S → Rt v S) {N : Nat}     : ∀ (n : Nat) (v1 : Int32) (g : gFG) (f : gFF), wX8_refresh_l64 N   Q n v1 g f → G 64 [some (.ref (ad 3)), some (.int v1)] [] (g, f, 0) := by
  intro n
  induction n with
  | zero => intro _ _ _ h; unfold wX8_refresh_l64 at h; exact h.elim
  | succ n ih =>
    intro v1 g f h
    unfold wX8_refresh_l64 at h
    refine s_iload_n (n := 65) hG dX8_refresh_64 rfl rfl ?_
    refine s_bipush (n := 67) hG dX8_refresh_65 kb_8 rfl ?_
    refine s_icmp_ge (n := 70) (tgt := 87) hG dX8_refresh_67 rfl rfl (fun c => ?_) (fun c => ?_)
    · replace h := h.1 c
      exact s_vret hG dX8_refresh_87 (hQ _ _ ⟨_, _, rfl, rfl, h⟩)
    · replace h := h.2 c
      refine s_aload_n (n := 71) hG dX8_refresh_70 rfl rfl ?_
      refine s_iload_n (n := 72) hG dX8_refresh_71 rfl rfl ?_
      refine s_callV (n := 75) (st := []) hG (mX8_takeLowestOff hE h) ceX8_takeLowestOff lmX8_62 ⟨by decide, rfl, rfl⟩ rfl ⟨rfl, Nat.le_of_ble_eq_true rfl, by decide⟩ dX8_refresh_72 rfl ?_
      rintro _ _ ⟨r72, g72, f72, rfl, rfl, h⟩
      refine s_if_ne (n := 78) (tgt := 81) hG dX8_refresh_75 rfl rfl (fun c => ?_) (fun c => ?_)
      · replace h := h.1 c
        obtain ⟨x1_81, hx1_81⟩ : ∃ z : Int32, z = (v1 + 1) := ⟨_, rfl⟩
        replace h := h x1_81 hx1_81
        refine s_iinc (n := 84) (v := x1_81) (lv2 := [some (.ref (ad 3)), some (.int x1_81)]) hG dX8_refresh_81 ki_1 rfl hx1_81 rfl rfl rfl ?_
        refine s_goto (tgt := 64) hG dX8_refresh_84 rfl ?_
        exact s_wk hG (ih _ _ _ h) ⟨rfl, rfl, trivial⟩
      · replace h := h.2 c
        refine s_goto (tgt := 87) hG dX8_refresh_78 rfl ?_
        exact s_vret hG dX8_refresh_87 (hQ _ _ ⟨_, _, rfl, rfl, h⟩)
def wX8_refresh_l46 (N : Nat)   (Q : gFG → gFF → Prop) : Nat → Int32 → gFG → gFF → Prop
  | 0, _, _, _ => False
  | n + 1, v1, g, f => ((4 ≤ v1) → wX8_refresh_l64 N  Q N 0 g f) ∧ ((¬ 4 ≤ v1) → wX8_lookFromEdge N v1 g f (fun g53 f53 => ∀ x1_56 : Int32, x1_56 = (v1 + 1) → wX8_refresh_l46 N   Q n x1_56 g53 f53))
theorem sX8_refresh_l46 {G : gG} {Rt : Option Value → gSt → Prop} (hE : gInj layC ad) (hG : gSim l D cs layC ad (gZc ad tX tY sK sV) 5 RX8 cX8_refresh 2 none G Rt) {Q : gFG → gFF → Prop} (hQ : ∀ v S, gQv Q v S → Rt v S) {N : Nat}     : ∀ (n : Nat) (v1 : Int32) (g : gFG) (f : gFF), wX8_refresh_l46 N   Q n v1 g f → G 46 [some (.ref (ad 3)), some (.int v1)] [] (g, f, 0) := by
  intro n
  induction n with
  | zero => intro _ _ _ h; unfold wX8_refresh_l46 at h; exact h.elim
  | succ n ih =>
    intro v1 g f h
    unfold wX8_refresh_l46 at h
    refine s_iload_n (n := 47) hG dX8_refresh_46 rfl rfl ?_
    refine s_iconst (n := 48) hG dX8_refresh_47 ki_4 rfl ?_
    refine s_icmp_ge (n := 51) (tgt := 62) hG dX8_refresh_48 rfl rfl (fun c => ?_) (fun c => ?_)
    · replace h := h.1 c
      refine s_iconst (n := 63) hG dX8_refresh_62 ki_0 rfl ?_
      refine s_istore_n (n := 64) (lv2 := [some (.ref (ad 3)), some (.int 0)]) hG dX8_refresh_63 rfl rfl rfl ?_
      exact s_wk hG (sX8_refresh_l64 hE hG hQ  N _ _ _ h) ⟨rfl, rfl, trivial⟩
    · replace h := h.2 c
      refine s_aload_n (n := 52) hG dX8_refresh_51 rfl rfl ?_
      refine s_iload_n (n := 53) hG dX8_refresh_52 rfl rfl ?_
      refine s_callV (n := 56) (st := []) hG (mX8_lookFromEdge hE h) ceX8_lookFromEdge lmX8_58 ⟨by decide, rfl, rfl⟩ rfl ⟨rfl, Nat.le_of_ble_eq_true rfl, by decide⟩ dX8_refresh_53 rfl ?_
      rintro _ _ ⟨g53, f53, rfl, rfl, h⟩
      obtain ⟨x1_56, hx1_56⟩ : ∃ z : Int32, z = (v1 + 1) := ⟨_, rfl⟩
      replace h := h x1_56 hx1_56
      refine s_iinc (n := 59) (v := x1_56) (lv2 := [some (.ref (ad 3)), some (.int x1_56)]) hG dX8_refresh_56 ki_1 rfl hx1_56 rfl rfl rfl ?_
      refine s_goto (tgt := 46) hG dX8_refresh_59 rfl ?_
      exact s_wk hG (ih _ _ _ h) ⟨rfl, rfl, trivial⟩
def wX8_refresh (N : Nat)  (g : gFG) (f : gFF) (Q : gFG → gFF → Prop) : Prop := wX2_edition N g f (fun r8 g8 f8 => ((¬ (g 12) = r8) → wX2_edition N g8 f8 (fun r20 g20 f20 => ∀ g23 : gFG, g23 = (va_up g20 12 r20) → ∀ g28 : gFG, g28 = (va_up g23 10 0) → ∀ g33 : gFG, g33 = (va_up g28 11 0) → wJ7_fill_53178 N 17 0 g33 f20 (fun g41 f41 => wX8_refresh_l46 N  Q N 0 g41 f41))) ∧ (((g 12) = r8) → Q g8 f8))
theorem mX8_refresh (hE : gInj layC ad) {N : Nat}  {g : gFG} {f : gFF} {Q : gFG → gFF → Prop} (h : wX8_refresh N  g f Q) : gCT l D cs layC ad (gZc ad tX tY sK sV) 5 yX8_refresh cX8_refresh 2 none [.ref (ad 3)] (g, f, 0) (gQv Q) := by
  refine met_walk (lv0 := [some (.ref (ad 3)), none]) ⟨hE, gZc_ok _ _ _ _ _⟩ (by decide) (Nat.le_of_ble_eq_true rfl) rfl (fun G Rt hG hQ => ?_)
  replace hG : gSim l D cs layC ad (gZc ad tX tY sK sV) 5 RX8 cX8_refresh 2 none G Rt := hG
  unfold wX8_refresh at h
  refine s_aload_n (n := 1) hG dX8_refresh_0 rfl rfl ?_
  refine gtX8_28 (n := 4) hG dX8_refresh_1 rfl ?_
  refine s_aload_n (n := 5) hG dX8_refresh_4 rfl rfl ?_
  refine gtX8_31 (n := 8) hG dX8_refresh_5 rfl ?_
  refine s_callV (n := 11) (st := [.int (g 12)]) hG (mX2_edition hE h) ceX2_edition lmX8_48 ⟨by decide, rfl, rfl⟩ rfl ⟨rfl, Nat.le_of_ble_eq_true rfl, by decide⟩ dX8_refresh_8 rfl ?_
  rintro _ _ ⟨r8, g8, f8, rfl, rfl, h⟩
  refine s_icmp_ne (n := 14) (tgt := 15) hG dX8_refresh_11 rfl rfl (fun c => ?_) (fun c => ?_)
  · replace h := h.1 c
    refine s_aload_n (n := 16) hG dX8_refresh_15 rfl rfl ?_
    refine s_aload_n (n := 17) hG dX8_refresh_16 rfl rfl ?_
    refine gtX8_31 (n := 20) hG dX8_refresh_17 rfl ?_
    refine s_callV (n := 23) (st := [.ref (ad 3)]) hG (mX2_edition hE h) ceX2_edition lmX8_48 ⟨by decide, rfl, rfl⟩ rfl ⟨rfl, Nat.le_of_ble_eq_true rfl, by decide⟩ dX8_refresh_20 rfl ?_
    rintro _ _ ⟨r20, g20, f20, rfl, rfl, h⟩
    refine ptX8_28 (n := 26) hG dX8_refresh_23 rfl ?_
    refine s_ng (fun g23 hg23 => ?_)
    replace h := h g23 hg23
    refine s_aload_n (n := 27) hG dX8_refresh_26 rfl rfl ?_
    refine s_iconst (n := 28) hG dX8_refresh_27 ki_0 rfl ?_
    refine ptX8_21 (n := 31) hG dX8_refresh_28 rfl ?_
    refine s_ng (fun g28 hg28 => ?_)
    replace h := h g28 hg28
    refine s_aload_n (n := 32) hG dX8_refresh_31 rfl rfl ?_
    refine s_iconst (n := 33) hG dX8_refresh_32 ki_0 rfl ?_
    refine ptX8_25 (n := 36) hG dX8_refresh_33 rfl ?_
    refine s_ng (fun g33 hg33 => ?_)
    replace h := h g33 hg33
    refine s_aload_n (n := 37) hG dX8_refresh_36 rfl rfl ?_
    refine gtX8_9 (n := 40) hG dX8_refresh_37 rfl ?_
    refine s_iconst (n := 41) hG dX8_refresh_40 ki_0 rfl ?_
    refine s_callS (n := 44) (st := []) hG (mJ7_fill_53178 hE h) ceJ7_fill_53178 lmX8_52 rfl ⟨rfl, Nat.le_of_ble_eq_true rfl, by decide⟩ dX8_refresh_41 rfl ?_
    rintro _ _ ⟨g41, f41, rfl, rfl, h⟩
    refine s_iconst (n := 45) hG dX8_refresh_44 ki_0 rfl ?_
    refine s_istore_n (n := 46) (lv2 := [some (.ref (ad 3)), some (.int 0)]) hG dX8_refresh_45 rfl rfl rfl ?_
    exact s_wk hG (sX8_refresh_l46 hE hG hQ  N _ _ _ h) ⟨rfl, rfl, trivial⟩
  · replace h := h.2 c
    exact s_vret hG dX8_refresh_14 (hQ _ _ ⟨_, _, rfl, rfl, h⟩)
def wX9_addNumber_l3 (N : Nat) (v1 : Int32)  (Q : gFG → gFF → Prop) : Nat → Int32 → gFG → gFF → Prop
  | 0, _, _, _ => False
  | n + 1, v2, g, f => ((v2 < 0) → Q g f) ∧ ((¬ v2 < 0) → ((300 ≤ (g 18)) → Q g f) ∧ ((¬ 300 ≤ (g 18)) → ∀ y32 : Int32, y32 = (((v1.toUInt32 >>> (v2.toUInt32 &&& Int32.toUInt32 31)).toInt32) &&& 255) → ∀ i32 : Int32, i32 = (g 18) → (vp_in i32 300) ∧ (∀ f32 : gFF, f32 = (va_up f 44 (upd (f 44) i32.toNatClampNeg y32)) → ∀ y40 : Int32, y40 = ((g 18) + 1) → ∀ g40 : gFG, g40 = (va_up g 18 y40) → ∀ x2_43 : Int32, x2_43 = (v2 + (-8)) → wX9_addNumber_l3 N v1  Q n x2_43 g40 f32)))
theorem sX9_addNumber_l3 {G : gG} {Rt : Option Value → gSt → Prop} (hE : gInj layC ad) (hG : gSim l D cs layC ad (gZc ad tX tY sK sV) 1 RX9 cX9_addNumber 3 none G Rt) {Q : gFG → gFF → Prop} (hQ : ∀ v S, gQv Q v S → Rt v S) {N : Nat} {v1 : Int32}    : ∀ (n : Nat) (v2 : Int32) (g : gFG) (f : gFF), wX9_addNumber_l3 N v1  Q n v2 g f → G 3 [some (.ref (ad 7)), some (.int v1), some (.int v2)] [] (g, f, 0) := by
  intro n
  induction n with
  | zero => intro _ _ _ h; unfold wX9_addNumber_l3 at h; exact h.elim
  | succ n ih =>
    intro v2 g f h
    unfold wX9_addNumber_l3 at h
    refine s_iload_n (n := 4) hG dX9_addNumber_3 rfl rfl ?_
    refine s_if_lt (n := 7) (tgt := 49) hG dX9_addNumber_4 rfl rfl (fun c => ?_) (fun c => ?_)
    · replace h := h.1 c
      exact s_vret hG dX9_addNumber_49 (hQ _ _ ⟨_, _, rfl, rfl, h⟩)
    · replace h := h.2 c
      refine s_aload_n (n := 8) hG dX9_addNumber_7 rfl rfl ?_
      refine gtX9_15 (n := 11) hG dX9_addNumber_8 rfl ?_
      refine s_sipush (n := 14) hG dX9_addNumber_11 ks_300 rfl ?_
      refine s_icmp_ge (n := 17) (tgt := 49) hG dX9_addNumber_14 rfl rfl (fun c => ?_) (fun c => ?_)
      · replace h := h.1 c
        exact s_vret hG dX9_addNumber_49 (hQ _ _ ⟨_, _, rfl, rfl, h⟩)
      · replace h := h.2 c
        refine s_aload_n (n := 18) hG dX9_addNumber_17 rfl rfl ?_
        refine gtX9_9 (n := 21) hG dX9_addNumber_18 rfl ?_
        refine s_aload_n (n := 22) hG dX9_addNumber_21 rfl rfl ?_
        refine gtX9_15 (n := 25) hG dX9_addNumber_22 rfl ?_
        refine s_iload_n (n := 26) hG dX9_addNumber_25 rfl rfl ?_
        refine s_iload_n (n := 27) hG dX9_addNumber_26 rfl rfl ?_
        refine s_iushr (n := 28) hG dX9_addNumber_27 rfl ?_
        refine s_sipush (n := 31) hG dX9_addNumber_28 ks_255 rfl ?_
        refine s_iand (n := 32) hG dX9_addNumber_31 rfl ?_
        refine s_topi (fun y32 hy32 => ?_)
        replace h := h y32 hy32
        refine s_topi2 (fun i32 hi32 => ?_)
        replace h := h i32 hi32
        obtain ⟨hin, h⟩ := h
        refine s_iast (n := 33) hG dX9_addNumber_32 (gaC_44 hin) rfl ?_
        refine s_nf (fun f32 hf32 => ?_)
        replace h := h f32 hf32
        refine s_aload_n (n := 34) hG dX9_addNumber_33 rfl rfl ?_
        refine s_dup (n := 35) hG dX9_addNumber_34 rfl rfl ?_
        refine gtX9_15 (n := 38) hG dX9_addNumber_35 rfl ?_
        refine s_iconst (n := 39) hG dX9_addNumber_38 ki_1 rfl ?_
        refine s_iadd (n := 40) hG dX9_addNumber_39 rfl ?_
        refine s_topi (fun y40 hy40 => ?_)
        replace h := h y40 hy40
        refine ptX9_15 (n := 43) hG dX9_addNumber_40 rfl ?_
        refine s_ng (fun g40 hg40 => ?_)
        replace h := h g40 hg40
        obtain ⟨x2_43, hx2_43⟩ : ∃ z : Int32, z = (v2 + (-8)) := ⟨_, rfl⟩
        replace h := h x2_43 hx2_43
        refine s_iinc (n := 46) (v := x2_43) (lv2 := [some (.ref (ad 7)), some (.int v1), some (.int x2_43)]) hG dX9_addNumber_43 ki_m8 rfl hx2_43 rfl rfl rfl ?_
        refine s_goto (tgt := 3) hG dX9_addNumber_46 rfl ?_
        exact s_wk hG (ih _ _ _ h) ⟨rfl, rfl, rfl, trivial⟩
def wX9_addNumber (N : Nat) (a1 : Int32) (g : gFG) (f : gFF) (Q : gFG → gFF → Prop) : Prop := wX9_addNumber_l3 N a1 Q N 24 g f
theorem mX9_addNumber (hE : gInj layC ad) {N : Nat} {a1 : Int32} {g : gFG} {f : gFF} {Q : gFG → gFF → Prop} (h : wX9_addNumber N a1 g f Q) : gCT l D cs layC ad (gZc ad tX tY sK sV) 1 yX9_addNumber cX9_addNumber 3 none [.ref (ad 7), .int a1] (g, f, 0) (gQv Q) := by
  refine met_walk (lv0 := [some (.ref (ad 7)), some (.int a1), none]) ⟨hE, gZc_ok _ _ _ _ _⟩ (by decide) (Nat.le_of_ble_eq_true rfl) rfl (fun G Rt hG hQ => ?_)
  replace hG : gSim l D cs layC ad (gZc ad tX tY sK sV) 1 RX9 cX9_addNumber 3 none G Rt := hG
  unfold wX9_addNumber at h
  refine s_bipush (n := 2) hG dX9_addNumber_0 kb_24 rfl ?_
  refine s_istore_n (n := 3) (lv2 := [some (.ref (ad 7)), some (.int a1), some (.int 24)]) hG dX9_addNumber_2 rfl rfl rfl ?_
  exact s_wk hG (sX9_addNumber_l3 hE hG hQ  N _ _ _ h) ⟨rfl, rfl, rfl, trivial⟩
def wX9_cut (N : Nat) (a1 : Int32) (g : gFG) (f : gFF) (Q : gFG → gFF → Prop) : Prop := ((a1 < 0) → Q g f) ∧ ((¬ a1 < 0) → (((g 18) < a1) → Q g f) ∧ ((¬ (g 18) < a1) → ∀ g14 : gFG, g14 = (va_up g 18 a1) → Q g14 f))
theorem mX9_cut (hE : gInj layC ad) {N : Nat} {a1 : Int32} {g : gFG} {f : gFF} {Q : gFG → gFF → Prop} (h : wX9_cut N a1 g f Q) : gCT l D cs layC ad (gZc ad tX tY sK sV) 1 yX9_cut cX9_cut 2 none [.ref (ad 7), .int a1] (g, f, 0) (gQv Q) := by
  refine met_walk (lv0 := [some (.ref (ad 7)), some (.int a1)]) ⟨hE, gZc_ok _ _ _ _ _⟩ (by decide) (Nat.le_of_ble_eq_true rfl) rfl (fun G Rt hG hQ => ?_)
  replace hG : gSim l D cs layC ad (gZc ad tX tY sK sV) 1 RX9 cX9_cut 2 none G Rt := hG
  unfold wX9_cut at h
  refine s_iload_n (n := 1) hG dX9_cut_0 rfl rfl ?_
  refine s_if_lt (n := 4) (tgt := 17) hG dX9_cut_1 rfl rfl (fun c => ?_) (fun c => ?_)
  · replace h := h.1 c
    exact s_vret hG dX9_cut_17 (hQ _ _ ⟨_, _, rfl, rfl, h⟩)
  · replace h := h.2 c
    refine s_iload_n (n := 5) hG dX9_cut_4 rfl rfl ?_
    refine s_aload_n (n := 6) hG dX9_cut_5 rfl rfl ?_
    refine gtX9_15 (n := 9) hG dX9_cut_6 rfl ?_
    refine s_icmp_gt (n := 12) (tgt := 17) hG dX9_cut_9 rfl rfl (fun c => ?_) (fun c => ?_)
    · replace h := h.1 c
      exact s_vret hG dX9_cut_17 (hQ _ _ ⟨_, _, rfl, rfl, h⟩)
    · replace h := h.2 c
      refine s_aload_n (n := 13) hG dX9_cut_12 rfl rfl ?_
      refine s_iload_n (n := 14) hG dX9_cut_13 rfl rfl ?_
      refine ptX9_15 (n := 17) hG dX9_cut_14 rfl ?_
      refine s_ng (fun g14 hg14 => ?_)
      replace h := h g14 hg14
      exact s_vret hG dX9_cut_17 (hQ _ _ ⟨_, _, rfl, rfl, h⟩)
def wX10_length (N : Nat)  (g : gFG) (f : gFF) (Q : Int32 → gFG → gFF → Prop) : Prop := Q (g 21) g f
theorem mX10_length (hE : gInj layC ad) {N : Nat}  {g : gFG} {f : gFF} {Q : Int32 → gFG → gFF → Prop} (h : wX10_length N  g f Q) : gCT l D cs layC ad (gZc ad tX tY sK sV) 1 yX10_length cX10_length 1 (some .int) [.ref (ad 10)] (g, f, 0) (gQi Q) := by
  refine met_walk (lv0 := [some (.ref (ad 10))]) ⟨hE, gZc_ok _ _ _ _ _⟩ (by decide) (Nat.le_of_ble_eq_true rfl) rfl (fun G Rt hG hQ => ?_)
  replace hG : gSim l D cs layC ad (gZc ad tX tY sK sV) 1 RX10 cX10_length 1 (some .int) G Rt := hG
  unfold wX10_length at h
  refine s_aload_n (n := 1) hG dX10_length_0 rfl rfl ?_
  refine gtX10_30 (n := 4) hG dX10_length_1 rfl ?_
  exact s_iret hG dX10_length_4 (hQ _ _ ⟨_, _, _, rfl, rfl, h⟩)
def wX10_toldLength (N : Nat)  (g : gFG) (f : gFF) (Q : Int32 → gFG → gFF → Prop) : Prop := Q (g 22) g f
theorem mX10_toldLength (hE : gInj layC ad) {N : Nat}  {g : gFG} {f : gFF} {Q : Int32 → gFG → gFF → Prop} (h : wX10_toldLength N  g f Q) : gCT l D cs layC ad (gZc ad tX tY sK sV) 1 yX10_toldLength cX10_toldLength 1 (some .int) [.ref (ad 10)] (g, f, 0) (gQi Q) := by
  refine met_walk (lv0 := [some (.ref (ad 10))]) ⟨hE, gZc_ok _ _ _ _ _⟩ (by decide) (Nat.le_of_ble_eq_true rfl) rfl (fun G Rt hG hQ => ?_)
  replace hG : gSim l D cs layC ad (gZc ad tX tY sK sV) 1 RX10 cX10_toldLength 1 (some .int) G Rt := hG
  unfold wX10_toldLength at h
  refine s_aload_n (n := 1) hG dX10_toldLength_0 rfl rfl ?_
  refine gtX10_34 (n := 4) hG dX10_toldLength_1 rfl ?_
  exact s_iret hG dX10_toldLength_4 (hQ _ _ ⟨_, _, _, rfl, rfl, h⟩)
def wX10_isFull (N : Nat)  (g : gFG) (f : gFF) (Q : Int32 → gFG → gFF → Prop) : Prop := (((g 21) < 40) → Q 0 g f) ∧ ((¬ (g 21) < 40) → Q 1 g f)
theorem mX10_isFull (hE : gInj layC ad) {N : Nat}  {g : gFG} {f : gFF} {Q : Int32 → gFG → gFF → Prop} (h : wX10_isFull N  g f Q) : gCT l D cs layC ad (gZc ad tX tY sK sV) 1 yX10_isFull cX10_isFull 1 (some .boolean) [.ref (ad 10)] (g, f, 0) (gQi Q) := by
  refine met_walk (lv0 := [some (.ref (ad 10))]) ⟨hE, gZc_ok _ _ _ _ _⟩ (by decide) (Nat.le_of_ble_eq_true rfl) rfl (fun G Rt hG hQ => ?_)
  replace hG : gSim l D cs layC ad (gZc ad tX tY sK sV) 1 RX10 cX10_isFull 1 (some .boolean) G Rt := hG
  unfold wX10_isFull at h
  refine s_aload_n (n := 1) hG dX10_isFull_0 rfl rfl ?_
  refine gtX10_30 (n := 4) hG dX10_isFull_1 rfl ?_
  refine s_bipush (n := 6) hG dX10_isFull_4 kb_40 rfl ?_
  refine s_icmp_lt (n := 9) (tgt := 13) hG dX10_isFull_6 rfl rfl (fun c => ?_) (fun c => ?_)
  · replace h := h.1 c
    refine s_iconst (n := 14) hG dX10_isFull_13 ki_0 rfl ?_
    exact s_zret hG dX10_isFull_14 (gz_n gz_0) (hQ _ _ ⟨_, _, _, rfl, rfl, h⟩)
  · replace h := h.2 c
    refine s_iconst (n := 10) hG dX10_isFull_9 ki_1 rfl ?_
    refine s_goto (tgt := 14) hG dX10_isFull_10 rfl ?_
    exact s_zret hG dX10_isFull_14 (gz_n gz_1) (hQ _ _ ⟨_, _, _, rfl, rfl, h⟩)
def wX10_isToldFull (N : Nat)  (g : gFG) (f : gFF) (Q : Int32 → gFG → gFF → Prop) : Prop := (((g 22) < 150) → Q 0 g f) ∧ ((¬ (g 22) < 150) → Q 1 g f)
theorem mX10_isToldFull (hE : gInj layC ad) {N : Nat}  {g : gFG} {f : gFF} {Q : Int32 → gFG → gFF → Prop} (h : wX10_isToldFull N  g f Q) : gCT l D cs layC ad (gZc ad tX tY sK sV) 1 yX10_isToldFull cX10_isToldFull 1 (some .boolean) [.ref (ad 10)] (g, f, 0) (gQi Q) := by
  refine met_walk (lv0 := [some (.ref (ad 10))]) ⟨hE, gZc_ok _ _ _ _ _⟩ (by decide) (Nat.le_of_ble_eq_true rfl) rfl (fun G Rt hG hQ => ?_)
  replace hG : gSim l D cs layC ad (gZc ad tX tY sK sV) 1 RX10 cX10_isToldFull 1 (some .boolean) G Rt := hG
  unfold wX10_isToldFull at h
  refine s_aload_n (n := 1) hG dX10_isToldFull_0 rfl rfl ?_
  refine gtX10_34 (n := 4) hG dX10_isToldFull_1 rfl ?_
  refine s_sipush (n := 7) hG dX10_isToldFull_4 ks_150 rfl ?_
  refine s_icmp_lt (n := 10) (tgt := 14) hG dX10_isToldFull_7 rfl rfl (fun c => ?_) (fun c => ?_)
  · replace h := h.1 c
    refine s_iconst (n := 15) hG dX10_isToldFull_14 ki_0 rfl ?_
    exact s_zret hG dX10_isToldFull_15 (gz_n gz_0) (hQ _ _ ⟨_, _, _, rfl, rfl, h⟩)
  · replace h := h.2 c
    refine s_iconst (n := 11) hG dX10_isToldFull_10 ki_1 rfl ?_
    refine s_goto (tgt := 15) hG dX10_isToldFull_11 rfl ?_
    exact s_zret hG dX10_isToldFull_15 (gz_n gz_1) (hQ _ _ ⟨_, _, _, rfl, rfl, h⟩)
def wX10_has (N : Nat) (a1 : Int32) (g : gFG) (f : gFF) (Q : Int32 → gFG → gFF → Prop) : Prop := ((a1 < 0) → Q 0 g f) ∧ ((¬ a1 < 0) → (((g 21) ≤ a1) → Q 0 g f) ∧ ((¬ (g 21) ≤ a1) → ((40 ≤ a1) → Q 0 g f) ∧ ((¬ 40 ≤ a1) → Q 1 g f)))
theorem mX10_has (hE : gInj layC ad) {N : Nat} {a1 : Int32} {g : gFG} {f : gFF} {Q : Int32 → gFG → gFF → Prop} (h : wX10_has N a1 g f Q) : gCT l D cs layC ad (gZc ad tX tY sK sV) 1 yX10_has cX10_has 2 (some .boolean) [.ref (ad 10), .int a1] (g, f, 0) (gQi Q) := by
  refine met_walk (lv0 := [some (.ref (ad 10)), some (.int a1)]) ⟨hE, gZc_ok _ _ _ _ _⟩ (by decide) (Nat.le_of_ble_eq_true rfl) rfl (fun G Rt hG hQ => ?_)
  replace hG : gSim l D cs layC ad (gZc ad tX tY sK sV) 1 RX10 cX10_has 2 (some .boolean) G Rt := hG
  unfold wX10_has at h
  refine s_iload_n (n := 1) hG dX10_has_0 rfl rfl ?_
  refine s_if_lt (n := 4) (tgt := 22) hG dX10_has_1 rfl rfl (fun c => ?_) (fun c => ?_)
  · replace h := h.1 c
    refine s_iconst (n := 23) hG dX10_has_22 ki_0 rfl ?_
    exact s_zret hG dX10_has_23 (gz_n gz_0) (hQ _ _ ⟨_, _, _, rfl, rfl, h⟩)
  · replace h := h.2 c
    refine s_iload_n (n := 5) hG dX10_has_4 rfl rfl ?_
    refine s_aload_n (n := 6) hG dX10_has_5 rfl rfl ?_
    refine gtX10_30 (n := 9) hG dX10_has_6 rfl ?_
    refine s_icmp_ge (n := 12) (tgt := 22) hG dX10_has_9 rfl rfl (fun c => ?_) (fun c => ?_)
    · replace h := h.1 c
      refine s_iconst (n := 23) hG dX10_has_22 ki_0 rfl ?_
      exact s_zret hG dX10_has_23 (gz_n gz_0) (hQ _ _ ⟨_, _, _, rfl, rfl, h⟩)
    · replace h := h.2 c
      refine s_iload_n (n := 13) hG dX10_has_12 rfl rfl ?_
      refine s_bipush (n := 15) hG dX10_has_13 kb_40 rfl ?_
      refine s_icmp_ge (n := 18) (tgt := 22) hG dX10_has_15 rfl rfl (fun c => ?_) (fun c => ?_)
      · replace h := h.1 c
        refine s_iconst (n := 23) hG dX10_has_22 ki_0 rfl ?_
        exact s_zret hG dX10_has_23 (gz_n gz_0) (hQ _ _ ⟨_, _, _, rfl, rfl, h⟩)
      · replace h := h.2 c
        refine s_iconst (n := 19) hG dX10_has_18 ki_1 rfl ?_
        refine s_goto (tgt := 23) hG dX10_has_19 rfl ?_
        exact s_zret hG dX10_has_23 (gz_n gz_1) (hQ _ _ ⟨_, _, _, rfl, rfl, h⟩)
def wX10_add_l13 (N : Nat)   (Q : Int32 → gFG → gFF → Prop) : Nat → Int32 → Int32 → gFG → gFF → Prop
  | 0, _, _, _, _ => False
  | n + 1, v2, v3, g, f => ((8 ≤ v3) → ∀ y55 : Int32, y55 = ((g 21) + 1) → ∀ g55 : gFG, g55 = (va_up g 21 y55) → Q ((g55 21) - 1) g55 f) ∧ ((¬ 8 ≤ v3) → ∀ y36 : Int32, y36 = (v2 - v2 / 10 * 10) → ∀ i36 : Int32, i36 = (((g 21) * 8) + v3) → (vp_in i36 320) ∧ (∀ f36 : gFF, f36 = (va_up f 51 (upd (f 51) i36.toNatClampNeg y36)) → ∀ x2_41 : Int32, x2_41 = (v2 / 10) → ∀ x3_42 : Int32, x3_42 = (v3 + 1) → wX10_add_l13 N   Q n x2_41 x3_42 g f36))
theorem sX10_add_l13 {G : gG} {Rt : Option Value → gSt → Prop} (hE : gInj layC ad) (hG : gSim l D cs layC ad (gZc ad tX tY sK sV) 2 RX10 cX10_add 4 (some .int) G Rt) {Q : Int32 → gFG → gFF → Prop} (hQ : ∀ v S, gQi Q v S → Rt v S) {N : Nat}     : ∀ (n : Nat) (v2 : Int32) (v3 : Int32) (g : gFG) (f : gFF), wX10_add_l13 N   Q n v2 v3 g f → G 13 [some (.ref (ad 10)), none, some (.int v2), some (.int v3)] [] (g, f, 0) := by
  intro n
  induction n with
  | zero => intro _ _ _ _ h; unfold wX10_add_l13 at h; exact h.elim
  | succ n ih =>
    intro v2 v3 g f h
    unfold wX10_add_l13 at h
    refine s_iload_n (n := 14) hG dX10_add_13 rfl rfl ?_
    refine s_bipush (n := 16) hG dX10_add_14 kb_8 rfl ?_
    refine s_icmp_ge (n := 19) (tgt := 48) hG dX10_add_16 rfl rfl (fun c => ?_) (fun c => ?_)
    · replace h := h.1 c
      refine s_aload_n (n := 49) hG dX10_add_48 rfl rfl ?_
      refine s_dup (n := 50) hG dX10_add_49 rfl rfl ?_
      refine gtX10_30 (n := 53) hG dX10_add_50 rfl ?_
      refine s_iconst (n := 54) hG dX10_add_53 ki_1 rfl ?_
      refine s_iadd (n := 55) hG dX10_add_54 rfl ?_
      refine s_topi (fun y55 hy55 => ?_)
      replace h := h y55 hy55
      refine ptX10_30 (n := 58) hG dX10_add_55 rfl ?_
      refine s_ng (fun g55 hg55 => ?_)
      replace h := h g55 hg55
      refine s_aload_n (n := 59) hG dX10_add_58 rfl rfl ?_
      refine gtX10_30 (n := 62) hG dX10_add_59 rfl ?_
      refine s_iconst (n := 63) hG dX10_add_62 ki_1 rfl ?_
      refine s_isub (n := 64) hG dX10_add_63 rfl ?_
      exact s_iret hG dX10_add_64 (hQ _ _ ⟨_, _, _, rfl, rfl, h⟩)
    · replace h := h.2 c
      refine s_aload_n (n := 20) hG dX10_add_19 rfl rfl ?_
      refine gtX10_9 (n := 23) hG dX10_add_20 rfl ?_
      refine s_aload_n (n := 24) hG dX10_add_23 rfl rfl ?_
      refine gtX10_30 (n := 27) hG dX10_add_24 rfl ?_
      refine s_bipush (n := 29) hG dX10_add_27 kb_8 rfl ?_
      refine s_imul (n := 30) hG dX10_add_29 rfl ?_
      refine s_iload_n (n := 31) hG dX10_add_30 rfl rfl ?_
      refine s_iadd (n := 32) hG dX10_add_31 rfl ?_
      refine s_iload_n (n := 33) hG dX10_add_32 rfl rfl ?_
      refine s_bipush (n := 35) hG dX10_add_33 kb_10 rfl ?_
      refine s_irem (n := 36) hG dX10_add_35 (by decide) rfl ?_
      refine s_topi (fun y36 hy36 => ?_)
      replace h := h y36 hy36
      refine s_topi2 (fun i36 hi36 => ?_)
      replace h := h i36 hi36
      obtain ⟨hin, h⟩ := h
      refine s_iast (n := 37) hG dX10_add_36 (gaC_51 hin) rfl ?_
      refine s_nf (fun f36 hf36 => ?_)
      replace h := h f36 hf36
      refine s_iload_n (n := 38) hG dX10_add_37 rfl rfl ?_
      refine s_bipush (n := 40) hG dX10_add_38 kb_10 rfl ?_
      refine s_idiv (n := 41) hG dX10_add_40 (by decide) rfl ?_
      refine s_topi (fun x2_41 hx2_41 => ?_)
      replace h := h x2_41 hx2_41
      refine s_istore_n (n := 42) (lv2 := [some (.ref (ad 10)), none, some (.int x2_41), some (.int v3)]) hG dX10_add_41 rfl rfl rfl ?_
      obtain ⟨x3_42, hx3_42⟩ : ∃ z : Int32, z = (v3 + 1) := ⟨_, rfl⟩
      replace h := h x3_42 hx3_42
      refine s_iinc (n := 45) (v := x3_42) (lv2 := [some (.ref (ad 10)), none, some (.int x2_41), some (.int x3_42)]) hG dX10_add_42 ki_1 rfl hx3_42 rfl rfl rfl ?_
      refine s_goto (tgt := 13) hG dX10_add_45 rfl ?_
      exact s_wk hG (ih _ _ _ _ h) ⟨rfl, rfl, rfl, trivial⟩
def wX10_add (N : Nat) (a1 : Int32) (g : gFG) (f : gFF) (Q : Int32 → gFG → gFF → Prop) : Prop := wX10_isFull N g f (fun r1 g1 f1 => ((r1 = 0) → wX10_add_l13 N  Q N a1 0 g1 f1) ∧ ((¬ r1 = 0) → Q (-1) g1 f1))
theorem mX10_add (hE : gInj layC ad) {N : Nat} {a1 : Int32} {g : gFG} {f : gFF} {Q : Int32 → gFG → gFF → Prop} (h : wX10_add N a1 g f Q) : gCT l D cs layC ad (gZc ad tX tY sK sV) 2 yX10_add cX10_add 4 (some .int) [.ref (ad 10), .int a1] (g, f, 0) (gQi Q) := by
  refine met_walk (lv0 := [some (.ref (ad 10)), some (.int a1), none, none]) ⟨hE, gZc_ok _ _ _ _ _⟩ (by decide) (Nat.le_of_ble_eq_true rfl) rfl (fun G Rt hG hQ => ?_)
  replace hG : gSim l D cs layC ad (gZc ad tX tY sK sV) 2 RX10 cX10_add 4 (some .int) G Rt := hG
  unfold wX10_add at h
  refine s_aload_n (n := 1) hG dX10_add_0 rfl rfl ?_
  refine s_callV (n := 4) (st := []) hG (mX10_isFull hE h) ceX10_isFull lmX10_37 ⟨by decide, rfl, rfl⟩ rfl ⟨rfl, Nat.le_of_ble_eq_true rfl, by decide⟩ dX10_add_1 rfl ?_
  rintro _ _ ⟨r1, g1, f1, rfl, rfl, h⟩
  refine s_if_eq (n := 7) (tgt := 9) hG dX10_add_4 rfl rfl (fun c => ?_) (fun c => ?_)
  · replace h := h.1 c
    refine s_iload_n (n := 10) hG dX10_add_9 rfl rfl ?_
    refine s_istore_n (n := 11) (lv2 := [some (.ref (ad 10)), some (.int a1), some (.int a1), none]) hG dX10_add_10 rfl rfl rfl ?_
    refine s_iconst (n := 12) hG dX10_add_11 ki_0 rfl ?_
    refine s_istore_n (n := 13) (lv2 := [some (.ref (ad 10)), some (.int a1), some (.int a1), some (.int 0)]) hG dX10_add_12 rfl rfl rfl ?_
    exact s_wk hG (sX10_add_l13 hE hG hQ  N _ _ _ _ h) ⟨rfl, rfl, rfl, trivial⟩
  · replace h := h.2 c
    refine s_iconst (n := 8) hG dX10_add_7 ki_m1 rfl ?_
    exact s_iret hG dX10_add_8 (hQ _ _ ⟨_, _, _, rfl, rfl, h⟩)
def wX10_likeness_j83 (N : Nat) (K23 : Int32 → Int32 → gFG → gFF → Prop) (Q : Int32 → gFG → gFF → Prop) (v1 : Int32) (v2 : Int32) (v3 : Int32) (v4 : Int32) (g : gFG) (f : gFF) : Prop := ∀ x4_83 : Int32, x4_83 = (v4 + 1) → K23 v3 x4_83 g f
theorem sX10_likeness_j83 {G : gG} {Rt : Option Value → gSt → Prop} (hE : gInj layC ad) (hG : gSim l D cs layC ad (gZc ad tX tY sK sV) 2 RX10 cX10_likeness 7 (some .int) G Rt) {Q : Int32 → gFG → gFF → Prop} (hQ : ∀ v S, gQi Q v S → Rt v S) {N : Nat} {K23 : Int32 → Int32 → gFG → gFF → Prop}  {v1 : Int32} {v2 : Int32} {v3 : Int32} {v4 : Int32} {g : gFG} {f : gFF} (hK23 : ∀ (uv3 : Int32) (uv4 : Int32) (ug : gFG) (uf : gFF), K23 uv3 uv4 ug uf → G 23 [some (.ref (ad 10)), some (.int v1), some (.int v2), some (.int uv3), some (.int uv4), none, none] [] (ug, uf, 0)) (h : wX10_likeness_j83 N K23 Q v1 v2 v3 v4 g f) : G 83 [some (.ref (ad 10)), some (.int v1), some (.int v2), some (.int v3), some (.int v4), none, none] [] (g, f, 0) := by
  unfold wX10_likeness_j83 at h
  obtain ⟨x4_83, hx4_83⟩ : ∃ z : Int32, z = (v4 + 1) := ⟨_, rfl⟩
  replace h := h x4_83 hx4_83
  refine s_iinc (n := 86) (v := x4_83) (lv2 := [some (.ref (ad 10)), some (.int v1), some (.int v2), some (.int v3), some (.int x4_83), none, none]) hG dX10_likeness_83 ki_1 rfl hx4_83 rfl rfl rfl ?_
  refine s_goto (tgt := 23) hG dX10_likeness_86 rfl ?_
  exact s_wk hG (hK23 _ _ _ _ h) ⟨rfl, rfl, rfl, rfl, rfl, trivial⟩
def wX10_likeness_j81 (N : Nat) (K23 : Int32 → Int32 → gFG → gFF → Prop) (Q : Int32 → gFG → gFF → Prop) (v1 : Int32) (v2 : Int32) (v4 : Int32) (t0 : Int32) (t1 : Int32) (g : gFG) (f : gFF) : Prop := ∀ x3_82 : Int32, x3_82 = (t1 + t0) → wX10_likeness_j83 N (K23) Q v1 v2 x3_82 v4 g f
theorem sX10_likeness_j81 {G : gG} {Rt : Option Value → gSt → Prop} (hE : gInj layC ad) (hG : gSim l D cs layC ad (gZc ad tX tY sK sV) 2 RX10 cX10_likeness 7 (some .int) G Rt) {Q : Int32 → gFG → gFF → Prop} (hQ : ∀ v S, gQi Q v S → Rt v S) {N : Nat} {K23 : Int32 → Int32 → gFG → gFF → Prop}  {v1 : Int32} {v2 : Int32} {v4 : Int32} {t0 : Int32} {t1 : Int32} {g : gFG} {f : gFF} (hK23 : ∀ (uv3 : Int32) (uv4 : Int32) (ug : gFG) (uf : gFF), K23 uv3 uv4 ug uf → G 23 [some (.ref (ad 10)), some (.int v1), some (.int v2), some (.int uv3), some (.int uv4), none, none] [] (ug, uf, 0)) (h : wX10_likeness_j81 N K23 Q v1 v2 v4 t0 t1 g f) : G 81 [some (.ref (ad 10)), some (.int v1), some (.int v2), none, some (.int v4), none, none] [.int t0, .int t1] (g, f, 0) := by
  unfold wX10_likeness_j81 at h
  refine s_iadd (n := 82) hG dX10_likeness_81 rfl ?_
  refine s_topi (fun x3_82 hx3_82 => ?_)
  replace h := h x3_82 hx3_82
  refine s_istore_n (n := 83) (lv2 := [some (.ref (ad 10)), some (.int v1), some (.int v2), some (.int x3_82), some (.int v4), none, none]) hG dX10_likeness_82 rfl rfl rfl ?_
  exact s_wk hG (sX10_likeness_j83 hE hG hQ hK23 h) ⟨rfl, rfl, rfl, rfl, rfl, trivial⟩
def wX10_likeness_l23 (N : Nat) (v1 : Int32) (v2 : Int32)  (Q : Int32 → gFG → gFF → Prop) : Nat → Int32 → Int32 → gFG → gFF → Prop
  | 0, _, _, _, _ => False
  | n + 1, v3, v4, g, f => ((8 ≤ v4) → Q v3 g f) ∧ ((¬ 8 ≤ v4) → ∀ i41 : Int32, i41 = ((v1 * 8) + v4) → (vp_in i41 320) ∧ (∀ x5_42 : Int32, x5_42 = (f 51 i41.toNatClampNeg) → ∀ i55 : Int32, i55 = ((v2 * 8) + v4) → (vp_in i55 320) ∧ (∀ x6_56 : Int32, x6_56 = (f 51 i55.toNatClampNeg) → ((x5_42 = 0) → wX10_likeness_j83 N (wX10_likeness_l23 N v1 v2  Q n) Q v1 v2 v3 v4 g f) ∧ ((¬ x5_42 = 0) → ((x6_56 = 0) → wX10_likeness_j83 N (wX10_likeness_l23 N v1 v2  Q n) Q v1 v2 v3 v4 g f) ∧ ((¬ x6_56 = 0) → ((¬ x5_42 = x6_56) → wX10_likeness_j81 N (wX10_likeness_l23 N v1 v2  Q n) Q v1 v2 v4 (-1) v3 g f) ∧ ((x5_42 = x6_56) → wX10_likeness_j81 N (wX10_likeness_l23 N v1 v2  Q n) Q v1 v2 v4 1 v3 g f))))))
theorem sX10_likeness_l23 {G : gG} {Rt : Option Value → gSt → Prop} (hE : gInj layC ad) (hG : gSim l D cs layC ad (gZc ad tX tY sK sV) 2 RX10 cX10_likeness 7 (some .int) G Rt) {Q : Int32 → gFG → gFF → Prop} (hQ : ∀ v S, gQi Q v S → Rt v S) {N : Nat} {v1 : Int32} {v2 : Int32}    : ∀ (n : Nat) (v3 : Int32) (v4 : Int32) (g : gFG) (f : gFF), wX10_likeness_l23 N v1 v2  Q n v3 v4 g f → G 23 [some (.ref (ad 10)), some (.int v1), some (.int v2), some (.int v3), some (.int v4), none, none] [] (g, f, 0) := by
  intro n
  induction n with
  | zero => intro _ _ _ _ h; unfold wX10_likeness_l23 at h; exact h.elim
  | succ n ih =>
    intro v3 v4 g f h
    unfold wX10_likeness_l23 at h
    refine s_iload (n := 25) hG dX10_likeness_23 rfl rfl ?_
    refine s_bipush (n := 27) hG dX10_likeness_25 kb_8 rfl ?_
    refine s_icmp_ge (n := 30) (tgt := 89) hG dX10_likeness_27 rfl rfl (fun c => ?_) (fun c => ?_)
    · replace h := h.1 c
      refine s_iload_n (n := 90) hG dX10_likeness_89 rfl rfl ?_
      exact s_iret hG dX10_likeness_90 (hQ _ _ ⟨_, _, _, rfl, rfl, h⟩)
    · replace h := h.2 c
      refine s_aload_n (n := 31) hG dX10_likeness_30 rfl rfl ?_
      refine gtX10_9 (n := 34) hG dX10_likeness_31 rfl ?_
      refine s_iload_n (n := 35) hG dX10_likeness_34 rfl rfl ?_
      refine s_bipush (n := 37) hG dX10_likeness_35 kb_8 rfl ?_
      refine s_imul (n := 38) hG dX10_likeness_37 rfl ?_
      refine s_iload (n := 40) hG dX10_likeness_38 rfl rfl ?_
      refine s_iadd (n := 41) hG dX10_likeness_40 rfl ?_
      refine s_topi (fun i41 hi41 => ?_)
      replace h := h i41 hi41
      obtain ⟨hin, h⟩ := h
      refine s_iald (n := 42) hG dX10_likeness_41 (gaC_51 hin) rfl ?_
      refine s_topi (fun x5_42 hx5_42 => ?_)
      replace h := h x5_42 hx5_42
      refine s_istore (n := 44) (lv2 := [some (.ref (ad 10)), some (.int v1), some (.int v2), some (.int v3), some (.int v4), some (.int x5_42), none]) hG dX10_likeness_42 rfl rfl rfl ?_
      refine s_aload_n (n := 45) hG dX10_likeness_44 rfl rfl ?_
      refine gtX10_9 (n := 48) hG dX10_likeness_45 rfl ?_
      refine s_iload_n (n := 49) hG dX10_likeness_48 rfl rfl ?_
      refine s_bipush (n := 51) hG dX10_likeness_49 kb_8 rfl ?_
      refine s_imul (n := 52) hG dX10_likeness_51 rfl ?_
      refine s_iload (n := 54) hG dX10_likeness_52 rfl rfl ?_
      refine s_iadd (n := 55) hG dX10_likeness_54 rfl ?_
      refine s_topi (fun i55 hi55 => ?_)
      replace h := h i55 hi55
      obtain ⟨hin, h⟩ := h
      refine s_iald (n := 56) hG dX10_likeness_55 (gaC_51 hin) rfl ?_
      refine s_topi (fun x6_56 hx6_56 => ?_)
      replace h := h x6_56 hx6_56
      refine s_istore (n := 58) (lv2 := [some (.ref (ad 10)), some (.int v1), some (.int v2), some (.int v3), some (.int v4), some (.int x5_42), some (.int x6_56)]) hG dX10_likeness_56 rfl rfl rfl ?_
      refine s_iload (n := 60) hG dX10_likeness_58 rfl rfl ?_
      refine s_if_eq (n := 63) (tgt := 83) hG dX10_likeness_60 rfl rfl (fun c => ?_) (fun c => ?_)
      · replace h := h.1 c
        exact s_wk hG (sX10_likeness_j83 hE hG hQ ih h) ⟨rfl, rfl, rfl, rfl, rfl, trivial⟩
      · replace h := h.2 c
        refine s_iload (n := 65) hG dX10_likeness_63 rfl rfl ?_
        refine s_if_eq (n := 68) (tgt := 83) hG dX10_likeness_65 rfl rfl (fun c => ?_) (fun c => ?_)
        · replace h := h.1 c
          exact s_wk hG (sX10_likeness_j83 hE hG hQ ih h) ⟨rfl, rfl, rfl, rfl, rfl, trivial⟩
        · replace h := h.2 c
          refine s_iload_n (n := 69) hG dX10_likeness_68 rfl rfl ?_
          refine s_iload (n := 71) hG dX10_likeness_69 rfl rfl ?_
          refine s_iload (n := 73) hG dX10_likeness_71 rfl rfl ?_
          refine s_icmp_ne (n := 76) (tgt := 80) hG dX10_likeness_73 rfl rfl (fun c => ?_) (fun c => ?_)
          · replace h := h.1 c
            refine s_iconst (n := 81) hG dX10_likeness_80 ki_m1 rfl ?_
            exact s_wk hG (sX10_likeness_j81 hE hG hQ ih h) ⟨rfl, rfl, rfl, rfl, trivial⟩
          · replace h := h.2 c
            refine s_iconst (n := 77) hG dX10_likeness_76 ki_1 rfl ?_
            refine s_goto (tgt := 81) hG dX10_likeness_77 rfl ?_
            exact s_wk hG (sX10_likeness_j81 hE hG hQ ih h) ⟨rfl, rfl, rfl, rfl, trivial⟩
def wX10_likeness (N : Nat) (a1 : Int32) (a2 : Int32) (g : gFG) (f : gFF) (Q : Int32 → gFG → gFF → Prop) : Prop := wX10_has N a1 g f (fun r2 g2 f2 => ((r2 = 0) → Q 0 g2 f2) ∧ ((¬ r2 = 0) → wX10_has N a2 g2 f2 (fun r10 g10 f10 => ((¬ r10 = 0) → wX10_likeness_l23 N a1 a2 Q N 0 0 g10 f10) ∧ ((r10 = 0) → Q 0 g10 f10))))
theorem mX10_likeness (hE : gInj layC ad) {N : Nat} {a1 : Int32} {a2 : Int32} {g : gFG} {f : gFF} {Q : Int32 → gFG → gFF → Prop} (h : wX10_likeness N a1 a2 g f Q) : gCT l D cs layC ad (gZc ad tX tY sK sV) 2 yX10_likeness cX10_likeness 7 (some .int) [.ref (ad 10), .int a1, .int a2] (g, f, 0) (gQi Q) := by
  refine met_walk (lv0 := [some (.ref (ad 10)), some (.int a1), some (.int a2), none, none, none, none]) ⟨hE, gZc_ok _ _ _ _ _⟩ (by decide) (Nat.le_of_ble_eq_true rfl) rfl (fun G Rt hG hQ => ?_)
  replace hG : gSim l D cs layC ad (gZc ad tX tY sK sV) 2 RX10 cX10_likeness 7 (some .int) G Rt := hG
  unfold wX10_likeness at h
  refine s_aload_n (n := 1) hG dX10_likeness_0 rfl rfl ?_
  refine s_iload_n (n := 2) hG dX10_likeness_1 rfl rfl ?_
  refine s_callV (n := 5) (st := []) hG (mX10_has hE h) ceX10_has lmX10_41 ⟨by decide, rfl, rfl⟩ rfl ⟨rfl, Nat.le_of_ble_eq_true rfl, by decide⟩ dX10_likeness_2 rfl ?_
  rintro _ _ ⟨r2, g2, f2, rfl, rfl, h⟩
  refine s_if_eq (n := 8) (tgt := 16) hG dX10_likeness_5 rfl rfl (fun c => ?_) (fun c => ?_)
  · replace h := h.1 c
    refine s_iconst (n := 17) hG dX10_likeness_16 ki_0 rfl ?_
    exact s_iret hG dX10_likeness_17 (hQ _ _ ⟨_, _, _, rfl, rfl, h⟩)
  · replace h := h.2 c
    refine s_aload_n (n := 9) hG dX10_likeness_8 rfl rfl ?_
    refine s_iload_n (n := 10) hG dX10_likeness_9 rfl rfl ?_
    refine s_callV (n := 13) (st := []) hG (mX10_has hE h) ceX10_has lmX10_41 ⟨by decide, rfl, rfl⟩ rfl ⟨rfl, Nat.le_of_ble_eq_true rfl, by decide⟩ dX10_likeness_10 rfl ?_
    rintro _ _ ⟨r10, g10, f10, rfl, rfl, h⟩
    refine s_if_ne (n := 16) (tgt := 18) hG dX10_likeness_13 rfl rfl (fun c => ?_) (fun c => ?_)
    · replace h := h.1 c
      refine s_iconst (n := 19) hG dX10_likeness_18 ki_0 rfl ?_
      refine s_istore_n (n := 20) (lv2 := [some (.ref (ad 10)), some (.int a1), some (.int a2), some (.int 0), none, none, none]) hG dX10_likeness_19 rfl rfl rfl ?_
      refine s_iconst (n := 21) hG dX10_likeness_20 ki_0 rfl ?_
      refine s_istore (n := 23) (lv2 := [some (.ref (ad 10)), some (.int a1), some (.int a2), some (.int 0), some (.int 0), none, none]) hG dX10_likeness_21 rfl rfl rfl ?_
      exact s_wk hG (sX10_likeness_l23 hE hG hQ  N _ _ _ _ h) ⟨rfl, rfl, rfl, rfl, rfl, trivial⟩
    · replace h := h.2 c
      refine s_iconst (n := 17) hG dX10_likeness_16 ki_0 rfl ?_
      exact s_iret hG dX10_likeness_17 (hQ _ _ ⟨_, _, _, rfl, rfl, h⟩)
def wX10_addTold (N : Nat) (a1 : Int32) (a2 : Int32) (a3 : Int32) (g : gFG) (f : gFF) (Q : Int32 → gFG → gFF → Prop) : Prop := wX10_isToldFull N g f (fun r1 g1 f1 => ((r1 = 0) → ∀ i18 : Int32, i18 = (g1 22) → (vp_in i18 150) ∧ (∀ f18 : gFF, f18 = (va_up f1 52 (upd (f1 52) i18.toNatClampNeg a1)) → ∀ i28 : Int32, i28 = (g1 22) → (vp_in i28 150) ∧ (∀ f28 : gFF, f28 = (va_up f18 53 (upd (f18 53) i28.toNatClampNeg a2)) → ∀ i38 : Int32, i38 = (g1 22) → (vp_in i38 150) ∧ (∀ f38 : gFF, f38 = (va_up f28 54 (upd (f28 54) i38.toNatClampNeg a3)) → ∀ y46 : Int32, y46 = ((g1 22) + 1) → ∀ g46 : gFG, g46 = (va_up g1 22 y46) → Q (g46 22) g46 f38)))) ∧ ((¬ r1 = 0) → Q (-1) g1 f1))
theorem mX10_addTold (hE : gInj layC ad) {N : Nat} {a1 : Int32} {a2 : Int32} {a3 : Int32} {g : gFG} {f : gFF} {Q : Int32 → gFG → gFF → Prop} (h : wX10_addTold N a1 a2 a3 g f Q) : gCT l D cs layC ad (gZc ad tX tY sK sV) 2 yX10_addTold cX10_addTold 4 (some .int) [.ref (ad 10), .int a1, .int a2, .int a3] (g, f, 0) (gQi Q) := by
  refine met_walk (lv0 := [some (.ref (ad 10)), some (.int a1), some (.int a2), some (.int a3)]) ⟨hE, gZc_ok _ _ _ _ _⟩ (by decide) (Nat.le_of_ble_eq_true rfl) rfl (fun G Rt hG hQ => ?_)
  replace hG : gSim l D cs layC ad (gZc ad tX tY sK sV) 2 RX10 cX10_addTold 4 (some .int) G Rt := hG
  unfold wX10_addTold at h
  refine s_aload_n (n := 1) hG dX10_addTold_0 rfl rfl ?_
  refine s_callV (n := 4) (st := []) hG (mX10_isToldFull hE h) ceX10_isToldFull lmX10_45 ⟨by decide, rfl, rfl⟩ rfl ⟨rfl, Nat.le_of_ble_eq_true rfl, by decide⟩ dX10_addTold_1 rfl ?_
  rintro _ _ ⟨r1, g1, f1, rfl, rfl, h⟩
  refine s_if_eq (n := 7) (tgt := 9) hG dX10_addTold_4 rfl rfl (fun c => ?_) (fun c => ?_)
  · replace h := h.1 c
    refine s_aload_n (n := 10) hG dX10_addTold_9 rfl rfl ?_
    refine gtX10_15 (n := 13) hG dX10_addTold_10 rfl ?_
    refine s_aload_n (n := 14) hG dX10_addTold_13 rfl rfl ?_
    refine gtX10_34 (n := 17) hG dX10_addTold_14 rfl ?_
    refine s_iload_n (n := 18) hG dX10_addTold_17 rfl rfl ?_
    refine s_topi2 (fun i18 hi18 => ?_)
    replace h := h i18 hi18
    obtain ⟨hin, h⟩ := h
    refine s_iast (n := 19) hG dX10_addTold_18 (gaC_52 hin) rfl ?_
    refine s_nf (fun f18 hf18 => ?_)
    replace h := h f18 hf18
    refine s_aload_n (n := 20) hG dX10_addTold_19 rfl rfl ?_
    refine gtX10_18 (n := 23) hG dX10_addTold_20 rfl ?_
    refine s_aload_n (n := 24) hG dX10_addTold_23 rfl rfl ?_
    refine gtX10_34 (n := 27) hG dX10_addTold_24 rfl ?_
    refine s_iload_n (n := 28) hG dX10_addTold_27 rfl rfl ?_
    refine s_topi2 (fun i28 hi28 => ?_)
    replace h := h i28 hi28
    obtain ⟨hin, h⟩ := h
    refine s_iast (n := 29) hG dX10_addTold_28 (gaC_53 hin) rfl ?_
    refine s_nf (fun f28 hf28 => ?_)
    replace h := h f28 hf28
    refine s_aload_n (n := 30) hG dX10_addTold_29 rfl rfl ?_
    refine gtX10_21 (n := 33) hG dX10_addTold_30 rfl ?_
    refine s_aload_n (n := 34) hG dX10_addTold_33 rfl rfl ?_
    refine gtX10_34 (n := 37) hG dX10_addTold_34 rfl ?_
    refine s_iload_n (n := 38) hG dX10_addTold_37 rfl rfl ?_
    refine s_topi2 (fun i38 hi38 => ?_)
    replace h := h i38 hi38
    obtain ⟨hin, h⟩ := h
    refine s_iast (n := 39) hG dX10_addTold_38 (gaC_54 hin) rfl ?_
    refine s_nf (fun f38 hf38 => ?_)
    replace h := h f38 hf38
    refine s_aload_n (n := 40) hG dX10_addTold_39 rfl rfl ?_
    refine s_dup (n := 41) hG dX10_addTold_40 rfl rfl ?_
    refine gtX10_34 (n := 44) hG dX10_addTold_41 rfl ?_
    refine s_iconst (n := 45) hG dX10_addTold_44 ki_1 rfl ?_
    refine s_iadd (n := 46) hG dX10_addTold_45 rfl ?_
    refine s_topi (fun y46 hy46 => ?_)
    replace h := h y46 hy46
    refine ptX10_34 (n := 49) hG dX10_addTold_46 rfl ?_
    refine s_ng (fun g46 hg46 => ?_)
    replace h := h g46 hg46
    refine s_aload_n (n := 50) hG dX10_addTold_49 rfl rfl ?_
    refine gtX10_34 (n := 53) hG dX10_addTold_50 rfl ?_
    exact s_iret hG dX10_addTold_53 (hQ _ _ ⟨_, _, _, rfl, rfl, h⟩)
  · replace h := h.2 c
    refine s_iconst (n := 8) hG dX10_addTold_7 ki_m1 rfl ?_
    exact s_iret hG dX10_addTold_8 (hQ _ _ ⟨_, _, _, rfl, rfl, h⟩)
def wX10_workshopOf_j38 (N : Nat) (K7 : Int32 → gFG → gFF → Prop) (Q : Int32 → gFG → gFF → Prop) (v1 : Int32) (v2 : Int32) (v3 : Int32) (g : gFG) (f : gFF) : Prop := ∀ x3_38 : Int32, x3_38 = (v3 + (-1)) → K7 x3_38 g f
theorem sX10_workshopOf_j38 {G : gG} {Rt : Option Value → gSt → Prop} (hE : gInj layC ad) (hG : gSim l D cs layC ad (gZc ad tX tY sK sV) 1 RX10 cX10_workshopOf 4 (some .int) G Rt) {Q : Int32 → gFG → gFF → Prop} (hQ : ∀ v S, gQi Q v S → Rt v S) {N : Nat} {K7 : Int32 → gFG → gFF → Prop}  {v1 : Int32} {v2 : Int32} {v3 : Int32} {g : gFG} {f : gFF} (hK7 : ∀ (uv3 : Int32) (ug : gFG) (uf : gFF), K7 uv3 ug uf → G 7 [some (.ref (ad 10)), some (.int v1), some (.int v2), some (.int uv3)] [] (ug, uf, 0)) (h : wX10_workshopOf_j38 N K7 Q v1 v2 v3 g f) : G 38 [some (.ref (ad 10)), some (.int v1), some (.int v2), some (.int v3)] [] (g, f, 0) := by
  unfold wX10_workshopOf_j38 at h
  obtain ⟨x3_38, hx3_38⟩ : ∃ z : Int32, z = (v3 + (-1)) := ⟨_, rfl⟩
  replace h := h x3_38 hx3_38
  refine s_iinc (n := 41) (v := x3_38) (lv2 := [some (.ref (ad 10)), some (.int v1), some (.int v2), some (.int x3_38)]) hG dX10_workshopOf_38 ki_m1 rfl hx3_38 rfl rfl rfl ?_
  refine s_goto (tgt := 7) hG dX10_workshopOf_41 rfl ?_
  exact s_wk hG (hK7 _ _ _ h) ⟨rfl, rfl, rfl, rfl, trivial⟩
def wX10_workshopOf_l7 (N : Nat) (v1 : Int32) (v2 : Int32)  (Q : Int32 → gFG → gFF → Prop) : Nat → Int32 → gFG → gFF → Prop
  | 0, _, _, _ => False
  | n + 1, v3, g, f => ((v3 < 0) → Q (-1) g f) ∧ ((¬ v3 < 0) → (vp_in v3 150) ∧ (((¬ (f 52 v3.toNatClampNeg) = v1) → wX10_workshopOf_j38 N (wX10_workshopOf_l7 N v1 v2  Q n) Q v1 v2 v3 g f) ∧ (((f 52 v3.toNatClampNeg) = v1) → (vp_in v3 150) ∧ (((v2 < (f 54 v3.toNatClampNeg)) → wX10_workshopOf_j38 N (wX10_workshopOf_l7 N v1 v2  Q n) Q v1 v2 v3 g f) ∧ ((¬ v2 < (f 54 v3.toNatClampNeg)) → (vp_in v3 150) ∧ (Q (f 53 v3.toNatClampNeg) g f))))))
theorem sX10_workshopOf_l7 {G : gG} {Rt : Option Value → gSt → Prop} (hE : gInj layC ad) (hG : gSim l D cs layC ad (gZc ad tX tY sK sV) 1 RX10 cX10_workshopOf 4 (some .int) G Rt) {Q : Int32 → gFG → gFF → Prop} (hQ : ∀ v S, gQi Q v S → Rt v S) {N : Nat} {v1 : Int32} {v2 : Int32}    : ∀ (n : Nat) (v3 : Int32) (g : gFG) (f : gFF), wX10_workshopOf_l7 N v1 v2  Q n v3 g f → G 7 [some (.ref (ad 10)), some (.int v1), some (.int v2), some (.int v3)] [] (g, f, 0) := by
  intro n
  induction n with
  | zero => intro _ _ _ h; unfold wX10_workshopOf_l7 at h; exact h.elim
  | succ n ih =>
    intro v3 g f h
    unfold wX10_workshopOf_l7 at h
    refine s_iload_n (n := 8) hG dX10_workshopOf_7 rfl rfl ?_
    refine s_if_lt (n := 11) (tgt := 44) hG dX10_workshopOf_8 rfl rfl (fun c => ?_) (fun c => ?_)
    · replace h := h.1 c
      refine s_iconst (n := 45) hG dX10_workshopOf_44 ki_m1 rfl ?_
      exact s_iret hG dX10_workshopOf_45 (hQ _ _ ⟨_, _, _, rfl, rfl, h⟩)
    · replace h := h.2 c
      refine s_aload_n (n := 12) hG dX10_workshopOf_11 rfl rfl ?_
      refine gtX10_15 (n := 15) hG dX10_workshopOf_12 rfl ?_
      refine s_iload_n (n := 16) hG dX10_workshopOf_15 rfl rfl ?_
      obtain ⟨hin, h⟩ := h
      refine s_iald (n := 17) hG dX10_workshopOf_16 (gaC_52 hin) rfl ?_
      refine s_iload_n (n := 18) hG dX10_workshopOf_17 rfl rfl ?_
      refine s_icmp_ne (n := 21) (tgt := 38) hG dX10_workshopOf_18 rfl rfl (fun c => ?_) (fun c => ?_)
      · replace h := h.1 c
        exact s_wk hG (sX10_workshopOf_j38 hE hG hQ ih h) ⟨rfl, rfl, rfl, rfl, trivial⟩
      · replace h := h.2 c
        refine s_aload_n (n := 22) hG dX10_workshopOf_21 rfl rfl ?_
        refine gtX10_21 (n := 25) hG dX10_workshopOf_22 rfl ?_
        refine s_iload_n (n := 26) hG dX10_workshopOf_25 rfl rfl ?_
        obtain ⟨hin, h⟩ := h
        refine s_iald (n := 27) hG dX10_workshopOf_26 (gaC_54 hin) rfl ?_
        refine s_iload_n (n := 28) hG dX10_workshopOf_27 rfl rfl ?_
        refine s_icmp_gt (n := 31) (tgt := 38) hG dX10_workshopOf_28 rfl rfl (fun c => ?_) (fun c => ?_)
        · replace h := h.1 c
          exact s_wk hG (sX10_workshopOf_j38 hE hG hQ ih h) ⟨rfl, rfl, rfl, rfl, trivial⟩
        · replace h := h.2 c
          refine s_aload_n (n := 32) hG dX10_workshopOf_31 rfl rfl ?_
          refine gtX10_18 (n := 35) hG dX10_workshopOf_32 rfl ?_
          refine s_iload_n (n := 36) hG dX10_workshopOf_35 rfl rfl ?_
          obtain ⟨hin, h⟩ := h
          refine s_iald (n := 37) hG dX10_workshopOf_36 (gaC_53 hin) rfl ?_
          exact s_iret hG dX10_workshopOf_37 (hQ _ _ ⟨_, _, _, rfl, rfl, h⟩)
def wX10_workshopOf (N : Nat) (a1 : Int32) (a2 : Int32) (g : gFG) (f : gFF) (Q : Int32 → gFG → gFF → Prop) : Prop := ∀ x3_6 : Int32, x3_6 = ((g 22) - 1) → wX10_workshopOf_l7 N a1 a2 Q N x3_6 g f
theorem mX10_workshopOf (hE : gInj layC ad) {N : Nat} {a1 : Int32} {a2 : Int32} {g : gFG} {f : gFF} {Q : Int32 → gFG → gFF → Prop} (h : wX10_workshopOf N a1 a2 g f Q) : gCT l D cs layC ad (gZc ad tX tY sK sV) 1 yX10_workshopOf cX10_workshopOf 4 (some .int) [.ref (ad 10), .int a1, .int a2] (g, f, 0) (gQi Q) := by
  refine met_walk (lv0 := [some (.ref (ad 10)), some (.int a1), some (.int a2), none]) ⟨hE, gZc_ok _ _ _ _ _⟩ (by decide) (Nat.le_of_ble_eq_true rfl) rfl (fun G Rt hG hQ => ?_)
  replace hG : gSim l D cs layC ad (gZc ad tX tY sK sV) 1 RX10 cX10_workshopOf 4 (some .int) G Rt := hG
  unfold wX10_workshopOf at h
  refine s_aload_n (n := 1) hG dX10_workshopOf_0 rfl rfl ?_
  refine gtX10_34 (n := 4) hG dX10_workshopOf_1 rfl ?_
  refine s_iconst (n := 5) hG dX10_workshopOf_4 ki_1 rfl ?_
  refine s_isub (n := 6) hG dX10_workshopOf_5 rfl ?_
  refine s_topi (fun x3_6 hx3_6 => ?_)
  replace h := h x3_6 hx3_6
  refine s_istore_n (n := 7) (lv2 := [some (.ref (ad 10)), some (.int a1), some (.int a2), some (.int x3_6)]) hG dX10_workshopOf_6 rfl rfl rfl ?_
  exact s_wk hG (sX10_workshopOf_l7 hE hG hQ  N _ _ _ h) ⟨rfl, rfl, rfl, rfl, trivial⟩
def wX10_compareWithOthers_j82 (N : Nat) (K18 : Int32 → gFG → gFF → Prop) (Q : gFG → gFF → Prop) (v1 : Int32) (v2 : Int32) (v3 : Int32) (g : gFG) (f : gFF) : Prop := ∀ x3_82 : Int32, x3_82 = (v3 + 1) → K18 x3_82 g f
theorem sX10_compareWithOthers_j82 {G : gG} {Rt : Option Value → gSt → Prop} (hE : gInj layC ad) (hG : gSim l D cs layC ad (gZc ad tX tY sK sV) 3 RX10 cX10_compareWithOthers 5 none G Rt) {Q : gFG → gFF → Prop} (hQ : ∀ v S, gQv Q v S → Rt v S) {N : Nat} {K18 : Int32 → gFG → gFF → Prop}  {v1 : Int32} {v2 : Int32} {v3 : Int32} {g : gFG} {f : gFF} (hK18 : ∀ (uv3 : Int32) (ug : gFG) (uf : gFF), K18 uv3 ug uf → G 18 [some (.ref (ad 10)), some (.int v1), some (.int v2), some (.int uv3), none] [] (ug, uf, 0)) (h : wX10_compareWithOthers_j82 N K18 Q v1 v2 v3 g f) : G 82 [some (.ref (ad 10)), some (.int v1), some (.int v2), some (.int v3), none] [] (g, f, 0) := by
  unfold wX10_compareWithOthers_j82 at h
  obtain ⟨x3_82, hx3_82⟩ : ∃ z : Int32, z = (v3 + 1) := ⟨_, rfl⟩
  replace h := h x3_82 hx3_82
  refine s_iinc (n := 85) (v := x3_82) (lv2 := [some (.ref (ad 10)), some (.int v1), some (.int v2), some (.int x3_82), none]) hG dX10_compareWithOthers_82 ki_1 rfl hx3_82 rfl rfl rfl ?_
  refine s_goto (tgt := 18) hG dX10_compareWithOthers_85 rfl ?_
  exact s_wk hG (hK18 _ _ _ h) ⟨rfl, rfl, rfl, rfl, trivial⟩
def wX10_compareWithOthers_j41 (N : Nat) (K18 : Int32 → gFG → gFF → Prop) (Q : gFG → gFF → Prop) (v1 : Int32) (v2 : Int32) (v3 : Int32) (t0 : Int32) (g : gFG) (f : gFF) : Prop := ((t0 < 0) → wX10_compareWithOthers_j82 N (K18) Q v1 v2 v3 g f) ∧ ((¬ t0 < 0) → ((8 ≤ t0) → wX10_compareWithOthers_j82 N (K18) Q v1 v2 v3 g f) ∧ ((¬ 8 ≤ t0) → (vp_in t0 8) ∧ (wX10_likeness N v1 v3 g f (fun r66 g66 f66 => ∀ y70 : Int32, y70 = ((f 55 t0.toNatClampNeg) + r66) → (vp_in t0 8) ∧ (∀ f70 : gFF, f70 = (va_up f66 55 (upd (f66 55) t0.toNatClampNeg y70)) → (vp_in t0 8) ∧ (∀ y81 : Int32, y81 = ((f70 56 t0.toNatClampNeg) + 1) → (vp_in t0 8) ∧ (∀ f81 : gFF, f81 = (va_up f70 56 (upd (f70 56) t0.toNatClampNeg y81)) → wX10_compareWithOthers_j82 N (K18) Q v1 v2 v3 g66 f81)))))))
theorem sX10_compareWithOthers_j41 {G : gG} {Rt : Option Value → gSt → Prop} (hE : gInj layC ad) (hG : gSim l D cs layC ad (gZc ad tX tY sK sV) 3 RX10 cX10_compareWithOthers 5 none G Rt) {Q : gFG → gFF → Prop} (hQ : ∀ v S, gQv Q v S → Rt v S) {N : Nat} {K18 : Int32 → gFG → gFF → Prop}  {v1 : Int32} {v2 : Int32} {v3 : Int32} {t0 : Int32} {g : gFG} {f : gFF} (hK18 : ∀ (uv3 : Int32) (ug : gFG) (uf : gFF), K18 uv3 ug uf → G 18 [some (.ref (ad 10)), some (.int v1), some (.int v2), some (.int uv3), none] [] (ug, uf, 0)) (h : wX10_compareWithOthers_j41 N K18 Q v1 v2 v3 t0 g f) : G 41 [some (.ref (ad 10)), some (.int v1), some (.int v2), some (.int v3), none] [.int t0] (g, f, 0) := by
  unfold wX10_compareWithOthers_j41 at h
  refine s_istore (n := 43) (lv2 := [some (.ref (ad 10)), some (.int v1), some (.int v2), some (.int v3), some (.int t0)]) hG dX10_compareWithOthers_41 rfl rfl rfl ?_
  refine s_iload (n := 45) hG dX10_compareWithOthers_43 rfl rfl ?_
  refine s_if_lt (n := 48) (tgt := 82) hG dX10_compareWithOthers_45 rfl rfl (fun c => ?_) (fun c => ?_)
  · replace h := h.1 c
    exact s_wk hG (sX10_compareWithOthers_j82 hE hG hQ hK18 h) ⟨rfl, rfl, rfl, rfl, trivial⟩
  · replace h := h.2 c
    refine s_iload (n := 50) hG dX10_compareWithOthers_48 rfl rfl ?_
    refine s_bipush (n := 52) hG dX10_compareWithOthers_50 kb_8 rfl ?_
    refine s_icmp_ge (n := 55) (tgt := 82) hG dX10_compareWithOthers_52 rfl rfl (fun c => ?_) (fun c => ?_)
    · replace h := h.1 c
      exact s_wk hG (sX10_compareWithOthers_j82 hE hG hQ hK18 h) ⟨rfl, rfl, rfl, rfl, trivial⟩
    · replace h := h.2 c
      refine s_aload_n (n := 56) hG dX10_compareWithOthers_55 rfl rfl ?_
      refine gtX10_24 (n := 59) hG dX10_compareWithOthers_56 rfl ?_
      refine s_iload (n := 61) hG dX10_compareWithOthers_59 rfl rfl ?_
      refine s_dup2 (n := 62) hG dX10_compareWithOthers_61 rfl rfl rfl ?_
      obtain ⟨hin, h⟩ := h
      refine s_iald (n := 63) hG dX10_compareWithOthers_62 (gaC_55 hin) rfl ?_
      refine s_aload_n (n := 64) hG dX10_compareWithOthers_63 rfl rfl ?_
      refine s_iload_n (n := 65) hG dX10_compareWithOthers_64 rfl rfl ?_
      refine s_iload_n (n := 66) hG dX10_compareWithOthers_65 rfl rfl ?_
      refine s_callV (n := 69) (st := [.int (f 55 t0.toNatClampNeg), .int t0, .ref (ad 55)]) hG (mX10_likeness hE h) ceX10_likeness lmX10_66 ⟨by decide, rfl, rfl⟩ rfl ⟨rfl, Nat.le_of_ble_eq_true rfl, by decide⟩ dX10_compareWithOthers_66 rfl ?_
      rintro _ _ ⟨r66, g66, f66, rfl, rfl, h⟩
      refine s_iadd (n := 70) hG dX10_compareWithOthers_69 rfl ?_
      refine s_topi (fun y70 hy70 => ?_)
      replace h := h y70 hy70
      obtain ⟨hin, h⟩ := h
      refine s_iast (n := 71) hG dX10_compareWithOthers_70 (gaC_55 hin) rfl ?_
      refine s_nf (fun f70 hf70 => ?_)
      replace h := h f70 hf70
      refine s_aload_n (n := 72) hG dX10_compareWithOthers_71 rfl rfl ?_
      refine gtX10_27 (n := 75) hG dX10_compareWithOthers_72 rfl ?_
      refine s_iload (n := 77) hG dX10_compareWithOthers_75 rfl rfl ?_
      refine s_dup2 (n := 78) hG dX10_compareWithOthers_77 rfl rfl rfl ?_
      obtain ⟨hin, h⟩ := h
      refine s_iald (n := 79) hG dX10_compareWithOthers_78 (gaC_56 hin) rfl ?_
      refine s_iconst (n := 80) hG dX10_compareWithOthers_79 ki_1 rfl ?_
      refine s_iadd (n := 81) hG dX10_compareWithOthers_80 rfl ?_
      refine s_topi (fun y81 hy81 => ?_)
      replace h := h y81 hy81
      obtain ⟨hin, h⟩ := h
      refine s_iast (n := 82) hG dX10_compareWithOthers_81 (gaC_56 hin) rfl ?_
      refine s_nf (fun f81 hf81 => ?_)
      replace h := h f81 hf81
      exact s_wk hG (sX10_compareWithOthers_j82 hE hG hQ hK18 h) ⟨rfl, rfl, rfl, rfl, trivial⟩
def wX10_compareWithOthers_l18 (N : Nat) (v1 : Int32) (v2 : Int32)  (Q : gFG → gFF → Prop) : Nat → Int32 → gFG → gFF → Prop
  | 0, _, _, _ => False
  | n + 1, v3, g, f => (((g 21) ≤ v3) → Q g f) ∧ ((¬ (g 21) ≤ v3) → ((¬ v3 = v1) → wX10_workshopOf N v3 v2 g f (fun r38 g38 f38 => wX10_compareWithOthers_j41 N (wX10_compareWithOthers_l18 N v1 v2  Q n) Q v1 v2 v3 r38 g38 f38)) ∧ ((v3 = v1) → wX10_compareWithOthers_j41 N (wX10_compareWithOthers_l18 N v1 v2  Q n) Q v1 v2 v3 (-1) g f))
theorem sX10_compareWithOthers_l18 {G : gG} {Rt : Option Value → gSt → Prop} (hE : gInj layC ad) (hG : gSim l D cs layC ad (gZc ad tX tY sK sV) 3 RX10 cX10_compareWithOthers 5 none G Rt) {Q : gFG → gFF → Prop} (hQ : ∀ v S, gQv Q v S → Rt v S) {N : Nat} {v1 : Int32} {v2 : Int32}    : ∀ (n : Nat) (v3 : Int32) (g : gFG) (f : gFF), wX10_compareWithOthers_l18 N v1 v2  Q n v3 g f → G 18 [some (.ref (ad 10)), some (.int v1), some (.int v2), some (.int v3), none] [] (g, f, 0) := by
  intro n
  induction n with
  | zero => intro _ _ _ h; unfold wX10_compareWithOthers_l18 at h; exact h.elim
  | succ n ih =>
    intro v3 g f h
    unfold wX10_compareWithOthers_l18 at h
    refine s_iload_n (n := 19) hG dX10_compareWithOthers_18 rfl rfl ?_
    refine s_aload_n (n := 20) hG dX10_compareWithOthers_19 rfl rfl ?_
    refine gtX10_30 (n := 23) hG dX10_compareWithOthers_20 rfl ?_
    refine s_icmp_ge (n := 26) (tgt := 88) hG dX10_compareWithOthers_23 rfl rfl (fun c => ?_) (fun c => ?_)
    · replace h := h.1 c
      exact s_vret hG dX10_compareWithOthers_88 (hQ _ _ ⟨_, _, rfl, rfl, h⟩)
    · replace h := h.2 c
      refine s_iload_n (n := 27) hG dX10_compareWithOthers_26 rfl rfl ?_
      refine s_iload_n (n := 28) hG dX10_compareWithOthers_27 rfl rfl ?_
      refine s_icmp_ne (n := 31) (tgt := 35) hG dX10_compareWithOthers_28 rfl rfl (fun c => ?_) (fun c => ?_)
      · replace h := h.1 c
        refine s_aload_n (n := 36) hG dX10_compareWithOthers_35 rfl rfl ?_
        refine s_iload_n (n := 37) hG dX10_compareWithOthers_36 rfl rfl ?_
        refine s_iload_n (n := 38) hG dX10_compareWithOthers_37 rfl rfl ?_
        refine s_callV (n := 41) (st := []) hG (mX10_workshopOf hE h) ceX10_workshopOf lmX10_62 ⟨by decide, rfl, rfl⟩ rfl ⟨rfl, Nat.le_of_ble_eq_true rfl, by decide⟩ dX10_compareWithOthers_38 rfl ?_
        rintro _ _ ⟨r38, g38, f38, rfl, rfl, h⟩
        exact s_wk hG (sX10_compareWithOthers_j41 hE hG hQ ih h) ⟨rfl, rfl, rfl, rfl, trivial⟩
      · replace h := h.2 c
        refine s_iconst (n := 32) hG dX10_compareWithOthers_31 ki_m1 rfl ?_
        refine s_goto (tgt := 41) hG dX10_compareWithOthers_32 rfl ?_
        exact s_wk hG (sX10_compareWithOthers_j41 hE hG hQ ih h) ⟨rfl, rfl, rfl, rfl, trivial⟩
def wX10_compareWithOthers (N : Nat) (a1 : Int32) (a2 : Int32) (g : gFG) (f : gFF) (Q : gFG → gFF → Prop) : Prop := wJ7_fill_53178 N 55 0 g f (fun g5 f5 => wJ7_fill_53178 N 56 0 g5 f5 (fun g13 f13 => wX10_compareWithOthers_l18 N a1 a2 Q N 0 g13 f13))
theorem mX10_compareWithOthers (hE : gInj layC ad) {N : Nat} {a1 : Int32} {a2 : Int32} {g : gFG} {f : gFF} {Q : gFG → gFF → Prop} (h : wX10_compareWithOthers N a1 a2 g f Q) : gCT l D cs layC ad (gZc ad tX tY sK sV) 3 yX10_compareWithOthers cX10_compareWithOthers 5 none [.ref (ad 10), .int a1, .int a2] (g, f, 0) (gQv Q) := by
  refine met_walk (lv0 := [some (.ref (ad 10)), some (.int a1), some (.int a2), none, none]) ⟨hE, gZc_ok _ _ _ _ _⟩ (by decide) (Nat.le_of_ble_eq_true rfl) rfl (fun G Rt hG hQ => ?_)
  replace hG : gSim l D cs layC ad (gZc ad tX tY sK sV) 3 RX10 cX10_compareWithOthers 5 none G Rt := hG
  unfold wX10_compareWithOthers at h
  refine s_aload_n (n := 1) hG dX10_compareWithOthers_0 rfl rfl ?_
  refine gtX10_24 (n := 4) hG dX10_compareWithOthers_1 rfl ?_
  refine s_iconst (n := 5) hG dX10_compareWithOthers_4 ki_0 rfl ?_
  refine s_callS (n := 8) (st := []) hG (mJ7_fill_53178 hE h) ceJ7_fill_53178 lmX10_56 rfl ⟨rfl, Nat.le_of_ble_eq_true rfl, by decide⟩ dX10_compareWithOthers_5 rfl ?_
  rintro _ _ ⟨g5, f5, rfl, rfl, h⟩
  refine s_aload_n (n := 9) hG dX10_compareWithOthers_8 rfl rfl ?_
  refine gtX10_27 (n := 12) hG dX10_compareWithOthers_9 rfl ?_
  refine s_iconst (n := 13) hG dX10_compareWithOthers_12 ki_0 rfl ?_
  refine s_callS (n := 16) (st := []) hG (mJ7_fill_53178 hE h) ceJ7_fill_53178 lmX10_56 rfl ⟨rfl, Nat.le_of_ble_eq_true rfl, by decide⟩ dX10_compareWithOthers_13 rfl ?_
  rintro _ _ ⟨g13, f13, rfl, rfl, h⟩
  refine s_iconst (n := 17) hG dX10_compareWithOthers_16 ki_0 rfl ?_
  refine s_istore_n (n := 18) (lv2 := [some (.ref (ad 10)), some (.int a1), some (.int a2), some (.int 0), none]) hG dX10_compareWithOthers_17 rfl rfl rfl ?_
  exact s_wk hG (sX10_compareWithOthers_l18 hE hG hQ  N _ _ _ h) ⟨rfl, rfl, rfl, rfl, trivial⟩
def wX10_isLiker (N : Nat) (a1 : Int32) (a2 : Int32) (g : gFG) (f : gFF) (Q : Int32 → gFG → gFF → Prop) : Prop := (vp_in a1 8) ∧ ((vp_in a2 8) ∧ ((vp_in a2 8) ∧ ((vp_in a1 8) ∧ (((((f 55 a1.toNatClampNeg) * (f 56 a2.toNatClampNeg)) ≤ ((f 55 a2.toNatClampNeg) * (f 56 a1.toNatClampNeg))) → Q 0 g f) ∧ ((¬ ((f 55 a1.toNatClampNeg) * (f 56 a2.toNatClampNeg)) ≤ ((f 55 a2.toNatClampNeg) * (f 56 a1.toNatClampNeg))) → Q 1 g f)))))
theorem mX10_isLiker (hE : gInj layC ad) {N : Nat} {a1 : Int32} {a2 : Int32} {g : gFG} {f : gFF} {Q : Int32 → gFG → gFF → Prop} (h : wX10_isLiker N a1 a2 g f Q) : gCT l D cs layC ad (gZc ad tX tY sK sV) 1 yX10_isLiker cX10_isLiker 3 (some .boolean) [.ref (ad 10), .int a1, .int a2] (g, f, 0) (gQi Q) := by
  refine met_walk (lv0 := [some (.ref (ad 10)), some (.int a1), some (.int a2)]) ⟨hE, gZc_ok _ _ _ _ _⟩ (by decide) (Nat.le_of_ble_eq_true rfl) rfl (fun G Rt hG hQ => ?_)
  replace hG : gSim l D cs layC ad (gZc ad tX tY sK sV) 1 RX10 cX10_isLiker 3 (some .boolean) G Rt := hG
  unfold wX10_isLiker at h
  refine s_aload_n (n := 1) hG dX10_isLiker_0 rfl rfl ?_
  refine gtX10_24 (n := 4) hG dX10_isLiker_1 rfl ?_
  refine s_iload_n (n := 5) hG dX10_isLiker_4 rfl rfl ?_
  obtain ⟨hin, h⟩ := h
  refine s_iald (n := 6) hG dX10_isLiker_5 (gaC_55 hin) rfl ?_
  refine s_aload_n (n := 7) hG dX10_isLiker_6 rfl rfl ?_
  refine gtX10_27 (n := 10) hG dX10_isLiker_7 rfl ?_
  refine s_iload_n (n := 11) hG dX10_isLiker_10 rfl rfl ?_
  obtain ⟨hin, h⟩ := h
  refine s_iald (n := 12) hG dX10_isLiker_11 (gaC_56 hin) rfl ?_
  refine s_imul (n := 13) hG dX10_isLiker_12 rfl ?_
  refine s_aload_n (n := 14) hG dX10_isLiker_13 rfl rfl ?_
  refine gtX10_24 (n := 17) hG dX10_isLiker_14 rfl ?_
  refine s_iload_n (n := 18) hG dX10_isLiker_17 rfl rfl ?_
  obtain ⟨hin, h⟩ := h
  refine s_iald (n := 19) hG dX10_isLiker_18 (gaC_55 hin) rfl ?_
  refine s_aload_n (n := 20) hG dX10_isLiker_19 rfl rfl ?_
  refine gtX10_27 (n := 23) hG dX10_isLiker_20 rfl ?_
  refine s_iload_n (n := 24) hG dX10_isLiker_23 rfl rfl ?_
  obtain ⟨hin, h⟩ := h
  refine s_iald (n := 25) hG dX10_isLiker_24 (gaC_56 hin) rfl ?_
  refine s_imul (n := 26) hG dX10_isLiker_25 rfl ?_
  refine s_icmp_le (n := 29) (tgt := 33) hG dX10_isLiker_26 rfl rfl (fun c => ?_) (fun c => ?_)
  · replace h := h.1 c
    refine s_iconst (n := 34) hG dX10_isLiker_33 ki_0 rfl ?_
    exact s_zret hG dX10_isLiker_34 (gz_n gz_0) (hQ _ _ ⟨_, _, _, rfl, rfl, h⟩)
  · replace h := h.2 c
    refine s_iconst (n := 30) hG dX10_isLiker_29 ki_1 rfl ?_
    refine s_goto (tgt := 34) hG dX10_isLiker_30 rfl ?_
    exact s_zret hG dX10_isLiker_34 (gz_n gz_1) (hQ _ _ ⟨_, _, _, rfl, rfl, h⟩)
def wX10_workshopByMarks_j46 (N : Nat) (K11 : Int32 → Int32 → gFG → gFF → Prop) (Q : Int32 → gFG → gFF → Prop) (v3 : Int32) (v4 : Int32) (g : gFG) (f : gFF) : Prop := ∀ x4_46 : Int32, x4_46 = (v4 + 1) → K11 v3 x4_46 g f
theorem sX10_workshopByMarks_j46 {G : gG} {Rt : Option Value → gSt → Prop} (hE : gInj layC ad) (hG : gSim l D cs layC ad (gZc ad tX tY sK sV) 4 RX10 cX10_workshopByMarks 5 (some .int) G Rt) {Q : Int32 → gFG → gFF → Prop} (hQ : ∀ v S, gQi Q v S → Rt v S) {N : Nat} {K11 : Int32 → Int32 → gFG → gFF → Prop}  {v3 : Int32} {v4 : Int32} {g : gFG} {f : gFF} (hK11 : ∀ (uv3 : Int32) (uv4 : Int32) (ug : gFG) (uf : gFF), K11 uv3 uv4 ug uf → G 11 [some (.ref (ad 10)), none, none, some (.int uv3), some (.int uv4)] [] (ug, uf, 0)) (h : wX10_workshopByMarks_j46 N K11 Q v3 v4 g f) : G 46 [some (.ref (ad 10)), none, none, some (.int v3), some (.int v4)] [] (g, f, 0) := by
  unfold wX10_workshopByMarks_j46 at h
  obtain ⟨x4_46, hx4_46⟩ : ∃ z : Int32, z = (v4 + 1) := ⟨_, rfl⟩
  replace h := h x4_46 hx4_46
  refine s_iinc (n := 49) (v := x4_46) (lv2 := [some (.ref (ad 10)), none, none, some (.int v3), some (.int x4_46)]) hG dX10_workshopByMarks_46 ki_1 rfl hx4_46 rfl rfl rfl ?_
  refine s_goto (tgt := 11) hG dX10_workshopByMarks_49 rfl ?_
  exact s_wk hG (hK11 _ _ _ _ h) ⟨rfl, rfl, rfl, trivial⟩
def wX10_workshopByMarks_j43 (N : Nat) (K11 : Int32 → Int32 → gFG → gFF → Prop) (Q : Int32 → gFG → gFF → Prop) (v4 : Int32) (g : gFG) (f : gFF) : Prop := wX10_workshopByMarks_j46 N (K11) Q v4 v4 g f
theorem sX10_workshopByMarks_j43 {G : gG} {Rt : Option Value → gSt → Prop} (hE : gInj layC ad) (hG : gSim l D cs layC ad (gZc ad tX tY sK sV) 4 RX10 cX10_workshopByMarks 5 (some .int) G Rt) {Q : Int32 → gFG → gFF → Prop} (hQ : ∀ v S, gQi Q v S → Rt v S) {N : Nat} {K11 : Int32 → Int32 → gFG → gFF → Prop}  {v4 : Int32} {g : gFG} {f : gFF} (hK11 : ∀ (uv3 : Int32) (uv4 : Int32) (ug : gFG) (uf : gFF), K11 uv3 uv4 ug uf → G 11 [some (.ref (ad 10)), none, none, some (.int uv3), some (.int uv4)] [] (ug, uf, 0)) (h : wX10_workshopByMarks_j43 N K11 Q v4 g f) : G 43 [some (.ref (ad 10)), none, none, none, some (.int v4)] [] (g, f, 0) := by
  unfold wX10_workshopByMarks_j43 at h
  refine s_iload (n := 45) hG dX10_workshopByMarks_43 rfl rfl ?_
  refine s_istore_n (n := 46) (lv2 := [some (.ref (ad 10)), none, none, some (.int v4), some (.int v4)]) hG dX10_workshopByMarks_45 rfl rfl rfl ?_
  exact s_wk hG (sX10_workshopByMarks_j46 hE hG hQ hK11 h) ⟨rfl, rfl, rfl, trivial⟩
def wX10_workshopByMarks_l11 (N : Nat)   (Q : Int32 → gFG → gFF → Prop) : Nat → Int32 → Int32 → gFG → gFF → Prop
  | 0, _, _, _, _ => False
  | n + 1, v3, v4, g, f => ((8 ≤ v4) → Q v3 g f) ∧ ((¬ 8 ≤ v4) → (vp_in v4 8) ∧ ((((f 56 v4.toNatClampNeg) ≤ 0) → wX10_workshopByMarks_j46 N (wX10_workshopByMarks_l11 N   Q n) Q v3 v4 g f) ∧ ((¬ (f 56 v4.toNatClampNeg) ≤ 0) → ((v3 = (-1)) → wX10_workshopByMarks_j43 N (wX10_workshopByMarks_l11 N   Q n) Q v4 g f) ∧ ((¬ v3 = (-1)) → wX10_isLiker N v4 v3 g f (fun r37 g37 f37 => ((r37 = 0) → wX10_workshopByMarks_j46 N (wX10_workshopByMarks_l11 N   Q n) Q v3 v4 g37 f37) ∧ ((¬ r37 = 0) → wX10_workshopByMarks_j43 N (wX10_workshopByMarks_l11 N   Q n) Q v4 g37 f37))))))
theorem sX10_workshopByMarks_l11 {G : gG} {Rt : Option Value → gSt → Prop} (hE : gInj layC ad) (hG : gSim l D cs layC ad (gZc ad tX tY sK sV) 4 RX10 cX10_workshopByMarks 5 (some .int) G Rt) {Q : Int32 → gFG → gFF → Prop} (hQ : ∀ v S, gQi Q v S → Rt v S) {N : Nat}     : ∀ (n : Nat) (v3 : Int32) (v4 : Int32) (g : gFG) (f : gFF), wX10_workshopByMarks_l11 N   Q n v3 v4 g f → G 11 [some (.ref (ad 10)), none, none, some (.int v3), some (.int v4)] [] (g, f, 0) := by
  intro n
  induction n with
  | zero => intro _ _ _ _ h; unfold wX10_workshopByMarks_l11 at h; exact h.elim
  | succ n ih =>
    intro v3 v4 g f h
    unfold wX10_workshopByMarks_l11 at h
    refine s_iload (n := 13) hG dX10_workshopByMarks_11 rfl rfl ?_
    refine s_bipush (n := 15) hG dX10_workshopByMarks_13 kb_8 rfl ?_
    refine s_icmp_ge (n := 18) (tgt := 52) hG dX10_workshopByMarks_15 rfl rfl (fun c => ?_) (fun c => ?_)
    · replace h := h.1 c
      refine s_iload_n (n := 53) hG dX10_workshopByMarks_52 rfl rfl ?_
      exact s_iret hG dX10_workshopByMarks_53 (hQ _ _ ⟨_, _, _, rfl, rfl, h⟩)
    · replace h := h.2 c
      refine s_aload_n (n := 19) hG dX10_workshopByMarks_18 rfl rfl ?_
      refine gtX10_27 (n := 22) hG dX10_workshopByMarks_19 rfl ?_
      refine s_iload (n := 24) hG dX10_workshopByMarks_22 rfl rfl ?_
      obtain ⟨hin, h⟩ := h
      refine s_iald (n := 25) hG dX10_workshopByMarks_24 (gaC_56 hin) rfl ?_
      refine s_if_le (n := 28) (tgt := 46) hG dX10_workshopByMarks_25 rfl rfl (fun c => ?_) (fun c => ?_)
      · replace h := h.1 c
        exact s_wk hG (sX10_workshopByMarks_j46 hE hG hQ ih h) ⟨rfl, rfl, rfl, trivial⟩
      · replace h := h.2 c
        refine s_iload_n (n := 29) hG dX10_workshopByMarks_28 rfl rfl ?_
        refine s_iconst (n := 30) hG dX10_workshopByMarks_29 ki_m1 rfl ?_
        refine s_icmp_eq (n := 33) (tgt := 43) hG dX10_workshopByMarks_30 rfl rfl (fun c => ?_) (fun c => ?_)
        · replace h := h.1 c
          exact s_wk hG (sX10_workshopByMarks_j43 hE hG hQ ih h) ⟨rfl, rfl, trivial⟩
        · replace h := h.2 c
          refine s_aload_n (n := 34) hG dX10_workshopByMarks_33 rfl rfl ?_
          refine s_iload (n := 36) hG dX10_workshopByMarks_34 rfl rfl ?_
          refine s_iload_n (n := 37) hG dX10_workshopByMarks_36 rfl rfl ?_
          refine s_callV (n := 40) (st := []) hG (mX10_isLiker hE h) ceX10_isLiker lmX10_52 ⟨by decide, rfl, rfl⟩ rfl ⟨rfl, Nat.le_of_ble_eq_true rfl, by decide⟩ dX10_workshopByMarks_37 rfl ?_
          rintro _ _ ⟨r37, g37, f37, rfl, rfl, h⟩
          refine s_if_eq (n := 43) (tgt := 46) hG dX10_workshopByMarks_40 rfl rfl (fun c => ?_) (fun c => ?_)
          · replace h := h.1 c
            exact s_wk hG (sX10_workshopByMarks_j46 hE hG hQ ih h) ⟨rfl, rfl, rfl, trivial⟩
          · replace h := h.2 c
            exact s_wk hG (sX10_workshopByMarks_j43 hE hG hQ ih h) ⟨rfl, rfl, trivial⟩
def wX10_workshopByMarks (N : Nat) (a1 : Int32) (a2 : Int32) (g : gFG) (f : gFF) (Q : Int32 → gFG → gFF → Prop) : Prop := wX10_compareWithOthers N a1 a2 g f (fun g3 f3 => wX10_workshopByMarks_l11 N  Q N (-1) 0 g3 f3)
theorem mX10_workshopByMarks (hE : gInj layC ad) {N : Nat} {a1 : Int32} {a2 : Int32} {g : gFG} {f : gFF} {Q : Int32 → gFG → gFF → Prop} (h : wX10_workshopByMarks N a1 a2 g f Q) : gCT l D cs layC ad (gZc ad tX tY sK sV) 4 yX10_workshopByMarks cX10_workshopByMarks 5 (some .int) [.ref (ad 10), .int a1, .int a2] (g, f, 0) (gQi Q) := by
  refine met_walk (lv0 := [some (.ref (ad 10)), some (.int a1), some (.int a2), none, none]) ⟨hE, gZc_ok _ _ _ _ _⟩ (by decide) (Nat.le_of_ble_eq_true rfl) rfl (fun G Rt hG hQ => ?_)
  replace hG : gSim l D cs layC ad (gZc ad tX tY sK sV) 4 RX10 cX10_workshopByMarks 5 (some .int) G Rt := hG
  unfold wX10_workshopByMarks at h
  refine s_aload_n (n := 1) hG dX10_workshopByMarks_0 rfl rfl ?_
  refine s_iload_n (n := 2) hG dX10_workshopByMarks_1 rfl rfl ?_
  refine s_iload_n (n := 3) hG dX10_workshopByMarks_2 rfl rfl ?_
  refine s_callV (n := 6) (st := []) hG (mX10_compareWithOthers hE h) ceX10_compareWithOthers lmX10_48 ⟨by decide, rfl, rfl⟩ rfl ⟨rfl, Nat.le_of_ble_eq_true rfl, by decide⟩ dX10_workshopByMarks_3 rfl ?_
  rintro _ _ ⟨g3, f3, rfl, rfl, h⟩
  refine s_iconst (n := 7) hG dX10_workshopByMarks_6 ki_m1 rfl ?_
  refine s_istore_n (n := 8) (lv2 := [some (.ref (ad 10)), some (.int a1), some (.int a2), some (.int (-1)), none]) hG dX10_workshopByMarks_7 rfl rfl rfl ?_
  refine s_iconst (n := 9) hG dX10_workshopByMarks_8 ki_0 rfl ?_
  refine s_istore (n := 11) (lv2 := [some (.ref (ad 10)), some (.int a1), some (.int a2), some (.int (-1)), some (.int 0)]) hG dX10_workshopByMarks_9 rfl rfl rfl ?_
  exact s_wk hG (sX10_workshopByMarks_l11 hE hG hQ  N _ _ _ _ h) ⟨rfl, rfl, rfl, trivial⟩
end GWb
