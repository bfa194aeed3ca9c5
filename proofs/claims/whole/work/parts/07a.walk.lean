section GWa
variable {l : Launch} {D : va_G} {cs : gCs} {ad : Nat → Nat} {tX tY : Nat} {sK sV : Nat → Nat}
def wJ7_fill_53178_l5 (N : Nat) (v0 : Nat) (v1 : Int32) (v3 : Int32)  (Q : gFG → gFF → Prop) : Nat → Int32 → gFG → gFF → Prop
  | 0, _, _, _ => False
  | n + 1, v2, g, f => ((v3 ≤ v2) → Q g f) ∧ ((¬ v3 ≤ v2) → (gia layC v0 v2) ∧ (∀ f13 : gFF, f13 = (va_up f v0 (upd (f v0) v2.toNatClampNeg v1)) → ∀ x2_14 : Int32, x2_14 = (v2 + 1) → wJ7_fill_53178_l5 N v0 v1 v3  Q n x2_14 g f13))
theorem sJ7_fill_53178_l5 {G : gG} {Rt : Option Value → gSt → Prop} (hE : gInj layC ad) (hG : gSim l D cs layC ad (gZc ad tX tY sK sV) 1 RJ7 cJ7_fill_53178 4 none G Rt) {Q : gFG → gFF → Prop} (hQ : ∀ v S, gQv Q v S → Rt v S) {N : Nat} {v0 : Nat} {v1 : Int32} {v3 : Int32}    : ∀ (n : Nat) (v2 : Int32) (g : gFG) (f : gFF), wJ7_fill_53178_l5 N v0 v1 v3  Q n v2 g f → G 5 [some (.ref (ad v0)), some (.int v1), some (.int v2), some (.int v3)] [] (g, f, 0) := by
  intro n
  induction n with
  | zero => intro _ _ _ h; unfold wJ7_fill_53178_l5 at h; exact h.elim
  | succ n ih =>
    intro v2 g f h
    unfold wJ7_fill_53178_l5 at h
    refine s_iload_n (n := 6) hG dJ7_fill_53178_5 rfl rfl ?_
    refine s_iload_n (n := 7) hG dJ7_fill_53178_6 rfl rfl ?_
    refine s_icmp_ge (n := 10) (tgt := 20) hG dJ7_fill_53178_7 rfl rfl (fun c => ?_) (fun c => ?_)
    · replace h := h.1 c
      exact s_vret hG dJ7_fill_53178_20 (hQ _ _ ⟨_, _, rfl, rfl, h⟩)
    · replace h := h.2 c
      refine s_aload_n (n := 11) hG dJ7_fill_53178_10 rfl rfl ?_
      refine s_iload_n (n := 12) hG dJ7_fill_53178_11 rfl rfl ?_
      refine s_iload_n (n := 13) hG dJ7_fill_53178_12 rfl rfl ?_
      obtain ⟨hin, h⟩ := h
      refine s_iast (n := 14) hG dJ7_fill_53178_13 hin rfl ?_
      refine s_nf (fun f13 hf13 => ?_)
      replace h := h f13 hf13
      obtain ⟨x2_14, hx2_14⟩ : ∃ z : Int32, z = (v2 + 1) := ⟨_, rfl⟩
      replace h := h x2_14 hx2_14
      refine s_iinc (n := 17) (v := x2_14) (lv2 := [some (.ref (ad v0)), some (.int v1), some (.int x2_14), some (.int v3)]) hG dJ7_fill_53178_14 ki_1 rfl hx2_14 rfl rfl rfl ?_
      refine s_goto (tgt := 5) hG dJ7_fill_53178_17 rfl ?_
      exact s_wk hG (ih _ _ _ h) ⟨rfl, rfl, rfl, rfl, trivial⟩
def wJ7_fill_53178 (N : Nat) (a1 : Nat) (a2 : Int32) (g : gFG) (f : gFF) (Q : gFG → gFF → Prop) : Prop := (a1 < 57 ∧ kdC a1 = 1) ∧ (∀ x3_4 : Int32, x3_4 = (Int32.ofNat (lnC a1)) → wJ7_fill_53178_l5 N a1 a2 x3_4 Q N 0 g f)
theorem mJ7_fill_53178 (hE : gInj layC ad) {N : Nat} {a1 : Nat} {a2 : Int32} {g : gFG} {f : gFF} {Q : gFG → gFF → Prop} (h : wJ7_fill_53178 N a1 a2 g f Q) : gCT l D cs layC ad (gZc ad tX tY sK sV) 1 yJ7_fill_53178 cJ7_fill_53178 4 none [.ref (ad a1), .int a2] (g, f, 0) (gQv Q) := by
  refine met_walk (lv0 := [some (.ref (ad a1)), some (.int a2), none, none]) ⟨hE, gZc_ok _ _ _ _ _⟩ (by decide) (Nat.le_of_ble_eq_true rfl) rfl (fun G Rt hG hQ => ?_)
  replace hG : gSim l D cs layC ad (gZc ad tX tY sK sV) 1 RJ7 cJ7_fill_53178 4 none G Rt := hG
  unfold wJ7_fill_53178 at h
  refine s_iconst (n := 1) hG dJ7_fill_53178_0 ki_0 rfl ?_
  refine s_istore_n (n := 2) (lv2 := [some (.ref (ad a1)), some (.int a2), some (.int 0), none]) hG dJ7_fill_53178_1 rfl rfl rfl ?_
  refine s_aload_n (n := 3) hG dJ7_fill_53178_2 rfl rfl ?_
  obtain ⟨hin, h⟩ := h
  refine s_ialen (n := 4) hG dJ7_fill_53178_3 hin rfl rfl ?_
  refine s_topi (fun x3_4 hx3_4 => ?_)
  replace h := h x3_4 hx3_4
  refine s_istore_n (n := 5) (lv2 := [some (.ref (ad a1)), some (.int a2), some (.int 0), some (.int x3_4)]) hG dJ7_fill_53178_4 rfl rfl rfl ?_
  exact s_wk hG (sJ7_fill_53178_l5 hE hG hQ  N _ _ _ h) ⟨rfl, rfl, rfl, rfl, trivial⟩
def wX0_clear (N : Nat)  (g : gFG) (f : gFF) (Q : gFG → gFF → Prop) : Prop := wJ7_fill_53178 N 43 0 g f (fun g5 f5 => Q g5 f5)
theorem mX0_clear (hE : gInj layC ad) {N : Nat}  {g : gFG} {f : gFF} {Q : gFG → gFF → Prop} (h : wX0_clear N  g f Q) : gCT l D cs layC ad (gZc ad tX tY sK sV) 2 yX0_clear cX0_clear 1 none [.ref (ad 6)] (g, f, 0) (gQv Q) := by
  refine met_walk (lv0 := [some (.ref (ad 6))]) ⟨hE, gZc_ok _ _ _ _ _⟩ (by decide) (Nat.le_of_ble_eq_true rfl) rfl (fun G Rt hG hQ => ?_)
  replace hG : gSim l D cs layC ad (gZc ad tX tY sK sV) 2 RX0 cX0_clear 1 none G Rt := hG
  unfold wX0_clear at h
  refine s_aload_n (n := 1) hG dX0_clear_0 rfl rfl ?_
  refine gtX0_9 (n := 4) hG dX0_clear_1 rfl ?_
  refine s_iconst (n := 5) hG dX0_clear_4 ki_0 rfl ?_
  refine s_callS (n := 8) (st := []) hG (mJ7_fill_53178 hE h) ceJ7_fill_53178 lmX0_19 rfl ⟨rfl, Nat.le_of_ble_eq_true rfl, by decide⟩ dX0_clear_5 rfl ?_
  rintro _ _ ⟨g5, f5, rfl, rfl, h⟩
  exact s_vret hG dX0_clear_8 (hQ _ _ ⟨_, _, rfl, rfl, h⟩)
def wX0_put (N : Nat) (a1 : Int32) (a2 : Int32) (g : gFG) (f : gFF) (Q : gFG → gFF → Prop) : Prop := ((a1 < 0) → Q g f) ∧ ((¬ a1 < 0) → ((6 ≤ a1) → Q g f) ∧ ((¬ 6 ≤ a1) → (vp_in a1 6) ∧ (∀ f16 : gFF, f16 = (va_up f 43 (upd (f 43) a1.toNatClampNeg a2)) → Q g f16)))
theorem mX0_put (hE : gInj layC ad) {N : Nat} {a1 : Int32} {a2 : Int32} {g : gFG} {f : gFF} {Q : gFG → gFF → Prop} (h : wX0_put N a1 a2 g f Q) : gCT l D cs layC ad (gZc ad tX tY sK sV) 1 yX0_put cX0_put 3 none [.ref (ad 6), .int a1, .int a2] (g, f, 0) (gQv Q) := by
  refine met_walk (lv0 := [some (.ref (ad 6)), some (.int a1), some (.int a2)]) ⟨hE, gZc_ok _ _ _ _ _⟩ (by decide) (Nat.le_of_ble_eq_true rfl) rfl (fun G Rt hG hQ => ?_)
  replace hG : gSim l D cs layC ad (gZc ad tX tY sK sV) 1 RX0 cX0_put 3 none G Rt := hG
  unfold wX0_put at h
  refine s_iload_n (n := 1) hG dX0_put_0 rfl rfl ?_
  refine s_if_lt (n := 4) (tgt := 17) hG dX0_put_1 rfl rfl (fun c => ?_) (fun c => ?_)
  · replace h := h.1 c
    exact s_vret hG dX0_put_17 (hQ _ _ ⟨_, _, rfl, rfl, h⟩)
  · replace h := h.2 c
    refine s_iload_n (n := 5) hG dX0_put_4 rfl rfl ?_
    refine s_bipush (n := 7) hG dX0_put_5 kb_6 rfl ?_
    refine s_icmp_ge (n := 10) (tgt := 17) hG dX0_put_7 rfl rfl (fun c => ?_) (fun c => ?_)
    · replace h := h.1 c
      exact s_vret hG dX0_put_17 (hQ _ _ ⟨_, _, rfl, rfl, h⟩)
    · replace h := h.2 c
      refine s_aload_n (n := 11) hG dX0_put_10 rfl rfl ?_
      refine gtX0_9 (n := 14) hG dX0_put_11 rfl ?_
      refine s_iload_n (n := 15) hG dX0_put_14 rfl rfl ?_
      refine s_iload_n (n := 16) hG dX0_put_15 rfl rfl ?_
      obtain ⟨hin, h⟩ := h
      refine s_iast (n := 17) hG dX0_put_16 (gaC_43 hin) rfl ?_
      refine s_nf (fun f16 hf16 => ?_)
      replace h := h f16 hf16
      exact s_vret hG dX0_put_17 (hQ _ _ ⟨_, _, rfl, rfl, h⟩)
def wX0_total_l4 (N : Nat)   (Q : Int32 → gFG → gFF → Prop) : Nat → Int32 → Int32 → gFG → gFF → Prop
  | 0, _, _, _, _ => False
  | n + 1, v1, v2, g, f => ((6 ≤ v2) → Q v1 g f) ∧ ((¬ 6 ≤ v2) → (vp_in v2 6) ∧ (∀ x1_18 : Int32, x1_18 = (v1 + (f 43 v2.toNatClampNeg)) → ∀ x2_19 : Int32, x2_19 = (v2 + 1) → wX0_total_l4 N   Q n x1_18 x2_19 g f))
theorem sX0_total_l4 {G : gG} {Rt : Option Value → gSt → Prop} (hE : gInj layC ad) (hG : gSim l D cs layC ad (gZc ad tX tY sK sV) 1 RX0 cX0_total 3 (some .int) G Rt) {Q : Int32 → gFG → gFF → Prop} (hQ : ∀ v S, gQi Q v S → Rt v S) {N : Nat}     : ∀ (n : Nat) (v1 : Int32) (v2 : Int32) (g : gFG) (f : gFF), wX0_total_l4 N   Q n v1 v2 g f → G 4 [some (.ref (ad 6)), some (.int v1), some (.int v2)] [] (g, f, 0) := by
  intro n
  induction n with
  | zero => intro _ _ _ _ h; unfold wX0_total_l4 at h; exact h.elim
  | succ n ih =>
    intro v1 v2 g f h
    unfold wX0_total_l4 at h
    refine s_iload_n (n := 5) hG dX0_total_4 rfl rfl ?_
    refine s_bipush (n := 7) hG dX0_total_5 kb_6 rfl ?_
    refine s_icmp_ge (n := 10) (tgt := 25) hG dX0_total_7 rfl rfl (fun c => ?_) (fun c => ?_)
    · replace h := h.1 c
      refine s_iload_n (n := 26) hG dX0_total_25 rfl rfl ?_
      exact s_iret hG dX0_total_26 (hQ _ _ ⟨_, _, _, rfl, rfl, h⟩)
    · replace h := h.2 c
      refine s_iload_n (n := 11) hG dX0_total_10 rfl rfl ?_
      refine s_aload_n (n := 12) hG dX0_total_11 rfl rfl ?_
      refine gtX0_9 (n := 15) hG dX0_total_12 rfl ?_
      refine s_iload_n (n := 16) hG dX0_total_15 rfl rfl ?_
      obtain ⟨hin, h⟩ := h
      refine s_iald (n := 17) hG dX0_total_16 (gaC_43 hin) rfl ?_
      refine s_iadd (n := 18) hG dX0_total_17 rfl ?_
      refine s_topi (fun x1_18 hx1_18 => ?_)
      replace h := h x1_18 hx1_18
      refine s_istore_n (n := 19) (lv2 := [some (.ref (ad 6)), some (.int x1_18), some (.int v2)]) hG dX0_total_18 rfl rfl rfl ?_
      obtain ⟨x2_19, hx2_19⟩ : ∃ z : Int32, z = (v2 + 1) := ⟨_, rfl⟩
      replace h := h x2_19 hx2_19
      refine s_iinc (n := 22) (v := x2_19) (lv2 := [some (.ref (ad 6)), some (.int x1_18), some (.int x2_19)]) hG dX0_total_19 ki_1 rfl hx2_19 rfl rfl rfl ?_
      refine s_goto (tgt := 4) hG dX0_total_22 rfl ?_
      exact s_wk hG (ih _ _ _ _ h) ⟨rfl, rfl, rfl, trivial⟩
def wX0_total (N : Nat)  (g : gFG) (f : gFF) (Q : Int32 → gFG → gFF → Prop) : Prop := wX0_total_l4 N  Q N 0 0 g f
theorem mX0_total (hE : gInj layC ad) {N : Nat}  {g : gFG} {f : gFF} {Q : Int32 → gFG → gFF → Prop} (h : wX0_total N  g f Q) : gCT l D cs layC ad (gZc ad tX tY sK sV) 1 yX0_total cX0_total 3 (some .int) [.ref (ad 6)] (g, f, 0) (gQi Q) := by
  refine met_walk (lv0 := [some (.ref (ad 6)), none, none]) ⟨hE, gZc_ok _ _ _ _ _⟩ (by decide) (Nat.le_of_ble_eq_true rfl) rfl (fun G Rt hG hQ => ?_)
  replace hG : gSim l D cs layC ad (gZc ad tX tY sK sV) 1 RX0 cX0_total 3 (some .int) G Rt := hG
  unfold wX0_total at h
  refine s_iconst (n := 1) hG dX0_total_0 ki_0 rfl ?_
  refine s_istore_n (n := 2) (lv2 := [some (.ref (ad 6)), some (.int 0), none]) hG dX0_total_1 rfl rfl rfl ?_
  refine s_iconst (n := 3) hG dX0_total_2 ki_0 rfl ?_
  refine s_istore_n (n := 4) (lv2 := [some (.ref (ad 6)), some (.int 0), some (.int 0)]) hG dX0_total_3 rfl rfl rfl ?_
  exact s_wk hG (sX0_total_l4 hE hG hQ  N _ _ _ _ h) ⟨rfl, rfl, rfl, trivial⟩
def wX0_isThere (N : Nat)  (g : gFG) (f : gFF) (Q : Int32 → gFG → gFF → Prop) : Prop := wX0_total N g f (fun r1 g1 f1 => ((r1 ≤ 0) → Q 0 g1 f1) ∧ ((¬ r1 ≤ 0) → Q 1 g1 f1))
theorem mX0_isThere (hE : gInj layC ad) {N : Nat}  {g : gFG} {f : gFF} {Q : Int32 → gFG → gFF → Prop} (h : wX0_isThere N  g f Q) : gCT l D cs layC ad (gZc ad tX tY sK sV) 2 yX0_isThere cX0_isThere 1 (some .boolean) [.ref (ad 6)] (g, f, 0) (gQi Q) := by
  refine met_walk (lv0 := [some (.ref (ad 6))]) ⟨hE, gZc_ok _ _ _ _ _⟩ (by decide) (Nat.le_of_ble_eq_true rfl) rfl (fun G Rt hG hQ => ?_)
  replace hG : gSim l D cs layC ad (gZc ad tX tY sK sV) 2 RX0 cX0_isThere 1 (some .boolean) G Rt := hG
  unfold wX0_isThere at h
  refine s_aload_n (n := 1) hG dX0_isThere_0 rfl rfl ?_
  refine s_callV (n := 4) (st := []) hG (mX0_total hE h) ceX0_total lmX0_25 ⟨by decide, rfl, rfl⟩ rfl ⟨rfl, Nat.le_of_ble_eq_true rfl, by decide⟩ dX0_isThere_1 rfl ?_
  rintro _ _ ⟨r1, g1, f1, rfl, rfl, h⟩
  refine s_if_le (n := 7) (tgt := 11) hG dX0_isThere_4 rfl rfl (fun c => ?_) (fun c => ?_)
  · replace h := h.1 c
    refine s_iconst (n := 12) hG dX0_isThere_11 ki_0 rfl ?_
    exact s_zret hG dX0_isThere_12 (gz_n gz_0) (hQ _ _ ⟨_, _, _, rfl, rfl, h⟩)
  · replace h := h.2 c
    refine s_iconst (n := 8) hG dX0_isThere_7 ki_1 rfl ?_
    refine s_goto (tgt := 12) hG dX0_isThere_8 rfl ?_
    exact s_zret hG dX0_isThere_12 (gz_n gz_1) (hQ _ _ ⟨_, _, _, rfl, rfl, h⟩)
def wX0_unitsOf (N : Nat) (a1 : Int32) (g : gFG) (f : gFF) (Q : Int32 → gFG → gFF → Prop) : Prop := ((a1 < 0) → Q 0 g f) ∧ ((¬ a1 < 0) → ((6 ≤ a1) → Q 0 g f) ∧ ((¬ 6 ≤ a1) → (vp_in a1 6) ∧ (Q (f 43 a1.toNatClampNeg) g f)))
theorem mX0_unitsOf (hE : gInj layC ad) {N : Nat} {a1 : Int32} {g : gFG} {f : gFF} {Q : Int32 → gFG → gFF → Prop} (h : wX0_unitsOf N a1 g f Q) : gCT l D cs layC ad (gZc ad tX tY sK sV) 1 yX0_unitsOf cX0_unitsOf 2 (some .int) [.ref (ad 6), .int a1] (g, f, 0) (gQi Q) := by
  refine met_walk (lv0 := [some (.ref (ad 6)), some (.int a1)]) ⟨hE, gZc_ok _ _ _ _ _⟩ (by decide) (Nat.le_of_ble_eq_true rfl) rfl (fun G Rt hG hQ => ?_)
  replace hG : gSim l D cs layC ad (gZc ad tX tY sK sV) 1 RX0 cX0_unitsOf 2 (some .int) G Rt := hG
  unfold wX0_unitsOf at h
  refine s_iload_n (n := 1) hG dX0_unitsOf_0 rfl rfl ?_
  refine s_if_lt (n := 4) (tgt := 19) hG dX0_unitsOf_1 rfl rfl (fun c => ?_) (fun c => ?_)
  · replace h := h.1 c
    refine s_iconst (n := 20) hG dX0_unitsOf_19 ki_0 rfl ?_
    exact s_iret hG dX0_unitsOf_20 (hQ _ _ ⟨_, _, _, rfl, rfl, h⟩)
  · replace h := h.2 c
    refine s_iload_n (n := 5) hG dX0_unitsOf_4 rfl rfl ?_
    refine s_bipush (n := 7) hG dX0_unitsOf_5 kb_6 rfl ?_
    refine s_icmp_ge (n := 10) (tgt := 19) hG dX0_unitsOf_7 rfl rfl (fun c => ?_) (fun c => ?_)
    · replace h := h.1 c
      refine s_iconst (n := 20) hG dX0_unitsOf_19 ki_0 rfl ?_
      exact s_iret hG dX0_unitsOf_20 (hQ _ _ ⟨_, _, _, rfl, rfl, h⟩)
    · replace h := h.2 c
      refine s_aload_n (n := 11) hG dX0_unitsOf_10 rfl rfl ?_
      refine gtX0_9 (n := 14) hG dX0_unitsOf_11 rfl ?_
      refine s_iload_n (n := 15) hG dX0_unitsOf_14 rfl rfl ?_
      obtain ⟨hin, h⟩ := h
      refine s_iald (n := 16) hG dX0_unitsOf_15 (gaC_43 hin) rfl ?_
      refine s_goto (tgt := 20) hG dX0_unitsOf_16 rfl ?_
      exact s_iret hG dX0_unitsOf_20 (hQ _ _ ⟨_, _, _, rfl, rfl, h⟩)
def wX4_has (N : Nat) (a1 : Int32) (g : gFG) (f : gFF) (Q : Int32 → gFG → gFF → Prop) : Prop := ((a1 < 0) → Q 0 g f) ∧ ((¬ a1 < 0) → (((g 13) ≤ a1) → Q 0 g f) ∧ ((¬ (g 13) ≤ a1) → ((6 ≤ a1) → Q 0 g f) ∧ ((¬ 6 ≤ a1) → Q 1 g f)))
theorem mX4_has (hE : gInj layC ad) {N : Nat} {a1 : Int32} {g : gFG} {f : gFF} {Q : Int32 → gFG → gFF → Prop} (h : wX4_has N a1 g f Q) : gCT l D cs layC ad (gZc ad tX tY sK sV) 1 yX4_has cX4_has 2 (some .boolean) [.ref (ad 4), .int a1] (g, f, 0) (gQi Q) := by
  refine met_walk (lv0 := [some (.ref (ad 4)), some (.int a1)]) ⟨hE, gZc_ok _ _ _ _ _⟩ (by decide) (Nat.le_of_ble_eq_true rfl) rfl (fun G Rt hG hQ => ?_)
  replace hG : gSim l D cs layC ad (gZc ad tX tY sK sV) 1 RX4 cX4_has 2 (some .boolean) G Rt := hG
  unfold wX4_has at h
  refine s_iload_n (n := 1) hG dX4_has_0 rfl rfl ?_
  refine s_if_lt (n := 4) (tgt := 22) hG dX4_has_1 rfl rfl (fun c => ?_) (fun c => ?_)
  · replace h := h.1 c
    refine s_iconst (n := 23) hG dX4_has_22 ki_0 rfl ?_
    exact s_zret hG dX4_has_23 (gz_n gz_0) (hQ _ _ ⟨_, _, _, rfl, rfl, h⟩)
  · replace h := h.2 c
    refine s_iload_n (n := 5) hG dX4_has_4 rfl rfl ?_
    refine s_aload_n (n := 6) hG dX4_has_5 rfl rfl ?_
    refine gtX4_24 (n := 9) hG dX4_has_6 rfl ?_
    refine s_icmp_ge (n := 12) (tgt := 22) hG dX4_has_9 rfl rfl (fun c => ?_) (fun c => ?_)
    · replace h := h.1 c
      refine s_iconst (n := 23) hG dX4_has_22 ki_0 rfl ?_
      exact s_zret hG dX4_has_23 (gz_n gz_0) (hQ _ _ ⟨_, _, _, rfl, rfl, h⟩)
    · replace h := h.2 c
      refine s_iload_n (n := 13) hG dX4_has_12 rfl rfl ?_
      refine s_bipush (n := 15) hG dX4_has_13 kb_6 rfl ?_
      refine s_icmp_ge (n := 18) (tgt := 22) hG dX4_has_15 rfl rfl (fun c => ?_) (fun c => ?_)
      · replace h := h.1 c
        refine s_iconst (n := 23) hG dX4_has_22 ki_0 rfl ?_
        exact s_zret hG dX4_has_23 (gz_n gz_0) (hQ _ _ ⟨_, _, _, rfl, rfl, h⟩)
      · replace h := h.2 c
        refine s_iconst (n := 19) hG dX4_has_18 ki_1 rfl ?_
        refine s_goto (tgt := 23) hG dX4_has_19 rfl ?_
        exact s_zret hG dX4_has_23 (gz_n gz_1) (hQ _ _ ⟨_, _, _, rfl, rfl, h⟩)
def wX4_tinAt (N : Nat) (a1 : Int32) (g : gFG) (f : gFF) (Q : Int32 → gFG → gFF → Prop) : Prop := wX4_has N a1 g f (fun r2 g2 f2 => ((r2 = 0) → Q 0 g2 f2) ∧ ((¬ r2 = 0) → (vp_in a1 6) ∧ (Q (f2 20 a1.toNatClampNeg) g2 f2)))
theorem mX4_tinAt (hE : gInj layC ad) {N : Nat} {a1 : Int32} {g : gFG} {f : gFF} {Q : Int32 → gFG → gFF → Prop} (h : wX4_tinAt N a1 g f Q) : gCT l D cs layC ad (gZc ad tX tY sK sV) 2 yX4_tinAt cX4_tinAt 2 (some .int) [.ref (ad 4), .int a1] (g, f, 0) (gQi Q) := by
  refine met_walk (lv0 := [some (.ref (ad 4)), some (.int a1)]) ⟨hE, gZc_ok _ _ _ _ _⟩ (by decide) (Nat.le_of_ble_eq_true rfl) rfl (fun G Rt hG hQ => ?_)
  replace hG : gSim l D cs layC ad (gZc ad tX tY sK sV) 2 RX4 cX4_tinAt 2 (some .int) G Rt := hG
  unfold wX4_tinAt at h
  refine s_aload_n (n := 1) hG dX4_tinAt_0 rfl rfl ?_
  refine s_iload_n (n := 2) hG dX4_tinAt_1 rfl rfl ?_
  refine s_callV (n := 5) (st := []) hG (mX4_has hE h) ceX4_has lmX4_32 ⟨by decide, rfl, rfl⟩ rfl ⟨rfl, Nat.le_of_ble_eq_true rfl, by decide⟩ dX4_tinAt_2 rfl ?_
  rintro _ _ ⟨r2, g2, f2, rfl, rfl, h⟩
  refine s_if_eq (n := 8) (tgt := 17) hG dX4_tinAt_5 rfl rfl (fun c => ?_) (fun c => ?_)
  · replace h := h.1 c
    refine s_iconst (n := 18) hG dX4_tinAt_17 ki_0 rfl ?_
    exact s_iret hG dX4_tinAt_18 (hQ _ _ ⟨_, _, _, rfl, rfl, h⟩)
  · replace h := h.2 c
    refine s_aload_n (n := 9) hG dX4_tinAt_8 rfl rfl ?_
    refine gtX4_9 (n := 12) hG dX4_tinAt_9 rfl ?_
    refine s_iload_n (n := 13) hG dX4_tinAt_12 rfl rfl ?_
    obtain ⟨hin, h⟩ := h
    refine s_iald (n := 14) hG dX4_tinAt_13 (gaC_20 hin) rfl ?_
    refine s_goto (tgt := 18) hG dX4_tinAt_14 rfl ?_
    exact s_iret hG dX4_tinAt_18 (hQ _ _ ⟨_, _, _, rfl, rfl, h⟩)
def wX0_tin_l4 (N : Nat)   (Q : Int32 → gFG → gFF → Prop) : Nat → Int32 → Int32 → gFG → gFF → Prop
  | 0, _, _, _, _ => False
  | n + 1, v1, v2, g, f => ((6 ≤ v2) → Q v1 g f) ∧ ((¬ 6 ≤ v2) → (vp_in v2 6) ∧ (wX4_tinAt N v2 g f (fun r22 g22 f22 => ∀ x1_27 : Int32, x1_27 = (v1 + ((f 43 v2.toNatClampNeg) * r22)) → ∀ x2_28 : Int32, x2_28 = (v2 + 1) → wX0_tin_l4 N   Q n x1_27 x2_28 g22 f22)))
theorem sX0_tin_l4 {G : gG} {Rt : Option Value → gSt → Prop} (hE : gInj layC ad) (hG : gSim l D cs layC ad (gZc ad tX tY sK sV) 3 RX0 cX0_tin 3 (some .int) G Rt) {Q : Int32 → gFG → gFF → Prop} (hQ : ∀ v S, gQi Q v S → Rt v S) {N : Nat}     : ∀ (n : Nat) (v1 : Int32) (v2 : Int32) (g : gFG) (f : gFF), wX0_tin_l4 N   Q n v1 v2 g f → G 4 [some (.ref (ad 6)), some (.int v1), some (.int v2)] [] (g, f, 0) := by
  intro n
  induction n with
  | zero => intro _ _ _ _ h; unfold wX0_tin_l4 at h; exact h.elim
  | succ n ih =>
    intro v1 v2 g f h
    unfold wX0_tin_l4 at h
    refine s_iload_n (n := 5) hG dX0_tin_4 rfl rfl ?_
    refine s_bipush (n := 7) hG dX0_tin_5 kb_6 rfl ?_
    refine s_icmp_ge (n := 10) (tgt := 34) hG dX0_tin_7 rfl rfl (fun c => ?_) (fun c => ?_)
    · replace h := h.1 c
      refine s_iload_n (n := 35) hG dX0_tin_34 rfl rfl ?_
      exact s_iret hG dX0_tin_35 (hQ _ _ ⟨_, _, _, rfl, rfl, h⟩)
    · replace h := h.2 c
      refine s_iload_n (n := 11) hG dX0_tin_10 rfl rfl ?_
      refine s_aload_n (n := 12) hG dX0_tin_11 rfl rfl ?_
      refine gtX0_9 (n := 15) hG dX0_tin_12 rfl ?_
      refine s_iload_n (n := 16) hG dX0_tin_15 rfl rfl ?_
      obtain ⟨hin, h⟩ := h
      refine s_iald (n := 17) hG dX0_tin_16 (gaC_43 hin) rfl ?_
      refine s_aload_n (n := 18) hG dX0_tin_17 rfl rfl ?_
      refine gtX0_15 (n := 21) hG dX0_tin_18 rfl ?_
      refine s_iload_n (n := 22) hG dX0_tin_21 rfl rfl ?_
      refine s_callV (n := 25) (st := [.int (f 43 v2.toNatClampNeg), .int v1]) hG (mX4_tinAt hE h) ceX4_tinAt lmX0_29 ⟨by decide, rfl, rfl⟩ rfl ⟨rfl, Nat.le_of_ble_eq_true rfl, by decide⟩ dX0_tin_22 rfl ?_
      rintro _ _ ⟨r22, g22, f22, rfl, rfl, h⟩
      refine s_imul (n := 26) hG dX0_tin_25 rfl ?_
      refine s_iadd (n := 27) hG dX0_tin_26 rfl ?_
      refine s_topi (fun x1_27 hx1_27 => ?_)
      replace h := h x1_27 hx1_27
      refine s_istore_n (n := 28) (lv2 := [some (.ref (ad 6)), some (.int x1_27), some (.int v2)]) hG dX0_tin_27 rfl rfl rfl ?_
      obtain ⟨x2_28, hx2_28⟩ : ∃ z : Int32, z = (v2 + 1) := ⟨_, rfl⟩
      replace h := h x2_28 hx2_28
      refine s_iinc (n := 31) (v := x2_28) (lv2 := [some (.ref (ad 6)), some (.int x1_27), some (.int x2_28)]) hG dX0_tin_28 ki_1 rfl hx2_28 rfl rfl rfl ?_
      refine s_goto (tgt := 4) hG dX0_tin_31 rfl ?_
      exact s_wk hG (ih _ _ _ _ h) ⟨rfl, rfl, rfl, trivial⟩
def wX0_tin (N : Nat)  (g : gFG) (f : gFF) (Q : Int32 → gFG → gFF → Prop) : Prop := wX0_tin_l4 N  Q N 0 0 g f
theorem mX0_tin (hE : gInj layC ad) {N : Nat}  {g : gFG} {f : gFF} {Q : Int32 → gFG → gFF → Prop} (h : wX0_tin N  g f Q) : gCT l D cs layC ad (gZc ad tX tY sK sV) 3 yX0_tin cX0_tin 3 (some .int) [.ref (ad 6)] (g, f, 0) (gQi Q) := by
  refine met_walk (lv0 := [some (.ref (ad 6)), none, none]) ⟨hE, gZc_ok _ _ _ _ _⟩ (by decide) (Nat.le_of_ble_eq_true rfl) rfl (fun G Rt hG hQ => ?_)
  replace hG : gSim l D cs layC ad (gZc ad tX tY sK sV) 3 RX0 cX0_tin 3 (some .int) G Rt := hG
  unfold wX0_tin at h
  refine s_iconst (n := 1) hG dX0_tin_0 ki_0 rfl ?_
  refine s_istore_n (n := 2) (lv2 := [some (.ref (ad 6)), some (.int 0), none]) hG dX0_tin_1 rfl rfl rfl ?_
  refine s_iconst (n := 3) hG dX0_tin_2 ki_0 rfl ?_
  refine s_istore_n (n := 4) (lv2 := [some (.ref (ad 6)), some (.int 0), some (.int 0)]) hG dX0_tin_3 rfl rfl rfl ?_
  exact s_wk hG (sX0_tin_l4 hE hG hQ  N _ _ _ _ h) ⟨rfl, rfl, rfl, trivial⟩
def wX4_leadAt (N : Nat) (a1 : Int32) (g : gFG) (f : gFF) (Q : Int32 → gFG → gFF → Prop) : Prop := wX4_has N a1 g f (fun r2 g2 f2 => ((r2 = 0) → Q 0 g2 f2) ∧ ((¬ r2 = 0) → (vp_in a1 6) ∧ (Q (f2 21 a1.toNatClampNeg) g2 f2)))
theorem mX4_leadAt (hE : gInj layC ad) {N : Nat} {a1 : Int32} {g : gFG} {f : gFF} {Q : Int32 → gFG → gFF → Prop} (h : wX4_leadAt N a1 g f Q) : gCT l D cs layC ad (gZc ad tX tY sK sV) 2 yX4_leadAt cX4_leadAt 2 (some .int) [.ref (ad 4), .int a1] (g, f, 0) (gQi Q) := by
  refine met_walk (lv0 := [some (.ref (ad 4)), some (.int a1)]) ⟨hE, gZc_ok _ _ _ _ _⟩ (by decide) (Nat.le_of_ble_eq_true rfl) rfl (fun G Rt hG hQ => ?_)
  replace hG : gSim l D cs layC ad (gZc ad tX tY sK sV) 2 RX4 cX4_leadAt 2 (some .int) G Rt := hG
  unfold wX4_leadAt at h
  refine s_aload_n (n := 1) hG dX4_leadAt_0 rfl rfl ?_
  refine s_iload_n (n := 2) hG dX4_leadAt_1 rfl rfl ?_
  refine s_callV (n := 5) (st := []) hG (mX4_has hE h) ceX4_has lmX4_32 ⟨by decide, rfl, rfl⟩ rfl ⟨rfl, Nat.le_of_ble_eq_true rfl, by decide⟩ dX4_leadAt_2 rfl ?_
  rintro _ _ ⟨r2, g2, f2, rfl, rfl, h⟩
  refine s_if_eq (n := 8) (tgt := 17) hG dX4_leadAt_5 rfl rfl (fun c => ?_) (fun c => ?_)
  · replace h := h.1 c
    refine s_iconst (n := 18) hG dX4_leadAt_17 ki_0 rfl ?_
    exact s_iret hG dX4_leadAt_18 (hQ _ _ ⟨_, _, _, rfl, rfl, h⟩)
  · replace h := h.2 c
    refine s_aload_n (n := 9) hG dX4_leadAt_8 rfl rfl ?_
    refine gtX4_15 (n := 12) hG dX4_leadAt_9 rfl ?_
    refine s_iload_n (n := 13) hG dX4_leadAt_12 rfl rfl ?_
    obtain ⟨hin, h⟩ := h
    refine s_iald (n := 14) hG dX4_leadAt_13 (gaC_21 hin) rfl ?_
    refine s_goto (tgt := 18) hG dX4_leadAt_14 rfl ?_
    exact s_iret hG dX4_leadAt_18 (hQ _ _ ⟨_, _, _, rfl, rfl, h⟩)
def wX0_lead_l4 (N : Nat)   (Q : Int32 → gFG → gFF → Prop) : Nat → Int32 → Int32 → gFG → gFF → Prop
  | 0, _, _, _, _ => False
  | n + 1, v1, v2, g, f => ((6 ≤ v2) → Q v1 g f) ∧ ((¬ 6 ≤ v2) → (vp_in v2 6) ∧ (wX4_leadAt N v2 g f (fun r22 g22 f22 => ∀ x1_27 : Int32, x1_27 = (v1 + ((f 43 v2.toNatClampNeg) * r22)) → ∀ x2_28 : Int32, x2_28 = (v2 + 1) → wX0_lead_l4 N   Q n x1_27 x2_28 g22 f22)))
theorem sX0_lead_l4 {G : gG} {Rt : Option Value → gSt → Prop} (hE : gInj layC ad) (hG : gSim l D cs layC ad (gZc ad tX tY sK sV) 3 RX0 cX0_lead 3 (some .int) G Rt) {Q : Int32 → gFG → gFF → Prop} (hQ : ∀ v S, gQi Q v S → Rt v S) {N : Nat}     : ∀ (n : Nat) (v1 : Int32) (v2 : Int32) (g : gFG) (f : gFF), wX0_lead_l4 N   Q n v1 v2 g f → G 4 [some (.ref (ad 6)), some (.int v1), some (.int v2)] [] (g, f, 0) := by
  intro n
  induction n with
  | zero => intro _ _ _ _ h; unfold wX0_lead_l4 at h; exact h.elim
  | succ n ih =>
    intro v1 v2 g f h
    unfold wX0_lead_l4 at h
    refine s_iload_n (n := 5) hG dX0_lead_4 rfl rfl ?_
    refine s_bipush (n := 7) hG dX0_lead_5 kb_6 rfl ?_
    refine s_icmp_ge (n := 10) (tgt := 34) hG dX0_lead_7 rfl rfl (fun c => ?_) (fun c => ?_)
    · replace h := h.1 c
      refine s_iload_n (n := 35) hG dX0_lead_34 rfl rfl ?_
      exact s_iret hG dX0_lead_35 (hQ _ _ ⟨_, _, _, rfl, rfl, h⟩)
    · replace h := h.2 c
      refine s_iload_n (n := 11) hG dX0_lead_10 rfl rfl ?_
      refine s_aload_n (n := 12) hG dX0_lead_11 rfl rfl ?_
      refine gtX0_9 (n := 15) hG dX0_lead_12 rfl ?_
      refine s_iload_n (n := 16) hG dX0_lead_15 rfl rfl ?_
      obtain ⟨hin, h⟩ := h
      refine s_iald (n := 17) hG dX0_lead_16 (gaC_43 hin) rfl ?_
      refine s_aload_n (n := 18) hG dX0_lead_17 rfl rfl ?_
      refine gtX0_15 (n := 21) hG dX0_lead_18 rfl ?_
      refine s_iload_n (n := 22) hG dX0_lead_21 rfl rfl ?_
      refine s_callV (n := 25) (st := [.int (f 43 v2.toNatClampNeg), .int v1]) hG (mX4_leadAt hE h) ceX4_leadAt lmX0_35 ⟨by decide, rfl, rfl⟩ rfl ⟨rfl, Nat.le_of_ble_eq_true rfl, by decide⟩ dX0_lead_22 rfl ?_
      rintro _ _ ⟨r22, g22, f22, rfl, rfl, h⟩
      refine s_imul (n := 26) hG dX0_lead_25 rfl ?_
      refine s_iadd (n := 27) hG dX0_lead_26 rfl ?_
      refine s_topi (fun x1_27 hx1_27 => ?_)
      replace h := h x1_27 hx1_27
      refine s_istore_n (n := 28) (lv2 := [some (.ref (ad 6)), some (.int x1_27), some (.int v2)]) hG dX0_lead_27 rfl rfl rfl ?_
      obtain ⟨x2_28, hx2_28⟩ : ∃ z : Int32, z = (v2 + 1) := ⟨_, rfl⟩
      replace h := h x2_28 hx2_28
      refine s_iinc (n := 31) (v := x2_28) (lv2 := [some (.ref (ad 6)), some (.int x1_27), some (.int x2_28)]) hG dX0_lead_28 ki_1 rfl hx2_28 rfl rfl rfl ?_
      refine s_goto (tgt := 4) hG dX0_lead_31 rfl ?_
      exact s_wk hG (ih _ _ _ _ h) ⟨rfl, rfl, rfl, trivial⟩
def wX0_lead (N : Nat)  (g : gFG) (f : gFF) (Q : Int32 → gFG → gFF → Prop) : Prop := wX0_lead_l4 N  Q N 0 0 g f
theorem mX0_lead (hE : gInj layC ad) {N : Nat}  {g : gFG} {f : gFF} {Q : Int32 → gFG → gFF → Prop} (h : wX0_lead N  g f Q) : gCT l D cs layC ad (gZc ad tX tY sK sV) 3 yX0_lead cX0_lead 3 (some .int) [.ref (ad 6)] (g, f, 0) (gQi Q) := by
  refine met_walk (lv0 := [some (.ref (ad 6)), none, none]) ⟨hE, gZc_ok _ _ _ _ _⟩ (by decide) (Nat.le_of_ble_eq_true rfl) rfl (fun G Rt hG hQ => ?_)
  replace hG : gSim l D cs layC ad (gZc ad tX tY sK sV) 3 RX0 cX0_lead 3 (some .int) G Rt := hG
  unfold wX0_lead at h
  refine s_iconst (n := 1) hG dX0_lead_0 ki_0 rfl ?_
  refine s_istore_n (n := 2) (lv2 := [some (.ref (ad 6)), some (.int 0), none]) hG dX0_lead_1 rfl rfl rfl ?_
  refine s_iconst (n := 3) hG dX0_lead_2 ki_0 rfl ?_
  refine s_istore_n (n := 4) (lv2 := [some (.ref (ad 6)), some (.int 0), some (.int 0)]) hG dX0_lead_3 rfl rfl rfl ?_
  exact s_wk hG (sX0_lead_l4 hE hG hQ  N _ _ _ _ h) ⟨rfl, rfl, rfl, trivial⟩
def wX0_copper (N : Nat)  (g : gFG) (f : gFF) (Q : Int32 → gFG → gFF → Prop) : Prop := wX0_total N g f (fun r1 g1 f1 => wX0_tin N g1 f1 (fun r9 g9 f9 => wX0_lead N g9 f9 (fun r14 g14 f14 => Q (((r1 * 1000) - r9) - r14) g14 f14)))
theorem mX0_copper (hE : gInj layC ad) {N : Nat}  {g : gFG} {f : gFF} {Q : Int32 → gFG → gFF → Prop} (h : wX0_copper N  g f Q) : gCT l D cs layC ad (gZc ad tX tY sK sV) 4 yX0_copper cX0_copper 1 (some .int) [.ref (ad 6)] (g, f, 0) (gQi Q) := by
  refine met_walk (lv0 := [some (.ref (ad 6))]) ⟨hE, gZc_ok _ _ _ _ _⟩ (by decide) (Nat.le_of_ble_eq_true rfl) rfl (fun G Rt hG hQ => ?_)
  replace hG : gSim l D cs layC ad (gZc ad tX tY sK sV) 4 RX0 cX0_copper 1 (some .int) G Rt := hG
  unfold wX0_copper at h
  refine s_aload_n (n := 1) hG dX0_copper_0 rfl rfl ?_
  refine s_callV (n := 4) (st := []) hG (mX0_total hE h) ceX0_total lmX0_25 ⟨by decide, rfl, rfl⟩ rfl ⟨rfl, Nat.le_of_ble_eq_true rfl, by decide⟩ dX0_copper_1 rfl ?_
  rintro _ _ ⟨r1, g1, f1, rfl, rfl, h⟩
  refine s_sipush (n := 7) hG dX0_copper_4 ks_1000 rfl ?_
  refine s_imul (n := 8) hG dX0_copper_7 rfl ?_
  refine s_aload_n (n := 9) hG dX0_copper_8 rfl rfl ?_
  refine s_callV (n := 12) (st := [.int (r1 * 1000)]) hG (mX0_tin hE h) ceX0_tin lmX0_38 ⟨by decide, rfl, rfl⟩ rfl ⟨rfl, Nat.le_of_ble_eq_true rfl, by decide⟩ dX0_copper_9 rfl ?_
  rintro _ _ ⟨r9, g9, f9, rfl, rfl, h⟩
  refine s_isub (n := 13) hG dX0_copper_12 rfl ?_
  refine s_aload_n (n := 14) hG dX0_copper_13 rfl rfl ?_
  refine s_callV (n := 17) (st := [.int ((r1 * 1000) - r9)]) hG (mX0_lead hE h) ceX0_lead lmX0_41 ⟨by decide, rfl, rfl⟩ rfl ⟨rfl, Nat.le_of_ble_eq_true rfl, by decide⟩ dX0_copper_14 rfl ?_
  rintro _ _ ⟨r14, g14, f14, rfl, rfl, h⟩
  refine s_isub (n := 18) hG dX0_copper_17 rfl ?_
  exact s_iret hG dX0_copper_18 (hQ _ _ ⟨_, _, _, rfl, rfl, h⟩)
def wX4_unitsAt (N : Nat) (a1 : Int32) (g : gFG) (f : gFF) (Q : Int32 → gFG → gFF → Prop) : Prop := wX4_has N a1 g f (fun r2 g2 f2 => ((r2 = 0) → Q 0 g2 f2) ∧ ((¬ r2 = 0) → (vp_in a1 6) ∧ (Q (f2 23 a1.toNatClampNeg) g2 f2)))
theorem mX4_unitsAt (hE : gInj layC ad) {N : Nat} {a1 : Int32} {g : gFG} {f : gFF} {Q : Int32 → gFG → gFF → Prop} (h : wX4_unitsAt N a1 g f Q) : gCT l D cs layC ad (gZc ad tX tY sK sV) 2 yX4_unitsAt cX4_unitsAt 2 (some .int) [.ref (ad 4), .int a1] (g, f, 0) (gQi Q) := by
  refine met_walk (lv0 := [some (.ref (ad 4)), some (.int a1)]) ⟨hE, gZc_ok _ _ _ _ _⟩ (by decide) (Nat.le_of_ble_eq_true rfl) rfl (fun G Rt hG hQ => ?_)
  replace hG : gSim l D cs layC ad (gZc ad tX tY sK sV) 2 RX4 cX4_unitsAt 2 (some .int) G Rt := hG
  unfold wX4_unitsAt at h
  refine s_aload_n (n := 1) hG dX4_unitsAt_0 rfl rfl ?_
  refine s_iload_n (n := 2) hG dX4_unitsAt_1 rfl rfl ?_
  refine s_callV (n := 5) (st := []) hG (mX4_has hE h) ceX4_has lmX4_32 ⟨by decide, rfl, rfl⟩ rfl ⟨rfl, Nat.le_of_ble_eq_true rfl, by decide⟩ dX4_unitsAt_2 rfl ?_
  rintro _ _ ⟨r2, g2, f2, rfl, rfl, h⟩
  refine s_if_eq (n := 8) (tgt := 17) hG dX4_unitsAt_5 rfl rfl (fun c => ?_) (fun c => ?_)
  · replace h := h.1 c
    refine s_iconst (n := 18) hG dX4_unitsAt_17 ki_0 rfl ?_
    exact s_iret hG dX4_unitsAt_18 (hQ _ _ ⟨_, _, _, rfl, rfl, h⟩)
  · replace h := h.2 c
    refine s_aload_n (n := 9) hG dX4_unitsAt_8 rfl rfl ?_
    refine gtX4_21 (n := 12) hG dX4_unitsAt_9 rfl ?_
    refine s_iload_n (n := 13) hG dX4_unitsAt_12 rfl rfl ?_
    obtain ⟨hin, h⟩ := h
    refine s_iald (n := 14) hG dX4_unitsAt_13 (gaC_23 hin) rfl ?_
    refine s_goto (tgt := 18) hG dX4_unitsAt_14 rfl ?_
    exact s_iret hG dX4_unitsAt_18 (hQ _ _ ⟨_, _, _, rfl, rfl, h⟩)
def wX4_take (N : Nat) (a1 : Int32) (a2 : Int32) (g : gFG) (f : gFF) (Q : gFG → gFF → Prop) : Prop := wX4_has N a1 g f (fun r2 g2 f2 => ((r2 = 0) → Q g2 f2) ∧ ((¬ r2 = 0) → (vp_in a1 6) ∧ (∀ y17 : Int32, y17 = ((f2 23 a1.toNatClampNeg) - a2) → (vp_in a1 6) ∧ (∀ f17 : gFF, f17 = (va_up f2 23 (upd (f2 23) a1.toNatClampNeg y17)) → Q g2 f17))))
theorem mX4_take (hE : gInj layC ad) {N : Nat} {a1 : Int32} {a2 : Int32} {g : gFG} {f : gFF} {Q : gFG → gFF → Prop} (h : wX4_take N a1 a2 g f Q) : gCT l D cs layC ad (gZc ad tX tY sK sV) 2 yX4_take cX4_take 3 none [.ref (ad 4), .int a1, .int a2] (g, f, 0) (gQv Q) := by
  refine met_walk (lv0 := [some (.ref (ad 4)), some (.int a1), some (.int a2)]) ⟨hE, gZc_ok _ _ _ _ _⟩ (by decide) (Nat.le_of_ble_eq_true rfl) rfl (fun G Rt hG hQ => ?_)
  replace hG : gSim l D cs layC ad (gZc ad tX tY sK sV) 2 RX4 cX4_take 3 none G Rt := hG
  unfold wX4_take at h
  refine s_aload_n (n := 1) hG dX4_take_0 rfl rfl ?_
  refine s_iload_n (n := 2) hG dX4_take_1 rfl rfl ?_
  refine s_callV (n := 5) (st := []) hG (mX4_has hE h) ceX4_has lmX4_32 ⟨by decide, rfl, rfl⟩ rfl ⟨rfl, Nat.le_of_ble_eq_true rfl, by decide⟩ dX4_take_2 rfl ?_
  rintro _ _ ⟨r2, g2, f2, rfl, rfl, h⟩
  refine s_if_eq (n := 8) (tgt := 18) hG dX4_take_5 rfl rfl (fun c => ?_) (fun c => ?_)
  · replace h := h.1 c
    exact s_vret hG dX4_take_18 (hQ _ _ ⟨_, _, rfl, rfl, h⟩)
  · replace h := h.2 c
    refine s_aload_n (n := 9) hG dX4_take_8 rfl rfl ?_
    refine gtX4_21 (n := 12) hG dX4_take_9 rfl ?_
    refine s_iload_n (n := 13) hG dX4_take_12 rfl rfl ?_
    refine s_dup2 (n := 14) hG dX4_take_13 rfl rfl rfl ?_
    obtain ⟨hin, h⟩ := h
    refine s_iald (n := 15) hG dX4_take_14 (gaC_23 hin) rfl ?_
    refine s_iload_n (n := 16) hG dX4_take_15 rfl rfl ?_
    refine s_isub (n := 17) hG dX4_take_16 rfl ?_
    refine s_topi (fun y17 hy17 => ?_)
    replace h := h y17 hy17
    obtain ⟨hin, h⟩ := h
    refine s_iast (n := 18) hG dX4_take_17 (gaC_23 hin) rfl ?_
    refine s_nf (fun f17 hf17 => ?_)
    replace h := h f17 hf17
    exact s_vret hG dX4_take_18 (hQ _ _ ⟨_, _, rfl, rfl, h⟩)
def wX0_takeFromLots_l35 (N : Nat)   (Q : Int32 → gFG → gFF → Prop) : Nat → Int32 → gFG → gFF → Prop
  | 0, _, _, _ => False
  | n + 1, v1, g, f => ((6 ≤ v1) → wX0_total N g f (fun r62 g62 f62 => Q r62 g62 f62)) ∧ ((¬ 6 ≤ v1) → (vp_in v1 6) ∧ (wX4_take N v1 (f 43 v1.toNatClampNeg) g f (fun g52 f52 => ∀ x1_55 : Int32, x1_55 = (v1 + 1) → wX0_takeFromLots_l35 N   Q n x1_55 g52 f52)))
theorem sX0_takeFromLots_l35 {G : gG} {Rt : Option Value → gSt → Prop} (hE : gInj layC ad) (hG : gSim l D cs layC ad (gZc ad tX tY sK sV) 3 RX0 cX0_takeFromLots 2 (some .int) G Rt) {Q : Int32 → gFG → gFF → Prop} (hQ : ∀ v S, gQi Q v S → Rt v S) {N : Nat}     : ∀ (n : Nat) (v1 : Int32) (g : gFG) (f : gFF), wX0_takeFromLots_l35 N   Q n v1 g f → G 35 [some (.ref (ad 6)), some (.int v1)] [] (g, f, 0) := by
  intro n
  induction n with
  | zero => intro _ _ _ h; unfold wX0_takeFromLots_l35 at h; exact h.elim
  | succ n ih =>
    intro v1 g f h
    unfold wX0_takeFromLots_l35 at h
    refine s_iload_n (n := 36) hG dX0_takeFromLots_35 rfl rfl ?_
    refine s_bipush (n := 38) hG dX0_takeFromLots_36 kb_6 rfl ?_
    refine s_icmp_ge (n := 41) (tgt := 61) hG dX0_takeFromLots_38 rfl rfl (fun c => ?_) (fun c => ?_)
    · replace h := h.1 c
      refine s_aload_n (n := 62) hG dX0_takeFromLots_61 rfl rfl ?_
      refine s_callV (n := 65) (st := []) hG (mX0_total hE h) ceX0_total lmX0_25 ⟨by decide, rfl, rfl⟩ rfl ⟨rfl, Nat.le_of_ble_eq_true rfl, by decide⟩ dX0_takeFromLots_62 rfl ?_
      rintro _ _ ⟨r62, g62, f62, rfl, rfl, h⟩
      exact s_iret hG dX0_takeFromLots_65 (hQ _ _ ⟨_, _, _, rfl, rfl, h⟩)
    · replace h := h.2 c
      refine s_aload_n (n := 42) hG dX0_takeFromLots_41 rfl rfl ?_
      refine gtX0_15 (n := 45) hG dX0_takeFromLots_42 rfl ?_
      refine s_iload_n (n := 46) hG dX0_takeFromLots_45 rfl rfl ?_
      refine s_aload_n (n := 47) hG dX0_takeFromLots_46 rfl rfl ?_
      refine gtX0_9 (n := 50) hG dX0_takeFromLots_47 rfl ?_
      refine s_iload_n (n := 51) hG dX0_takeFromLots_50 rfl rfl ?_
      obtain ⟨hin, h⟩ := h
      refine s_iald (n := 52) hG dX0_takeFromLots_51 (gaC_43 hin) rfl ?_
      refine s_callV (n := 55) (st := []) hG (mX4_take hE h) ceX4_take lmX0_47 ⟨by decide, rfl, rfl⟩ rfl ⟨rfl, Nat.le_of_ble_eq_true rfl, by decide⟩ dX0_takeFromLots_52 rfl ?_
      rintro _ _ ⟨g52, f52, rfl, rfl, h⟩
      obtain ⟨x1_55, hx1_55⟩ : ∃ z : Int32, z = (v1 + 1) := ⟨_, rfl⟩
      replace h := h x1_55 hx1_55
      refine s_iinc (n := 58) (v := x1_55) (lv2 := [some (.ref (ad 6)), some (.int x1_55)]) hG dX0_takeFromLots_55 ki_1 rfl hx1_55 rfl rfl rfl ?_
      refine s_goto (tgt := 35) hG dX0_takeFromLots_58 rfl ?_
      exact s_wk hG (ih _ _ _ h) ⟨rfl, rfl, trivial⟩
def wX0_takeFromLots_l2 (N : Nat)   (Q : Int32 → gFG → gFF → Prop) : Nat → Int32 → gFG → gFF → Prop
  | 0, _, _, _ => False
  | n + 1, v1, g, f => ((6 ≤ v1) → wX0_takeFromLots_l35 N  Q N 0 g f) ∧ ((¬ 6 ≤ v1) → (vp_in v1 6) ∧ (wX4_unitsAt N v1 g f (fun r19 g19 f19 => (((f 43 v1.toNatClampNeg) ≤ r19) → ∀ x1_27 : Int32, x1_27 = (v1 + 1) → wX0_takeFromLots_l2 N   Q n x1_27 g19 f19) ∧ ((¬ (f 43 v1.toNatClampNeg) ≤ r19) → Q (-1) g19 f19))))
theorem sX0_takeFromLots_l2 {G : gG} {Rt : Option Value → gSt → Prop} (hE : gInj layC ad) (hG : gSim l D cs layC ad (gZc ad tX tY sK sV) 3 RX0 cX0_takeFromLots 2 (some .int) G Rt) {Q : Int32 → gFG → gFF → Prop} (hQ : ∀ v S, gQi Q v S → Rt v S) {N : Nat}     : ∀ (n : Nat) (v1 : Int32) (g : gFG) (f : gFF), wX0_takeFromLots_l2 N   Q n v1 g f → G 2 [some (.ref (ad 6)), some (.int v1)] [] (g, f, 0) := by
  intro n
  induction n with
  | zero => intro _ _ _ h; unfold wX0_takeFromLots_l2 at h; exact h.elim
  | succ n ih =>
    intro v1 g f h
    unfold wX0_takeFromLots_l2 at h
    refine s_iload_n (n := 3) hG dX0_takeFromLots_2 rfl rfl ?_
    refine s_bipush (n := 5) hG dX0_takeFromLots_3 kb_6 rfl ?_
    refine s_icmp_ge (n := 8) (tgt := 33) hG dX0_takeFromLots_5 rfl rfl (fun c => ?_) (fun c => ?_)
    · replace h := h.1 c
      refine s_iconst (n := 34) hG dX0_takeFromLots_33 ki_0 rfl ?_
      refine s_istore_n (n := 35) (lv2 := [some (.ref (ad 6)), some (.int 0)]) hG dX0_takeFromLots_34 rfl rfl rfl ?_
      exact s_wk hG (sX0_takeFromLots_l35 hE hG hQ  N _ _ _ h) ⟨rfl, rfl, trivial⟩
    · replace h := h.2 c
      refine s_aload_n (n := 9) hG dX0_takeFromLots_8 rfl rfl ?_
      refine gtX0_9 (n := 12) hG dX0_takeFromLots_9 rfl ?_
      refine s_iload_n (n := 13) hG dX0_takeFromLots_12 rfl rfl ?_
      obtain ⟨hin, h⟩ := h
      refine s_iald (n := 14) hG dX0_takeFromLots_13 (gaC_43 hin) rfl ?_
      refine s_aload_n (n := 15) hG dX0_takeFromLots_14 rfl rfl ?_
      refine gtX0_15 (n := 18) hG dX0_takeFromLots_15 rfl ?_
      refine s_iload_n (n := 19) hG dX0_takeFromLots_18 rfl rfl ?_
      refine s_callV (n := 22) (st := [.int (f 43 v1.toNatClampNeg)]) hG (mX4_unitsAt hE h) ceX4_unitsAt lmX0_44 ⟨by decide, rfl, rfl⟩ rfl ⟨rfl, Nat.le_of_ble_eq_true rfl, by decide⟩ dX0_takeFromLots_19 rfl ?_
      rintro _ _ ⟨r19, g19, f19, rfl, rfl, h⟩
      refine s_icmp_le (n := 25) (tgt := 27) hG dX0_takeFromLots_22 rfl rfl (fun c => ?_) (fun c => ?_)
      · replace h := h.1 c
        obtain ⟨x1_27, hx1_27⟩ : ∃ z : Int32, z = (v1 + 1) := ⟨_, rfl⟩
        replace h := h x1_27 hx1_27
        refine s_iinc (n := 30) (v := x1_27) (lv2 := [some (.ref (ad 6)), some (.int x1_27)]) hG dX0_takeFromLots_27 ki_1 rfl hx1_27 rfl rfl rfl ?_
        refine s_goto (tgt := 2) hG dX0_takeFromLots_30 rfl ?_
        exact s_wk hG (ih _ _ _ h) ⟨rfl, rfl, trivial⟩
      · replace h := h.2 c
        refine s_iconst (n := 26) hG dX0_takeFromLots_25 ki_m1 rfl ?_
        exact s_iret hG dX0_takeFromLots_26 (hQ _ _ ⟨_, _, _, rfl, rfl, h⟩)
def wX0_takeFromLots (N : Nat)  (g : gFG) (f : gFF) (Q : Int32 → gFG → gFF → Prop) : Prop := wX0_takeFromLots_l2 N  Q N 0 g f
theorem mX0_takeFromLots (hE : gInj layC ad) {N : Nat}  {g : gFG} {f : gFF} {Q : Int32 → gFG → gFF → Prop} (h : wX0_takeFromLots N  g f Q) : gCT l D cs layC ad (gZc ad tX tY sK sV) 3 yX0_takeFromLots cX0_takeFromLots 2 (some .int) [.ref (ad 6)] (g, f, 0) (gQi Q) := by
  refine met_walk (lv0 := [some (.ref (ad 6)), none]) ⟨hE, gZc_ok _ _ _ _ _⟩ (by decide) (Nat.le_of_ble_eq_true rfl) rfl (fun G Rt hG hQ => ?_)
  replace hG : gSim l D cs layC ad (gZc ad tX tY sK sV) 3 RX0 cX0_takeFromLots 2 (some .int) G Rt := hG
  unfold wX0_takeFromLots at h
  refine s_iconst (n := 1) hG dX0_takeFromLots_0 ki_0 rfl ?_
  refine s_istore_n (n := 2) (lv2 := [some (.ref (ad 6)), some (.int 0)]) hG dX0_takeFromLots_1 rfl rfl rfl ?_
  exact s_wk hG (sX0_takeFromLots_l2 hE hG hQ  N _ _ _ h) ⟨rfl, rfl, trivial⟩
def wX2_edition (N : Nat)  (g : gFG) (f : gFF) (Q : Int32 → gFG → gFF → Prop) : Prop := Q (g 6) g f
theorem mX2_edition (hE : gInj layC ad) {N : Nat}  {g : gFG} {f : gFF} {Q : Int32 → gFG → gFF → Prop} (h : wX2_edition N  g f Q) : gCT l D cs layC ad (gZc ad tX tY sK sV) 1 yX2_edition cX2_edition 1 (some .int) [.ref (ad 1)] (g, f, 0) (gQi Q) := by
  refine met_walk (lv0 := [some (.ref (ad 1))]) ⟨hE, gZc_ok _ _ _ _ _⟩ (by decide) (Nat.le_of_ble_eq_true rfl) rfl (fun G Rt hG hQ => ?_)
  replace hG : gSim l D cs layC ad (gZc ad tX tY sK sV) 1 RX2 cX2_edition 1 (some .int) G Rt := hG
  unfold wX2_edition at h
  refine s_aload_n (n := 1) hG dX2_edition_0 rfl rfl ?_
  refine gtX2_22 (n := 4) hG dX2_edition_1 rfl ?_
  exact s_iret hG dX2_edition_4 (hQ _ _ ⟨_, _, _, rfl, rfl, h⟩)
def wX1_startFlood_l2 (N : Nat)   (Q : gFG → gFF → Prop) : Nat → Int32 → gFG → gFF → Prop
  | 0, _, _, _ => False
  | n + 1, v1, g, f => ((144 ≤ v1) → ∀ g24 : gFG, g24 = (va_up g 7 0) → ∀ g29 : gFG, g29 = (va_up g24 8 0) → Q g29 f) ∧ ((¬ 144 ≤ v1) → (vp_in v1 144) ∧ (∀ f15 : gFF, f15 = (va_up f 15 (upd (f 15) v1.toNatClampNeg 0)) → ∀ x1_16 : Int32, x1_16 = (v1 + 1) → wX1_startFlood_l2 N   Q n x1_16 g f15))
theorem sX1_startFlood_l2 {G : gG} {Rt : Option Value → gSt → Prop} (hE : gInj layC ad) (hG : gSim l D cs layC ad (gZc ad tX tY sK sV) 1 RX1 cX1_startFlood 2 none G Rt) {Q : gFG → gFF → Prop} (hQ : ∀ v S, gQv Q v S → Rt v S) {N : Nat}     : ∀ (n : Nat) (v1 : Int32) (g : gFG) (f : gFF), wX1_startFlood_l2 N   Q n v1 g f → G 2 [some (.ref (ad 2)), some (.int v1)] [] (g, f, 0) := by
  intro n
  induction n with
  | zero => intro _ _ _ h; unfold wX1_startFlood_l2 at h; exact h.elim
  | succ n ih =>
    intro v1 g f h
    unfold wX1_startFlood_l2 at h
    refine s_iload_n (n := 3) hG dX1_startFlood_2 rfl rfl ?_
    refine s_sipush (n := 6) hG dX1_startFlood_3 ks_144 rfl ?_
    refine s_icmp_ge (n := 9) (tgt := 22) hG dX1_startFlood_6 rfl rfl (fun c => ?_) (fun c => ?_)
    · replace h := h.1 c
      refine s_aload_n (n := 23) hG dX1_startFlood_22 rfl rfl ?_
      refine s_iconst (n := 24) hG dX1_startFlood_23 ki_0 rfl ?_
      refine ptX1_22 (n := 27) hG dX1_startFlood_24 rfl ?_
      refine s_ng (fun g24 hg24 => ?_)
      replace h := h g24 hg24
      refine s_aload_n (n := 28) hG dX1_startFlood_27 rfl rfl ?_
      refine s_iconst (n := 29) hG dX1_startFlood_28 ki_0 rfl ?_
      refine ptX1_26 (n := 32) hG dX1_startFlood_29 rfl ?_
      refine s_ng (fun g29 hg29 => ?_)
      replace h := h g29 hg29
      exact s_vret hG dX1_startFlood_32 (hQ _ _ ⟨_, _, rfl, rfl, h⟩)
    · replace h := h.2 c
      refine s_aload_n (n := 10) hG dX1_startFlood_9 rfl rfl ?_
      refine gtX1_15 (n := 13) hG dX1_startFlood_10 rfl ?_
      refine s_iload_n (n := 14) hG dX1_startFlood_13 rfl rfl ?_
      refine s_iconst (n := 15) hG dX1_startFlood_14 ki_0 rfl ?_
      obtain ⟨hin, h⟩ := h
      refine s_zast (n := 16) hG dX1_startFlood_15 (gaC_15 hin) (gz_v gz_0) rfl ?_
      refine s_nf (fun f15 hf15 => ?_)
      replace h := h f15 hf15
      obtain ⟨x1_16, hx1_16⟩ : ∃ z : Int32, z = (v1 + 1) := ⟨_, rfl⟩
      replace h := h x1_16 hx1_16
      refine s_iinc (n := 19) (v := x1_16) (lv2 := [some (.ref (ad 2)), some (.int x1_16)]) hG dX1_startFlood_16 ki_1 rfl hx1_16 rfl rfl rfl ?_
      refine s_goto (tgt := 2) hG dX1_startFlood_19 rfl ?_
      exact s_wk hG (ih _ _ _ h) ⟨rfl, rfl, trivial⟩
def wX1_startFlood (N : Nat)  (g : gFG) (f : gFF) (Q : gFG → gFF → Prop) : Prop := wX1_startFlood_l2 N  Q N 0 g f
theorem mX1_startFlood (hE : gInj layC ad) {N : Nat}  {g : gFG} {f : gFF} {Q : gFG → gFF → Prop} (h : wX1_startFlood N  g f Q) : gCT l D cs layC ad (gZc ad tX tY sK sV) 1 yX1_startFlood cX1_startFlood 2 none [.ref (ad 2)] (g, f, 0) (gQv Q) := by
  refine met_walk (lv0 := [some (.ref (ad 2)), none]) ⟨hE, gZc_ok _ _ _ _ _⟩ (by decide) (Nat.le_of_ble_eq_true rfl) rfl (fun G Rt hG hQ => ?_)
  replace hG : gSim l D cs layC ad (gZc ad tX tY sK sV) 1 RX1 cX1_startFlood 2 none G Rt := hG
  unfold wX1_startFlood at h
  refine s_iconst (n := 1) hG dX1_startFlood_0 ki_0 rfl ?_
  refine s_istore_n (n := 2) (lv2 := [some (.ref (ad 2)), some (.int 0)]) hG dX1_startFlood_1 rfl rfl rfl ?_
  exact s_wk hG (sX1_startFlood_l2 hE hG hQ  N _ _ _ h) ⟨rfl, rfl, trivial⟩
def wX2_height (N : Nat)  (g : gFG) (f : gFF) (Q : Int32 → gFG → gFF → Prop) : Prop := Q (g 5) g f
theorem mX2_height (hE : gInj layC ad) {N : Nat}  {g : gFG} {f : gFF} {Q : Int32 → gFG → gFF → Prop} (h : wX2_height N  g f Q) : gCT l D cs layC ad (gZc ad tX tY sK sV) 1 yX2_height cX2_height 1 (some .int) [.ref (ad 1)] (g, f, 0) (gQi Q) := by
  refine met_walk (lv0 := [some (.ref (ad 1))]) ⟨hE, gZc_ok _ _ _ _ _⟩ (by decide) (Nat.le_of_ble_eq_true rfl) rfl (fun G Rt hG hQ => ?_)
  replace hG : gSim l D cs layC ad (gZc ad tX tY sK sV) 1 RX2 cX2_height 1 (some .int) G Rt := hG
  unfold wX2_height at h
  refine s_aload_n (n := 1) hG dX2_height_0 rfl rfl ?_
  refine gtX2_19 (n := 4) hG dX2_height_1 rfl ?_
  exact s_iret hG dX2_height_4 (hQ _ _ ⟨_, _, _, rfl, rfl, h⟩)
def wX2_width (N : Nat)  (g : gFG) (f : gFF) (Q : Int32 → gFG → gFF → Prop) : Prop := Q (g 4) g f
theorem mX2_width (hE : gInj layC ad) {N : Nat}  {g : gFG} {f : gFF} {Q : Int32 → gFG → gFF → Prop} (h : wX2_width N  g f Q) : gCT l D cs layC ad (gZc ad tX tY sK sV) 1 yX2_width cX2_width 1 (some .int) [.ref (ad 1)] (g, f, 0) (gQi Q) := by
  refine met_walk (lv0 := [some (.ref (ad 1))]) ⟨hE, gZc_ok _ _ _ _ _⟩ (by decide) (Nat.le_of_ble_eq_true rfl) rfl (fun G Rt hG hQ => ?_)
  replace hG : gSim l D cs layC ad (gZc ad tX tY sK sV) 1 RX2 cX2_width 1 (some .int) G Rt := hG
  unfold wX2_width at h
  refine s_aload_n (n := 1) hG dX2_width_0 rfl rfl ?_
  refine gtX2_15 (n := 4) hG dX2_width_1 rfl ?_
  exact s_iret hG dX2_width_4 (hQ _ _ ⟨_, _, _, rfl, rfl, h⟩)
def wX2_has (N : Nat) (a1 : Int32) (a2 : Int32) (g : gFG) (f : gFF) (Q : Int32 → gFG → gFF → Prop) : Prop := ((a1 < 0) → Q 0 g f) ∧ ((¬ a1 < 0) → (((g 4) ≤ a1) → Q 0 g f) ∧ ((¬ (g 4) ≤ a1) → ((a2 < 0) → Q 0 g f) ∧ ((¬ a2 < 0) → (((g 5) ≤ a2) → Q 0 g f) ∧ ((¬ (g 5) ≤ a2) → Q 1 g f))))
theorem mX2_has (hE : gInj layC ad) {N : Nat} {a1 : Int32} {a2 : Int32} {g : gFG} {f : gFF} {Q : Int32 → gFG → gFF → Prop} (h : wX2_has N a1 a2 g f Q) : gCT l D cs layC ad (gZc ad tX tY sK sV) 1 yX2_has cX2_has 3 (some .boolean) [.ref (ad 1), .int a1, .int a2] (g, f, 0) (gQi Q) := by
  refine met_walk (lv0 := [some (.ref (ad 1)), some (.int a1), some (.int a2)]) ⟨hE, gZc_ok _ _ _ _ _⟩ (by decide) (Nat.le_of_ble_eq_true rfl) rfl (fun G Rt hG hQ => ?_)
  replace hG : gSim l D cs layC ad (gZc ad tX tY sK sV) 1 RX2 cX2_has 3 (some .boolean) G Rt := hG
  unfold wX2_has at h
  refine s_iload_n (n := 1) hG dX2_has_0 rfl rfl ?_
  refine s_if_lt (n := 4) (tgt := 28) hG dX2_has_1 rfl rfl (fun c => ?_) (fun c => ?_)
  · replace h := h.1 c
    refine s_iconst (n := 29) hG dX2_has_28 ki_0 rfl ?_
    exact s_zret hG dX2_has_29 (gz_n gz_0) (hQ _ _ ⟨_, _, _, rfl, rfl, h⟩)
  · replace h := h.2 c
    refine s_iload_n (n := 5) hG dX2_has_4 rfl rfl ?_
    refine s_aload_n (n := 6) hG dX2_has_5 rfl rfl ?_
    refine gtX2_15 (n := 9) hG dX2_has_6 rfl ?_
    refine s_icmp_ge (n := 12) (tgt := 28) hG dX2_has_9 rfl rfl (fun c => ?_) (fun c => ?_)
    · replace h := h.1 c
      refine s_iconst (n := 29) hG dX2_has_28 ki_0 rfl ?_
      exact s_zret hG dX2_has_29 (gz_n gz_0) (hQ _ _ ⟨_, _, _, rfl, rfl, h⟩)
    · replace h := h.2 c
      refine s_iload_n (n := 13) hG dX2_has_12 rfl rfl ?_
      refine s_if_lt (n := 16) (tgt := 28) hG dX2_has_13 rfl rfl (fun c => ?_) (fun c => ?_)
      · replace h := h.1 c
        refine s_iconst (n := 29) hG dX2_has_28 ki_0 rfl ?_
        exact s_zret hG dX2_has_29 (gz_n gz_0) (hQ _ _ ⟨_, _, _, rfl, rfl, h⟩)
      · replace h := h.2 c
        refine s_iload_n (n := 17) hG dX2_has_16 rfl rfl ?_
        refine s_aload_n (n := 18) hG dX2_has_17 rfl rfl ?_
        refine gtX2_19 (n := 21) hG dX2_has_18 rfl ?_
        refine s_icmp_ge (n := 24) (tgt := 28) hG dX2_has_21 rfl rfl (fun c => ?_) (fun c => ?_)
        · replace h := h.1 c
          refine s_iconst (n := 29) hG dX2_has_28 ki_0 rfl ?_
          exact s_zret hG dX2_has_29 (gz_n gz_0) (hQ _ _ ⟨_, _, _, rfl, rfl, h⟩)
        · replace h := h.2 c
          refine s_iconst (n := 25) hG dX2_has_24 ki_1 rfl ?_
          refine s_goto (tgt := 29) hG dX2_has_25 rfl ?_
          exact s_zret hG dX2_has_29 (gz_n gz_1) (hQ _ _ ⟨_, _, _, rfl, rfl, h⟩)
def wX2_sortAt (N : Nat) (a1 : Int32) (a2 : Int32) (g : gFG) (f : gFF) (Q : Int32 → gFG → gFF → Prop) : Prop := wX2_has N a1 a2 g f (fun r3 g3 f3 => ((r3 = 0) → Q (-1) g3 f3) ∧ ((¬ r3 = 0) → ∀ i19 : Int32, i19 = ((a2 * 12) + a1) → (vp_in i19 144) ∧ (Q (f3 13 i19.toNatClampNeg) g3 f3)))
theorem mX2_sortAt (hE : gInj layC ad) {N : Nat} {a1 : Int32} {a2 : Int32} {g : gFG} {f : gFF} {Q : Int32 → gFG → gFF → Prop} (h : wX2_sortAt N a1 a2 g f Q) : gCT l D cs layC ad (gZc ad tX tY sK sV) 2 yX2_sortAt cX2_sortAt 3 (some .int) [.ref (ad 1), .int a1, .int a2] (g, f, 0) (gQi Q) := by
  refine met_walk (lv0 := [some (.ref (ad 1)), some (.int a1), some (.int a2)]) ⟨hE, gZc_ok _ _ _ _ _⟩ (by decide) (Nat.le_of_ble_eq_true rfl) rfl (fun G Rt hG hQ => ?_)
  replace hG : gSim l D cs layC ad (gZc ad tX tY sK sV) 2 RX2 cX2_sortAt 3 (some .int) G Rt := hG
  unfold wX2_sortAt at h
  refine s_aload_n (n := 1) hG dX2_sortAt_0 rfl rfl ?_
  refine s_iload_n (n := 2) hG dX2_sortAt_1 rfl rfl ?_
  refine s_iload_n (n := 3) hG dX2_sortAt_2 rfl rfl ?_
  refine s_callV (n := 6) (st := []) hG (mX2_has hE h) ceX2_has lmX2_25 ⟨by decide, rfl, rfl⟩ rfl ⟨rfl, Nat.le_of_ble_eq_true rfl, by decide⟩ dX2_sortAt_3 rfl ?_
  rintro _ _ ⟨r3, g3, f3, rfl, rfl, h⟩
  refine s_if_eq (n := 9) (tgt := 23) hG dX2_sortAt_6 rfl rfl (fun c => ?_) (fun c => ?_)
  · replace h := h.1 c
    refine s_iconst (n := 24) hG dX2_sortAt_23 ki_m1 rfl ?_
    exact s_iret hG dX2_sortAt_24 (hQ _ _ ⟨_, _, _, rfl, rfl, h⟩)
  · replace h := h.2 c
    refine s_aload_n (n := 10) hG dX2_sortAt_9 rfl rfl ?_
    refine gtX2_9 (n := 13) hG dX2_sortAt_10 rfl ?_
    refine s_iload_n (n := 14) hG dX2_sortAt_13 rfl rfl ?_
    refine s_bipush (n := 16) hG dX2_sortAt_14 kb_12 rfl ?_
    refine s_imul (n := 17) hG dX2_sortAt_16 rfl ?_
    refine s_iload_n (n := 18) hG dX2_sortAt_17 rfl rfl ?_
    refine s_iadd (n := 19) hG dX2_sortAt_18 rfl ?_
    refine s_topi (fun i19 hi19 => ?_)
    replace h := h i19 hi19
    obtain ⟨hin, h⟩ := h
    refine s_iald (n := 20) hG dX2_sortAt_19 (gaC_13 hin) rfl ?_
    refine s_goto (tgt := 24) hG dX2_sortAt_20 rfl ?_
    exact s_iret hG dX2_sortAt_24 (hQ _ _ ⟨_, _, _, rfl, rfl, h⟩)
def wX2_isHollow_j37 (N : Nat)  (Q : Int32 → gFG → gFF → Prop)  (g : gFG) (f : gFF) : Prop := Q 1 g f
theorem sX2_isHollow_j37 {G : gG} {Rt : Option Value → gSt → Prop} (hE : gInj layC ad) (hG : gSim l D cs layC ad (gZc ad tX tY sK sV) 2 RX2 cX2_isHollow 4 (some .boolean) G Rt) {Q : Int32 → gFG → gFF → Prop} (hQ : ∀ v S, gQi Q v S → Rt v S) {N : Nat}    {g : gFG} {f : gFF}  (h : wX2_isHollow_j37 N  Q  g f) : G 37 [none, none, none, none] [] (g, f, 0) := by
  unfold wX2_isHollow_j37 at h
  refine s_iconst (n := 38) hG dX2_isHollow_37 ki_1 rfl ?_
  refine s_goto (tgt := 42) hG dX2_isHollow_38 rfl ?_
  exact s_zret hG dX2_isHollow_42 (gz_n gz_1) (hQ _ _ ⟨_, _, _, rfl, rfl, h⟩)
def wX2_isHollow (N : Nat) (a1 : Int32) (a2 : Int32) (g : gFG) (f : gFF) (Q : Int32 → gFG → gFF → Prop) : Prop := wX2_has N a1 a2 g f (fun r3 g3 f3 => ((¬ r3 = 0) → ∀ i21 : Int32, i21 = ((a2 * 12) + a1) → (vp_in i21 144) ∧ (∀ x3_22 : Int32, x3_22 = (f3 13 i21.toNatClampNeg) → ((x3_22 = 0) → wX2_isHollow_j37 N  Q g3 f3) ∧ ((¬ x3_22 = 0) → ((x3_22 = 3) → wX2_isHollow_j37 N  Q g3 f3) ∧ ((¬ x3_22 = 3) → ((¬ x3_22 = 4) → Q 0 g3 f3) ∧ ((x3_22 = 4) → wX2_isHollow_j37 N  Q g3 f3))))) ∧ ((r3 = 0) → Q 0 g3 f3))
theorem mX2_isHollow (hE : gInj layC ad) {N : Nat} {a1 : Int32} {a2 : Int32} {g : gFG} {f : gFF} {Q : Int32 → gFG → gFF → Prop} (h : wX2_isHollow N a1 a2 g f Q) : gCT l D cs layC ad (gZc ad tX tY sK sV) 2 yX2_isHollow cX2_isHollow 4 (some .boolean) [.ref (ad 1), .int a1, .int a2] (g, f, 0) (gQi Q) := by
  refine met_walk (lv0 := [some (.ref (ad 1)), some (.int a1), some (.int a2), none]) ⟨hE, gZc_ok _ _ _ _ _⟩ (by decide) (Nat.le_of_ble_eq_true rfl) rfl (fun G Rt hG hQ => ?_)
  replace hG : gSim l D cs layC ad (gZc ad tX tY sK sV) 2 RX2 cX2_isHollow 4 (some .boolean) G Rt := hG
  unfold wX2_isHollow at h
  refine s_aload_n (n := 1) hG dX2_isHollow_0 rfl rfl ?_
  refine s_iload_n (n := 2) hG dX2_isHollow_1 rfl rfl ?_
  refine s_iload_n (n := 3) hG dX2_isHollow_2 rfl rfl ?_
  refine s_callV (n := 6) (st := []) hG (mX2_has hE h) ceX2_has lmX2_25 ⟨by decide, rfl, rfl⟩ rfl ⟨rfl, Nat.le_of_ble_eq_true rfl, by decide⟩ dX2_isHollow_3 rfl ?_
  rintro _ _ ⟨r3, g3, f3, rfl, rfl, h⟩
  refine s_if_ne (n := 9) (tgt := 11) hG dX2_isHollow_6 rfl rfl (fun c => ?_) (fun c => ?_)
  · replace h := h.1 c
    refine s_aload_n (n := 12) hG dX2_isHollow_11 rfl rfl ?_
    refine gtX2_9 (n := 15) hG dX2_isHollow_12 rfl ?_
    refine s_iload_n (n := 16) hG dX2_isHollow_15 rfl rfl ?_
    refine s_bipush (n := 18) hG dX2_isHollow_16 kb_12 rfl ?_
    refine s_imul (n := 19) hG dX2_isHollow_18 rfl ?_
    refine s_iload_n (n := 20) hG dX2_isHollow_19 rfl rfl ?_
    refine s_iadd (n := 21) hG dX2_isHollow_20 rfl ?_
    refine s_topi (fun i21 hi21 => ?_)
    replace h := h i21 hi21
    obtain ⟨hin, h⟩ := h
    refine s_iald (n := 22) hG dX2_isHollow_21 (gaC_13 hin) rfl ?_
    refine s_topi (fun x3_22 hx3_22 => ?_)
    replace h := h x3_22 hx3_22
    refine s_istore_n (n := 23) (lv2 := [some (.ref (ad 1)), some (.int a1), some (.int a2), some (.int x3_22)]) hG dX2_isHollow_22 rfl rfl rfl ?_
    refine s_iload_n (n := 24) hG dX2_isHollow_23 rfl rfl ?_
    refine s_if_eq (n := 27) (tgt := 37) hG dX2_isHollow_24 rfl rfl (fun c => ?_) (fun c => ?_)
    · replace h := h.1 c
      exact s_wk hG (sX2_isHollow_j37 hE hG hQ  h) trivial
    · replace h := h.2 c
      refine s_iload_n (n := 28) hG dX2_isHollow_27 rfl rfl ?_
      refine s_iconst (n := 29) hG dX2_isHollow_28 ki_3 rfl ?_
      refine s_icmp_eq (n := 32) (tgt := 37) hG dX2_isHollow_29 rfl rfl (fun c => ?_) (fun c => ?_)
      · replace h := h.1 c
        exact s_wk hG (sX2_isHollow_j37 hE hG hQ  h) trivial
      · replace h := h.2 c
        refine s_iload_n (n := 33) hG dX2_isHollow_32 rfl rfl ?_
        refine s_iconst (n := 34) hG dX2_isHollow_33 ki_4 rfl ?_
        refine s_icmp_ne (n := 37) (tgt := 41) hG dX2_isHollow_34 rfl rfl (fun c => ?_) (fun c => ?_)
        · replace h := h.1 c
          refine s_iconst (n := 42) hG dX2_isHollow_41 ki_0 rfl ?_
          exact s_zret hG dX2_isHollow_42 (gz_n gz_0) (hQ _ _ ⟨_, _, _, rfl, rfl, h⟩)
        · replace h := h.2 c
          exact s_wk hG (sX2_isHollow_j37 hE hG hQ  h) trivial
  · replace h := h.2 c
    refine s_iconst (n := 10) hG dX2_isHollow_9 ki_0 rfl ?_
    exact s_zret hG dX2_isHollow_10 (gz_n gz_0) (hQ _ _ ⟨_, _, _, rfl, rfl, h⟩)
def wX1_isReached (N : Nat) (a1 : Int32) (a2 : Int32) (g : gFG) (f : gFF) (Q : Int32 → gFG → gFF → Prop) : Prop := wX2_has N a1 a2 g f (fun r6 g6 f6 => ((r6 = 0) → Q 0 g6 f6) ∧ ((¬ r6 = 0) → ∀ i22 : Int32, i22 = ((a2 * 12) + a1) → (vp_in i22 144) ∧ ((((f6 15 i22.toNatClampNeg) = 0) → Q 0 g6 f6) ∧ ((¬ (f6 15 i22.toNatClampNeg) = 0) → Q 1 g6 f6))))
theorem mX1_isReached (hE : gInj layC ad) {N : Nat} {a1 : Int32} {a2 : Int32} {g : gFG} {f : gFF} {Q : Int32 → gFG → gFF → Prop} (h : wX1_isReached N a1 a2 g f Q) : gCT l D cs layC ad (gZc ad tX tY sK sV) 2 yX1_isReached cX1_isReached 3 (some .boolean) [.ref (ad 2), .int a1, .int a2] (g, f, 0) (gQi Q) := by
  refine met_walk (lv0 := [some (.ref (ad 2)), some (.int a1), some (.int a2)]) ⟨hE, gZc_ok _ _ _ _ _⟩ (by decide) (Nat.le_of_ble_eq_true rfl) rfl (fun G Rt hG hQ => ?_)
  replace hG : gSim l D cs layC ad (gZc ad tX tY sK sV) 2 RX1 cX1_isReached 3 (some .boolean) G Rt := hG
  unfold wX1_isReached at h
  refine s_aload_n (n := 1) hG dX1_isReached_0 rfl rfl ?_
  refine gtX1_32 (n := 4) hG dX1_isReached_1 rfl ?_
  refine s_iload_n (n := 5) hG dX1_isReached_4 rfl rfl ?_
  refine s_iload_n (n := 6) hG dX1_isReached_5 rfl rfl ?_
  refine s_callV (n := 9) (st := []) hG (mX2_has hE h) ceX2_has lmX1_47 ⟨by decide, rfl, rfl⟩ rfl ⟨rfl, Nat.le_of_ble_eq_true rfl, by decide⟩ dX1_isReached_6 rfl ?_
  rintro _ _ ⟨r6, g6, f6, rfl, rfl, h⟩
  refine s_if_eq (n := 12) (tgt := 30) hG dX1_isReached_9 rfl rfl (fun c => ?_) (fun c => ?_)
  · replace h := h.1 c
    refine s_iconst (n := 31) hG dX1_isReached_30 ki_0 rfl ?_
    exact s_zret hG dX1_isReached_31 (gz_n gz_0) (hQ _ _ ⟨_, _, _, rfl, rfl, h⟩)
  · replace h := h.2 c
    refine s_aload_n (n := 13) hG dX1_isReached_12 rfl rfl ?_
    refine gtX1_15 (n := 16) hG dX1_isReached_13 rfl ?_
    refine s_iload_n (n := 17) hG dX1_isReached_16 rfl rfl ?_
    refine s_bipush (n := 19) hG dX1_isReached_17 kb_12 rfl ?_
    refine s_imul (n := 20) hG dX1_isReached_19 rfl ?_
    refine s_iload_n (n := 21) hG dX1_isReached_20 rfl rfl ?_
    refine s_iadd (n := 22) hG dX1_isReached_21 rfl ?_
    refine s_topi (fun i22 hi22 => ?_)
    replace h := h i22 hi22
    obtain ⟨hin, h⟩ := h
    refine s_zald (n := 23) hG dX1_isReached_22 (gaC_15 hin) rfl ?_
    refine s_if_eq (n := 26) (tgt := 30) hG dX1_isReached_23 rfl rfl (fun c => ?_) (fun c => ?_)
    · replace h := h.1 c
      refine s_iconst (n := 31) hG dX1_isReached_30 ki_0 rfl ?_
      exact s_zret hG dX1_isReached_31 (gz_n gz_0) (hQ _ _ ⟨_, _, _, rfl, rfl, h⟩)
    · replace h := h.2 c
      refine s_iconst (n := 27) hG dX1_isReached_26 ki_1 rfl ?_
      refine s_goto (tgt := 31) hG dX1_isReached_27 rfl ?_
      exact s_zret hG dX1_isReached_31 (gz_n gz_1) (hQ _ _ ⟨_, _, _, rfl, rfl, h⟩)
def wX1_reach (N : Nat) (a1 : Int32) (a2 : Int32) (g : gFG) (f : gFF) (Q : gFG → gFF → Prop) : Prop := wX2_isHollow N a1 a2 g f (fun r6 g6 f6 => ((r6 = 0) → Q g6 f6) ∧ ((¬ r6 = 0) → wX1_isReached N a1 a2 g6 f6 (fun r15 g15 f15 => ((¬ r15 = 0) → Q g15 f15) ∧ ((r15 = 0) → (((g15 7) < 144) → ∀ i43 : Int32, i43 = ((a2 * 12) + a1) → (vp_in i43 144) ∧ (∀ f43 : gFF, f43 = (va_up f15 15 (upd (f15 15) i43.toNatClampNeg 1)) → ∀ y58 : Int32, y58 = ((a2 * 12) + a1) → ∀ i58 : Int32, i58 = (g15 7) → (vp_in i58 144) ∧ (∀ f58 : gFF, f58 = (va_up f43 16 (upd (f43 16) i58.toNatClampNeg y58)) → ∀ y66 : Int32, y66 = ((g15 7) + 1) → ∀ g66 : gFG, g66 = (va_up g15 7 y66) → Q g66 f58))) ∧ ((¬ (g15 7) < 144) → Q g15 f15)))))
theorem mX1_reach (hE : gInj layC ad) {N : Nat} {a1 : Int32} {a2 : Int32} {g : gFG} {f : gFF} {Q : gFG → gFF → Prop} (h : wX1_reach N a1 a2 g f Q) : gCT l D cs layC ad (gZc ad tX tY sK sV) 3 yX1_reach cX1_reach 3 none [.ref (ad 2), .int a1, .int a2] (g, f, 0) (gQv Q) := by
  refine met_walk (lv0 := [some (.ref (ad 2)), some (.int a1), some (.int a2)]) ⟨hE, gZc_ok _ _ _ _ _⟩ (by decide) (Nat.le_of_ble_eq_true rfl) rfl (fun G Rt hG hQ => ?_)
  replace hG : gSim l D cs layC ad (gZc ad tX tY sK sV) 3 RX1 cX1_reach 3 none G Rt := hG
  unfold wX1_reach at h
  refine s_aload_n (n := 1) hG dX1_reach_0 rfl rfl ?_
  refine gtX1_32 (n := 4) hG dX1_reach_1 rfl ?_
  refine s_iload_n (n := 5) hG dX1_reach_4 rfl rfl ?_
  refine s_iload_n (n := 6) hG dX1_reach_5 rfl rfl ?_
  refine s_callV (n := 9) (st := []) hG (mX2_isHollow hE h) ceX2_isHollow lmX1_105 ⟨by decide, rfl, rfl⟩ rfl ⟨rfl, Nat.le_of_ble_eq_true rfl, by decide⟩ dX1_reach_6 rfl ?_
  rintro _ _ ⟨r6, g6, f6, rfl, rfl, h⟩
  refine s_if_eq (n := 12) (tgt := 31) hG dX1_reach_9 rfl rfl (fun c => ?_) (fun c => ?_)
  · replace h := h.1 c
    exact s_vret hG dX1_reach_31 (hQ _ _ ⟨_, _, rfl, rfl, h⟩)
  · replace h := h.2 c
    refine s_aload_n (n := 13) hG dX1_reach_12 rfl rfl ?_
    refine s_iload_n (n := 14) hG dX1_reach_13 rfl rfl ?_
    refine s_iload_n (n := 15) hG dX1_reach_14 rfl rfl ?_
    refine s_callV (n := 18) (st := []) hG (mX1_isReached hE h) ceX1_isReached lmX1_108 ⟨by decide, rfl, rfl⟩ rfl ⟨rfl, Nat.le_of_ble_eq_true rfl, by decide⟩ dX1_reach_15 rfl ?_
    rintro _ _ ⟨r15, g15, f15, rfl, rfl, h⟩
    refine s_if_ne (n := 21) (tgt := 31) hG dX1_reach_18 rfl rfl (fun c => ?_) (fun c => ?_)
    · replace h := h.1 c
      exact s_vret hG dX1_reach_31 (hQ _ _ ⟨_, _, rfl, rfl, h⟩)
    · replace h := h.2 c
      refine s_aload_n (n := 22) hG dX1_reach_21 rfl rfl ?_
      refine gtX1_22 (n := 25) hG dX1_reach_22 rfl ?_
      refine s_sipush (n := 28) hG dX1_reach_25 ks_144 rfl ?_
      refine s_icmp_lt (n := 31) (tgt := 32) hG dX1_reach_28 rfl rfl (fun c => ?_) (fun c => ?_)
      · replace h := h.1 c
        refine s_aload_n (n := 33) hG dX1_reach_32 rfl rfl ?_
        refine gtX1_15 (n := 36) hG dX1_reach_33 rfl ?_
        refine s_iload_n (n := 37) hG dX1_reach_36 rfl rfl ?_
        refine s_bipush (n := 39) hG dX1_reach_37 kb_12 rfl ?_
        refine s_imul (n := 40) hG dX1_reach_39 rfl ?_
        refine s_iload_n (n := 41) hG dX1_reach_40 rfl rfl ?_
        refine s_iadd (n := 42) hG dX1_reach_41 rfl ?_
        refine s_iconst (n := 43) hG dX1_reach_42 ki_1 rfl ?_
        refine s_topi2 (fun i43 hi43 => ?_)
        replace h := h i43 hi43
        obtain ⟨hin, h⟩ := h
        refine s_zast (n := 44) hG dX1_reach_43 (gaC_15 hin) (gz_v gz_1) rfl ?_
        refine s_nf (fun f43 hf43 => ?_)
        replace h := h f43 hf43
        refine s_aload_n (n := 45) hG dX1_reach_44 rfl rfl ?_
        refine gtX1_19 (n := 48) hG dX1_reach_45 rfl ?_
        refine s_aload_n (n := 49) hG dX1_reach_48 rfl rfl ?_
        refine gtX1_22 (n := 52) hG dX1_reach_49 rfl ?_
        refine s_iload_n (n := 53) hG dX1_reach_52 rfl rfl ?_
        refine s_bipush (n := 55) hG dX1_reach_53 kb_12 rfl ?_
        refine s_imul (n := 56) hG dX1_reach_55 rfl ?_
        refine s_iload_n (n := 57) hG dX1_reach_56 rfl rfl ?_
        refine s_iadd (n := 58) hG dX1_reach_57 rfl ?_
        refine s_topi (fun y58 hy58 => ?_)
        replace h := h y58 hy58
        refine s_topi2 (fun i58 hi58 => ?_)
        replace h := h i58 hi58
        obtain ⟨hin, h⟩ := h
        refine s_iast (n := 59) hG dX1_reach_58 (gaC_16 hin) rfl ?_
        refine s_nf (fun f58 hf58 => ?_)
        replace h := h f58 hf58
        refine s_aload_n (n := 60) hG dX1_reach_59 rfl rfl ?_
        refine s_dup (n := 61) hG dX1_reach_60 rfl rfl ?_
        refine gtX1_22 (n := 64) hG dX1_reach_61 rfl ?_
        refine s_iconst (n := 65) hG dX1_reach_64 ki_1 rfl ?_
        refine s_iadd (n := 66) hG dX1_reach_65 rfl ?_
        refine s_topi (fun y66 hy66 => ?_)
        replace h := h y66 hy66
        refine ptX1_22 (n := 69) hG dX1_reach_66 rfl ?_
        refine s_ng (fun g66 hg66 => ?_)
        replace h := h g66 hg66
        exact s_vret hG dX1_reach_69 (hQ _ _ ⟨_, _, rfl, rfl, h⟩)
      · replace h := h.2 c
        exact s_vret hG dX1_reach_31 (hQ _ _ ⟨_, _, rfl, rfl, h⟩)
def wX1_flood_j88 (N : Nat) (K0 : gFG → gFF → Prop) (K50 : Int32 → gFG → gFF → Prop) (Q : gFG → gFF → Prop) (v1 : Int32) (v2 : Int32) (v3 : Int32) (v4 : Int32) (g : gFG) (f : gFF) : Prop := ∀ x4_88 : Int32, x4_88 = (v4 + 1) → K50 x4_88 g f
theorem sX1_flood_j88 {G : gG} {Rt : Option Value → gSt → Prop} (hE : gInj layC ad) (hG : gSim l D cs layC ad (gZc ad tX tY sK sV) 4 RX1 cX1_flood 5 none G Rt) {Q : gFG → gFF → Prop} (hQ : ∀ v S, gQv Q v S → Rt v S) {N : Nat} {K0 : gFG → gFF → Prop} {K50 : Int32 → gFG → gFF → Prop}  {v1 : Int32} {v2 : Int32} {v3 : Int32} {v4 : Int32} {g : gFG} {f : gFF} (hK0 : ∀  (ug : gFG) (uf : gFF), K0  ug uf → G 0 [some (.ref (ad 2)), some (.int v1), none, none, none] [] (ug, uf, 0)) (hK50 : ∀ (uv4 : Int32) (ug : gFG) (uf : gFF), K50 uv4 ug uf → G 50 [some (.ref (ad 2)), some (.int v1), some (.int v2), some (.int v3), some (.int uv4)] [] (ug, uf, 0)) (h : wX1_flood_j88 N K0 K50 Q v1 v2 v3 v4 g f) : G 88 [some (.ref (ad 2)), some (.int v1), some (.int v2), some (.int v3), some (.int v4)] [] (g, f, 0) := by
  unfold wX1_flood_j88 at h
  obtain ⟨x4_88, hx4_88⟩ : ∃ z : Int32, z = (v4 + 1) := ⟨_, rfl⟩
  replace h := h x4_88 hx4_88
  refine s_iinc (n := 91) (v := x4_88) (lv2 := [some (.ref (ad 2)), some (.int v1), some (.int v2), some (.int v3), some (.int x4_88)]) hG dX1_flood_88 ki_1 rfl hx4_88 rfl rfl rfl ?_
  refine s_goto (tgt := 50) hG dX1_flood_91 rfl ?_
  exact s_wk hG (hK50 _ _ _ h) ⟨rfl, rfl, rfl, rfl, rfl, trivial⟩
def wX1_flood_l50 (N : Nat) (v1 : Int32) (v2 : Int32) (v3 : Int32) (K0 : gFG → gFF → Prop) (Q : gFG → gFF → Prop) : Nat → Int32 → gFG → gFF → Prop
  | 0, _, _, _ => False
  | n + 1, v4, g, f => ((4 ≤ v4) → ∀ y101 : Int32, y101 = ((g 8) + 1) → ∀ g101 : gFG, g101 = (va_up g 8 y101) → K0 g101 f) ∧ ((¬ 4 ≤ v4) → (vp_in v4 4) ∧ ((((v3 + (gwy v4.toNatClampNeg)) < v1) → wX1_flood_j88 N (K0) (wX1_flood_l50 N v1 v2 v3 K0 Q n) Q v1 v2 v3 v4 g f) ∧ ((¬ (v3 + (gwy v4.toNatClampNeg)) < v1) → (vp_in v4 4) ∧ ((vp_in v4 4) ∧ (wX1_reach N (v2 + (gwx v4.toNatClampNeg)) (v3 + (gwy v4.toNatClampNeg)) g f (fun g85 f85 => wX1_flood_j88 N (K0) (wX1_flood_l50 N v1 v2 v3 K0 Q n) Q v1 v2 v3 v4 g85 f85))))))
theorem sX1_flood_l50 {G : gG} {Rt : Option Value → gSt → Prop} (hE : gInj layC ad) (hG : gSim l D cs layC ad (gZc ad tX tY sK sV) 4 RX1 cX1_flood 5 none G Rt) {Q : gFG → gFF → Prop} (hQ : ∀ v S, gQv Q v S → Rt v S) {N : Nat} {v1 : Int32} {v2 : Int32} {v3 : Int32} {K0 : gFG → gFF → Prop}  (hK0 : ∀  (ug : gFG) (uf : gFF), K0  ug uf → G 0 [some (.ref (ad 2)), some (.int v1), none, none, none] [] (ug, uf, 0)) : ∀ (n : Nat) (v4 : Int32) (g : gFG) (f : gFF), wX1_flood_l50 N v1 v2 v3 K0 Q n v4 g f → G 50 [some (.ref (ad 2)), some (.int v1), some (.int v2), some (.int v3), some (.int v4)] [] (g, f, 0) := by
  intro n
  induction n with
  | zero => intro _ _ _ h; unfold wX1_flood_l50 at h; exact h.elim
  | succ n ih =>
    intro v4 g f h
    unfold wX1_flood_l50 at h
    refine s_iload (n := 52) hG dX1_flood_50 rfl rfl ?_
    refine s_iconst (n := 53) hG dX1_flood_52 ki_4 rfl ?_
    refine s_icmp_ge (n := 56) (tgt := 94) hG dX1_flood_53 rfl rfl (fun c => ?_) (fun c => ?_)
    · replace h := h.1 c
      refine s_aload_n (n := 95) hG dX1_flood_94 rfl rfl ?_
      refine s_dup (n := 96) hG dX1_flood_95 rfl rfl ?_
      refine gtX1_26 (n := 99) hG dX1_flood_96 rfl ?_
      refine s_iconst (n := 100) hG dX1_flood_99 ki_1 rfl ?_
      refine s_iadd (n := 101) hG dX1_flood_100 rfl ?_
      refine s_topi (fun y101 hy101 => ?_)
      replace h := h y101 hy101
      refine ptX1_26 (n := 104) hG dX1_flood_101 rfl ?_
      refine s_ng (fun g101 hg101 => ?_)
      replace h := h g101 hg101
      refine s_goto (tgt := 0) hG dX1_flood_104 rfl ?_
      exact s_wk hG (hK0 _ _ h) ⟨rfl, rfl, trivial⟩
    · replace h := h.2 c
      refine s_iload_n (n := 57) hG dX1_flood_56 rfl rfl ?_
      refine s_gets (n := 60) hG (fun U hU => ⟨hU.2.1.1, hU.2.2.1.2.1⟩) dX1_flood_57 rfl ?_
      refine s_iload (n := 62) hG dX1_flood_60 rfl rfl ?_
      obtain ⟨hin, h⟩ := h
      refine s_tald (n := 63) (N := 4) (tb := gwy) hG (fun U hU => hU.2.1.2) dX1_flood_62 hin rfl ?_
      refine s_iadd (n := 64) hG dX1_flood_63 rfl ?_
      refine s_iload_n (n := 65) hG dX1_flood_64 rfl rfl ?_
      refine s_icmp_lt (n := 68) (tgt := 88) hG dX1_flood_65 rfl rfl (fun c => ?_) (fun c => ?_)
      · replace h := h.1 c
        exact s_wk hG (sX1_flood_j88 hE hG hQ hK0 ih h) ⟨rfl, rfl, rfl, rfl, rfl, trivial⟩
      · replace h := h.2 c
        refine s_aload_n (n := 69) hG dX1_flood_68 rfl rfl ?_
        refine s_iload_n (n := 70) hG dX1_flood_69 rfl rfl ?_
        refine s_gets (n := 73) hG (fun U hU => ⟨hU.1.1, hU.2.2.1.1⟩) dX1_flood_70 rfl ?_
        refine s_iload (n := 75) hG dX1_flood_73 rfl rfl ?_
        obtain ⟨hin, h⟩ := h
        refine s_tald (n := 76) (N := 4) (tb := gwx) hG (fun U hU => hU.1.2) dX1_flood_75 hin rfl ?_
        refine s_iadd (n := 77) hG dX1_flood_76 rfl ?_
        refine s_iload_n (n := 78) hG dX1_flood_77 rfl rfl ?_
        refine s_gets (n := 81) hG (fun U hU => ⟨hU.2.1.1, hU.2.2.1.2.1⟩) dX1_flood_78 rfl ?_
        refine s_iload (n := 83) hG dX1_flood_81 rfl rfl ?_
        obtain ⟨hin, h⟩ := h
        refine s_tald (n := 84) (N := 4) (tb := gwy) hG (fun U hU => hU.2.1.2) dX1_flood_83 hin rfl ?_
        refine s_iadd (n := 85) hG dX1_flood_84 rfl ?_
        refine s_callV (n := 88) (st := []) hG (mX1_reach hE h) ceX1_reach lmX1_94 ⟨by decide, rfl, rfl⟩ rfl ⟨rfl, Nat.le_of_ble_eq_true rfl, by decide⟩ dX1_flood_85 rfl ?_
        rintro _ _ ⟨g85, f85, rfl, rfl, h⟩
        exact s_wk hG (sX1_flood_j88 hE hG hQ hK0 ih h) ⟨rfl, rfl, rfl, rfl, rfl, trivial⟩
def wX1_flood_l0 (N : Nat) (v1 : Int32)  (Q : gFG → gFF → Prop) : Nat → gFG → gFF → Prop
  | 0, _, _ => False
  | n + 1, g, f => (((g 7) ≤ (g 8)) → Q g f) ∧ ((¬ (g 7) ≤ (g 8)) → ((144 ≤ (g 8)) → Q g f) ∧ ((¬ 144 ≤ (g 8)) → ∀ i29 : Int32, i29 = (g 8) → (vp_in i29 144) ∧ (∀ x2_33 : Int32, x2_33 = ((f 16 i29.toNatClampNeg) - (f 16 i29.toNatClampNeg) / 12 * 12) → ∀ i42 : Int32, i42 = (g 8) → (vp_in i42 144) ∧ (∀ x3_46 : Int32, x3_46 = ((f 16 i42.toNatClampNeg) / 12) → wX1_flood_l50 N v1 x2_33 x3_46 (wX1_flood_l0 N v1  Q n) Q N 0 g f))))
theorem sX1_flood_l0 {G : gG} {Rt : Option Value → gSt → Prop} (hE : gInj layC ad) (hG : gSim l D cs layC ad (gZc ad tX tY sK sV) 4 RX1 cX1_flood 5 none G Rt) {Q : gFG → gFF → Prop} (hQ : ∀ v S, gQv Q v S → Rt v S) {N : Nat} {v1 : Int32}    : ∀ (n : Nat)  (g : gFG) (f : gFF), wX1_flood_l0 N v1  Q n  g f → G 0 [some (.ref (ad 2)), some (.int v1), none, none, none] [] (g, f, 0) := by
  intro n
  induction n with
  | zero => intro _ _ h; unfold wX1_flood_l0 at h; exact h.elim
  | succ n ih =>
    intro  g f h
    unfold wX1_flood_l0 at h
    refine s_aload_n (n := 1) hG dX1_flood_0 rfl rfl ?_
    refine gtX1_26 (n := 4) hG dX1_flood_1 rfl ?_
    refine s_aload_n (n := 5) hG dX1_flood_4 rfl rfl ?_
    refine gtX1_22 (n := 8) hG dX1_flood_5 rfl ?_
    refine s_icmp_ge (n := 11) (tgt := 107) hG dX1_flood_8 rfl rfl (fun c => ?_) (fun c => ?_)
    · replace h := h.1 c
      exact s_vret hG dX1_flood_107 (hQ _ _ ⟨_, _, rfl, rfl, h⟩)
    · replace h := h.2 c
      refine s_aload_n (n := 12) hG dX1_flood_11 rfl rfl ?_
      refine gtX1_26 (n := 15) hG dX1_flood_12 rfl ?_
      refine s_sipush (n := 18) hG dX1_flood_15 ks_144 rfl ?_
      refine s_icmp_ge (n := 21) (tgt := 107) hG dX1_flood_18 rfl rfl (fun c => ?_) (fun c => ?_)
      · replace h := h.1 c
        exact s_vret hG dX1_flood_107 (hQ _ _ ⟨_, _, rfl, rfl, h⟩)
      · replace h := h.2 c
        refine s_aload_n (n := 22) hG dX1_flood_21 rfl rfl ?_
        refine gtX1_19 (n := 25) hG dX1_flood_22 rfl ?_
        refine s_aload_n (n := 26) hG dX1_flood_25 rfl rfl ?_
        refine gtX1_26 (n := 29) hG dX1_flood_26 rfl ?_
        refine s_topi (fun i29 hi29 => ?_)
        replace h := h i29 hi29
        obtain ⟨hin, h⟩ := h
        refine s_iald (n := 30) hG dX1_flood_29 (gaC_16 hin) rfl ?_
        refine s_bipush (n := 32) hG dX1_flood_30 kb_12 rfl ?_
        refine s_irem (n := 33) hG dX1_flood_32 (by decide) rfl ?_
        refine s_topi (fun x2_33 hx2_33 => ?_)
        replace h := h x2_33 hx2_33
        refine s_istore_n (n := 34) (lv2 := [some (.ref (ad 2)), some (.int v1), some (.int x2_33), none, none]) hG dX1_flood_33 rfl rfl rfl ?_
        refine s_aload_n (n := 35) hG dX1_flood_34 rfl rfl ?_
        refine gtX1_19 (n := 38) hG dX1_flood_35 rfl ?_
        refine s_aload_n (n := 39) hG dX1_flood_38 rfl rfl ?_
        refine gtX1_26 (n := 42) hG dX1_flood_39 rfl ?_
        refine s_topi (fun i42 hi42 => ?_)
        replace h := h i42 hi42
        obtain ⟨hin, h⟩ := h
        refine s_iald (n := 43) hG dX1_flood_42 (gaC_16 hin) rfl ?_
        refine s_bipush (n := 45) hG dX1_flood_43 kb_12 rfl ?_
        refine s_idiv (n := 46) hG dX1_flood_45 (by decide) rfl ?_
        refine s_topi (fun x3_46 hx3_46 => ?_)
        replace h := h x3_46 hx3_46
        refine s_istore_n (n := 47) (lv2 := [some (.ref (ad 2)), some (.int v1), some (.int x2_33), some (.int x3_46), none]) hG dX1_flood_46 rfl rfl rfl ?_
        refine s_iconst (n := 48) hG dX1_flood_47 ki_0 rfl ?_
        refine s_istore (n := 50) (lv2 := [some (.ref (ad 2)), some (.int v1), some (.int x2_33), some (.int x3_46), some (.int 0)]) hG dX1_flood_48 rfl rfl rfl ?_
        exact s_wk hG (sX1_flood_l50 hE hG hQ ih N _ _ _ h) ⟨rfl, rfl, rfl, rfl, rfl, trivial⟩
def wX1_flood (N : Nat) (a1 : Int32) (g : gFG) (f : gFF) (Q : gFG → gFF → Prop) : Prop := wX1_flood_l0 N a1 Q N g f
theorem mX1_flood (hE : gInj layC ad) {N : Nat} {a1 : Int32} {g : gFG} {f : gFF} {Q : gFG → gFF → Prop} (h : wX1_flood N a1 g f Q) : gCT l D cs layC ad (gZc ad tX tY sK sV) 4 yX1_flood cX1_flood 5 none [.ref (ad 2), .int a1] (g, f, 0) (gQv Q) := by
  refine met_walk (lv0 := [some (.ref (ad 2)), some (.int a1), none, none, none]) ⟨hE, gZc_ok _ _ _ _ _⟩ (by decide) (Nat.le_of_ble_eq_true rfl) rfl (fun G Rt hG hQ => ?_)
  replace hG : gSim l D cs layC ad (gZc ad tX tY sK sV) 4 RX1 cX1_flood 5 none G Rt := hG
  unfold wX1_flood at h
  exact s_wk hG (sX1_flood_l0 hE hG hQ  N _ _ h) ⟨rfl, rfl, trivial⟩
def wX1_fateWithAir (N : Nat) (a1 : Int32) (a2 : Int32) (g : gFG) (f : gFF) (Q : Int32 → gFG → gFF → Prop) : Prop := wX2_isHollow N a1 a2 g f (fun r6 g6 f6 => ((r6 = 0) → wX2_sortAt N a1 a2 g6 f6 (fun r33 g33 f33 => ((¬ r33 = 2) → Q 0 g33 f33) ∧ ((r33 = 2) → Q 1 g33 f33))) ∧ ((¬ r6 = 0) → wX1_isReached N a1 a2 g6 f6 (fun r15 g15 f15 => ((r15 = 0) → Q 2 g15 f15) ∧ ((¬ r15 = 0) → Q 3 g15 f15))))
theorem mX1_fateWithAir (hE : gInj layC ad) {N : Nat} {a1 : Int32} {a2 : Int32} {g : gFG} {f : gFF} {Q : Int32 → gFG → gFF → Prop} (h : wX1_fateWithAir N a1 a2 g f Q) : gCT l D cs layC ad (gZc ad tX tY sK sV) 3 yX1_fateWithAir cX1_fateWithAir 3 (some .int) [.ref (ad 2), .int a1, .int a2] (g, f, 0) (gQi Q) := by
  refine met_walk (lv0 := [some (.ref (ad 2)), some (.int a1), some (.int a2)]) ⟨hE, gZc_ok _ _ _ _ _⟩ (by decide) (Nat.le_of_ble_eq_true rfl) rfl (fun G Rt hG hQ => ?_)
  replace hG : gSim l D cs layC ad (gZc ad tX tY sK sV) 3 RX1 cX1_fateWithAir 3 (some .int) G Rt := hG
  unfold wX1_fateWithAir at h
  refine s_aload_n (n := 1) hG dX1_fateWithAir_0 rfl rfl ?_
  refine gtX1_32 (n := 4) hG dX1_fateWithAir_1 rfl ?_
  refine s_iload_n (n := 5) hG dX1_fateWithAir_4 rfl rfl ?_
  refine s_iload_n (n := 6) hG dX1_fateWithAir_5 rfl rfl ?_
  refine s_callV (n := 9) (st := []) hG (mX2_isHollow hE h) ceX2_isHollow lmX1_105 ⟨by decide, rfl, rfl⟩ rfl ⟨rfl, Nat.le_of_ble_eq_true rfl, by decide⟩ dX1_fateWithAir_6 rfl ?_
  rintro _ _ ⟨r6, g6, f6, rfl, rfl, h⟩
  refine s_if_eq (n := 12) (tgt := 27) hG dX1_fateWithAir_9 rfl rfl (fun c => ?_) (fun c => ?_)
  · replace h := h.1 c
    refine s_aload_n (n := 28) hG dX1_fateWithAir_27 rfl rfl ?_
    refine gtX1_32 (n := 31) hG dX1_fateWithAir_28 rfl ?_
    refine s_iload_n (n := 32) hG dX1_fateWithAir_31 rfl rfl ?_
    refine s_iload_n (n := 33) hG dX1_fateWithAir_32 rfl rfl ?_
    refine s_callV (n := 36) (st := []) hG (mX2_sortAt hE h) ceX2_sortAt lmX1_91 ⟨by decide, rfl, rfl⟩ rfl ⟨rfl, Nat.le_of_ble_eq_true rfl, by decide⟩ dX1_fateWithAir_33 rfl ?_
    rintro _ _ ⟨r33, g33, f33, rfl, rfl, h⟩
    refine s_iconst (n := 37) hG dX1_fateWithAir_36 ki_2 rfl ?_
    refine s_icmp_ne (n := 40) (tgt := 44) hG dX1_fateWithAir_37 rfl rfl (fun c => ?_) (fun c => ?_)
    · replace h := h.1 c
      refine s_iconst (n := 45) hG dX1_fateWithAir_44 ki_0 rfl ?_
      exact s_iret hG dX1_fateWithAir_45 (hQ _ _ ⟨_, _, _, rfl, rfl, h⟩)
    · replace h := h.2 c
      refine s_iconst (n := 41) hG dX1_fateWithAir_40 ki_1 rfl ?_
      refine s_goto (tgt := 45) hG dX1_fateWithAir_41 rfl ?_
      exact s_iret hG dX1_fateWithAir_45 (hQ _ _ ⟨_, _, _, rfl, rfl, h⟩)
  · replace h := h.2 c
    refine s_aload_n (n := 13) hG dX1_fateWithAir_12 rfl rfl ?_
    refine s_iload_n (n := 14) hG dX1_fateWithAir_13 rfl rfl ?_
    refine s_iload_n (n := 15) hG dX1_fateWithAir_14 rfl rfl ?_
    refine s_callV (n := 18) (st := []) hG (mX1_isReached hE h) ceX1_isReached lmX1_108 ⟨by decide, rfl, rfl⟩ rfl ⟨rfl, Nat.le_of_ble_eq_true rfl, by decide⟩ dX1_fateWithAir_15 rfl ?_
    rintro _ _ ⟨r15, g15, f15, rfl, rfl, h⟩
    refine s_if_eq (n := 21) (tgt := 25) hG dX1_fateWithAir_18 rfl rfl (fun c => ?_) (fun c => ?_)
    · replace h := h.1 c
      refine s_iconst (n := 26) hG dX1_fateWithAir_25 ki_2 rfl ?_
      exact s_iret hG dX1_fateWithAir_26 (hQ _ _ ⟨_, _, _, rfl, rfl, h⟩)
    · replace h := h.2 c
      refine s_iconst (n := 22) hG dX1_fateWithAir_21 ki_3 rfl ?_
      refine s_goto (tgt := 26) hG dX1_fateWithAir_22 rfl ?_
      exact s_iret hG dX1_fateWithAir_26 (hQ _ _ ⟨_, _, _, rfl, rfl, h⟩)
def wX1_letMetalCome_l81 (N : Nat) (v1 : Int32) (K68 : Int32 → gFG → gFF → Prop) (Q : gFG → gFF → Prop) : Nat → Int32 → gFG → gFF → Prop
  | 0, _, _, _ => False
  | n + 1, v2, g, f => wX2_width N g f (fun r86 g86 f86 => ((r86 ≤ v2) → ∀ x1_115 : Int32, x1_115 = (v1 + 1) → K68 x1_115 g86 f86) ∧ ((¬ r86 ≤ v2) → wX1_fateWithAir N v2 v1 g86 f86 (fun r105 g105 f105 => ∀ i108 : Int32, i108 = ((v1 * 12) + v2) → (vp_in i108 144) ∧ (∀ f108 : gFF, f108 = (va_up f105 14 (upd (f105 14) i108.toNatClampNeg r105)) → ∀ x2_109 : Int32, x2_109 = (v2 + 1) → wX1_letMetalCome_l81 N v1 K68 Q n x2_109 g105 f108))))
theorem sX1_letMetalCome_l81 {G : gG} {Rt : Option Value → gSt → Prop} (hE : gInj layC ad) (hG : gSim l D cs layC ad (gZc ad tX tY sK sV) 5 RX1 cX1_letMetalCome 3 none G Rt) {Q : gFG → gFF → Prop} (hQ : ∀ v S, gQv Q v S → Rt v S) {N : Nat} {v1 : Int32} {K68 : Int32 → gFG → gFF → Prop}  (hK68 : ∀ (uv1 : Int32) (ug : gFG) (uf : gFF), K68 uv1 ug uf → G 68 [some (.ref (ad 2)), some (.int uv1), none] [] (ug, uf, 0)) : ∀ (n : Nat) (v2 : Int32) (g : gFG) (f : gFF), wX1_letMetalCome_l81 N v1 K68 Q n v2 g f → G 81 [some (.ref (ad 2)), some (.int v1), some (.int v2)] [] (g, f, 0) := by
  intro n
  induction n with
  | zero => intro _ _ _ h; unfold wX1_letMetalCome_l81 at h; exact h.elim
  | succ n ih =>
    intro v2 g f h
    unfold wX1_letMetalCome_l81 at h
    refine s_iload_n (n := 82) hG dX1_letMetalCome_81 rfl rfl ?_
    refine s_aload_n (n := 83) hG dX1_letMetalCome_82 rfl rfl ?_
    refine gtX1_32 (n := 86) hG dX1_letMetalCome_83 rfl ?_
    refine s_callV (n := 89) (st := [.int v2]) hG (mX2_width hE h) ceX2_width lmX1_54 ⟨by decide, rfl, rfl⟩ rfl ⟨rfl, Nat.le_of_ble_eq_true rfl, by decide⟩ dX1_letMetalCome_86 rfl ?_
    rintro _ _ ⟨r86, g86, f86, rfl, rfl, h⟩
    refine s_icmp_ge (n := 92) (tgt := 115) hG dX1_letMetalCome_89 rfl rfl (fun c => ?_) (fun c => ?_)
    · replace h := h.1 c
      obtain ⟨x1_115, hx1_115⟩ : ∃ z : Int32, z = (v1 + 1) := ⟨_, rfl⟩
      replace h := h x1_115 hx1_115
      refine s_iinc (n := 118) (v := x1_115) (lv2 := [some (.ref (ad 2)), some (.int x1_115), some (.int v2)]) hG dX1_letMetalCome_115 ki_1 rfl hx1_115 rfl rfl rfl ?_
      refine s_goto (tgt := 68) hG dX1_letMetalCome_118 rfl ?_
      exact s_wk hG (hK68 _ _ _ h) ⟨rfl, rfl, trivial⟩
    · replace h := h.2 c
      refine s_aload_n (n := 93) hG dX1_letMetalCome_92 rfl rfl ?_
      refine gtX1_9 (n := 96) hG dX1_letMetalCome_93 rfl ?_
      refine s_iload_n (n := 97) hG dX1_letMetalCome_96 rfl rfl ?_
      refine s_bipush (n := 99) hG dX1_letMetalCome_97 kb_12 rfl ?_
      refine s_imul (n := 100) hG dX1_letMetalCome_99 rfl ?_
      refine s_iload_n (n := 101) hG dX1_letMetalCome_100 rfl rfl ?_
      refine s_iadd (n := 102) hG dX1_letMetalCome_101 rfl ?_
      refine s_aload_n (n := 103) hG dX1_letMetalCome_102 rfl rfl ?_
      refine s_iload_n (n := 104) hG dX1_letMetalCome_103 rfl rfl ?_
      refine s_iload_n (n := 105) hG dX1_letMetalCome_104 rfl rfl ?_
      refine s_callV (n := 108) (st := [.int ((v1 * 12) + v2), .ref (ad 14)]) hG (mX1_fateWithAir hE h) ceX1_fateWithAir lmX1_102 ⟨by decide, rfl, rfl⟩ rfl ⟨rfl, Nat.le_of_ble_eq_true rfl, by decide⟩ dX1_letMetalCome_105 rfl ?_
      rintro _ _ ⟨r105, g105, f105, rfl, rfl, h⟩
      refine s_topi2 (fun i108 hi108 => ?_)
      replace h := h i108 hi108
      obtain ⟨hin, h⟩ := h
      refine s_iast (n := 109) hG dX1_letMetalCome_108 (gaC_14 hin) rfl ?_
      refine s_nf (fun f108 hf108 => ?_)
      replace h := h f108 hf108
      obtain ⟨x2_109, hx2_109⟩ : ∃ z : Int32, z = (v2 + 1) := ⟨_, rfl⟩
      replace h := h x2_109 hx2_109
      refine s_iinc (n := 112) (v := x2_109) (lv2 := [some (.ref (ad 2)), some (.int v1), some (.int x2_109)]) hG dX1_letMetalCome_109 ki_1 rfl hx2_109 rfl rfl rfl ?_
      refine s_goto (tgt := 81) hG dX1_letMetalCome_112 rfl ?_
      exact s_wk hG (ih _ _ _ h) ⟨rfl, rfl, rfl, trivial⟩
def wX1_letMetalCome_l68 (N : Nat)   (Q : gFG → gFF → Prop) : Nat → Int32 → gFG → gFF → Prop
  | 0, _, _, _ => False
  | n + 1, v1, g, f => wX2_height N g f (fun r73 g73 f73 => ((r73 ≤ v1) → Q g73 f73) ∧ ((¬ r73 ≤ v1) → wX1_letMetalCome_l81 N v1 (wX1_letMetalCome_l68 N   Q n) Q N 0 g73 f73))
theorem sX1_letMetalCome_l68 {G : gG} {Rt : Option Value → gSt → Prop} (hE : gInj layC ad) (hG : gSim l D cs layC ad (gZc ad tX tY sK sV) 5 RX1 cX1_letMetalCome 3 none G Rt) {Q : gFG → gFF → Prop} (hQ : ∀ v S, gQv Q v S → Rt v S) {N : Nat}     : ∀ (n : Nat) (v1 : Int32) (g : gFG) (f : gFF), wX1_letMetalCome_l68 N   Q n v1 g f → G 68 [some (.ref (ad 2)), some (.int v1), none] [] (g, f, 0) := by
  intro n
  induction n with
  | zero => intro _ _ _ h; unfold wX1_letMetalCome_l68 at h; exact h.elim
  | succ n ih =>
    intro v1 g f h
    unfold wX1_letMetalCome_l68 at h
    refine s_iload_n (n := 69) hG dX1_letMetalCome_68 rfl rfl ?_
    refine s_aload_n (n := 70) hG dX1_letMetalCome_69 rfl rfl ?_
    refine gtX1_32 (n := 73) hG dX1_letMetalCome_70 rfl ?_
    refine s_callV (n := 76) (st := [.int v1]) hG (mX2_height hE h) ceX2_height lmX1_51 ⟨by decide, rfl, rfl⟩ rfl ⟨rfl, Nat.le_of_ble_eq_true rfl, by decide⟩ dX1_letMetalCome_73 rfl ?_
    rintro _ _ ⟨r73, g73, f73, rfl, rfl, h⟩
    refine s_icmp_ge (n := 79) (tgt := 121) hG dX1_letMetalCome_76 rfl rfl (fun c => ?_) (fun c => ?_)
    · replace h := h.1 c
      exact s_vret hG dX1_letMetalCome_121 (hQ _ _ ⟨_, _, rfl, rfl, h⟩)
    · replace h := h.2 c
      refine s_iconst (n := 80) hG dX1_letMetalCome_79 ki_0 rfl ?_
      refine s_istore_n (n := 81) (lv2 := [some (.ref (ad 2)), some (.int v1), some (.int 0)]) hG dX1_letMetalCome_80 rfl rfl rfl ?_
      exact s_wk hG (sX1_letMetalCome_l81 hE hG hQ ih N _ _ _ h) ⟨rfl, rfl, rfl, trivial⟩
def wX1_letMetalCome_j49 (N : Nat) (K6 : Int32 → gFG → gFF → Prop) (K19 : Int32 → gFG → gFF → Prop) (Q : gFG → gFF → Prop) (v1 : Int32) (v2 : Int32) (g : gFG) (f : gFF) : Prop := ∀ x2_49 : Int32, x2_49 = (v2 + 1) → K19 x2_49 g f
theorem sX1_letMetalCome_j49 {G : gG} {Rt : Option Value → gSt → Prop} (hE : gInj layC ad) (hG : gSim l D cs layC ad (gZc ad tX tY sK sV) 5 RX1 cX1_letMetalCome 3 none G Rt) {Q : gFG → gFF → Prop} (hQ : ∀ v S, gQv Q v S → Rt v S) {N : Nat} {K6 : Int32 → gFG → gFF → Prop} {K19 : Int32 → gFG → gFF → Prop}  {v1 : Int32} {v2 : Int32} {g : gFG} {f : gFF} (hK6 : ∀ (uv1 : Int32) (ug : gFG) (uf : gFF), K6 uv1 ug uf → G 6 [some (.ref (ad 2)), some (.int uv1), none] [] (ug, uf, 0)) (hK19 : ∀ (uv2 : Int32) (ug : gFG) (uf : gFF), K19 uv2 ug uf → G 19 [some (.ref (ad 2)), some (.int v1), some (.int uv2)] [] (ug, uf, 0)) (h : wX1_letMetalCome_j49 N K6 K19 Q v1 v2 g f) : G 49 [some (.ref (ad 2)), some (.int v1), some (.int v2)] [] (g, f, 0) := by
  unfold wX1_letMetalCome_j49 at h
  obtain ⟨x2_49, hx2_49⟩ : ∃ z : Int32, z = (v2 + 1) := ⟨_, rfl⟩
  replace h := h x2_49 hx2_49
  refine s_iinc (n := 52) (v := x2_49) (lv2 := [some (.ref (ad 2)), some (.int v1), some (.int x2_49)]) hG dX1_letMetalCome_49 ki_1 rfl hx2_49 rfl rfl rfl ?_
  refine s_goto (tgt := 19) hG dX1_letMetalCome_52 rfl ?_
  exact s_wk hG (hK19 _ _ _ h) ⟨rfl, rfl, rfl, trivial⟩
def wX1_letMetalCome_l19 (N : Nat) (v1 : Int32) (K6 : Int32 → gFG → gFF → Prop) (Q : gFG → gFF → Prop) : Nat → Int32 → gFG → gFF → Prop
  | 0, _, _, _ => False
  | n + 1, v2, g, f => wX2_width N g f (fun r24 g24 f24 => ((r24 ≤ v2) → ∀ x1_55 : Int32, x1_55 = (v1 + 1) → K6 x1_55 g24 f24) ∧ ((¬ r24 ≤ v2) → wX2_sortAt N v2 v1 g24 f24 (fun r36 g36 f36 => ((¬ r36 = 3) → wX1_letMetalCome_j49 N (K6) (wX1_letMetalCome_l19 N v1 K6 Q n) Q v1 v2 g36 f36) ∧ ((r36 = 3) → wX1_reach N v2 v1 g36 f36 (fun g46 f46 => wX1_letMetalCome_j49 N (K6) (wX1_letMetalCome_l19 N v1 K6 Q n) Q v1 v2 g46 f46)))))
theorem sX1_letMetalCome_l19 {G : gG} {Rt : Option Value → gSt → Prop} (hE : gInj layC ad) (hG : gSim l D cs layC ad (gZc ad tX tY sK sV) 5 RX1 cX1_letMetalCome 3 none G Rt) {Q : gFG → gFF → Prop} (hQ : ∀ v S, gQv Q v S → Rt v S) {N : Nat} {v1 : Int32} {K6 : Int32 → gFG → gFF → Prop}  (hK6 : ∀ (uv1 : Int32) (ug : gFG) (uf : gFF), K6 uv1 ug uf → G 6 [some (.ref (ad 2)), some (.int uv1), none] [] (ug, uf, 0)) : ∀ (n : Nat) (v2 : Int32) (g : gFG) (f : gFF), wX1_letMetalCome_l19 N v1 K6 Q n v2 g f → G 19 [some (.ref (ad 2)), some (.int v1), some (.int v2)] [] (g, f, 0) := by
  intro n
  induction n with
  | zero => intro _ _ _ h; unfold wX1_letMetalCome_l19 at h; exact h.elim
  | succ n ih =>
    intro v2 g f h
    unfold wX1_letMetalCome_l19 at h
    refine s_iload_n (n := 20) hG dX1_letMetalCome_19 rfl rfl ?_
    refine s_aload_n (n := 21) hG dX1_letMetalCome_20 rfl rfl ?_
    refine gtX1_32 (n := 24) hG dX1_letMetalCome_21 rfl ?_
    refine s_callV (n := 27) (st := [.int v2]) hG (mX2_width hE h) ceX2_width lmX1_54 ⟨by decide, rfl, rfl⟩ rfl ⟨rfl, Nat.le_of_ble_eq_true rfl, by decide⟩ dX1_letMetalCome_24 rfl ?_
    rintro _ _ ⟨r24, g24, f24, rfl, rfl, h⟩
    refine s_icmp_ge (n := 30) (tgt := 55) hG dX1_letMetalCome_27 rfl rfl (fun c => ?_) (fun c => ?_)
    · replace h := h.1 c
      obtain ⟨x1_55, hx1_55⟩ : ∃ z : Int32, z = (v1 + 1) := ⟨_, rfl⟩
      replace h := h x1_55 hx1_55
      refine s_iinc (n := 58) (v := x1_55) (lv2 := [some (.ref (ad 2)), some (.int x1_55), some (.int v2)]) hG dX1_letMetalCome_55 ki_1 rfl hx1_55 rfl rfl rfl ?_
      refine s_goto (tgt := 6) hG dX1_letMetalCome_58 rfl ?_
      exact s_wk hG (hK6 _ _ _ h) ⟨rfl, rfl, trivial⟩
    · replace h := h.2 c
      refine s_aload_n (n := 31) hG dX1_letMetalCome_30 rfl rfl ?_
      refine gtX1_32 (n := 34) hG dX1_letMetalCome_31 rfl ?_
      refine s_iload_n (n := 35) hG dX1_letMetalCome_34 rfl rfl ?_
      refine s_iload_n (n := 36) hG dX1_letMetalCome_35 rfl rfl ?_
      refine s_callV (n := 39) (st := []) hG (mX2_sortAt hE h) ceX2_sortAt lmX1_91 ⟨by decide, rfl, rfl⟩ rfl ⟨rfl, Nat.le_of_ble_eq_true rfl, by decide⟩ dX1_letMetalCome_36 rfl ?_
      rintro _ _ ⟨r36, g36, f36, rfl, rfl, h⟩
      refine s_iconst (n := 40) hG dX1_letMetalCome_39 ki_3 rfl ?_
      refine s_icmp_ne (n := 43) (tgt := 49) hG dX1_letMetalCome_40 rfl rfl (fun c => ?_) (fun c => ?_)
      · replace h := h.1 c
        exact s_wk hG (sX1_letMetalCome_j49 hE hG hQ hK6 ih h) ⟨rfl, rfl, rfl, trivial⟩
      · replace h := h.2 c
        refine s_aload_n (n := 44) hG dX1_letMetalCome_43 rfl rfl ?_
        refine s_iload_n (n := 45) hG dX1_letMetalCome_44 rfl rfl ?_
        refine s_iload_n (n := 46) hG dX1_letMetalCome_45 rfl rfl ?_
        refine s_callV (n := 49) (st := []) hG (mX1_reach hE h) ceX1_reach lmX1_94 ⟨by decide, rfl, rfl⟩ rfl ⟨rfl, Nat.le_of_ble_eq_true rfl, by decide⟩ dX1_letMetalCome_46 rfl ?_
        rintro _ _ ⟨g46, f46, rfl, rfl, h⟩
        exact s_wk hG (sX1_letMetalCome_j49 hE hG hQ hK6 ih h) ⟨rfl, rfl, rfl, trivial⟩
def wX1_letMetalCome_l6 (N : Nat)   (Q : gFG → gFF → Prop) : Nat → Int32 → gFG → gFF → Prop
  | 0, _, _, _ => False
  | n + 1, v1, g, f => wX2_height N g f (fun r11 g11 f11 => ((r11 ≤ v1) → wX1_flood N 0 g11 f11 (fun g63 f63 => wX1_letMetalCome_l68 N  Q N 0 g63 f63)) ∧ ((¬ r11 ≤ v1) → wX1_letMetalCome_l19 N v1 (wX1_letMetalCome_l6 N   Q n) Q N 0 g11 f11))
theorem sX1_letMetalCome_l6 {G : gG} {Rt : Option Value → gSt → Prop} (hE : gInj layC ad) (hG : gSim l D cs layC ad (gZc ad tX tY sK sV) 5 RX1 cX1_letMetalCome 3 none G Rt) {Q : gFG → gFF → Prop} (hQ : ∀ v S, gQv Q v S → Rt v S) {N : Nat}     : ∀ (n : Nat) (v1 : Int32) (g : gFG) (f : gFF), wX1_letMetalCome_l6 N   Q n v1 g f → G 6 [some (.ref (ad 2)), some (.int v1), none] [] (g, f, 0) := by
  intro n
  induction n with
  | zero => intro _ _ _ h; unfold wX1_letMetalCome_l6 at h; exact h.elim
  | succ n ih =>
    intro v1 g f h
    unfold wX1_letMetalCome_l6 at h
    refine s_iload_n (n := 7) hG dX1_letMetalCome_6 rfl rfl ?_
    refine s_aload_n (n := 8) hG dX1_letMetalCome_7 rfl rfl ?_
    refine gtX1_32 (n := 11) hG dX1_letMetalCome_8 rfl ?_
    refine s_callV (n := 14) (st := [.int v1]) hG (mX2_height hE h) ceX2_height lmX1_51 ⟨by decide, rfl, rfl⟩ rfl ⟨rfl, Nat.le_of_ble_eq_true rfl, by decide⟩ dX1_letMetalCome_11 rfl ?_
    rintro _ _ ⟨r11, g11, f11, rfl, rfl, h⟩
    refine s_icmp_ge (n := 17) (tgt := 61) hG dX1_letMetalCome_14 rfl rfl (fun c => ?_) (fun c => ?_)
    · replace h := h.1 c
      refine s_aload_n (n := 62) hG dX1_letMetalCome_61 rfl rfl ?_
      refine s_iconst (n := 63) hG dX1_letMetalCome_62 ki_0 rfl ?_
      refine s_callV (n := 66) (st := []) hG (mX1_flood hE h) ceX1_flood lmX1_98 ⟨by decide, rfl, rfl⟩ rfl ⟨rfl, Nat.le_of_ble_eq_true rfl, by decide⟩ dX1_letMetalCome_63 rfl ?_
      rintro _ _ ⟨g63, f63, rfl, rfl, h⟩
      refine s_iconst (n := 67) hG dX1_letMetalCome_66 ki_0 rfl ?_
      refine s_istore_n (n := 68) (lv2 := [some (.ref (ad 2)), some (.int 0), none]) hG dX1_letMetalCome_67 rfl rfl rfl ?_
      exact s_wk hG (sX1_letMetalCome_l68 hE hG hQ  N _ _ _ h) ⟨rfl, rfl, trivial⟩
    · replace h := h.2 c
      refine s_iconst (n := 18) hG dX1_letMetalCome_17 ki_0 rfl ?_
      refine s_istore_n (n := 19) (lv2 := [some (.ref (ad 2)), some (.int v1), some (.int 0)]) hG dX1_letMetalCome_18 rfl rfl rfl ?_
      exact s_wk hG (sX1_letMetalCome_l19 hE hG hQ ih N _ _ _ h) ⟨rfl, rfl, rfl, trivial⟩
def wX1_letMetalCome (N : Nat)  (g : gFG) (f : gFF) (Q : gFG → gFF → Prop) : Prop := wX1_startFlood N g f (fun g1 f1 => wX1_letMetalCome_l6 N  Q N 0 g1 f1)
theorem mX1_letMetalCome (hE : gInj layC ad) {N : Nat}  {g : gFG} {f : gFF} {Q : gFG → gFF → Prop} (h : wX1_letMetalCome N  g f Q) : gCT l D cs layC ad (gZc ad tX tY sK sV) 5 yX1_letMetalCome cX1_letMetalCome 3 none [.ref (ad 2)] (g, f, 0) (gQv Q) := by
  refine met_walk (lv0 := [some (.ref (ad 2)), none, none]) ⟨hE, gZc_ok _ _ _ _ _⟩ (by decide) (Nat.le_of_ble_eq_true rfl) rfl (fun G Rt hG hQ => ?_)
  replace hG : gSim l D cs layC ad (gZc ad tX tY sK sV) 5 RX1 cX1_letMetalCome 3 none G Rt := hG
  unfold wX1_letMetalCome at h
  refine s_aload_n (n := 1) hG dX1_letMetalCome_0 rfl rfl ?_
  refine s_callV (n := 4) (st := []) hG (mX1_startFlood hE h) ceX1_startFlood lmX1_88 ⟨by decide, rfl, rfl⟩ rfl ⟨rfl, Nat.le_of_ble_eq_true rfl, by decide⟩ dX1_letMetalCome_1 rfl ?_
  rintro _ _ ⟨g1, f1, rfl, rfl, h⟩
  refine s_iconst (n := 5) hG dX1_letMetalCome_4 ki_0 rfl ?_
  refine s_istore_n (n := 6) (lv2 := [some (.ref (ad 2)), some (.int 0), none]) hG dX1_letMetalCome_5 rfl rfl rfl ?_
  exact s_wk hG (sX1_letMetalCome_l6 hE hG hQ  N _ _ _ h) ⟨rfl, rfl, trivial⟩
def wX1_fateAt (N : Nat) (a1 : Int32) (a2 : Int32) (g : gFG) (f : gFF) (Q : Int32 → gFG → gFF → Prop) : Prop := wX2_has N a1 a2 g f (fun r6 g6 f6 => ((r6 = 0) → Q 0 g6 f6) ∧ ((¬ r6 = 0) → ∀ i22 : Int32, i22 = ((a2 * 12) + a1) → (vp_in i22 144) ∧ (Q (f6 14 i22.toNatClampNeg) g6 f6)))
theorem mX1_fateAt (hE : gInj layC ad) {N : Nat} {a1 : Int32} {a2 : Int32} {g : gFG} {f : gFF} {Q : Int32 → gFG → gFF → Prop} (h : wX1_fateAt N a1 a2 g f Q) : gCT l D cs layC ad (gZc ad tX tY sK sV) 2 yX1_fateAt cX1_fateAt 3 (some .int) [.ref (ad 2), .int a1, .int a2] (g, f, 0) (gQi Q) := by
  refine met_walk (lv0 := [some (.ref (ad 2)), some (.int a1), some (.int a2)]) ⟨hE, gZc_ok _ _ _ _ _⟩ (by decide) (Nat.le_of_ble_eq_true rfl) rfl (fun G Rt hG hQ => ?_)
  replace hG : gSim l D cs layC ad (gZc ad tX tY sK sV) 2 RX1 cX1_fateAt 3 (some .int) G Rt := hG
  unfold wX1_fateAt at h
  refine s_aload_n (n := 1) hG dX1_fateAt_0 rfl rfl ?_
  refine gtX1_32 (n := 4) hG dX1_fateAt_1 rfl ?_
  refine s_iload_n (n := 5) hG dX1_fateAt_4 rfl rfl ?_
  refine s_iload_n (n := 6) hG dX1_fateAt_5 rfl rfl ?_
  refine s_callV (n := 9) (st := []) hG (mX2_has hE h) ceX2_has lmX1_47 ⟨by decide, rfl, rfl⟩ rfl ⟨rfl, Nat.le_of_ble_eq_true rfl, by decide⟩ dX1_fateAt_6 rfl ?_
  rintro _ _ ⟨r6, g6, f6, rfl, rfl, h⟩
  refine s_if_eq (n := 12) (tgt := 26) hG dX1_fateAt_9 rfl rfl (fun c => ?_) (fun c => ?_)
  · replace h := h.1 c
    refine s_iconst (n := 27) hG dX1_fateAt_26 ki_0 rfl ?_
    exact s_iret hG dX1_fateAt_27 (hQ _ _ ⟨_, _, _, rfl, rfl, h⟩)
  · replace h := h.2 c
    refine s_aload_n (n := 13) hG dX1_fateAt_12 rfl rfl ?_
    refine gtX1_9 (n := 16) hG dX1_fateAt_13 rfl ?_
    refine s_iload_n (n := 17) hG dX1_fateAt_16 rfl rfl ?_
    refine s_bipush (n := 19) hG dX1_fateAt_17 kb_12 rfl ?_
    refine s_imul (n := 20) hG dX1_fateAt_19 rfl ?_
    refine s_iload_n (n := 21) hG dX1_fateAt_20 rfl rfl ?_
    refine s_iadd (n := 22) hG dX1_fateAt_21 rfl ?_
    refine s_topi (fun i22 hi22 => ?_)
    replace h := h i22 hi22
    obtain ⟨hin, h⟩ := h
    refine s_iald (n := 23) hG dX1_fateAt_22 (gaC_14 hin) rfl ?_
    refine s_goto (tgt := 27) hG dX1_fateAt_23 rfl ?_
    exact s_iret hG dX1_fateAt_27 (hQ _ _ ⟨_, _, _, rfl, rfl, h⟩)
def wX1_castRow_j44 (N : Nat) (K2 : Int32 → gFG → gFF → Prop) (Q : gFG → gFF → Prop) (v1 : Int32) (v2 : Int32) (g : gFG) (f : gFF) : Prop := ∀ x2_44 : Int32, x2_44 = (v2 + 1) → K2 x2_44 g f
theorem sX1_castRow_j44 {G : gG} {Rt : Option Value → gSt → Prop} (hE : gInj layC ad) (hG : gSim l D cs layC ad (gZc ad tX tY sK sV) 3 RX1 cX1_castRow 3 none G Rt) {Q : gFG → gFF → Prop} (hQ : ∀ v S, gQv Q v S → Rt v S) {N : Nat} {K2 : Int32 → gFG → gFF → Prop}  {v1 : Int32} {v2 : Int32} {g : gFG} {f : gFF} (hK2 : ∀ (uv2 : Int32) (ug : gFG) (uf : gFF), K2 uv2 ug uf → G 2 [some (.ref (ad 2)), some (.int v1), some (.int uv2)] [] (ug, uf, 0)) (h : wX1_castRow_j44 N K2 Q v1 v2 g f) : G 44 [some (.ref (ad 2)), some (.int v1), some (.int v2)] [] (g, f, 0) := by
  unfold wX1_castRow_j44 at h
  obtain ⟨x2_44, hx2_44⟩ : ∃ z : Int32, z = (v2 + 1) := ⟨_, rfl⟩
  replace h := h x2_44 hx2_44
  refine s_iinc (n := 47) (v := x2_44) (lv2 := [some (.ref (ad 2)), some (.int v1), some (.int x2_44)]) hG dX1_castRow_44 ki_1 rfl hx2_44 rfl rfl rfl ?_
  refine s_goto (tgt := 2) hG dX1_castRow_47 rfl ?_
  exact s_wk hG (hK2 _ _ _ h) ⟨rfl, rfl, rfl, trivial⟩
def wX1_castRow_l2 (N : Nat) (v1 : Int32)  (Q : gFG → gFF → Prop) : Nat → Int32 → gFG → gFF → Prop
  | 0, _, _, _ => False
  | n + 1, v2, g, f => wX2_width N g f (fun r7 g7 f7 => ((r7 ≤ v2) → Q g7 f7) ∧ ((¬ r7 ≤ v2) → wX1_fateAt N v2 v1 g7 f7 (fun r16 g16 f16 => ((¬ r16 = 3) → wX1_castRow_j44 N (wX1_castRow_l2 N v1  Q n) Q v1 v2 g16 f16) ∧ ((r16 = 3) → wX1_isReached N v2 v1 g16 f16 (fun r26 g26 f26 => ((r26 = 0) → wX1_castRow_j44 N (wX1_castRow_l2 N v1  Q n) Q v1 v2 g26 f26) ∧ ((¬ r26 = 0) → ∀ i43 : Int32, i43 = ((v1 * 12) + v2) → (vp_in i43 144) ∧ (∀ f43 : gFF, f43 = (va_up f26 14 (upd (f26 14) i43.toNatClampNeg 1)) → wX1_castRow_j44 N (wX1_castRow_l2 N v1  Q n) Q v1 v2 g26 f43)))))))
theorem sX1_castRow_l2 {G : gG} {Rt : Option Value → gSt → Prop} (hE : gInj layC ad) (hG : gSim l D cs layC ad (gZc ad tX tY sK sV) 3 RX1 cX1_castRow 3 none G Rt) {Q : gFG → gFF → Prop} (hQ : ∀ v S, gQv Q v S → Rt v S) {N : Nat} {v1 : Int32}    : ∀ (n : Nat) (v2 : Int32) (g : gFG) (f : gFF), wX1_castRow_l2 N v1  Q n v2 g f → G 2 [some (.ref (ad 2)), some (.int v1), some (.int v2)] [] (g, f, 0) := by
  intro n
  induction n with
  | zero => intro _ _ _ h; unfold wX1_castRow_l2 at h; exact h.elim
  | succ n ih =>
    intro v2 g f h
    unfold wX1_castRow_l2 at h
    refine s_iload_n (n := 3) hG dX1_castRow_2 rfl rfl ?_
    refine s_aload_n (n := 4) hG dX1_castRow_3 rfl rfl ?_
    refine gtX1_32 (n := 7) hG dX1_castRow_4 rfl ?_
    refine s_callV (n := 10) (st := [.int v2]) hG (mX2_width hE h) ceX2_width lmX1_54 ⟨by decide, rfl, rfl⟩ rfl ⟨rfl, Nat.le_of_ble_eq_true rfl, by decide⟩ dX1_castRow_7 rfl ?_
    rintro _ _ ⟨r7, g7, f7, rfl, rfl, h⟩
    refine s_icmp_ge (n := 13) (tgt := 50) hG dX1_castRow_10 rfl rfl (fun c => ?_) (fun c => ?_)
    · replace h := h.1 c
      exact s_vret hG dX1_castRow_50 (hQ _ _ ⟨_, _, rfl, rfl, h⟩)
    · replace h := h.2 c
      refine s_aload_n (n := 14) hG dX1_castRow_13 rfl rfl ?_
      refine s_iload_n (n := 15) hG dX1_castRow_14 rfl rfl ?_
      refine s_iload_n (n := 16) hG dX1_castRow_15 rfl rfl ?_
      refine s_callV (n := 19) (st := []) hG (mX1_fateAt hE h) ceX1_fateAt lmX1_57 ⟨by decide, rfl, rfl⟩ rfl ⟨rfl, Nat.le_of_ble_eq_true rfl, by decide⟩ dX1_castRow_16 rfl ?_
      rintro _ _ ⟨r16, g16, f16, rfl, rfl, h⟩
      refine s_iconst (n := 20) hG dX1_castRow_19 ki_3 rfl ?_
      refine s_icmp_ne (n := 23) (tgt := 44) hG dX1_castRow_20 rfl rfl (fun c => ?_) (fun c => ?_)
      · replace h := h.1 c
        exact s_wk hG (sX1_castRow_j44 hE hG hQ ih h) ⟨rfl, rfl, rfl, trivial⟩
      · replace h := h.2 c
        refine s_aload_n (n := 24) hG dX1_castRow_23 rfl rfl ?_
        refine s_iload_n (n := 25) hG dX1_castRow_24 rfl rfl ?_
        refine s_iload_n (n := 26) hG dX1_castRow_25 rfl rfl ?_
        refine s_callV (n := 29) (st := []) hG (mX1_isReached hE h) ceX1_isReached lmX1_108 ⟨by decide, rfl, rfl⟩ rfl ⟨rfl, Nat.le_of_ble_eq_true rfl, by decide⟩ dX1_castRow_26 rfl ?_
        rintro _ _ ⟨r26, g26, f26, rfl, rfl, h⟩
        refine s_if_eq (n := 32) (tgt := 44) hG dX1_castRow_29 rfl rfl (fun c => ?_) (fun c => ?_)
        · replace h := h.1 c
          exact s_wk hG (sX1_castRow_j44 hE hG hQ ih h) ⟨rfl, rfl, rfl, trivial⟩
        · replace h := h.2 c
          refine s_aload_n (n := 33) hG dX1_castRow_32 rfl rfl ?_
          refine gtX1_9 (n := 36) hG dX1_castRow_33 rfl ?_
          refine s_iload_n (n := 37) hG dX1_castRow_36 rfl rfl ?_
          refine s_bipush (n := 39) hG dX1_castRow_37 kb_12 rfl ?_
          refine s_imul (n := 40) hG dX1_castRow_39 rfl ?_
          refine s_iload_n (n := 41) hG dX1_castRow_40 rfl rfl ?_
          refine s_iadd (n := 42) hG dX1_castRow_41 rfl ?_
          refine s_iconst (n := 43) hG dX1_castRow_42 ki_1 rfl ?_
          refine s_topi2 (fun i43 hi43 => ?_)
          replace h := h i43 hi43
          obtain ⟨hin, h⟩ := h
          refine s_iast (n := 44) hG dX1_castRow_43 (gaC_14 hin) rfl ?_
          refine s_nf (fun f43 hf43 => ?_)
          replace h := h f43 hf43
          exact s_wk hG (sX1_castRow_j44 hE hG hQ ih h) ⟨rfl, rfl, rfl, trivial⟩
def wX1_castRow (N : Nat) (a1 : Int32) (g : gFG) (f : gFF) (Q : gFG → gFF → Prop) : Prop := wX1_castRow_l2 N a1 Q N 0 g f
theorem mX1_castRow (hE : gInj layC ad) {N : Nat} {a1 : Int32} {g : gFG} {f : gFF} {Q : gFG → gFF → Prop} (h : wX1_castRow N a1 g f Q) : gCT l D cs layC ad (gZc ad tX tY sK sV) 3 yX1_castRow cX1_castRow 3 none [.ref (ad 2), .int a1] (g, f, 0) (gQv Q) := by
  refine met_walk (lv0 := [some (.ref (ad 2)), some (.int a1), none]) ⟨hE, gZc_ok _ _ _ _ _⟩ (by decide) (Nat.le_of_ble_eq_true rfl) rfl (fun G Rt hG hQ => ?_)
  replace hG : gSim l D cs layC ad (gZc ad tX tY sK sV) 3 RX1 cX1_castRow 3 none G Rt := hG
  unfold wX1_castRow at h
  refine s_iconst (n := 1) hG dX1_castRow_0 ki_0 rfl ?_
  refine s_istore_n (n := 2) (lv2 := [some (.ref (ad 2)), some (.int a1), some (.int 0)]) hG dX1_castRow_1 rfl rfl rfl ?_
  exact s_wk hG (sX1_castRow_l2 hE hG hQ  N _ _ _ h) ⟨rfl, rfl, rfl, trivial⟩
def wX1_letAirOut_j68 (N : Nat) (K14 : Int32 → gFG → gFF → Prop) (K20 : Int32 → gFG → gFF → Prop) (Q : gFG → gFF → Prop) (v1 : Int32) (v2 : Int32) (g : gFG) (f : gFF) : Prop := ∀ x2_68 : Int32, x2_68 = (v2 + 1) → K20 x2_68 g f
theorem sX1_letAirOut_j68 {G : gG} {Rt : Option Value → gSt → Prop} (hE : gInj layC ad) (hG : gSim l D cs layC ad (gZc ad tX tY sK sV) 5 RX1 cX1_letAirOut 4 none G Rt) {Q : gFG → gFF → Prop} (hQ : ∀ v S, gQv Q v S → Rt v S) {N : Nat} {K14 : Int32 → gFG → gFF → Prop} {K20 : Int32 → gFG → gFF → Prop}  {v1 : Int32} {v2 : Int32} {g : gFG} {f : gFF} (hK14 : ∀ (uv1 : Int32) (ug : gFG) (uf : gFF), K14 uv1 ug uf → G 14 [some (.ref (ad 2)), some (.int uv1), none, none] [] (ug, uf, 0)) (hK20 : ∀ (uv2 : Int32) (ug : gFG) (uf : gFF), K20 uv2 ug uf → G 20 [some (.ref (ad 2)), some (.int v1), some (.int uv2), none] [] (ug, uf, 0)) (h : wX1_letAirOut_j68 N K14 K20 Q v1 v2 g f) : G 68 [some (.ref (ad 2)), some (.int v1), some (.int v2), none] [] (g, f, 0) := by
  unfold wX1_letAirOut_j68 at h
  obtain ⟨x2_68, hx2_68⟩ : ∃ z : Int32, z = (v2 + 1) := ⟨_, rfl⟩
  replace h := h x2_68 hx2_68
  refine s_iinc (n := 71) (v := x2_68) (lv2 := [some (.ref (ad 2)), some (.int v1), some (.int x2_68), none]) hG dX1_letAirOut_68 ki_1 rfl hx2_68 rfl rfl rfl ?_
  refine s_goto (tgt := 20) hG dX1_letAirOut_71 rfl ?_
  exact s_wk hG (hK20 _ _ _ h) ⟨rfl, rfl, rfl, trivial⟩
def wX1_letAirOut_j62 (N : Nat) (K14 : Int32 → gFG → gFF → Prop) (K20 : Int32 → gFG → gFF → Prop) (Q : gFG → gFF → Prop) (v1 : Int32) (v2 : Int32) (g : gFG) (f : gFF) : Prop := wX1_reach N v2 v1 g f (fun g65 f65 => wX1_letAirOut_j68 N (K14) (K20) Q v1 v2 g65 f65)
theorem sX1_letAirOut_j62 {G : gG} {Rt : Option Value → gSt → Prop} (hE : gInj layC ad) (hG : gSim l D cs layC ad (gZc ad tX tY sK sV) 5 RX1 cX1_letAirOut 4 none G Rt) {Q : gFG → gFF → Prop} (hQ : ∀ v S, gQv Q v S → Rt v S) {N : Nat} {K14 : Int32 → gFG → gFF → Prop} {K20 : Int32 → gFG → gFF → Prop}  {v1 : Int32} {v2 : Int32} {g : gFG} {f : gFF} (hK14 : ∀ (uv1 : Int32) (ug : gFG) (uf : gFF), K14 uv1 ug uf → G 14 [some (.ref (ad 2)), some (.int uv1), none, none] [] (ug, uf, 0)) (hK20 : ∀ (uv2 : Int32) (ug : gFG) (uf : gFF), K20 uv2 ug uf → G 20 [some (.ref (ad 2)), some (.int v1), some (.int uv2), none] [] (ug, uf, 0)) (h : wX1_letAirOut_j62 N K14 K20 Q v1 v2 g f) : G 62 [some (.ref (ad 2)), some (.int v1), some (.int v2), none] [] (g, f, 0) := by
  unfold wX1_letAirOut_j62 at h
  refine s_aload_n (n := 63) hG dX1_letAirOut_62 rfl rfl ?_
  refine s_iload_n (n := 64) hG dX1_letAirOut_63 rfl rfl ?_
  refine s_iload_n (n := 65) hG dX1_letAirOut_64 rfl rfl ?_
  refine s_callV (n := 68) (st := []) hG (mX1_reach hE h) ceX1_reach lmX1_94 ⟨by decide, rfl, rfl⟩ rfl ⟨rfl, Nat.le_of_ble_eq_true rfl, by decide⟩ dX1_letAirOut_65 rfl ?_
  rintro _ _ ⟨g65, f65, rfl, rfl, h⟩
  exact s_wk hG (sX1_letAirOut_j68 hE hG hQ hK14 hK20 h) ⟨rfl, rfl, rfl, trivial⟩
def wX1_letAirOut_l20 (N : Nat) (v1 : Int32) (K14 : Int32 → gFG → gFF → Prop) (Q : gFG → gFF → Prop) : Nat → Int32 → gFG → gFF → Prop
  | 0, _, _, _ => False
  | n + 1, v2, g, f => wX2_width N g f (fun r25 g25 f25 => ((r25 ≤ v2) → wX1_flood N v1 g25 f25 (fun g76 f76 => wX1_castRow N v1 g76 f76 (fun g81 f81 => ∀ x1_84 : Int32, x1_84 = (v1 + (-1)) → K14 x1_84 g81 f81))) ∧ ((¬ r25 ≤ v2) → wX2_sortAt N v2 v1 g25 f25 (fun r37 g37 f37 => ((r37 = 3) → wX1_letAirOut_j62 N (K14) (wX1_letAirOut_l20 N v1 K14 Q n) Q v1 v2 g37 f37) ∧ ((¬ r37 = 3) → ((r37 = 4) → wX1_letAirOut_j62 N (K14) (wX1_letAirOut_l20 N v1 K14 Q n) Q v1 v2 g37 f37) ∧ ((¬ r37 = 4) → wX1_isReached N v2 (v1 + 1) g37 f37 (fun r56 g56 f56 => ((r56 = 0) → wX1_letAirOut_j68 N (K14) (wX1_letAirOut_l20 N v1 K14 Q n) Q v1 v2 g56 f56) ∧ ((¬ r56 = 0) → wX1_letAirOut_j62 N (K14) (wX1_letAirOut_l20 N v1 K14 Q n) Q v1 v2 g56 f56)))))))
theorem sX1_letAirOut_l20 {G : gG} {Rt : Option Value → gSt → Prop} (hE : gInj layC ad) (hG : gSim l D cs layC ad (gZc ad tX tY sK sV) 5 RX1 cX1_letAirOut 4 none G Rt) {Q : gFG → gFF → Prop} (hQ : ∀ v S, gQv Q v S → Rt v S) {N : Nat} {v1 : Int32} {K14 : Int32 → gFG → gFF → Prop}  (hK14 : ∀ (uv1 : Int32) (ug : gFG) (uf : gFF), K14 uv1 ug uf → G 14 [some (.ref (ad 2)), some (.int uv1), none, none] [] (ug, uf, 0)) : ∀ (n : Nat) (v2 : Int32) (g : gFG) (f : gFF), wX1_letAirOut_l20 N v1 K14 Q n v2 g f → G 20 [some (.ref (ad 2)), some (.int v1), some (.int v2), none] [] (g, f, 0) := by
  intro n
  induction n with
  | zero => intro _ _ _ h; unfold wX1_letAirOut_l20 at h; exact h.elim
  | succ n ih =>
    intro v2 g f h
    unfold wX1_letAirOut_l20 at h
    refine s_iload_n (n := 21) hG dX1_letAirOut_20 rfl rfl ?_
    refine s_aload_n (n := 22) hG dX1_letAirOut_21 rfl rfl ?_
    refine gtX1_32 (n := 25) hG dX1_letAirOut_22 rfl ?_
    refine s_callV (n := 28) (st := [.int v2]) hG (mX2_width hE h) ceX2_width lmX1_54 ⟨by decide, rfl, rfl⟩ rfl ⟨rfl, Nat.le_of_ble_eq_true rfl, by decide⟩ dX1_letAirOut_25 rfl ?_
    rintro _ _ ⟨r25, g25, f25, rfl, rfl, h⟩
    refine s_icmp_ge (n := 31) (tgt := 74) hG dX1_letAirOut_28 rfl rfl (fun c => ?_) (fun c => ?_)
    · replace h := h.1 c
      refine s_aload_n (n := 75) hG dX1_letAirOut_74 rfl rfl ?_
      refine s_iload_n (n := 76) hG dX1_letAirOut_75 rfl rfl ?_
      refine s_callV (n := 79) (st := []) hG (mX1_flood hE h) ceX1_flood lmX1_98 ⟨by decide, rfl, rfl⟩ rfl ⟨rfl, Nat.le_of_ble_eq_true rfl, by decide⟩ dX1_letAirOut_76 rfl ?_
      rintro _ _ ⟨g76, f76, rfl, rfl, h⟩
      refine s_aload_n (n := 80) hG dX1_letAirOut_79 rfl rfl ?_
      refine s_iload_n (n := 81) hG dX1_letAirOut_80 rfl rfl ?_
      refine s_callV (n := 84) (st := []) hG (mX1_castRow hE h) ceX1_castRow lmX1_111 ⟨by decide, rfl, rfl⟩ rfl ⟨rfl, Nat.le_of_ble_eq_true rfl, by decide⟩ dX1_letAirOut_81 rfl ?_
      rintro _ _ ⟨g81, f81, rfl, rfl, h⟩
      obtain ⟨x1_84, hx1_84⟩ : ∃ z : Int32, z = (v1 + (-1)) := ⟨_, rfl⟩
      replace h := h x1_84 hx1_84
      refine s_iinc (n := 87) (v := x1_84) (lv2 := [some (.ref (ad 2)), some (.int x1_84), some (.int v2), none]) hG dX1_letAirOut_84 ki_m1 rfl hx1_84 rfl rfl rfl ?_
      refine s_goto (tgt := 14) hG dX1_letAirOut_87 rfl ?_
      exact s_wk hG (hK14 _ _ _ h) ⟨rfl, rfl, trivial⟩
    · replace h := h.2 c
      refine s_aload_n (n := 32) hG dX1_letAirOut_31 rfl rfl ?_
      refine gtX1_32 (n := 35) hG dX1_letAirOut_32 rfl ?_
      refine s_iload_n (n := 36) hG dX1_letAirOut_35 rfl rfl ?_
      refine s_iload_n (n := 37) hG dX1_letAirOut_36 rfl rfl ?_
      refine s_callV (n := 40) (st := []) hG (mX2_sortAt hE h) ceX2_sortAt lmX1_91 ⟨by decide, rfl, rfl⟩ rfl ⟨rfl, Nat.le_of_ble_eq_true rfl, by decide⟩ dX1_letAirOut_37 rfl ?_
      rintro _ _ ⟨r37, g37, f37, rfl, rfl, h⟩
      refine s_istore_n (n := 41) (lv2 := [some (.ref (ad 2)), some (.int v1), some (.int v2), some (.int r37)]) hG dX1_letAirOut_40 rfl rfl rfl ?_
      refine s_iload_n (n := 42) hG dX1_letAirOut_41 rfl rfl ?_
      refine s_iconst (n := 43) hG dX1_letAirOut_42 ki_3 rfl ?_
      refine s_icmp_eq (n := 46) (tgt := 62) hG dX1_letAirOut_43 rfl rfl (fun c => ?_) (fun c => ?_)
      · replace h := h.1 c
        exact s_wk hG (sX1_letAirOut_j62 hE hG hQ hK14 ih h) ⟨rfl, rfl, rfl, trivial⟩
      · replace h := h.2 c
        refine s_iload_n (n := 47) hG dX1_letAirOut_46 rfl rfl ?_
        refine s_iconst (n := 48) hG dX1_letAirOut_47 ki_4 rfl ?_
        refine s_icmp_eq (n := 51) (tgt := 62) hG dX1_letAirOut_48 rfl rfl (fun c => ?_) (fun c => ?_)
        · replace h := h.1 c
          exact s_wk hG (sX1_letAirOut_j62 hE hG hQ hK14 ih h) ⟨rfl, rfl, rfl, trivial⟩
        · replace h := h.2 c
          refine s_aload_n (n := 52) hG dX1_letAirOut_51 rfl rfl ?_
          refine s_iload_n (n := 53) hG dX1_letAirOut_52 rfl rfl ?_
          refine s_iload_n (n := 54) hG dX1_letAirOut_53 rfl rfl ?_
          refine s_iconst (n := 55) hG dX1_letAirOut_54 ki_1 rfl ?_
          refine s_iadd (n := 56) hG dX1_letAirOut_55 rfl ?_
          refine s_callV (n := 59) (st := []) hG (mX1_isReached hE h) ceX1_isReached lmX1_108 ⟨by decide, rfl, rfl⟩ rfl ⟨rfl, Nat.le_of_ble_eq_true rfl, by decide⟩ dX1_letAirOut_56 rfl ?_
          rintro _ _ ⟨r56, g56, f56, rfl, rfl, h⟩
          refine s_if_eq (n := 62) (tgt := 68) hG dX1_letAirOut_59 rfl rfl (fun c => ?_) (fun c => ?_)
          · replace h := h.1 c
            exact s_wk hG (sX1_letAirOut_j68 hE hG hQ hK14 ih h) ⟨rfl, rfl, rfl, trivial⟩
          · replace h := h.2 c
            exact s_wk hG (sX1_letAirOut_j62 hE hG hQ hK14 ih h) ⟨rfl, rfl, rfl, trivial⟩
def wX1_letAirOut_l14 (N : Nat)   (Q : gFG → gFF → Prop) : Nat → Int32 → gFG → gFF → Prop
  | 0, _, _, _ => False
  | n + 1, v1, g, f => ((v1 < 0) → Q g f) ∧ ((¬ v1 < 0) → wX1_letAirOut_l20 N v1 (wX1_letAirOut_l14 N   Q n) Q N 0 g f)
theorem sX1_letAirOut_l14 {G : gG} {Rt : Option Value → gSt → Prop} (hE : gInj layC ad) (hG : gSim l D cs layC ad (gZc ad tX tY sK sV) 5 RX1 cX1_letAirOut 4 none G Rt) {Q : gFG → gFF → Prop} (hQ : ∀ v S, gQv Q v S → Rt v S) {N : Nat}     : ∀ (n : Nat) (v1 : Int32) (g : gFG) (f : gFF), wX1_letAirOut_l14 N   Q n v1 g f → G 14 [some (.ref (ad 2)), some (.int v1), none, none] [] (g, f, 0) := by
  intro n
  induction n with
  | zero => intro _ _ _ h; unfold wX1_letAirOut_l14 at h; exact h.elim
  | succ n ih =>
    intro v1 g f h
    unfold wX1_letAirOut_l14 at h
    refine s_iload_n (n := 15) hG dX1_letAirOut_14 rfl rfl ?_
    refine s_if_lt (n := 18) (tgt := 90) hG dX1_letAirOut_15 rfl rfl (fun c => ?_) (fun c => ?_)
    · replace h := h.1 c
      exact s_vret hG dX1_letAirOut_90 (hQ _ _ ⟨_, _, rfl, rfl, h⟩)
    · replace h := h.2 c
      refine s_iconst (n := 19) hG dX1_letAirOut_18 ki_0 rfl ?_
      refine s_istore_n (n := 20) (lv2 := [some (.ref (ad 2)), some (.int v1), some (.int 0), none]) hG dX1_letAirOut_19 rfl rfl rfl ?_
      exact s_wk hG (sX1_letAirOut_l20 hE hG hQ ih N _ _ _ h) ⟨rfl, rfl, rfl, trivial⟩
def wX1_letAirOut (N : Nat)  (g : gFG) (f : gFF) (Q : gFG → gFF → Prop) : Prop := wX1_startFlood N g f (fun g1 f1 => wX2_height N g1 f1 (fun r8 g8 f8 => ∀ x1_13 : Int32, x1_13 = (r8 - 1) → wX1_letAirOut_l14 N  Q N x1_13 g8 f8))
theorem mX1_letAirOut (hE : gInj layC ad) {N : Nat}  {g : gFG} {f : gFF} {Q : gFG → gFF → Prop} (h : wX1_letAirOut N  g f Q) : gCT l D cs layC ad (gZc ad tX tY sK sV) 5 yX1_letAirOut cX1_letAirOut 4 none [.ref (ad 2)] (g, f, 0) (gQv Q) := by
  refine met_walk (lv0 := [some (.ref (ad 2)), none, none, none]) ⟨hE, gZc_ok _ _ _ _ _⟩ (by decide) (Nat.le_of_ble_eq_true rfl) rfl (fun G Rt hG hQ => ?_)
  replace hG : gSim l D cs layC ad (gZc ad tX tY sK sV) 5 RX1 cX1_letAirOut 4 none G Rt := hG
  unfold wX1_letAirOut at h
  refine s_aload_n (n := 1) hG dX1_letAirOut_0 rfl rfl ?_
  refine s_callV (n := 4) (st := []) hG (mX1_startFlood hE h) ceX1_startFlood lmX1_88 ⟨by decide, rfl, rfl⟩ rfl ⟨rfl, Nat.le_of_ble_eq_true rfl, by decide⟩ dX1_letAirOut_1 rfl ?_
  rintro _ _ ⟨g1, f1, rfl, rfl, h⟩
  refine s_aload_n (n := 5) hG dX1_letAirOut_4 rfl rfl ?_
  refine gtX1_32 (n := 8) hG dX1_letAirOut_5 rfl ?_
  refine s_callV (n := 11) (st := []) hG (mX2_height hE h) ceX2_height lmX1_51 ⟨by decide, rfl, rfl⟩ rfl ⟨rfl, Nat.le_of_ble_eq_true rfl, by decide⟩ dX1_letAirOut_8 rfl ?_
  rintro _ _ ⟨r8, g8, f8, rfl, rfl, h⟩
  refine s_iconst (n := 12) hG dX1_letAirOut_11 ki_1 rfl ?_
  refine s_isub (n := 13) hG dX1_letAirOut_12 rfl ?_
  refine s_topi (fun x1_13 hx1_13 => ?_)
  replace h := h x1_13 hx1_13
  refine s_istore_n (n := 14) (lv2 := [some (.ref (ad 2)), some (.int x1_13), none, none]) hG dX1_letAirOut_13 rfl rfl rfl ?_
  exact s_wk hG (sX1_letAirOut_l14 hE hG hQ  N _ _ _ h) ⟨rfl, rfl, trivial⟩
def wX1_refresh (N : Nat)  (g : gFG) (f : gFF) (Q : gFG → gFF → Prop) : Prop := wX2_edition N g f (fun r8 g8 f8 => ((¬ (g 9) = r8) → wX2_edition N g8 f8 (fun r20 g20 f20 => ∀ g23 : gFG, g23 = (va_up g20 9 r20) → wX1_letMetalCome N g23 f20 (fun g27 f27 => wX1_letAirOut N g27 f27 (fun g31 f31 => Q g31 f31)))) ∧ (((g 9) = r8) → Q g8 f8))
theorem mX1_refresh (hE : gInj layC ad) {N : Nat}  {g : gFG} {f : gFF} {Q : gFG → gFF → Prop} (h : wX1_refresh N  g f Q) : gCT l D cs layC ad (gZc ad tX tY sK sV) 6 yX1_refresh cX1_refresh 1 none [.ref (ad 2)] (g, f, 0) (gQv Q) := by
  refine met_walk (lv0 := [some (.ref (ad 2))]) ⟨hE, gZc_ok _ _ _ _ _⟩ (by decide) (Nat.le_of_ble_eq_true rfl) rfl (fun G Rt hG hQ => ?_)
  replace hG : gSim l D cs layC ad (gZc ad tX tY sK sV) 6 RX1 cX1_refresh 1 none G Rt := hG
  unfold wX1_refresh at h
  refine s_aload_n (n := 1) hG dX1_refresh_0 rfl rfl ?_
  refine gtX1_29 (n := 4) hG dX1_refresh_1 rfl ?_
  refine s_aload_n (n := 5) hG dX1_refresh_4 rfl rfl ?_
  refine gtX1_32 (n := 8) hG dX1_refresh_5 rfl ?_
  refine s_callV (n := 11) (st := [.int (g 9)]) hG (mX2_edition hE h) ceX2_edition lmX1_36 ⟨by decide, rfl, rfl⟩ rfl ⟨rfl, Nat.le_of_ble_eq_true rfl, by decide⟩ dX1_refresh_8 rfl ?_
  rintro _ _ ⟨r8, g8, f8, rfl, rfl, h⟩
  refine s_icmp_ne (n := 14) (tgt := 15) hG dX1_refresh_11 rfl rfl (fun c => ?_) (fun c => ?_)
  · replace h := h.1 c
    refine s_aload_n (n := 16) hG dX1_refresh_15 rfl rfl ?_
    refine s_aload_n (n := 17) hG dX1_refresh_16 rfl rfl ?_
    refine gtX1_32 (n := 20) hG dX1_refresh_17 rfl ?_
    refine s_callV (n := 23) (st := [.ref (ad 2)]) hG (mX2_edition hE h) ceX2_edition lmX1_36 ⟨by decide, rfl, rfl⟩ rfl ⟨rfl, Nat.le_of_ble_eq_true rfl, by decide⟩ dX1_refresh_20 rfl ?_
    rintro _ _ ⟨r20, g20, f20, rfl, rfl, h⟩
    refine ptX1_29 (n := 26) hG dX1_refresh_23 rfl ?_
    refine s_ng (fun g23 hg23 => ?_)
    replace h := h g23 hg23
    refine s_aload_n (n := 27) hG dX1_refresh_26 rfl rfl ?_
    refine s_callV (n := 30) (st := []) hG (mX1_letMetalCome hE h) ceX1_letMetalCome lmX1_41 ⟨by decide, rfl, rfl⟩ rfl ⟨rfl, Nat.le_of_ble_eq_true rfl, by decide⟩ dX1_refresh_27 rfl ?_
    rintro _ _ ⟨g27, f27, rfl, rfl, h⟩
    refine s_aload_n (n := 31) hG dX1_refresh_30 rfl rfl ?_
    refine s_callV (n := 34) (st := []) hG (mX1_letAirOut hE h) ceX1_letAirOut lmX1_44 ⟨by decide, rfl, rfl⟩ rfl ⟨rfl, Nat.le_of_ble_eq_true rfl, by decide⟩ dX1_refresh_31 rfl ?_
    rintro _ _ ⟨g31, f31, rfl, rfl, h⟩
    exact s_vret hG dX1_refresh_34 (hQ _ _ ⟨_, _, rfl, rfl, h⟩)
  · replace h := h.2 c
    exact s_vret hG dX1_refresh_14 (hQ _ _ ⟨_, _, rfl, rfl, h⟩)
def wX1_howMany_j44 (N : Nat) (K4 : Int32 → Int32 → gFG → gFF → Prop) (K18 : Int32 → Int32 → gFG → gFF → Prop) (Q : Int32 → gFG → gFF → Prop) (v1 : Int32) (v2 : Int32) (v3 : Int32) (v4 : Int32) (g : gFG) (f : gFF) : Prop := ∀ x4_44 : Int32, x4_44 = (v4 + 1) → K18 v2 x4_44 g f
theorem sX1_howMany_j44 {G : gG} {Rt : Option Value → gSt → Prop} (hE : gInj layC ad) (hG : gSim l D cs layC ad (gZc ad tX tY sK sV) 3 RX1 cX1_howMany 5 (some .int) G Rt) {Q : Int32 → gFG → gFF → Prop} (hQ : ∀ v S, gQi Q v S → Rt v S) {N : Nat} {K4 : Int32 → Int32 → gFG → gFF → Prop} {K18 : Int32 → Int32 → gFG → gFF → Prop}  {v1 : Int32} {v2 : Int32} {v3 : Int32} {v4 : Int32} {g : gFG} {f : gFF} (hK4 : ∀ (uv2 : Int32) (uv3 : Int32) (ug : gFG) (uf : gFF), K4 uv2 uv3 ug uf → G 4 [some (.ref (ad 2)), some (.int v1), some (.int uv2), some (.int uv3), none] [] (ug, uf, 0)) (hK18 : ∀ (uv2 : Int32) (uv4 : Int32) (ug : gFG) (uf : gFF), K18 uv2 uv4 ug uf → G 18 [some (.ref (ad 2)), some (.int v1), some (.int uv2), some (.int v3), some (.int uv4)] [] (ug, uf, 0)) (h : wX1_howMany_j44 N K4 K18 Q v1 v2 v3 v4 g f) : G 44 [some (.ref (ad 2)), some (.int v1), some (.int v2), some (.int v3), some (.int v4)] [] (g, f, 0) := by
  unfold wX1_howMany_j44 at h
  obtain ⟨x4_44, hx4_44⟩ : ∃ z : Int32, z = (v4 + 1) := ⟨_, rfl⟩
  replace h := h x4_44 hx4_44
  refine s_iinc (n := 47) (v := x4_44) (lv2 := [some (.ref (ad 2)), some (.int v1), some (.int v2), some (.int v3), some (.int x4_44)]) hG dX1_howMany_44 ki_1 rfl hx4_44 rfl rfl rfl ?_
  refine s_goto (tgt := 18) hG dX1_howMany_47 rfl ?_
  exact s_wk hG (hK18 _ _ _ _ h) ⟨rfl, rfl, rfl, rfl, rfl, trivial⟩
def wX1_howMany_l18 (N : Nat) (v1 : Int32) (v3 : Int32) (K4 : Int32 → Int32 → gFG → gFF → Prop) (Q : Int32 → gFG → gFF → Prop) : Nat → Int32 → Int32 → gFG → gFF → Prop
  | 0, _, _, _, _ => False
  | n + 1, v2, v4, g, f => wX2_width N g f (fun r24 g24 f24 => ((r24 ≤ v4) → ∀ x3_50 : Int32, x3_50 = (v3 + 1) → K4 v2 x3_50 g24 f24) ∧ ((¬ r24 ≤ v4) → wX1_fateAt N v4 v3 g24 f24 (fun r34 g34 f34 => ((¬ r34 = v1) → wX1_howMany_j44 N (K4) (wX1_howMany_l18 N v1 v3 K4 Q n) Q v1 v2 v3 v4 g34 f34) ∧ ((r34 = v1) → ∀ x2_41 : Int32, x2_41 = (v2 + 1) → wX1_howMany_j44 N (K4) (wX1_howMany_l18 N v1 v3 K4 Q n) Q v1 x2_41 v3 v4 g34 f34))))
theorem sX1_howMany_l18 {G : gG} {Rt : Option Value → gSt → Prop} (hE : gInj layC ad) (hG : gSim l D cs layC ad (gZc ad tX tY sK sV) 3 RX1 cX1_howMany 5 (some .int) G Rt) {Q : Int32 → gFG → gFF → Prop} (hQ : ∀ v S, gQi Q v S → Rt v S) {N : Nat} {v1 : Int32} {v3 : Int32} {K4 : Int32 → Int32 → gFG → gFF → Prop}  (hK4 : ∀ (uv2 : Int32) (uv3 : Int32) (ug : gFG) (uf : gFF), K4 uv2 uv3 ug uf → G 4 [some (.ref (ad 2)), some (.int v1), some (.int uv2), some (.int uv3), none] [] (ug, uf, 0)) : ∀ (n : Nat) (v2 : Int32) (v4 : Int32) (g : gFG) (f : gFF), wX1_howMany_l18 N v1 v3 K4 Q n v2 v4 g f → G 18 [some (.ref (ad 2)), some (.int v1), some (.int v2), some (.int v3), some (.int v4)] [] (g, f, 0) := by
  intro n
  induction n with
  | zero => intro _ _ _ _ h; unfold wX1_howMany_l18 at h; exact h.elim
  | succ n ih =>
    intro v2 v4 g f h
    unfold wX1_howMany_l18 at h
    refine s_iload (n := 20) hG dX1_howMany_18 rfl rfl ?_
    refine s_aload_n (n := 21) hG dX1_howMany_20 rfl rfl ?_
    refine gtX1_32 (n := 24) hG dX1_howMany_21 rfl ?_
    refine s_callV (n := 27) (st := [.int v4]) hG (mX2_width hE h) ceX2_width lmX1_54 ⟨by decide, rfl, rfl⟩ rfl ⟨rfl, Nat.le_of_ble_eq_true rfl, by decide⟩ dX1_howMany_24 rfl ?_
    rintro _ _ ⟨r24, g24, f24, rfl, rfl, h⟩
    refine s_icmp_ge (n := 30) (tgt := 50) hG dX1_howMany_27 rfl rfl (fun c => ?_) (fun c => ?_)
    · replace h := h.1 c
      obtain ⟨x3_50, hx3_50⟩ : ∃ z : Int32, z = (v3 + 1) := ⟨_, rfl⟩
      replace h := h x3_50 hx3_50
      refine s_iinc (n := 53) (v := x3_50) (lv2 := [some (.ref (ad 2)), some (.int v1), some (.int v2), some (.int x3_50), some (.int v4)]) hG dX1_howMany_50 ki_1 rfl hx3_50 rfl rfl rfl ?_
      refine s_goto (tgt := 4) hG dX1_howMany_53 rfl ?_
      exact s_wk hG (hK4 _ _ _ _ h) ⟨rfl, rfl, rfl, rfl, trivial⟩
    · replace h := h.2 c
      refine s_aload_n (n := 31) hG dX1_howMany_30 rfl rfl ?_
      refine s_iload (n := 33) hG dX1_howMany_31 rfl rfl ?_
      refine s_iload_n (n := 34) hG dX1_howMany_33 rfl rfl ?_
      refine s_callV (n := 37) (st := []) hG (mX1_fateAt hE h) ceX1_fateAt lmX1_57 ⟨by decide, rfl, rfl⟩ rfl ⟨rfl, Nat.le_of_ble_eq_true rfl, by decide⟩ dX1_howMany_34 rfl ?_
      rintro _ _ ⟨r34, g34, f34, rfl, rfl, h⟩
      refine s_iload_n (n := 38) hG dX1_howMany_37 rfl rfl ?_
      refine s_icmp_ne (n := 41) (tgt := 44) hG dX1_howMany_38 rfl rfl (fun c => ?_) (fun c => ?_)
      · replace h := h.1 c
        exact s_wk hG (sX1_howMany_j44 hE hG hQ hK4 ih h) ⟨rfl, rfl, rfl, rfl, rfl, trivial⟩
      · replace h := h.2 c
        obtain ⟨x2_41, hx2_41⟩ : ∃ z : Int32, z = (v2 + 1) := ⟨_, rfl⟩
        replace h := h x2_41 hx2_41
        refine s_iinc (n := 44) (v := x2_41) (lv2 := [some (.ref (ad 2)), some (.int v1), some (.int x2_41), some (.int v3), some (.int v4)]) hG dX1_howMany_41 ki_1 rfl hx2_41 rfl rfl rfl ?_
        exact s_wk hG (sX1_howMany_j44 hE hG hQ hK4 ih h) ⟨rfl, rfl, rfl, rfl, rfl, trivial⟩
def wX1_howMany_l4 (N : Nat) (v1 : Int32)  (Q : Int32 → gFG → gFF → Prop) : Nat → Int32 → Int32 → gFG → gFF → Prop
  | 0, _, _, _, _ => False
  | n + 1, v2, v3, g, f => wX2_height N g f (fun r9 g9 f9 => ((r9 ≤ v3) → Q v2 g9 f9) ∧ ((¬ r9 ≤ v3) → wX1_howMany_l18 N v1 v3 (wX1_howMany_l4 N v1  Q n) Q N v2 0 g9 f9))
theorem sX1_howMany_l4 {G : gG} {Rt : Option Value → gSt → Prop} (hE : gInj layC ad) (hG : gSim l D cs layC ad (gZc ad tX tY sK sV) 3 RX1 cX1_howMany 5 (some .int) G Rt) {Q : Int32 → gFG → gFF → Prop} (hQ : ∀ v S, gQi Q v S → Rt v S) {N : Nat} {v1 : Int32}    : ∀ (n : Nat) (v2 : Int32) (v3 : Int32) (g : gFG) (f : gFF), wX1_howMany_l4 N v1  Q n v2 v3 g f → G 4 [some (.ref (ad 2)), some (.int v1), some (.int v2), some (.int v3), none] [] (g, f, 0) := by
  intro n
  induction n with
  | zero => intro _ _ _ _ h; unfold wX1_howMany_l4 at h; exact h.elim
  | succ n ih =>
    intro v2 v3 g f h
    unfold wX1_howMany_l4 at h
    refine s_iload_n (n := 5) hG dX1_howMany_4 rfl rfl ?_
    refine s_aload_n (n := 6) hG dX1_howMany_5 rfl rfl ?_
    refine gtX1_32 (n := 9) hG dX1_howMany_6 rfl ?_
    refine s_callV (n := 12) (st := [.int v3]) hG (mX2_height hE h) ceX2_height lmX1_51 ⟨by decide, rfl, rfl⟩ rfl ⟨rfl, Nat.le_of_ble_eq_true rfl, by decide⟩ dX1_howMany_9 rfl ?_
    rintro _ _ ⟨r9, g9, f9, rfl, rfl, h⟩
    refine s_icmp_ge (n := 15) (tgt := 56) hG dX1_howMany_12 rfl rfl (fun c => ?_) (fun c => ?_)
    · replace h := h.1 c
      refine s_iload_n (n := 57) hG dX1_howMany_56 rfl rfl ?_
      exact s_iret hG dX1_howMany_57 (hQ _ _ ⟨_, _, _, rfl, rfl, h⟩)
    · replace h := h.2 c
      refine s_iconst (n := 16) hG dX1_howMany_15 ki_0 rfl ?_
      refine s_istore (n := 18) (lv2 := [some (.ref (ad 2)), some (.int v1), some (.int v2), some (.int v3), some (.int 0)]) hG dX1_howMany_16 rfl rfl rfl ?_
      exact s_wk hG (sX1_howMany_l18 hE hG hQ ih N _ _ _ _ h) ⟨rfl, rfl, rfl, rfl, rfl, trivial⟩
def wX1_howMany (N : Nat) (a1 : Int32) (g : gFG) (f : gFF) (Q : Int32 → gFG → gFF → Prop) : Prop := wX1_howMany_l4 N a1 Q N 0 0 g f
theorem mX1_howMany (hE : gInj layC ad) {N : Nat} {a1 : Int32} {g : gFG} {f : gFF} {Q : Int32 → gFG → gFF → Prop} (h : wX1_howMany N a1 g f Q) : gCT l D cs layC ad (gZc ad tX tY sK sV) 3 yX1_howMany cX1_howMany 5 (some .int) [.ref (ad 2), .int a1] (g, f, 0) (gQi Q) := by
  refine met_walk (lv0 := [some (.ref (ad 2)), some (.int a1), none, none, none]) ⟨hE, gZc_ok _ _ _ _ _⟩ (by decide) (Nat.le_of_ble_eq_true rfl) rfl (fun G Rt hG hQ => ?_)
  replace hG : gSim l D cs layC ad (gZc ad tX tY sK sV) 3 RX1 cX1_howMany 5 (some .int) G Rt := hG
  unfold wX1_howMany at h
  refine s_iconst (n := 1) hG dX1_howMany_0 ki_0 rfl ?_
  refine s_istore_n (n := 2) (lv2 := [some (.ref (ad 2)), some (.int a1), some (.int 0), none, none]) hG dX1_howMany_1 rfl rfl rfl ?_
  refine s_iconst (n := 3) hG dX1_howMany_2 ki_0 rfl ?_
  refine s_istore_n (n := 4) (lv2 := [some (.ref (ad 2)), some (.int a1), some (.int 0), some (.int 0), none]) hG dX1_howMany_3 rfl rfl rfl ?_
  exact s_wk hG (sX1_howMany_l4 hE hG hQ  N _ _ _ _ h) ⟨rfl, rfl, rfl, rfl, trivial⟩
def wX2_howMany_j51 (N : Nat) (K5 : Int32 → Int32 → gFG → gFF → Prop) (K17 : Int32 → Int32 → gFG → gFF → Prop) (Q : Int32 → gFG → gFF → Prop) (v1 : Int32) (v2 : Int32) (v3 : Int32) (v4 : Int32) (v5 : Int32) (g : gFG) (f : gFF) : Prop := ∀ x5_51 : Int32, x5_51 = (v5 + 1) → K17 v3 x5_51 g f
theorem sX2_howMany_j51 {G : gG} {Rt : Option Value → gSt → Prop} (hE : gInj layC ad) (hG : gSim l D cs layC ad (gZc ad tX tY sK sV) 3 RX2 cX2_howMany 7 (some .int) G Rt) {Q : Int32 → gFG → gFF → Prop} (hQ : ∀ v S, gQi Q v S → Rt v S) {N : Nat} {K5 : Int32 → Int32 → gFG → gFF → Prop} {K17 : Int32 → Int32 → gFG → gFF → Prop}  {v1 : Int32} {v2 : Int32} {v3 : Int32} {v4 : Int32} {v5 : Int32} {g : gFG} {f : gFF} (hK5 : ∀ (uv3 : Int32) (uv4 : Int32) (ug : gFG) (uf : gFF), K5 uv3 uv4 ug uf → G 5 [some (.ref (ad 1)), some (.int v1), some (.int v2), some (.int uv3), some (.int uv4), none, none] [] (ug, uf, 0)) (hK17 : ∀ (uv3 : Int32) (uv5 : Int32) (ug : gFG) (uf : gFF), K17 uv3 uv5 ug uf → G 17 [some (.ref (ad 1)), some (.int v1), some (.int v2), some (.int uv3), some (.int v4), some (.int uv5), none] [] (ug, uf, 0)) (h : wX2_howMany_j51 N K5 K17 Q v1 v2 v3 v4 v5 g f) : G 51 [some (.ref (ad 1)), some (.int v1), some (.int v2), some (.int v3), some (.int v4), some (.int v5), none] [] (g, f, 0) := by
  unfold wX2_howMany_j51 at h
  obtain ⟨x5_51, hx5_51⟩ : ∃ z : Int32, z = (v5 + 1) := ⟨_, rfl⟩
  replace h := h x5_51 hx5_51
  refine s_iinc (n := 54) (v := x5_51) (lv2 := [some (.ref (ad 1)), some (.int v1), some (.int v2), some (.int v3), some (.int v4), some (.int x5_51), none]) hG dX2_howMany_51 ki_1 rfl hx5_51 rfl rfl rfl ?_
  refine s_goto (tgt := 17) hG dX2_howMany_54 rfl ?_
  exact s_wk hG (hK17 _ _ _ _ h) ⟨rfl, rfl, rfl, rfl, rfl, rfl, trivial⟩
def wX2_howMany_l17 (N : Nat) (v1 : Int32) (v2 : Int32) (v4 : Int32) (K5 : Int32 → Int32 → gFG → gFF → Prop) (Q : Int32 → gFG → gFF → Prop) : Nat → Int32 → Int32 → gFG → gFF → Prop
  | 0, _, _, _, _ => False
  | n + 1, v3, v5, g, f => (((g 4) ≤ v5) → ∀ x4_57 : Int32, x4_57 = (v4 + 1) → K5 v3 x4_57 g f) ∧ ((¬ (g 4) ≤ v5) → wX2_sortAt N v5 v4 g f (fun r31 g31 f31 => ((r31 < v1) → wX2_howMany_j51 N (K5) (wX2_howMany_l17 N v1 v2 v4 K5 Q n) Q v1 v2 v3 v4 v5 g31 f31) ∧ ((¬ r31 < v1) → ((v2 < r31) → wX2_howMany_j51 N (K5) (wX2_howMany_l17 N v1 v2 v4 K5 Q n) Q v1 v2 v3 v4 v5 g31 f31) ∧ ((¬ v2 < r31) → ∀ x3_48 : Int32, x3_48 = (v3 + 1) → wX2_howMany_j51 N (K5) (wX2_howMany_l17 N v1 v2 v4 K5 Q n) Q v1 v2 x3_48 v4 v5 g31 f31))))
theorem sX2_howMany_l17 {G : gG} {Rt : Option Value → gSt → Prop} (hE : gInj layC ad) (hG : gSim l D cs layC ad (gZc ad tX tY sK sV) 3 RX2 cX2_howMany 7 (some .int) G Rt) {Q : Int32 → gFG → gFF → Prop} (hQ : ∀ v S, gQi Q v S → Rt v S) {N : Nat} {v1 : Int32} {v2 : Int32} {v4 : Int32} {K5 : Int32 → Int32 → gFG → gFF → Prop}  (hK5 : ∀ (uv3 : Int32) (uv4 : Int32) (ug : gFG) (uf : gFF), K5 uv3 uv4 ug uf → G 5 [some (.ref (ad 1)), some (.int v1), some (.int v2), some (.int uv3), some (.int uv4), none, none] [] (ug, uf, 0)) : ∀ (n : Nat) (v3 : Int32) (v5 : Int32) (g : gFG) (f : gFF), wX2_howMany_l17 N v1 v2 v4 K5 Q n v3 v5 g f → G 17 [some (.ref (ad 1)), some (.int v1), some (.int v2), some (.int v3), some (.int v4), some (.int v5), none] [] (g, f, 0) := by
  intro n
  induction n with
  | zero => intro _ _ _ _ h; unfold wX2_howMany_l17 at h; exact h.elim
  | succ n ih =>
    intro v3 v5 g f h
    unfold wX2_howMany_l17 at h
    refine s_iload (n := 19) hG dX2_howMany_17 rfl rfl ?_
    refine s_aload_n (n := 20) hG dX2_howMany_19 rfl rfl ?_
    refine gtX2_15 (n := 23) hG dX2_howMany_20 rfl ?_
    refine s_icmp_ge (n := 26) (tgt := 57) hG dX2_howMany_23 rfl rfl (fun c => ?_) (fun c => ?_)
    · replace h := h.1 c
      obtain ⟨x4_57, hx4_57⟩ : ∃ z : Int32, z = (v4 + 1) := ⟨_, rfl⟩
      replace h := h x4_57 hx4_57
      refine s_iinc (n := 60) (v := x4_57) (lv2 := [some (.ref (ad 1)), some (.int v1), some (.int v2), some (.int v3), some (.int x4_57), some (.int v5), none]) hG dX2_howMany_57 ki_1 rfl hx4_57 rfl rfl rfl ?_
      refine s_goto (tgt := 5) hG dX2_howMany_60 rfl ?_
      exact s_wk hG (hK5 _ _ _ _ h) ⟨rfl, rfl, rfl, rfl, rfl, trivial⟩
    · replace h := h.2 c
      refine s_aload_n (n := 27) hG dX2_howMany_26 rfl rfl ?_
      refine s_iload (n := 29) hG dX2_howMany_27 rfl rfl ?_
      refine s_iload (n := 31) hG dX2_howMany_29 rfl rfl ?_
      refine s_callV (n := 34) (st := []) hG (mX2_sortAt hE h) ceX2_sortAt lmX2_35 ⟨by decide, rfl, rfl⟩ rfl ⟨rfl, Nat.le_of_ble_eq_true rfl, by decide⟩ dX2_howMany_31 rfl ?_
      rintro _ _ ⟨r31, g31, f31, rfl, rfl, h⟩
      refine s_istore (n := 36) (lv2 := [some (.ref (ad 1)), some (.int v1), some (.int v2), some (.int v3), some (.int v4), some (.int v5), some (.int r31)]) hG dX2_howMany_34 rfl rfl rfl ?_
      refine s_iload (n := 38) hG dX2_howMany_36 rfl rfl ?_
      refine s_iload_n (n := 39) hG dX2_howMany_38 rfl rfl ?_
      refine s_icmp_lt (n := 42) (tgt := 51) hG dX2_howMany_39 rfl rfl (fun c => ?_) (fun c => ?_)
      · replace h := h.1 c
        exact s_wk hG (sX2_howMany_j51 hE hG hQ hK5 ih h) ⟨rfl, rfl, rfl, rfl, rfl, rfl, trivial⟩
      · replace h := h.2 c
        refine s_iload (n := 44) hG dX2_howMany_42 rfl rfl ?_
        refine s_iload_n (n := 45) hG dX2_howMany_44 rfl rfl ?_
        refine s_icmp_gt (n := 48) (tgt := 51) hG dX2_howMany_45 rfl rfl (fun c => ?_) (fun c => ?_)
        · replace h := h.1 c
          exact s_wk hG (sX2_howMany_j51 hE hG hQ hK5 ih h) ⟨rfl, rfl, rfl, rfl, rfl, rfl, trivial⟩
        · replace h := h.2 c
          obtain ⟨x3_48, hx3_48⟩ : ∃ z : Int32, z = (v3 + 1) := ⟨_, rfl⟩
          replace h := h x3_48 hx3_48
          refine s_iinc (n := 51) (v := x3_48) (lv2 := [some (.ref (ad 1)), some (.int v1), some (.int v2), some (.int x3_48), some (.int v4), some (.int v5), some (.int r31)]) hG dX2_howMany_48 ki_1 rfl hx3_48 rfl rfl rfl ?_
          exact s_wk hG (sX2_howMany_j51 hE hG hQ hK5 ih h) ⟨rfl, rfl, rfl, rfl, rfl, rfl, trivial⟩
def wX2_howMany_l5 (N : Nat) (v1 : Int32) (v2 : Int32)  (Q : Int32 → gFG → gFF → Prop) : Nat → Int32 → Int32 → gFG → gFF → Prop
  | 0, _, _, _, _ => False
  | n + 1, v3, v4, g, f => (((g 5) ≤ v4) → Q v3 g f) ∧ ((¬ (g 5) ≤ v4) → wX2_howMany_l17 N v1 v2 v4 (wX2_howMany_l5 N v1 v2  Q n) Q N v3 0 g f)
theorem sX2_howMany_l5 {G : gG} {Rt : Option Value → gSt → Prop} (hE : gInj layC ad) (hG : gSim l D cs layC ad (gZc ad tX tY sK sV) 3 RX2 cX2_howMany 7 (some .int) G Rt) {Q : Int32 → gFG → gFF → Prop} (hQ : ∀ v S, gQi Q v S → Rt v S) {N : Nat} {v1 : Int32} {v2 : Int32}    : ∀ (n : Nat) (v3 : Int32) (v4 : Int32) (g : gFG) (f : gFF), wX2_howMany_l5 N v1 v2  Q n v3 v4 g f → G 5 [some (.ref (ad 1)), some (.int v1), some (.int v2), some (.int v3), some (.int v4), none, none] [] (g, f, 0) := by
  intro n
  induction n with
  | zero => intro _ _ _ _ h; unfold wX2_howMany_l5 at h; exact h.elim
  | succ n ih =>
    intro v3 v4 g f h
    unfold wX2_howMany_l5 at h
    refine s_iload (n := 7) hG dX2_howMany_5 rfl rfl ?_
    refine s_aload_n (n := 8) hG dX2_howMany_7 rfl rfl ?_
    refine gtX2_19 (n := 11) hG dX2_howMany_8 rfl ?_
    refine s_icmp_ge (n := 14) (tgt := 63) hG dX2_howMany_11 rfl rfl (fun c => ?_) (fun c => ?_)
    · replace h := h.1 c
      refine s_iload_n (n := 64) hG dX2_howMany_63 rfl rfl ?_
      exact s_iret hG dX2_howMany_64 (hQ _ _ ⟨_, _, _, rfl, rfl, h⟩)
    · replace h := h.2 c
      refine s_iconst (n := 15) hG dX2_howMany_14 ki_0 rfl ?_
      refine s_istore (n := 17) (lv2 := [some (.ref (ad 1)), some (.int v1), some (.int v2), some (.int v3), some (.int v4), some (.int 0), none]) hG dX2_howMany_15 rfl rfl rfl ?_
      exact s_wk hG (sX2_howMany_l17 hE hG hQ ih N _ _ _ _ h) ⟨rfl, rfl, rfl, rfl, rfl, rfl, trivial⟩
def wX2_howMany (N : Nat) (a1 : Int32) (a2 : Int32) (g : gFG) (f : gFF) (Q : Int32 → gFG → gFF → Prop) : Prop := wX2_howMany_l5 N a1 a2 Q N 0 0 g f
theorem mX2_howMany (hE : gInj layC ad) {N : Nat} {a1 : Int32} {a2 : Int32} {g : gFG} {f : gFF} {Q : Int32 → gFG → gFF → Prop} (h : wX2_howMany N a1 a2 g f Q) : gCT l D cs layC ad (gZc ad tX tY sK sV) 3 yX2_howMany cX2_howMany 7 (some .int) [.ref (ad 1), .int a1, .int a2] (g, f, 0) (gQi Q) := by
  refine met_walk (lv0 := [some (.ref (ad 1)), some (.int a1), some (.int a2), none, none, none, none]) ⟨hE, gZc_ok _ _ _ _ _⟩ (by decide) (Nat.le_of_ble_eq_true rfl) rfl (fun G Rt hG hQ => ?_)
  replace hG : gSim l D cs layC ad (gZc ad tX tY sK sV) 3 RX2 cX2_howMany 7 (some .int) G Rt := hG
  unfold wX2_howMany at h
  refine s_iconst (n := 1) hG dX2_howMany_0 ki_0 rfl ?_
  refine s_istore_n (n := 2) (lv2 := [some (.ref (ad 1)), some (.int a1), some (.int a2), some (.int 0), none, none, none]) hG dX2_howMany_1 rfl rfl rfl ?_
  refine s_iconst (n := 3) hG dX2_howMany_2 ki_0 rfl ?_
  refine s_istore (n := 5) (lv2 := [some (.ref (ad 1)), some (.int a1), some (.int a2), some (.int 0), some (.int 0), none, none]) hG dX2_howMany_3 rfl rfl rfl ?_
  exact s_wk hG (sX2_howMany_l5 hE hG hQ  N _ _ _ _ h) ⟨rfl, rfl, rfl, rfl, rfl, trivial⟩
def wX1_howManySpacers (N : Nat)  (g : gFG) (f : gFF) (Q : Int32 → gFG → gFF → Prop) : Prop := wX2_howMany N 2 2 g f (fun r6 g6 f6 => Q r6 g6 f6)
theorem mX1_howManySpacers (hE : gInj layC ad) {N : Nat}  {g : gFG} {f : gFF} {Q : Int32 → gFG → gFF → Prop} (h : wX1_howManySpacers N  g f Q) : gCT l D cs layC ad (gZc ad tX tY sK sV) 4 yX1_howManySpacers cX1_howManySpacers 1 (some .int) [.ref (ad 2)] (g, f, 0) (gQi Q) := by
  refine met_walk (lv0 := [some (.ref (ad 2))]) ⟨hE, gZc_ok _ _ _ _ _⟩ (by decide) (Nat.le_of_ble_eq_true rfl) rfl (fun G Rt hG hQ => ?_)
  replace hG : gSim l D cs layC ad (gZc ad tX tY sK sV) 4 RX1 cX1_howManySpacers 1 (some .int) G Rt := hG
  unfold wX1_howManySpacers at h
  refine s_aload_n (n := 1) hG dX1_howManySpacers_0 rfl rfl ?_
  refine gtX1_32 (n := 4) hG dX1_howManySpacers_1 rfl ?_
  refine s_iconst (n := 5) hG dX1_howManySpacers_4 ki_2 rfl ?_
  refine s_iconst (n := 6) hG dX1_howManySpacers_5 ki_2 rfl ?_
  refine s_callV (n := 9) (st := []) hG (mX2_howMany hE h) ceX2_howMany lmX1_61 ⟨by decide, rfl, rfl⟩ rfl ⟨rfl, Nat.le_of_ble_eq_true rfl, by decide⟩ dX1_howManySpacers_6 rfl ?_
  rintro _ _ ⟨r6, g6, f6, rfl, rfl, h⟩
  exact s_iret hG dX1_howManySpacers_9 (hQ _ _ ⟨_, _, _, rfl, rfl, h⟩)
def wX1_howManyCores (N : Nat)  (g : gFG) (f : gFF) (Q : Int32 → gFG → gFF → Prop) : Prop := wX2_howMany N 1 1 g f (fun r6 g6 f6 => Q r6 g6 f6)
theorem mX1_howManyCores (hE : gInj layC ad) {N : Nat}  {g : gFG} {f : gFF} {Q : Int32 → gFG → gFF → Prop} (h : wX1_howManyCores N  g f Q) : gCT l D cs layC ad (gZc ad tX tY sK sV) 4 yX1_howManyCores cX1_howManyCores 1 (some .int) [.ref (ad 2)] (g, f, 0) (gQi Q) := by
  refine met_walk (lv0 := [some (.ref (ad 2))]) ⟨hE, gZc_ok _ _ _ _ _⟩ (by decide) (Nat.le_of_ble_eq_true rfl) rfl (fun G Rt hG hQ => ?_)
  replace hG : gSim l D cs layC ad (gZc ad tX tY sK sV) 4 RX1 cX1_howManyCores 1 (some .int) G Rt := hG
  unfold wX1_howManyCores at h
  refine s_aload_n (n := 1) hG dX1_howManyCores_0 rfl rfl ?_
  refine gtX1_32 (n := 4) hG dX1_howManyCores_1 rfl ?_
  refine s_iconst (n := 5) hG dX1_howManyCores_4 ki_1 rfl ?_
  refine s_iconst (n := 6) hG dX1_howManyCores_5 ki_1 rfl ?_
  refine s_callV (n := 9) (st := []) hG (mX2_howMany hE h) ceX2_howMany lmX1_61 ⟨by decide, rfl, rfl⟩ rfl ⟨rfl, Nat.le_of_ble_eq_true rfl, by decide⟩ dX1_howManyCores_6 rfl ?_
  rintro _ _ ⟨r6, g6, f6, rfl, rfl, h⟩
  exact s_iret hG dX1_howManyCores_9 (hQ _ _ ⟨_, _, _, rfl, rfl, h⟩)
def wX1_isMetal_j36 (N : Nat)  (Q : Int32 → gFG → gFF → Prop)  (g : gFG) (f : gFF) : Prop := Q 1 g f
theorem sX1_isMetal_j36 {G : gG} {Rt : Option Value → gSt → Prop} (hE : gInj layC ad) (hG : gSim l D cs layC ad (gZc ad tX tY sK sV) 2 RX1 cX1_isMetal 4 (some .boolean) G Rt) {Q : Int32 → gFG → gFF → Prop} (hQ : ∀ v S, gQi Q v S → Rt v S) {N : Nat}    {g : gFG} {f : gFF}  (h : wX1_isMetal_j36 N  Q  g f) : G 36 [none, none, none, none] [] (g, f, 0) := by
  unfold wX1_isMetal_j36 at h
  refine s_iconst (n := 37) hG dX1_isMetal_36 ki_1 rfl ?_
  refine s_goto (tgt := 41) hG dX1_isMetal_37 rfl ?_
  exact s_zret hG dX1_isMetal_41 (gz_n gz_1) (hQ _ _ ⟨_, _, _, rfl, rfl, h⟩)
def wX1_isMetal (N : Nat) (a1 : Int32) (a2 : Int32) (g : gFG) (f : gFF) (Q : Int32 → gFG → gFF → Prop) : Prop := wX2_has N a1 a2 g f (fun r6 g6 f6 => ((¬ r6 = 0) → ∀ i24 : Int32, i24 = ((a2 * 12) + a1) → (vp_in i24 144) ∧ (∀ x3_25 : Int32, x3_25 = (f6 14 i24.toNatClampNeg) → ((x3_25 = 1) → wX1_isMetal_j36 N  Q g6 f6) ∧ ((¬ x3_25 = 1) → ((¬ x3_25 = 5) → Q 0 g6 f6) ∧ ((x3_25 = 5) → wX1_isMetal_j36 N  Q g6 f6)))) ∧ ((r6 = 0) → Q 0 g6 f6))
theorem mX1_isMetal (hE : gInj layC ad) {N : Nat} {a1 : Int32} {a2 : Int32} {g : gFG} {f : gFF} {Q : Int32 → gFG → gFF → Prop} (h : wX1_isMetal N a1 a2 g f Q) : gCT l D cs layC ad (gZc ad tX tY sK sV) 2 yX1_isMetal cX1_isMetal 4 (some .boolean) [.ref (ad 2), .int a1, .int a2] (g, f, 0) (gQi Q) := by
  refine met_walk (lv0 := [some (.ref (ad 2)), some (.int a1), some (.int a2), none]) ⟨hE, gZc_ok _ _ _ _ _⟩ (by decide) (Nat.le_of_ble_eq_true rfl) rfl (fun G Rt hG hQ => ?_)
  replace hG : gSim l D cs layC ad (gZc ad tX tY sK sV) 2 RX1 cX1_isMetal 4 (some .boolean) G Rt := hG
  unfold wX1_isMetal at h
  refine s_aload_n (n := 1) hG dX1_isMetal_0 rfl rfl ?_
  refine gtX1_32 (n := 4) hG dX1_isMetal_1 rfl ?_
  refine s_iload_n (n := 5) hG dX1_isMetal_4 rfl rfl ?_
  refine s_iload_n (n := 6) hG dX1_isMetal_5 rfl rfl ?_
  refine s_callV (n := 9) (st := []) hG (mX2_has hE h) ceX2_has lmX1_47 ⟨by decide, rfl, rfl⟩ rfl ⟨rfl, Nat.le_of_ble_eq_true rfl, by decide⟩ dX1_isMetal_6 rfl ?_
  rintro _ _ ⟨r6, g6, f6, rfl, rfl, h⟩
  refine s_if_ne (n := 12) (tgt := 14) hG dX1_isMetal_9 rfl rfl (fun c => ?_) (fun c => ?_)
  · replace h := h.1 c
    refine s_aload_n (n := 15) hG dX1_isMetal_14 rfl rfl ?_
    refine gtX1_9 (n := 18) hG dX1_isMetal_15 rfl ?_
    refine s_iload_n (n := 19) hG dX1_isMetal_18 rfl rfl ?_
    refine s_bipush (n := 21) hG dX1_isMetal_19 kb_12 rfl ?_
    refine s_imul (n := 22) hG dX1_isMetal_21 rfl ?_
    refine s_iload_n (n := 23) hG dX1_isMetal_22 rfl rfl ?_
    refine s_iadd (n := 24) hG dX1_isMetal_23 rfl ?_
    refine s_topi (fun i24 hi24 => ?_)
    replace h := h i24 hi24
    obtain ⟨hin, h⟩ := h
    refine s_iald (n := 25) hG dX1_isMetal_24 (gaC_14 hin) rfl ?_
    refine s_topi (fun x3_25 hx3_25 => ?_)
    replace h := h x3_25 hx3_25
    refine s_istore_n (n := 26) (lv2 := [some (.ref (ad 2)), some (.int a1), some (.int a2), some (.int x3_25)]) hG dX1_isMetal_25 rfl rfl rfl ?_
    refine s_iload_n (n := 27) hG dX1_isMetal_26 rfl rfl ?_
    refine s_iconst (n := 28) hG dX1_isMetal_27 ki_1 rfl ?_
    refine s_icmp_eq (n := 31) (tgt := 36) hG dX1_isMetal_28 rfl rfl (fun c => ?_) (fun c => ?_)
    · replace h := h.1 c
      exact s_wk hG (sX1_isMetal_j36 hE hG hQ  h) trivial
    · replace h := h.2 c
      refine s_iload_n (n := 32) hG dX1_isMetal_31 rfl rfl ?_
      refine s_iconst (n := 33) hG dX1_isMetal_32 ki_5 rfl ?_
      refine s_icmp_ne (n := 36) (tgt := 40) hG dX1_isMetal_33 rfl rfl (fun c => ?_) (fun c => ?_)
      · replace h := h.1 c
        refine s_iconst (n := 41) hG dX1_isMetal_40 ki_0 rfl ?_
        exact s_zret hG dX1_isMetal_41 (gz_n gz_0) (hQ _ _ ⟨_, _, _, rfl, rfl, h⟩)
      · replace h := h.2 c
        exact s_wk hG (sX1_isMetal_j36 hE hG hQ  h) trivial
  · replace h := h.2 c
    refine s_iconst (n := 13) hG dX1_isMetal_12 ki_0 rfl ?_
    exact s_zret hG dX1_isMetal_13 (gz_n gz_0) (hQ _ _ ⟨_, _, _, rfl, rfl, h⟩)
def wX1_canMend_l22 (N : Nat) (v1 : Int32) (v2 : Int32)  (Q : Int32 → gFG → gFF → Prop) : Nat → Int32 → gFG → gFF → Prop
  | 0, _, _, _ => False
  | n + 1, v4, g, f => ((4 ≤ v4) → Q 0 g f) ∧ ((¬ 4 ≤ v4) → (vp_in v4 4) ∧ ((vp_in v4 4) ∧ (wX1_isMetal N (v1 + (gwx v4.toNatClampNeg)) (v2 + (gwy v4.toNatClampNeg)) g f (fun r45 g45 f45 => ((r45 = 0) → ∀ x4_53 : Int32, x4_53 = (v4 + 1) → wX1_canMend_l22 N v1 v2  Q n x4_53 g45 f45) ∧ ((¬ r45 = 0) → Q 1 g45 f45)))))
theorem sX1_canMend_l22 {G : gG} {Rt : Option Value → gSt → Prop} (hE : gInj layC ad) (hG : gSim l D cs layC ad (gZc ad tX tY sK sV) 3 RX1 cX1_canMend 5 (some .boolean) G Rt) {Q : Int32 → gFG → gFF → Prop} (hQ : ∀ v S, gQi Q v S → Rt v S) {N : Nat} {v1 : Int32} {v2 : Int32}    : ∀ (n : Nat) (v4 : Int32) (g : gFG) (f : gFF), wX1_canMend_l22 N v1 v2  Q n v4 g f → G 22 [some (.ref (ad 2)), some (.int v1), some (.int v2), none, some (.int v4)] [] (g, f, 0) := by
  intro n
  induction n with
  | zero => intro _ _ _ h; unfold wX1_canMend_l22 at h; exact h.elim
  | succ n ih =>
    intro v4 g f h
    unfold wX1_canMend_l22 at h
    refine s_iload (n := 24) hG dX1_canMend_22 rfl rfl ?_
    refine s_iconst (n := 25) hG dX1_canMend_24 ki_4 rfl ?_
    refine s_icmp_ge (n := 28) (tgt := 59) hG dX1_canMend_25 rfl rfl (fun c => ?_) (fun c => ?_)
    · replace h := h.1 c
      refine s_iconst (n := 60) hG dX1_canMend_59 ki_0 rfl ?_
      exact s_zret hG dX1_canMend_60 (gz_n gz_0) (hQ _ _ ⟨_, _, _, rfl, rfl, h⟩)
    · replace h := h.2 c
      refine s_aload_n (n := 29) hG dX1_canMend_28 rfl rfl ?_
      refine s_iload_n (n := 30) hG dX1_canMend_29 rfl rfl ?_
      refine s_gets (n := 33) hG (fun U hU => ⟨hU.1.1, hU.2.2.1.1⟩) dX1_canMend_30 rfl ?_
      refine s_iload (n := 35) hG dX1_canMend_33 rfl rfl ?_
      obtain ⟨hin, h⟩ := h
      refine s_tald (n := 36) (N := 4) (tb := gwx) hG (fun U hU => hU.1.2) dX1_canMend_35 hin rfl ?_
      refine s_iadd (n := 37) hG dX1_canMend_36 rfl ?_
      refine s_iload_n (n := 38) hG dX1_canMend_37 rfl rfl ?_
      refine s_gets (n := 41) hG (fun U hU => ⟨hU.2.1.1, hU.2.2.1.2.1⟩) dX1_canMend_38 rfl ?_
      refine s_iload (n := 43) hG dX1_canMend_41 rfl rfl ?_
      obtain ⟨hin, h⟩ := h
      refine s_tald (n := 44) (N := 4) (tb := gwy) hG (fun U hU => hU.2.1.2) dX1_canMend_43 hin rfl ?_
      refine s_iadd (n := 45) hG dX1_canMend_44 rfl ?_
      refine s_callV (n := 48) (st := []) hG (mX1_isMetal hE h) ceX1_isMetal lmX1_70 ⟨by decide, rfl, rfl⟩ rfl ⟨rfl, Nat.le_of_ble_eq_true rfl, by decide⟩ dX1_canMend_45 rfl ?_
      rintro _ _ ⟨r45, g45, f45, rfl, rfl, h⟩
      refine s_if_eq (n := 51) (tgt := 53) hG dX1_canMend_48 rfl rfl (fun c => ?_) (fun c => ?_)
      · replace h := h.1 c
        obtain ⟨x4_53, hx4_53⟩ : ∃ z : Int32, z = (v4 + 1) := ⟨_, rfl⟩
        replace h := h x4_53 hx4_53
        refine s_iinc (n := 56) (v := x4_53) (lv2 := [some (.ref (ad 2)), some (.int v1), some (.int v2), none, some (.int x4_53)]) hG dX1_canMend_53 ki_1 rfl hx4_53 rfl rfl rfl ?_
        refine s_goto (tgt := 22) hG dX1_canMend_56 rfl ?_
        exact s_wk hG (ih _ _ _ h) ⟨rfl, rfl, rfl, rfl, trivial⟩
      · replace h := h.2 c
        refine s_iconst (n := 52) hG dX1_canMend_51 ki_1 rfl ?_
        exact s_zret hG dX1_canMend_52 (gz_n gz_1) (hQ _ _ ⟨_, _, _, rfl, rfl, h⟩)
def wX1_canMend_j19 (N : Nat)  (Q : Int32 → gFG → gFF → Prop) (v1 : Int32) (v2 : Int32) (g : gFG) (f : gFF) : Prop := wX1_canMend_l22 N v1 v2 Q N 0 g f
theorem sX1_canMend_j19 {G : gG} {Rt : Option Value → gSt → Prop} (hE : gInj layC ad) (hG : gSim l D cs layC ad (gZc ad tX tY sK sV) 3 RX1 cX1_canMend 5 (some .boolean) G Rt) {Q : Int32 → gFG → gFF → Prop} (hQ : ∀ v S, gQi Q v S → Rt v S) {N : Nat}   {v1 : Int32} {v2 : Int32} {g : gFG} {f : gFF}  (h : wX1_canMend_j19 N  Q v1 v2 g f) : G 19 [some (.ref (ad 2)), some (.int v1), some (.int v2), none, none] [] (g, f, 0) := by
  unfold wX1_canMend_j19 at h
  refine s_iconst (n := 20) hG dX1_canMend_19 ki_0 rfl ?_
  refine s_istore (n := 22) (lv2 := [some (.ref (ad 2)), some (.int v1), some (.int v2), none, some (.int 0)]) hG dX1_canMend_20 rfl rfl rfl ?_
  exact s_wk hG (sX1_canMend_l22 hE hG hQ  N _ _ _ h) ⟨rfl, rfl, rfl, rfl, trivial⟩
def wX1_canMend (N : Nat) (a1 : Int32) (a2 : Int32) (g : gFG) (f : gFF) (Q : Int32 → gFG → gFF → Prop) : Prop := wX1_fateAt N a1 a2 g f (fun r3 g3 f3 => ((r3 = 2) → wX1_canMend_j19 N  Q a1 a2 g3 f3) ∧ ((¬ r3 = 2) → ((r3 = 3) → wX1_canMend_j19 N  Q a1 a2 g3 f3) ∧ ((¬ r3 = 3) → Q 0 g3 f3)))
theorem mX1_canMend (hE : gInj layC ad) {N : Nat} {a1 : Int32} {a2 : Int32} {g : gFG} {f : gFF} {Q : Int32 → gFG → gFF → Prop} (h : wX1_canMend N a1 a2 g f Q) : gCT l D cs layC ad (gZc ad tX tY sK sV) 3 yX1_canMend cX1_canMend 5 (some .boolean) [.ref (ad 2), .int a1, .int a2] (g, f, 0) (gQi Q) := by
  refine met_walk (lv0 := [some (.ref (ad 2)), some (.int a1), some (.int a2), none, none]) ⟨hE, gZc_ok _ _ _ _ _⟩ (by decide) (Nat.le_of_ble_eq_true rfl) rfl (fun G Rt hG hQ => ?_)
  replace hG : gSim l D cs layC ad (gZc ad tX tY sK sV) 3 RX1 cX1_canMend 5 (some .boolean) G Rt := hG
  unfold wX1_canMend at h
  refine s_aload_n (n := 1) hG dX1_canMend_0 rfl rfl ?_
  refine s_iload_n (n := 2) hG dX1_canMend_1 rfl rfl ?_
  refine s_iload_n (n := 3) hG dX1_canMend_2 rfl rfl ?_
  refine s_callV (n := 6) (st := []) hG (mX1_fateAt hE h) ceX1_fateAt lmX1_57 ⟨by decide, rfl, rfl⟩ rfl ⟨rfl, Nat.le_of_ble_eq_true rfl, by decide⟩ dX1_canMend_3 rfl ?_
  rintro _ _ ⟨r3, g3, f3, rfl, rfl, h⟩
  refine s_istore_n (n := 7) (lv2 := [some (.ref (ad 2)), some (.int a1), some (.int a2), some (.int r3), none]) hG dX1_canMend_6 rfl rfl rfl ?_
  refine s_iload_n (n := 8) hG dX1_canMend_7 rfl rfl ?_
  refine s_iconst (n := 9) hG dX1_canMend_8 ki_2 rfl ?_
  refine s_icmp_eq (n := 12) (tgt := 19) hG dX1_canMend_9 rfl rfl (fun c => ?_) (fun c => ?_)
  · replace h := h.1 c
    exact s_wk hG (sX1_canMend_j19 hE hG hQ  h) ⟨rfl, rfl, rfl, trivial⟩
  · replace h := h.2 c
    refine s_iload_n (n := 13) hG dX1_canMend_12 rfl rfl ?_
    refine s_iconst (n := 14) hG dX1_canMend_13 ki_3 rfl ?_
    refine s_icmp_eq (n := 17) (tgt := 19) hG dX1_canMend_14 rfl rfl (fun c => ?_) (fun c => ?_)
    · replace h := h.1 c
      exact s_wk hG (sX1_canMend_j19 hE hG hQ  h) ⟨rfl, rfl, rfl, trivial⟩
    · replace h := h.2 c
      refine s_iconst (n := 18) hG dX1_canMend_17 ki_0 rfl ?_
      exact s_zret hG dX1_canMend_18 (gz_n gz_0) (hQ _ _ ⟨_, _, _, rfl, rfl, h⟩)
def wX1_mend_j24 (N : Nat)  (Q : Int32 → gFG → gFF → Prop)  (g : gFG) (f : gFF) : Prop := wX1_howMany N 5 g f (fun r26 g26 f26 => Q r26 g26 f26)
theorem sX1_mend_j24 {G : gG} {Rt : Option Value → gSt → Prop} (hE : gInj layC ad) (hG : gSim l D cs layC ad (gZc ad tX tY sK sV) 4 RX1 cX1_mend 3 (some .int) G Rt) {Q : Int32 → gFG → gFF → Prop} (hQ : ∀ v S, gQi Q v S → Rt v S) {N : Nat}    {g : gFG} {f : gFF}  (h : wX1_mend_j24 N  Q  g f) : G 24 [some (.ref (ad 2)), none, none] [] (g, f, 0) := by
  unfold wX1_mend_j24 at h
  refine s_aload_n (n := 25) hG dX1_mend_24 rfl rfl ?_
  refine s_iconst (n := 26) hG dX1_mend_25 ki_5 rfl ?_
  refine s_callV (n := 29) (st := []) hG (mX1_howMany hE h) ceX1_howMany lmX1_73 ⟨by decide, rfl, rfl⟩ rfl ⟨rfl, Nat.le_of_ble_eq_true rfl, by decide⟩ dX1_mend_26 rfl ?_
  rintro _ _ ⟨r26, g26, f26, rfl, rfl, h⟩
  exact s_iret hG dX1_mend_29 (hQ _ _ ⟨_, _, _, rfl, rfl, h⟩)
def wX1_mend (N : Nat) (a1 : Int32) (a2 : Int32) (g : gFG) (f : gFF) (Q : Int32 → gFG → gFF → Prop) : Prop := wX2_has N a1 a2 g f (fun r6 g6 f6 => ((r6 = 0) → wX1_mend_j24 N  Q g6 f6) ∧ ((¬ r6 = 0) → ∀ i23 : Int32, i23 = ((a2 * 12) + a1) → (vp_in i23 144) ∧ (∀ f23 : gFF, f23 = (va_up f6 14 (upd (f6 14) i23.toNatClampNeg 5)) → wX1_mend_j24 N  Q g6 f23)))
theorem mX1_mend (hE : gInj layC ad) {N : Nat} {a1 : Int32} {a2 : Int32} {g : gFG} {f : gFF} {Q : Int32 → gFG → gFF → Prop} (h : wX1_mend N a1 a2 g f Q) : gCT l D cs layC ad (gZc ad tX tY sK sV) 4 yX1_mend cX1_mend 3 (some .int) [.ref (ad 2), .int a1, .int a2] (g, f, 0) (gQi Q) := by
  refine met_walk (lv0 := [some (.ref (ad 2)), some (.int a1), some (.int a2)]) ⟨hE, gZc_ok _ _ _ _ _⟩ (by decide) (Nat.le_of_ble_eq_true rfl) rfl (fun G Rt hG hQ => ?_)
  replace hG : gSim l D cs layC ad (gZc ad tX tY sK sV) 4 RX1 cX1_mend 3 (some .int) G Rt := hG
  unfold wX1_mend at h
  refine s_aload_n (n := 1) hG dX1_mend_0 rfl rfl ?_
  refine gtX1_32 (n := 4) hG dX1_mend_1 rfl ?_
  refine s_iload_n (n := 5) hG dX1_mend_4 rfl rfl ?_
  refine s_iload_n (n := 6) hG dX1_mend_5 rfl rfl ?_
  refine s_callV (n := 9) (st := []) hG (mX2_has hE h) ceX2_has lmX1_47 ⟨by decide, rfl, rfl⟩ rfl ⟨rfl, Nat.le_of_ble_eq_true rfl, by decide⟩ dX1_mend_6 rfl ?_
  rintro _ _ ⟨r6, g6, f6, rfl, rfl, h⟩
  refine s_if_eq (n := 12) (tgt := 24) hG dX1_mend_9 rfl rfl (fun c => ?_) (fun c => ?_)
  · replace h := h.1 c
    exact s_wk hG (sX1_mend_j24 hE hG hQ  h) ⟨rfl, trivial⟩
  · replace h := h.2 c
    refine s_aload_n (n := 13) hG dX1_mend_12 rfl rfl ?_
    refine gtX1_9 (n := 16) hG dX1_mend_13 rfl ?_
    refine s_iload_n (n := 17) hG dX1_mend_16 rfl rfl ?_
    refine s_bipush (n := 19) hG dX1_mend_17 kb_12 rfl ?_
    refine s_imul (n := 20) hG dX1_mend_19 rfl ?_
    refine s_iload_n (n := 21) hG dX1_mend_20 rfl rfl ?_
    refine s_iadd (n := 22) hG dX1_mend_21 rfl ?_
    refine s_iconst (n := 23) hG dX1_mend_22 ki_5 rfl ?_
    refine s_topi2 (fun i23 hi23 => ?_)
    replace h := h i23 hi23
    obtain ⟨hin, h⟩ := h
    refine s_iast (n := 24) hG dX1_mend_23 (gaC_14 hin) rfl ?_
    refine s_nf (fun f23 hf23 => ?_)
    replace h := h f23 hf23
    exact s_wk hG (sX1_mend_j24 hE hG hQ  h) ⟨rfl, trivial⟩
def wX1_stretch_l6 (N : Nat) (v1 : Int32) (v2 : Int32) (v3 : Int32)  (Q : Int32 → gFG → gFF → Prop) : Nat → Int32 → Int32 → gFG → gFF → Prop
  | 0, _, _, _, _ => False
  | n + 1, v4, v5, g, f => ((12 ≤ v5) → Q v4 g f) ∧ ((¬ 12 ≤ v5) → (vp_in v3 4) ∧ ((vp_in v3 4) ∧ (wX1_isMetal N (v1 + (v5 * (gwx v3.toNatClampNeg))) (v2 + (v5 * (gwy v3.toNatClampNeg))) g f (fun r34 g34 f34 => ((¬ r34 = 0) → ∀ x4_43 : Int32, x4_43 = (v4 + 1) → ∀ x5_46 : Int32, x5_46 = (v5 + 1) → wX1_stretch_l6 N v1 v2 v3  Q n x4_43 x5_46 g34 f34) ∧ ((r34 = 0) → Q v4 g34 f34)))))
theorem sX1_stretch_l6 {G : gG} {Rt : Option Value → gSt → Prop} (hE : gInj layC ad) (hG : gSim l D cs layC ad (gZc ad tX tY sK sV) 3 RX1 cX1_stretch 6 (some .int) G Rt) {Q : Int32 → gFG → gFF → Prop} (hQ : ∀ v S, gQi Q v S → Rt v S) {N : Nat} {v1 : Int32} {v2 : Int32} {v3 : Int32}    : ∀ (n : Nat) (v4 : Int32) (v5 : Int32) (g : gFG) (f : gFF), wX1_stretch_l6 N v1 v2 v3  Q n v4 v5 g f → G 6 [some (.ref (ad 2)), some (.int v1), some (.int v2), some (.int v3), some (.int v4), some (.int v5)] [] (g, f, 0) := by
  intro n
  induction n with
  | zero => intro _ _ _ _ h; unfold wX1_stretch_l6 at h; exact h.elim
  | succ n ih =>
    intro v4 v5 g f h
    unfold wX1_stretch_l6 at h
    refine s_iload (n := 8) hG dX1_stretch_6 rfl rfl ?_
    refine s_bipush (n := 10) hG dX1_stretch_8 kb_12 rfl ?_
    refine s_icmp_ge (n := 13) (tgt := 52) hG dX1_stretch_10 rfl rfl (fun c => ?_) (fun c => ?_)
    · replace h := h.1 c
      refine s_iload (n := 54) hG dX1_stretch_52 rfl rfl ?_
      exact s_iret hG dX1_stretch_54 (hQ _ _ ⟨_, _, _, rfl, rfl, h⟩)
    · replace h := h.2 c
      refine s_aload_n (n := 14) hG dX1_stretch_13 rfl rfl ?_
      refine s_iload_n (n := 15) hG dX1_stretch_14 rfl rfl ?_
      refine s_iload (n := 17) hG dX1_stretch_15 rfl rfl ?_
      refine s_gets (n := 20) hG (fun U hU => ⟨hU.1.1, hU.2.2.1.1⟩) dX1_stretch_17 rfl ?_
      refine s_iload_n (n := 21) hG dX1_stretch_20 rfl rfl ?_
      obtain ⟨hin, h⟩ := h
      refine s_tald (n := 22) (N := 4) (tb := gwx) hG (fun U hU => hU.1.2) dX1_stretch_21 hin rfl ?_
      refine s_imul (n := 23) hG dX1_stretch_22 rfl ?_
      refine s_iadd (n := 24) hG dX1_stretch_23 rfl ?_
      refine s_iload_n (n := 25) hG dX1_stretch_24 rfl rfl ?_
      refine s_iload (n := 27) hG dX1_stretch_25 rfl rfl ?_
      refine s_gets (n := 30) hG (fun U hU => ⟨hU.2.1.1, hU.2.2.1.2.1⟩) dX1_stretch_27 rfl ?_
      refine s_iload_n (n := 31) hG dX1_stretch_30 rfl rfl ?_
      obtain ⟨hin, h⟩ := h
      refine s_tald (n := 32) (N := 4) (tb := gwy) hG (fun U hU => hU.2.1.2) dX1_stretch_31 hin rfl ?_
      refine s_imul (n := 33) hG dX1_stretch_32 rfl ?_
      refine s_iadd (n := 34) hG dX1_stretch_33 rfl ?_
      refine s_callV (n := 37) (st := []) hG (mX1_isMetal hE h) ceX1_isMetal lmX1_70 ⟨by decide, rfl, rfl⟩ rfl ⟨rfl, Nat.le_of_ble_eq_true rfl, by decide⟩ dX1_stretch_34 rfl ?_
      rintro _ _ ⟨r34, g34, f34, rfl, rfl, h⟩
      refine s_if_ne (n := 40) (tgt := 43) hG dX1_stretch_37 rfl rfl (fun c => ?_) (fun c => ?_)
      · replace h := h.1 c
        obtain ⟨x4_43, hx4_43⟩ : ∃ z : Int32, z = (v4 + 1) := ⟨_, rfl⟩
        replace h := h x4_43 hx4_43
        refine s_iinc (n := 46) (v := x4_43) (lv2 := [some (.ref (ad 2)), some (.int v1), some (.int v2), some (.int v3), some (.int x4_43), some (.int v5)]) hG dX1_stretch_43 ki_1 rfl hx4_43 rfl rfl rfl ?_
        obtain ⟨x5_46, hx5_46⟩ : ∃ z : Int32, z = (v5 + 1) := ⟨_, rfl⟩
        replace h := h x5_46 hx5_46
        refine s_iinc (n := 49) (v := x5_46) (lv2 := [some (.ref (ad 2)), some (.int v1), some (.int v2), some (.int v3), some (.int x4_43), some (.int x5_46)]) hG dX1_stretch_46 ki_1 rfl hx5_46 rfl rfl rfl ?_
        refine s_goto (tgt := 6) hG dX1_stretch_49 rfl ?_
        exact s_wk hG (ih _ _ _ _ h) ⟨rfl, rfl, rfl, rfl, rfl, rfl, trivial⟩
      · replace h := h.2 c
        refine s_goto (tgt := 52) hG dX1_stretch_40 rfl ?_
        refine s_iload (n := 54) hG dX1_stretch_52 rfl rfl ?_
        exact s_iret hG dX1_stretch_54 (hQ _ _ ⟨_, _, _, rfl, rfl, h⟩)
def wX1_stretch (N : Nat) (a1 : Int32) (a2 : Int32) (a3 : Int32) (g : gFG) (f : gFF) (Q : Int32 → gFG → gFF → Prop) : Prop := wX1_stretch_l6 N a1 a2 a3 Q N 0 1 g f
theorem mX1_stretch (hE : gInj layC ad) {N : Nat} {a1 : Int32} {a2 : Int32} {a3 : Int32} {g : gFG} {f : gFF} {Q : Int32 → gFG → gFF → Prop} (h : wX1_stretch N a1 a2 a3 g f Q) : gCT l D cs layC ad (gZc ad tX tY sK sV) 3 yX1_stretch cX1_stretch 6 (some .int) [.ref (ad 2), .int a1, .int a2, .int a3] (g, f, 0) (gQi Q) := by
  refine met_walk (lv0 := [some (.ref (ad 2)), some (.int a1), some (.int a2), some (.int a3), none, none]) ⟨hE, gZc_ok _ _ _ _ _⟩ (by decide) (Nat.le_of_ble_eq_true rfl) rfl (fun G Rt hG hQ => ?_)
  replace hG : gSim l D cs layC ad (gZc ad tX tY sK sV) 3 RX1 cX1_stretch 6 (some .int) G Rt := hG
  unfold wX1_stretch at h
  refine s_iconst (n := 1) hG dX1_stretch_0 ki_0 rfl ?_
  refine s_istore (n := 3) (lv2 := [some (.ref (ad 2)), some (.int a1), some (.int a2), some (.int a3), some (.int 0), none]) hG dX1_stretch_1 rfl rfl rfl ?_
  refine s_iconst (n := 4) hG dX1_stretch_3 ki_1 rfl ?_
  refine s_istore (n := 6) (lv2 := [some (.ref (ad 2)), some (.int a1), some (.int a2), some (.int a3), some (.int 0), some (.int 1)]) hG dX1_stretch_4 rfl rfl rfl ?_
  exact s_wk hG (sX1_stretch_l6 hE hG hQ  N _ _ _ _ h) ⟨rfl, rfl, rfl, rfl, rfl, rfl, trivial⟩
def wJ9_min_7cf53 (N : Nat) (a1 : Int32) (a2 : Int32) (g : gFG) (f : gFF) (Q : Int32 → gFG → gFF → Prop) : Prop := ((a2 < a1) → Q a2 g f) ∧ ((¬ a2 < a1) → Q a1 g f)
theorem mJ9_min_7cf53 (hE : gInj layC ad) {N : Nat} {a1 : Int32} {a2 : Int32} {g : gFG} {f : gFF} {Q : Int32 → gFG → gFF → Prop} (h : wJ9_min_7cf53 N a1 a2 g f Q) : gCT l D cs layC ad (gZc ad tX tY sK sV) 1 yJ9_min_7cf53 cJ9_min_7cf53 2 (some .int) [.int a1, .int a2] (g, f, 0) (gQi Q) := by
  refine met_walkF (lv0 := [some (.int a1), some (.int a2)]) ⟨hE, gZc_ok _ _ _ _ _⟩ (by decide +kernel) (Nat.le_of_ble_eq_true rfl) rfl (fun G Rt hG hQ => ?_)
  replace hG : gSim l D cs layC ad (gZc ad tX tY sK sV) 1 RJ9 cJ9_min_7cf53 2 (some .int) G Rt := hG
  unfold wJ9_min_7cf53 at h
  refine s_iload_n (n := 1) hG dJ9_min_7cf53_0 rfl rfl ?_
  refine s_iload_n (n := 2) hG dJ9_min_7cf53_1 rfl rfl ?_
  refine s_icmp_gt (n := 5) (tgt := 9) hG dJ9_min_7cf53_2 rfl rfl (fun c => ?_) (fun c => ?_)
  · replace h := h.1 c
    refine s_iload_n (n := 10) hG dJ9_min_7cf53_9 rfl rfl ?_
    exact s_iret hG dJ9_min_7cf53_10 (hQ _ _ ⟨_, _, _, rfl, rfl, h⟩)
  · replace h := h.2 c
    refine s_iload_n (n := 6) hG dJ9_min_7cf53_5 rfl rfl ?_
    refine s_goto (tgt := 10) hG dJ9_min_7cf53_6 rfl ?_
    exact s_iret hG dJ9_min_7cf53_10 (hQ _ _ ⟨_, _, _, rfl, rfl, h⟩)
def wX1_wallAt (N : Nat) (a1 : Int32) (a2 : Int32) (g : gFG) (f : gFF) (Q : Int32 → gFG → gFF → Prop) : Prop := wX1_isMetal N a1 a2 g f (fun r3 g3 f3 => ((¬ r3 = 0) → wX1_stretch N a1 a2 0 g3 f3 (fun r16 g16 f16 => wX1_stretch N a1 a2 2 g16 f16 (fun r24 g24 f24 => ∀ x3_28 : Int32, x3_28 = ((1 + r16) + r24) → wX1_stretch N a1 a2 1 g24 f24 (fun r34 g34 f34 => wX1_stretch N a1 a2 3 g34 f34 (fun r42 g42 f42 => ∀ x4_46 : Int32, x4_46 = ((1 + r34) + r42) → wJ9_min_7cf53 N x3_28 x4_46 g42 f42 (fun r51 g51 f51 => Q r51 g51 f51)))))) ∧ ((r3 = 0) → Q 0 g3 f3))
theorem mX1_wallAt (hE : gInj layC ad) {N : Nat} {a1 : Int32} {a2 : Int32} {g : gFG} {f : gFF} {Q : Int32 → gFG → gFF → Prop} (h : wX1_wallAt N a1 a2 g f Q) : gCT l D cs layC ad (gZc ad tX tY sK sV) 4 yX1_wallAt cX1_wallAt 5 (some .int) [.ref (ad 2), .int a1, .int a2] (g, f, 0) (gQi Q) := by
  refine met_walk (lv0 := [some (.ref (ad 2)), some (.int a1), some (.int a2), none, none]) ⟨hE, gZc_ok _ _ _ _ _⟩ (by decide) (Nat.le_of_ble_eq_true rfl) rfl (fun G Rt hG hQ => ?_)
  replace hG : gSim l D cs layC ad (gZc ad tX tY sK sV) 4 RX1 cX1_wallAt 5 (some .int) G Rt := hG
  unfold wX1_wallAt at h
  refine s_aload_n (n := 1) hG dX1_wallAt_0 rfl rfl ?_
  refine s_iload_n (n := 2) hG dX1_wallAt_1 rfl rfl ?_
  refine s_iload_n (n := 3) hG dX1_wallAt_2 rfl rfl ?_
  refine s_callV (n := 6) (st := []) hG (mX1_isMetal hE h) ceX1_isMetal lmX1_70 ⟨by decide, rfl, rfl⟩ rfl ⟨rfl, Nat.le_of_ble_eq_true rfl, by decide⟩ dX1_wallAt_3 rfl ?_
  rintro _ _ ⟨r3, g3, f3, rfl, rfl, h⟩
  refine s_if_ne (n := 9) (tgt := 11) hG dX1_wallAt_6 rfl rfl (fun c => ?_) (fun c => ?_)
  · replace h := h.1 c
    refine s_iconst (n := 12) hG dX1_wallAt_11 ki_1 rfl ?_
    refine s_aload_n (n := 13) hG dX1_wallAt_12 rfl rfl ?_
    refine s_iload_n (n := 14) hG dX1_wallAt_13 rfl rfl ?_
    refine s_iload_n (n := 15) hG dX1_wallAt_14 rfl rfl ?_
    refine s_iconst (n := 16) hG dX1_wallAt_15 ki_0 rfl ?_
    refine s_callV (n := 19) (st := [.int 1]) hG (mX1_stretch hE h) ceX1_stretch lmX1_76 ⟨by decide, rfl, rfl⟩ rfl ⟨rfl, Nat.le_of_ble_eq_true rfl, by decide⟩ dX1_wallAt_16 rfl ?_
    rintro _ _ ⟨r16, g16, f16, rfl, rfl, h⟩
    refine s_iadd (n := 20) hG dX1_wallAt_19 rfl ?_
    refine s_aload_n (n := 21) hG dX1_wallAt_20 rfl rfl ?_
    refine s_iload_n (n := 22) hG dX1_wallAt_21 rfl rfl ?_
    refine s_iload_n (n := 23) hG dX1_wallAt_22 rfl rfl ?_
    refine s_iconst (n := 24) hG dX1_wallAt_23 ki_2 rfl ?_
    refine s_callV (n := 27) (st := [.int (1 + r16)]) hG (mX1_stretch hE h) ceX1_stretch lmX1_76 ⟨by decide, rfl, rfl⟩ rfl ⟨rfl, Nat.le_of_ble_eq_true rfl, by decide⟩ dX1_wallAt_24 rfl ?_
    rintro _ _ ⟨r24, g24, f24, rfl, rfl, h⟩
    refine s_iadd (n := 28) hG dX1_wallAt_27 rfl ?_
    refine s_topi (fun x3_28 hx3_28 => ?_)
    replace h := h x3_28 hx3_28
    refine s_istore_n (n := 29) (lv2 := [some (.ref (ad 2)), some (.int a1), some (.int a2), some (.int x3_28), none]) hG dX1_wallAt_28 rfl rfl rfl ?_
    refine s_iconst (n := 30) hG dX1_wallAt_29 ki_1 rfl ?_
    refine s_aload_n (n := 31) hG dX1_wallAt_30 rfl rfl ?_
    refine s_iload_n (n := 32) hG dX1_wallAt_31 rfl rfl ?_
    refine s_iload_n (n := 33) hG dX1_wallAt_32 rfl rfl ?_
    refine s_iconst (n := 34) hG dX1_wallAt_33 ki_1 rfl ?_
    refine s_callV (n := 37) (st := [.int 1]) hG (mX1_stretch hE h) ceX1_stretch lmX1_76 ⟨by decide, rfl, rfl⟩ rfl ⟨rfl, Nat.le_of_ble_eq_true rfl, by decide⟩ dX1_wallAt_34 rfl ?_
    rintro _ _ ⟨r34, g34, f34, rfl, rfl, h⟩
    refine s_iadd (n := 38) hG dX1_wallAt_37 rfl ?_
    refine s_aload_n (n := 39) hG dX1_wallAt_38 rfl rfl ?_
    refine s_iload_n (n := 40) hG dX1_wallAt_39 rfl rfl ?_
    refine s_iload_n (n := 41) hG dX1_wallAt_40 rfl rfl ?_
    refine s_iconst (n := 42) hG dX1_wallAt_41 ki_3 rfl ?_
    refine s_callV (n := 45) (st := [.int (1 + r34)]) hG (mX1_stretch hE h) ceX1_stretch lmX1_76 ⟨by decide, rfl, rfl⟩ rfl ⟨rfl, Nat.le_of_ble_eq_true rfl, by decide⟩ dX1_wallAt_42 rfl ?_
    rintro _ _ ⟨r42, g42, f42, rfl, rfl, h⟩
    refine s_iadd (n := 46) hG dX1_wallAt_45 rfl ?_
    refine s_topi (fun x4_46 hx4_46 => ?_)
    replace h := h x4_46 hx4_46
    refine s_istore (n := 48) (lv2 := [some (.ref (ad 2)), some (.int a1), some (.int a2), some (.int x3_28), some (.int x4_46)]) hG dX1_wallAt_46 rfl rfl rfl ?_
    refine s_iload_n (n := 49) hG dX1_wallAt_48 rfl rfl ?_
    refine s_iload (n := 51) hG dX1_wallAt_49 rfl rfl ?_
    refine s_callS (n := 54) (st := []) hG (mJ9_min_7cf53 hE h) ceJ9_min_7cf53 lmX1_80 rfl ⟨rfl, Nat.le_of_ble_eq_true rfl, by decide⟩ dX1_wallAt_51 rfl ?_
    rintro _ _ ⟨r51, g51, f51, rfl, rfl, h⟩
    exact s_iret hG dX1_wallAt_54 (hQ _ _ ⟨_, _, _, rfl, rfl, h⟩)
  · replace h := h.2 c
    refine s_iconst (n := 10) hG dX1_wallAt_9 ki_0 rfl ?_
    exact s_iret hG dX1_wallAt_10 (hQ _ _ ⟨_, _, _, rfl, rfl, h⟩)
def wX1_leastWall_j54 (N : Nat) (K4 : Int32 → Int32 → gFG → gFF → Prop) (K17 : Int32 → Int32 → gFG → gFF → Prop) (Q : Int32 → gFG → gFF → Prop) (v1 : Int32) (v2 : Int32) (v3 : Int32) (g : gFG) (f : gFF) : Prop := ∀ x3_54 : Int32, x3_54 = (v3 + 1) → K17 v1 x3_54 g f
theorem sX1_leastWall_j54 {G : gG} {Rt : Option Value → gSt → Prop} (hE : gInj layC ad) (hG : gSim l D cs layC ad (gZc ad tX tY sK sV) 5 RX1 cX1_leastWall 5 (some .int) G Rt) {Q : Int32 → gFG → gFF → Prop} (hQ : ∀ v S, gQi Q v S → Rt v S) {N : Nat} {K4 : Int32 → Int32 → gFG → gFF → Prop} {K17 : Int32 → Int32 → gFG → gFF → Prop}  {v1 : Int32} {v2 : Int32} {v3 : Int32} {g : gFG} {f : gFF} (hK4 : ∀ (uv1 : Int32) (uv2 : Int32) (ug : gFG) (uf : gFF), K4 uv1 uv2 ug uf → G 4 [some (.ref (ad 2)), some (.int uv1), some (.int uv2), none, none] [] (ug, uf, 0)) (hK17 : ∀ (uv1 : Int32) (uv3 : Int32) (ug : gFG) (uf : gFF), K17 uv1 uv3 ug uf → G 17 [some (.ref (ad 2)), some (.int uv1), some (.int v2), some (.int uv3), none] [] (ug, uf, 0)) (h : wX1_leastWall_j54 N K4 K17 Q v1 v2 v3 g f) : G 54 [some (.ref (ad 2)), some (.int v1), some (.int v2), some (.int v3), none] [] (g, f, 0) := by
  unfold wX1_leastWall_j54 at h
  obtain ⟨x3_54, hx3_54⟩ : ∃ z : Int32, z = (v3 + 1) := ⟨_, rfl⟩
  replace h := h x3_54 hx3_54
  refine s_iinc (n := 57) (v := x3_54) (lv2 := [some (.ref (ad 2)), some (.int v1), some (.int v2), some (.int x3_54), none]) hG dX1_leastWall_54 ki_1 rfl hx3_54 rfl rfl rfl ?_
  refine s_goto (tgt := 17) hG dX1_leastWall_57 rfl ?_
  exact s_wk hG (hK17 _ _ _ _ h) ⟨rfl, rfl, rfl, rfl, trivial⟩
def wX1_leastWall_j51 (N : Nat) (K4 : Int32 → Int32 → gFG → gFF → Prop) (K17 : Int32 → Int32 → gFG → gFF → Prop) (Q : Int32 → gFG → gFF → Prop) (v2 : Int32) (v3 : Int32) (v4 : Int32) (g : gFG) (f : gFF) : Prop := wX1_leastWall_j54 N (K4) (K17) Q v4 v2 v3 g f
theorem sX1_leastWall_j51 {G : gG} {Rt : Option Value → gSt → Prop} (hE : gInj layC ad) (hG : gSim l D cs layC ad (gZc ad tX tY sK sV) 5 RX1 cX1_leastWall 5 (some .int) G Rt) {Q : Int32 → gFG → gFF → Prop} (hQ : ∀ v S, gQi Q v S → Rt v S) {N : Nat} {K4 : Int32 → Int32 → gFG → gFF → Prop} {K17 : Int32 → Int32 → gFG → gFF → Prop}  {v2 : Int32} {v3 : Int32} {v4 : Int32} {g : gFG} {f : gFF} (hK4 : ∀ (uv1 : Int32) (uv2 : Int32) (ug : gFG) (uf : gFF), K4 uv1 uv2 ug uf → G 4 [some (.ref (ad 2)), some (.int uv1), some (.int uv2), none, none] [] (ug, uf, 0)) (hK17 : ∀ (uv1 : Int32) (uv3 : Int32) (ug : gFG) (uf : gFF), K17 uv1 uv3 ug uf → G 17 [some (.ref (ad 2)), some (.int uv1), some (.int v2), some (.int uv3), none] [] (ug, uf, 0)) (h : wX1_leastWall_j51 N K4 K17 Q v2 v3 v4 g f) : G 51 [some (.ref (ad 2)), none, some (.int v2), some (.int v3), some (.int v4)] [] (g, f, 0) := by
  unfold wX1_leastWall_j51 at h
  refine s_iload (n := 53) hG dX1_leastWall_51 rfl rfl ?_
  refine s_istore_n (n := 54) (lv2 := [some (.ref (ad 2)), some (.int v4), some (.int v2), some (.int v3), some (.int v4)]) hG dX1_leastWall_53 rfl rfl rfl ?_
  exact s_wk hG (sX1_leastWall_j54 hE hG hQ hK4 hK17 h) ⟨rfl, rfl, rfl, rfl, trivial⟩
def wX1_leastWall_l17 (N : Nat) (v2 : Int32) (K4 : Int32 → Int32 → gFG → gFF → Prop) (Q : Int32 → gFG → gFF → Prop) : Nat → Int32 → Int32 → gFG → gFF → Prop
  | 0, _, _, _, _ => False
  | n + 1, v1, v3, g, f => wX2_width N g f (fun r22 g22 f22 => ((r22 ≤ v3) → ∀ x2_60 : Int32, x2_60 = (v2 + 1) → K4 v1 x2_60 g22 f22) ∧ ((¬ r22 ≤ v3) → wX1_wallAt N v3 v2 g22 f22 (fun r31 g31 f31 => ((r31 ≤ 0) → wX1_leastWall_j54 N (K4) (wX1_leastWall_l17 N v2 K4 Q n) Q v1 v2 v3 g31 f31) ∧ ((¬ r31 ≤ 0) → ((v1 = 0) → wX1_leastWall_j51 N (K4) (wX1_leastWall_l17 N v2 K4 Q n) Q v2 v3 r31 g31 f31) ∧ ((¬ v1 = 0) → ((v1 ≤ r31) → wX1_leastWall_j54 N (K4) (wX1_leastWall_l17 N v2 K4 Q n) Q v1 v2 v3 g31 f31) ∧ ((¬ v1 ≤ r31) → wX1_leastWall_j51 N (K4) (wX1_leastWall_l17 N v2 K4 Q n) Q v2 v3 r31 g31 f31))))))
theorem sX1_leastWall_l17 {G : gG} {Rt : Option Value → gSt → Prop} (hE : gInj layC ad) (hG : gSim l D cs layC ad (gZc ad tX tY sK sV) 5 RX1 cX1_leastWall 5 (some .int) G Rt) {Q : Int32 → gFG → gFF → Prop} (hQ : ∀ v S, gQi Q v S → Rt v S) {N : Nat} {v2 : Int32} {K4 : Int32 → Int32 → gFG → gFF → Prop}  (hK4 : ∀ (uv1 : Int32) (uv2 : Int32) (ug : gFG) (uf : gFF), K4 uv1 uv2 ug uf → G 4 [some (.ref (ad 2)), some (.int uv1), some (.int uv2), none, none] [] (ug, uf, 0)) : ∀ (n : Nat) (v1 : Int32) (v3 : Int32) (g : gFG) (f : gFF), wX1_leastWall_l17 N v2 K4 Q n v1 v3 g f → G 17 [some (.ref (ad 2)), some (.int v1), some (.int v2), some (.int v3), none] [] (g, f, 0) := by
  intro n
  induction n with
  | zero => intro _ _ _ _ h; unfold wX1_leastWall_l17 at h; exact h.elim
  | succ n ih =>
    intro v1 v3 g f h
    unfold wX1_leastWall_l17 at h
    refine s_iload_n (n := 18) hG dX1_leastWall_17 rfl rfl ?_
    refine s_aload_n (n := 19) hG dX1_leastWall_18 rfl rfl ?_
    refine gtX1_32 (n := 22) hG dX1_leastWall_19 rfl ?_
    refine s_callV (n := 25) (st := [.int v3]) hG (mX2_width hE h) ceX2_width lmX1_54 ⟨by decide, rfl, rfl⟩ rfl ⟨rfl, Nat.le_of_ble_eq_true rfl, by decide⟩ dX1_leastWall_22 rfl ?_
    rintro _ _ ⟨r22, g22, f22, rfl, rfl, h⟩
    refine s_icmp_ge (n := 28) (tgt := 60) hG dX1_leastWall_25 rfl rfl (fun c => ?_) (fun c => ?_)
    · replace h := h.1 c
      obtain ⟨x2_60, hx2_60⟩ : ∃ z : Int32, z = (v2 + 1) := ⟨_, rfl⟩
      replace h := h x2_60 hx2_60
      refine s_iinc (n := 63) (v := x2_60) (lv2 := [some (.ref (ad 2)), some (.int v1), some (.int x2_60), some (.int v3), none]) hG dX1_leastWall_60 ki_1 rfl hx2_60 rfl rfl rfl ?_
      refine s_goto (tgt := 4) hG dX1_leastWall_63 rfl ?_
      exact s_wk hG (hK4 _ _ _ _ h) ⟨rfl, rfl, rfl, trivial⟩
    · replace h := h.2 c
      refine s_aload_n (n := 29) hG dX1_leastWall_28 rfl rfl ?_
      refine s_iload_n (n := 30) hG dX1_leastWall_29 rfl rfl ?_
      refine s_iload_n (n := 31) hG dX1_leastWall_30 rfl rfl ?_
      refine s_callV (n := 34) (st := []) hG (mX1_wallAt hE h) ceX1_wallAt lmX1_85 ⟨by decide, rfl, rfl⟩ rfl ⟨rfl, Nat.le_of_ble_eq_true rfl, by decide⟩ dX1_leastWall_31 rfl ?_
      rintro _ _ ⟨r31, g31, f31, rfl, rfl, h⟩
      refine s_istore (n := 36) (lv2 := [some (.ref (ad 2)), some (.int v1), some (.int v2), some (.int v3), some (.int r31)]) hG dX1_leastWall_34 rfl rfl rfl ?_
      refine s_iload (n := 38) hG dX1_leastWall_36 rfl rfl ?_
      refine s_if_le (n := 41) (tgt := 54) hG dX1_leastWall_38 rfl rfl (fun c => ?_) (fun c => ?_)
      · replace h := h.1 c
        exact s_wk hG (sX1_leastWall_j54 hE hG hQ hK4 ih h) ⟨rfl, rfl, rfl, rfl, trivial⟩
      · replace h := h.2 c
        refine s_iload_n (n := 42) hG dX1_leastWall_41 rfl rfl ?_
        refine s_if_eq (n := 45) (tgt := 51) hG dX1_leastWall_42 rfl rfl (fun c => ?_) (fun c => ?_)
        · replace h := h.1 c
          exact s_wk hG (sX1_leastWall_j51 hE hG hQ hK4 ih h) ⟨rfl, rfl, rfl, rfl, trivial⟩
        · replace h := h.2 c
          refine s_iload (n := 47) hG dX1_leastWall_45 rfl rfl ?_
          refine s_iload_n (n := 48) hG dX1_leastWall_47 rfl rfl ?_
          refine s_icmp_ge (n := 51) (tgt := 54) hG dX1_leastWall_48 rfl rfl (fun c => ?_) (fun c => ?_)
          · replace h := h.1 c
            exact s_wk hG (sX1_leastWall_j54 hE hG hQ hK4 ih h) ⟨rfl, rfl, rfl, rfl, trivial⟩
          · replace h := h.2 c
            exact s_wk hG (sX1_leastWall_j51 hE hG hQ hK4 ih h) ⟨rfl, rfl, rfl, rfl, trivial⟩
def wX1_leastWall_l4 (N : Nat)   (Q : Int32 → gFG → gFF → Prop) : Nat → Int32 → Int32 → gFG → gFF → Prop
  | 0, _, _, _, _ => False
  | n + 1, v1, v2, g, f => wX2_height N g f (fun r9 g9 f9 => ((r9 ≤ v2) → Q v1 g9 f9) ∧ ((¬ r9 ≤ v2) → wX1_leastWall_l17 N v2 (wX1_leastWall_l4 N   Q n) Q N v1 0 g9 f9))
theorem sX1_leastWall_l4 {G : gG} {Rt : Option Value → gSt → Prop} (hE : gInj layC ad) (hG : gSim l D cs layC ad (gZc ad tX tY sK sV) 5 RX1 cX1_leastWall 5 (some .int) G Rt) {Q : Int32 → gFG → gFF → Prop} (hQ : ∀ v S, gQi Q v S → Rt v S) {N : Nat}     : ∀ (n : Nat) (v1 : Int32) (v2 : Int32) (g : gFG) (f : gFF), wX1_leastWall_l4 N   Q n v1 v2 g f → G 4 [some (.ref (ad 2)), some (.int v1), some (.int v2), none, none] [] (g, f, 0) := by
  intro n
  induction n with
  | zero => intro _ _ _ _ h; unfold wX1_leastWall_l4 at h; exact h.elim
  | succ n ih =>
    intro v1 v2 g f h
    unfold wX1_leastWall_l4 at h
    refine s_iload_n (n := 5) hG dX1_leastWall_4 rfl rfl ?_
    refine s_aload_n (n := 6) hG dX1_leastWall_5 rfl rfl ?_
    refine gtX1_32 (n := 9) hG dX1_leastWall_6 rfl ?_
    refine s_callV (n := 12) (st := [.int v2]) hG (mX2_height hE h) ceX2_height lmX1_51 ⟨by decide, rfl, rfl⟩ rfl ⟨rfl, Nat.le_of_ble_eq_true rfl, by decide⟩ dX1_leastWall_9 rfl ?_
    rintro _ _ ⟨r9, g9, f9, rfl, rfl, h⟩
    refine s_icmp_ge (n := 15) (tgt := 66) hG dX1_leastWall_12 rfl rfl (fun c => ?_) (fun c => ?_)
    · replace h := h.1 c
      refine s_iload_n (n := 67) hG dX1_leastWall_66 rfl rfl ?_
      exact s_iret hG dX1_leastWall_67 (hQ _ _ ⟨_, _, _, rfl, rfl, h⟩)
    · replace h := h.2 c
      refine s_iconst (n := 16) hG dX1_leastWall_15 ki_0 rfl ?_
      refine s_istore_n (n := 17) (lv2 := [some (.ref (ad 2)), some (.int v1), some (.int v2), some (.int 0), none]) hG dX1_leastWall_16 rfl rfl rfl ?_
      exact s_wk hG (sX1_leastWall_l17 hE hG hQ ih N _ _ _ _ h) ⟨rfl, rfl, rfl, rfl, trivial⟩
def wX1_leastWall (N : Nat)  (g : gFG) (f : gFF) (Q : Int32 → gFG → gFF → Prop) : Prop := wX1_leastWall_l4 N  Q N 0 0 g f
theorem mX1_leastWall (hE : gInj layC ad) {N : Nat}  {g : gFG} {f : gFF} {Q : Int32 → gFG → gFF → Prop} (h : wX1_leastWall N  g f Q) : gCT l D cs layC ad (gZc ad tX tY sK sV) 5 yX1_leastWall cX1_leastWall 5 (some .int) [.ref (ad 2)] (g, f, 0) (gQi Q) := by
  refine met_walk (lv0 := [some (.ref (ad 2)), none, none, none, none]) ⟨hE, gZc_ok _ _ _ _ _⟩ (by decide) (Nat.le_of_ble_eq_true rfl) rfl (fun G Rt hG hQ => ?_)
  replace hG : gSim l D cs layC ad (gZc ad tX tY sK sV) 5 RX1 cX1_leastWall 5 (some .int) G Rt := hG
  unfold wX1_leastWall at h
  refine s_iconst (n := 1) hG dX1_leastWall_0 ki_0 rfl ?_
  refine s_istore_n (n := 2) (lv2 := [some (.ref (ad 2)), some (.int 0), none, none, none]) hG dX1_leastWall_1 rfl rfl rfl ?_
  refine s_iconst (n := 3) hG dX1_leastWall_2 ki_0 rfl ?_
  refine s_istore_n (n := 4) (lv2 := [some (.ref (ad 2)), some (.int 0), some (.int 0), none, none]) hG dX1_leastWall_3 rfl rfl rfl ?_
  exact s_wk hG (sX1_leastWall_l4 hE hG hQ  N _ _ _ _ h) ⟨rfl, rfl, rfl, trivial⟩
def wX2_resize (N : Nat) (a1 : Int32) (a2 : Int32) (g : gFG) (f : gFF) (Q : gFG → gFF → Prop) : Prop := ∀ g2 : gFG, g2 = (va_up g 4 a1) → ∀ g7 : gFG, g7 = (va_up g2 5 a2) → wJ7_fill_53178 N 13 0 g7 f (fun g15 f15 => ∀ y25 : Int32, y25 = ((g15 6) + 1) → ∀ g25 : gFG, g25 = (va_up g15 6 y25) → Q g25 f15)
theorem mX2_resize (hE : gInj layC ad) {N : Nat} {a1 : Int32} {a2 : Int32} {g : gFG} {f : gFF} {Q : gFG → gFF → Prop} (h : wX2_resize N a1 a2 g f Q) : gCT l D cs layC ad (gZc ad tX tY sK sV) 2 yX2_resize cX2_resize 3 none [.ref (ad 1), .int a1, .int a2] (g, f, 0) (gQv Q) := by
  refine met_walk (lv0 := [some (.ref (ad 1)), some (.int a1), some (.int a2)]) ⟨hE, gZc_ok _ _ _ _ _⟩ (by decide) (Nat.le_of_ble_eq_true rfl) rfl (fun G Rt hG hQ => ?_)
  replace hG : gSim l D cs layC ad (gZc ad tX tY sK sV) 2 RX2 cX2_resize 3 none G Rt := hG
  unfold wX2_resize at h
  refine s_aload_n (n := 1) hG dX2_resize_0 rfl rfl ?_
  refine s_iload_n (n := 2) hG dX2_resize_1 rfl rfl ?_
  refine ptX2_15 (n := 5) hG dX2_resize_2 rfl ?_
  refine s_ng (fun g2 hg2 => ?_)
  replace h := h g2 hg2
  refine s_aload_n (n := 6) hG dX2_resize_5 rfl rfl ?_
  refine s_iload_n (n := 7) hG dX2_resize_6 rfl rfl ?_
  refine ptX2_19 (n := 10) hG dX2_resize_7 rfl ?_
  refine s_ng (fun g7 hg7 => ?_)
  replace h := h g7 hg7
  refine s_aload_n (n := 11) hG dX2_resize_10 rfl rfl ?_
  refine gtX2_9 (n := 14) hG dX2_resize_11 rfl ?_
  refine s_iconst (n := 15) hG dX2_resize_14 ki_0 rfl ?_
  refine s_callS (n := 18) (st := []) hG (mJ7_fill_53178 hE h) ceJ7_fill_53178 lmX2_29 rfl ⟨rfl, Nat.le_of_ble_eq_true rfl, by decide⟩ dX2_resize_15 rfl ?_
  rintro _ _ ⟨g15, f15, rfl, rfl, h⟩
  refine s_aload_n (n := 19) hG dX2_resize_18 rfl rfl ?_
  refine s_dup (n := 20) hG dX2_resize_19 rfl rfl ?_
  refine gtX2_22 (n := 23) hG dX2_resize_20 rfl ?_
  refine s_iconst (n := 24) hG dX2_resize_23 ki_1 rfl ?_
  refine s_iadd (n := 25) hG dX2_resize_24 rfl ?_
  refine s_topi (fun y25 hy25 => ?_)
  replace h := h y25 hy25
  refine ptX2_22 (n := 28) hG dX2_resize_25 rfl ?_
  refine s_ng (fun g25 hg25 => ?_)
  replace h := h g25 hg25
  exact s_vret hG dX2_resize_28 (hQ _ _ ⟨_, _, rfl, rfl, h⟩)
def wX2_fill_l37 (N : Nat) (v1 : Int32) (v3 : Int32) (v4 : Int32) (v5 : Int32) (v7 : Int32) (K27 : Int32 → Int32 → gFG → gFF → Prop) (Q : Int32 → gFG → gFF → Prop) : Nat → Int32 → Int32 → gFG → gFF → Prop
  | 0, _, _, _, _ => False
  | n + 1, v6, v8, g, f => ((v3 < v8) → ∀ x7_67 : Int32, x7_67 = (v7 + 1) → K27 v6 x7_67 g f) ∧ ((¬ v3 < v8) → ∀ i57 : Int32, i57 = ((v7 * 12) + v8) → (vp_in i57 144) ∧ (∀ f57 : gFF, f57 = (va_up f 13 (upd (f 13) i57.toNatClampNeg v5)) → ∀ x6_58 : Int32, x6_58 = (v6 + 1) → ∀ x8_61 : Int32, x8_61 = (v8 + 1) → wX2_fill_l37 N v1 v3 v4 v5 v7 K27 Q n x6_58 x8_61 g f57))
theorem sX2_fill_l37 {G : gG} {Rt : Option Value → gSt → Prop} (hE : gInj layC ad) (hG : gSim l D cs layC ad (gZc ad tX tY sK sV) 2 RX2 cX2_fill 9 (some .int) G Rt) {Q : Int32 → gFG → gFF → Prop} (hQ : ∀ v S, gQi Q v S → Rt v S) {N : Nat} {v1 : Int32} {v3 : Int32} {v4 : Int32} {v5 : Int32} {v7 : Int32} {K27 : Int32 → Int32 → gFG → gFF → Prop}  (hK27 : ∀ (uv6 : Int32) (uv7 : Int32) (ug : gFG) (uf : gFF), K27 uv6 uv7 ug uf → G 27 [some (.ref (ad 1)), some (.int v1), none, some (.int v3), some (.int v4), some (.int v5), some (.int uv6), some (.int uv7), none] [] (ug, uf, 0)) : ∀ (n : Nat) (v6 : Int32) (v8 : Int32) (g : gFG) (f : gFF), wX2_fill_l37 N v1 v3 v4 v5 v7 K27 Q n v6 v8 g f → G 37 [some (.ref (ad 1)), some (.int v1), none, some (.int v3), some (.int v4), some (.int v5), some (.int v6), some (.int v7), some (.int v8)] [] (g, f, 0) := by
  intro n
  induction n with
  | zero => intro _ _ _ _ h; unfold wX2_fill_l37 at h; exact h.elim
  | succ n ih =>
    intro v6 v8 g f h
    unfold wX2_fill_l37 at h
    refine s_iload (n := 39) hG dX2_fill_37 rfl rfl ?_
    refine s_iload_n (n := 40) hG dX2_fill_39 rfl rfl ?_
    refine s_icmp_gt (n := 43) (tgt := 67) hG dX2_fill_40 rfl rfl (fun c => ?_) (fun c => ?_)
    · replace h := h.1 c
      obtain ⟨x7_67, hx7_67⟩ : ∃ z : Int32, z = (v7 + 1) := ⟨_, rfl⟩
      replace h := h x7_67 hx7_67
      refine s_iinc (n := 70) (v := x7_67) (lv2 := [some (.ref (ad 1)), some (.int v1), none, some (.int v3), some (.int v4), some (.int v5), some (.int v6), some (.int x7_67), some (.int v8)]) hG dX2_fill_67 ki_1 rfl hx7_67 rfl rfl rfl ?_
      refine s_goto (tgt := 27) hG dX2_fill_70 rfl ?_
      exact s_wk hG (hK27 _ _ _ _ h) ⟨rfl, rfl, rfl, rfl, rfl, rfl, rfl, trivial⟩
    · replace h := h.2 c
      refine s_aload_n (n := 44) hG dX2_fill_43 rfl rfl ?_
      refine gtX2_9 (n := 47) hG dX2_fill_44 rfl ?_
      refine s_iload (n := 49) hG dX2_fill_47 rfl rfl ?_
      refine s_bipush (n := 51) hG dX2_fill_49 kb_12 rfl ?_
      refine s_imul (n := 52) hG dX2_fill_51 rfl ?_
      refine s_iload (n := 54) hG dX2_fill_52 rfl rfl ?_
      refine s_iadd (n := 55) hG dX2_fill_54 rfl ?_
      refine s_iload (n := 57) hG dX2_fill_55 rfl rfl ?_
      refine s_topi2 (fun i57 hi57 => ?_)
      replace h := h i57 hi57
      obtain ⟨hin, h⟩ := h
      refine s_iast (n := 58) hG dX2_fill_57 (gaC_13 hin) rfl ?_
      refine s_nf (fun f57 hf57 => ?_)
      replace h := h f57 hf57
      obtain ⟨x6_58, hx6_58⟩ : ∃ z : Int32, z = (v6 + 1) := ⟨_, rfl⟩
      replace h := h x6_58 hx6_58
      refine s_iinc (n := 61) (v := x6_58) (lv2 := [some (.ref (ad 1)), some (.int v1), none, some (.int v3), some (.int v4), some (.int v5), some (.int x6_58), some (.int v7), some (.int v8)]) hG dX2_fill_58 ki_1 rfl hx6_58 rfl rfl rfl ?_
      obtain ⟨x8_61, hx8_61⟩ : ∃ z : Int32, z = (v8 + 1) := ⟨_, rfl⟩
      replace h := h x8_61 hx8_61
      refine s_iinc (n := 64) (v := x8_61) (lv2 := [some (.ref (ad 1)), some (.int v1), none, some (.int v3), some (.int v4), some (.int v5), some (.int x6_58), some (.int v7), some (.int x8_61)]) hG dX2_fill_61 ki_1 rfl hx8_61 rfl rfl rfl ?_
      refine s_goto (tgt := 37) hG dX2_fill_64 rfl ?_
      exact s_wk hG (ih _ _ _ _ h) ⟨rfl, rfl, rfl, rfl, rfl, rfl, rfl, rfl, trivial⟩
def wX2_fill_l27 (N : Nat) (v1 : Int32) (v3 : Int32) (v4 : Int32) (v5 : Int32)  (Q : Int32 → gFG → gFF → Prop) : Nat → Int32 → Int32 → gFG → gFF → Prop
  | 0, _, _, _, _ => False
  | n + 1, v6, v7, g, f => ((v4 < v7) → ∀ y80 : Int32, y80 = ((g 6) + 1) → ∀ g80 : gFG, g80 = (va_up g 6 y80) → Q v6 g80 f) ∧ ((¬ v4 < v7) → wX2_fill_l37 N v1 v3 v4 v5 v7 (wX2_fill_l27 N v1 v3 v4 v5  Q n) Q N v6 v1 g f)
theorem sX2_fill_l27 {G : gG} {Rt : Option Value → gSt → Prop} (hE : gInj layC ad) (hG : gSim l D cs layC ad (gZc ad tX tY sK sV) 2 RX2 cX2_fill 9 (some .int) G Rt) {Q : Int32 → gFG → gFF → Prop} (hQ : ∀ v S, gQi Q v S → Rt v S) {N : Nat} {v1 : Int32} {v3 : Int32} {v4 : Int32} {v5 : Int32}    : ∀ (n : Nat) (v6 : Int32) (v7 : Int32) (g : gFG) (f : gFF), wX2_fill_l27 N v1 v3 v4 v5  Q n v6 v7 g f → G 27 [some (.ref (ad 1)), some (.int v1), none, some (.int v3), some (.int v4), some (.int v5), some (.int v6), some (.int v7), none] [] (g, f, 0) := by
  intro n
  induction n with
  | zero => intro _ _ _ _ h; unfold wX2_fill_l27 at h; exact h.elim
  | succ n ih =>
    intro v6 v7 g f h
    unfold wX2_fill_l27 at h
    refine s_iload (n := 29) hG dX2_fill_27 rfl rfl ?_
    refine s_iload (n := 31) hG dX2_fill_29 rfl rfl ?_
    refine s_icmp_gt (n := 34) (tgt := 73) hG dX2_fill_31 rfl rfl (fun c => ?_) (fun c => ?_)
    · replace h := h.1 c
      refine s_aload_n (n := 74) hG dX2_fill_73 rfl rfl ?_
      refine s_dup (n := 75) hG dX2_fill_74 rfl rfl ?_
      refine gtX2_22 (n := 78) hG dX2_fill_75 rfl ?_
      refine s_iconst (n := 79) hG dX2_fill_78 ki_1 rfl ?_
      refine s_iadd (n := 80) hG dX2_fill_79 rfl ?_
      refine s_topi (fun y80 hy80 => ?_)
      replace h := h y80 hy80
      refine ptX2_22 (n := 83) hG dX2_fill_80 rfl ?_
      refine s_ng (fun g80 hg80 => ?_)
      replace h := h g80 hg80
      refine s_iload (n := 85) hG dX2_fill_83 rfl rfl ?_
      exact s_iret hG dX2_fill_85 (hQ _ _ ⟨_, _, _, rfl, rfl, h⟩)
    · replace h := h.2 c
      refine s_iload_n (n := 35) hG dX2_fill_34 rfl rfl ?_
      refine s_istore (n := 37) (lv2 := [some (.ref (ad 1)), some (.int v1), none, some (.int v3), some (.int v4), some (.int v5), some (.int v6), some (.int v7), some (.int v1)]) hG dX2_fill_35 rfl rfl rfl ?_
      exact s_wk hG (sX2_fill_l37 hE hG hQ ih N _ _ _ _ h) ⟨rfl, rfl, rfl, rfl, rfl, rfl, rfl, rfl, trivial⟩
def wX2_fill (N : Nat) (a1 : Int32) (a2 : Int32) (a3 : Int32) (a4 : Int32) (a5 : Int32) (g : gFG) (f : gFF) (Q : Int32 → gFG → gFF → Prop) : Prop := wX2_has N a1 a2 g f (fun r3 g3 f3 => ((r3 = 0) → Q 0 g3 f3) ∧ ((¬ r3 = 0) → wX2_has N a3 a4 g3 f3 (fun r13 g13 f13 => ((¬ r13 = 0) → wX2_fill_l27 N a1 a3 a4 a5 Q N 0 a2 g13 f13) ∧ ((r13 = 0) → Q 0 g13 f13))))
theorem mX2_fill (hE : gInj layC ad) {N : Nat} {a1 : Int32} {a2 : Int32} {a3 : Int32} {a4 : Int32} {a5 : Int32} {g : gFG} {f : gFF} {Q : Int32 → gFG → gFF → Prop} (h : wX2_fill N a1 a2 a3 a4 a5 g f Q) : gCT l D cs layC ad (gZc ad tX tY sK sV) 2 yX2_fill cX2_fill 9 (some .int) [.ref (ad 1), .int a1, .int a2, .int a3, .int a4, .int a5] (g, f, 0) (gQi Q) := by
  refine met_walk (lv0 := [some (.ref (ad 1)), some (.int a1), some (.int a2), some (.int a3), some (.int a4), some (.int a5), none, none, none]) ⟨hE, gZc_ok _ _ _ _ _⟩ (by decide) (Nat.le_of_ble_eq_true rfl) rfl (fun G Rt hG hQ => ?_)
  replace hG : gSim l D cs layC ad (gZc ad tX tY sK sV) 2 RX2 cX2_fill 9 (some .int) G Rt := hG
  unfold wX2_fill at h
  refine s_aload_n (n := 1) hG dX2_fill_0 rfl rfl ?_
  refine s_iload_n (n := 2) hG dX2_fill_1 rfl rfl ?_
  refine s_iload_n (n := 3) hG dX2_fill_2 rfl rfl ?_
  refine s_callV (n := 6) (st := []) hG (mX2_has hE h) ceX2_has lmX2_25 ⟨by decide, rfl, rfl⟩ rfl ⟨rfl, Nat.le_of_ble_eq_true rfl, by decide⟩ dX2_fill_3 rfl ?_
  rintro _ _ ⟨r3, g3, f3, rfl, rfl, h⟩
  refine s_if_eq (n := 9) (tgt := 19) hG dX2_fill_6 rfl rfl (fun c => ?_) (fun c => ?_)
  · replace h := h.1 c
    refine s_iconst (n := 20) hG dX2_fill_19 ki_0 rfl ?_
    exact s_iret hG dX2_fill_20 (hQ _ _ ⟨_, _, _, rfl, rfl, h⟩)
  · replace h := h.2 c
    refine s_aload_n (n := 10) hG dX2_fill_9 rfl rfl ?_
    refine s_iload_n (n := 11) hG dX2_fill_10 rfl rfl ?_
    refine s_iload (n := 13) hG dX2_fill_11 rfl rfl ?_
    refine s_callV (n := 16) (st := []) hG (mX2_has hE h) ceX2_has lmX2_25 ⟨by decide, rfl, rfl⟩ rfl ⟨rfl, Nat.le_of_ble_eq_true rfl, by decide⟩ dX2_fill_13 rfl ?_
    rintro _ _ ⟨r13, g13, f13, rfl, rfl, h⟩
    refine s_if_ne (n := 19) (tgt := 21) hG dX2_fill_16 rfl rfl (fun c => ?_) (fun c => ?_)
    · replace h := h.1 c
      refine s_iconst (n := 22) hG dX2_fill_21 ki_0 rfl ?_
      refine s_istore (n := 24) (lv2 := [some (.ref (ad 1)), some (.int a1), some (.int a2), some (.int a3), some (.int a4), some (.int a5), some (.int 0), none, none]) hG dX2_fill_22 rfl rfl rfl ?_
      refine s_iload_n (n := 25) hG dX2_fill_24 rfl rfl ?_
      refine s_istore (n := 27) (lv2 := [some (.ref (ad 1)), some (.int a1), some (.int a2), some (.int a3), some (.int a4), some (.int a5), some (.int 0), some (.int a2), none]) hG dX2_fill_25 rfl rfl rfl ?_
      exact s_wk hG (sX2_fill_l27 hE hG hQ  N _ _ _ _ h) ⟨rfl, rfl, rfl, rfl, rfl, rfl, rfl, trivial⟩
    · replace h := h.2 c
      refine s_iconst (n := 20) hG dX2_fill_19 ki_0 rfl ?_
      exact s_iret hG dX2_fill_20 (hQ _ _ ⟨_, _, _, rfl, rfl, h⟩)
def wX4_length (N : Nat)  (g : gFG) (f : gFF) (Q : Int32 → gFG → gFF → Prop) : Prop := Q (g 13) g f
theorem mX4_length (hE : gInj layC ad) {N : Nat}  {g : gFG} {f : gFF} {Q : Int32 → gFG → gFF → Prop} (h : wX4_length N  g f Q) : gCT l D cs layC ad (gZc ad tX tY sK sV) 1 yX4_length cX4_length 1 (some .int) [.ref (ad 4)] (g, f, 0) (gQi Q) := by
  refine met_walk (lv0 := [some (.ref (ad 4))]) ⟨hE, gZc_ok _ _ _ _ _⟩ (by decide) (Nat.le_of_ble_eq_true rfl) rfl (fun G Rt hG hQ => ?_)
  replace hG : gSim l D cs layC ad (gZc ad tX tY sK sV) 1 RX4 cX4_length 1 (some .int) G Rt := hG
  unfold wX4_length at h
  refine s_aload_n (n := 1) hG dX4_length_0 rfl rfl ?_
  refine gtX4_24 (n := 4) hG dX4_length_1 rfl ?_
  exact s_iret hG dX4_length_4 (hQ _ _ ⟨_, _, _, rfl, rfl, h⟩)
def wX4_isFull (N : Nat)  (g : gFG) (f : gFF) (Q : Int32 → gFG → gFF → Prop) : Prop := (((g 13) < 6) → Q 0 g f) ∧ ((¬ (g 13) < 6) → Q 1 g f)
theorem mX4_isFull (hE : gInj layC ad) {N : Nat}  {g : gFG} {f : gFF} {Q : Int32 → gFG → gFF → Prop} (h : wX4_isFull N  g f Q) : gCT l D cs layC ad (gZc ad tX tY sK sV) 1 yX4_isFull cX4_isFull 1 (some .boolean) [.ref (ad 4)] (g, f, 0) (gQi Q) := by
  refine met_walk (lv0 := [some (.ref (ad 4))]) ⟨hE, gZc_ok _ _ _ _ _⟩ (by decide) (Nat.le_of_ble_eq_true rfl) rfl (fun G Rt hG hQ => ?_)
  replace hG : gSim l D cs layC ad (gZc ad tX tY sK sV) 1 RX4 cX4_isFull 1 (some .boolean) G Rt := hG
  unfold wX4_isFull at h
  refine s_aload_n (n := 1) hG dX4_isFull_0 rfl rfl ?_
  refine gtX4_24 (n := 4) hG dX4_isFull_1 rfl ?_
  refine s_bipush (n := 6) hG dX4_isFull_4 kb_6 rfl ?_
  refine s_icmp_lt (n := 9) (tgt := 13) hG dX4_isFull_6 rfl rfl (fun c => ?_) (fun c => ?_)
  · replace h := h.1 c
    refine s_iconst (n := 14) hG dX4_isFull_13 ki_0 rfl ?_
    exact s_zret hG dX4_isFull_14 (gz_n gz_0) (hQ _ _ ⟨_, _, _, rfl, rfl, h⟩)
  · replace h := h.2 c
    refine s_iconst (n := 10) hG dX4_isFull_9 ki_1 rfl ?_
    refine s_goto (tgt := 14) hG dX4_isFull_10 rfl ?_
    exact s_zret hG dX4_isFull_14 (gz_n gz_1) (hQ _ _ ⟨_, _, _, rfl, rfl, h⟩)
def wX4_add (N : Nat) (a1 : Int32) (a2 : Int32) (a3 : Int32) (a4 : Int32) (g : gFG) (f : gFF) (Q : Int32 → gFG → gFF → Prop) : Prop := wX4_isFull N g f (fun r1 g1 f1 => ((r1 = 0) → ∀ i18 : Int32, i18 = (g1 13) → (vp_in i18 6) ∧ (∀ f18 : gFF, f18 = (va_up f1 20 (upd (f1 20) i18.toNatClampNeg a1)) → ∀ i28 : Int32, i28 = (g1 13) → (vp_in i28 6) ∧ (∀ f28 : gFF, f28 = (va_up f18 21 (upd (f18 21) i28.toNatClampNeg a2)) → ∀ i38 : Int32, i38 = (g1 13) → (vp_in i38 6) ∧ (∀ f38 : gFF, f38 = (va_up f28 22 (upd (f28 22) i38.toNatClampNeg a3)) → ∀ i49 : Int32, i49 = (g1 13) → (vp_in i49 6) ∧ (∀ f49 : gFF, f49 = (va_up f38 23 (upd (f38 23) i49.toNatClampNeg a4)) → ∀ y57 : Int32, y57 = ((g1 13) + 1) → ∀ g57 : gFG, g57 = (va_up g1 13 y57) → Q ((g57 13) - 1) g57 f49))))) ∧ ((¬ r1 = 0) → Q (-1) g1 f1))
theorem mX4_add (hE : gInj layC ad) {N : Nat} {a1 : Int32} {a2 : Int32} {a3 : Int32} {a4 : Int32} {g : gFG} {f : gFF} {Q : Int32 → gFG → gFF → Prop} (h : wX4_add N a1 a2 a3 a4 g f Q) : gCT l D cs layC ad (gZc ad tX tY sK sV) 2 yX4_add cX4_add 5 (some .int) [.ref (ad 4), .int a1, .int a2, .int a3, .int a4] (g, f, 0) (gQi Q) := by
  refine met_walk (lv0 := [some (.ref (ad 4)), some (.int a1), some (.int a2), some (.int a3), some (.int a4)]) ⟨hE, gZc_ok _ _ _ _ _⟩ (by decide) (Nat.le_of_ble_eq_true rfl) rfl (fun G Rt hG hQ => ?_)
  replace hG : gSim l D cs layC ad (gZc ad tX tY sK sV) 2 RX4 cX4_add 5 (some .int) G Rt := hG
  unfold wX4_add at h
  refine s_aload_n (n := 1) hG dX4_add_0 rfl rfl ?_
  refine s_callV (n := 4) (st := []) hG (mX4_isFull hE h) ceX4_isFull lmX4_28 ⟨by decide, rfl, rfl⟩ rfl ⟨rfl, Nat.le_of_ble_eq_true rfl, by decide⟩ dX4_add_1 rfl ?_
  rintro _ _ ⟨r1, g1, f1, rfl, rfl, h⟩
  refine s_if_eq (n := 7) (tgt := 9) hG dX4_add_4 rfl rfl (fun c => ?_) (fun c => ?_)
  · replace h := h.1 c
    refine s_aload_n (n := 10) hG dX4_add_9 rfl rfl ?_
    refine gtX4_9 (n := 13) hG dX4_add_10 rfl ?_
    refine s_aload_n (n := 14) hG dX4_add_13 rfl rfl ?_
    refine gtX4_24 (n := 17) hG dX4_add_14 rfl ?_
    refine s_iload_n (n := 18) hG dX4_add_17 rfl rfl ?_
    refine s_topi2 (fun i18 hi18 => ?_)
    replace h := h i18 hi18
    obtain ⟨hin, h⟩ := h
    refine s_iast (n := 19) hG dX4_add_18 (gaC_20 hin) rfl ?_
    refine s_nf (fun f18 hf18 => ?_)
    replace h := h f18 hf18
    refine s_aload_n (n := 20) hG dX4_add_19 rfl rfl ?_
    refine gtX4_15 (n := 23) hG dX4_add_20 rfl ?_
    refine s_aload_n (n := 24) hG dX4_add_23 rfl rfl ?_
    refine gtX4_24 (n := 27) hG dX4_add_24 rfl ?_
    refine s_iload_n (n := 28) hG dX4_add_27 rfl rfl ?_
    refine s_topi2 (fun i28 hi28 => ?_)
    replace h := h i28 hi28
    obtain ⟨hin, h⟩ := h
    refine s_iast (n := 29) hG dX4_add_28 (gaC_21 hin) rfl ?_
    refine s_nf (fun f28 hf28 => ?_)
    replace h := h f28 hf28
    refine s_aload_n (n := 30) hG dX4_add_29 rfl rfl ?_
    refine gtX4_18 (n := 33) hG dX4_add_30 rfl ?_
    refine s_aload_n (n := 34) hG dX4_add_33 rfl rfl ?_
    refine gtX4_24 (n := 37) hG dX4_add_34 rfl ?_
    refine s_iload_n (n := 38) hG dX4_add_37 rfl rfl ?_
    refine s_topi2 (fun i38 hi38 => ?_)
    replace h := h i38 hi38
    obtain ⟨hin, h⟩ := h
    refine s_iast (n := 39) hG dX4_add_38 (gaC_22 hin) rfl ?_
    refine s_nf (fun f38 hf38 => ?_)
    replace h := h f38 hf38
    refine s_aload_n (n := 40) hG dX4_add_39 rfl rfl ?_
    refine gtX4_21 (n := 43) hG dX4_add_40 rfl ?_
    refine s_aload_n (n := 44) hG dX4_add_43 rfl rfl ?_
    refine gtX4_24 (n := 47) hG dX4_add_44 rfl ?_
    refine s_iload (n := 49) hG dX4_add_47 rfl rfl ?_
    refine s_topi2 (fun i49 hi49 => ?_)
    replace h := h i49 hi49
    obtain ⟨hin, h⟩ := h
    refine s_iast (n := 50) hG dX4_add_49 (gaC_23 hin) rfl ?_
    refine s_nf (fun f49 hf49 => ?_)
    replace h := h f49 hf49
    refine s_aload_n (n := 51) hG dX4_add_50 rfl rfl ?_
    refine s_dup (n := 52) hG dX4_add_51 rfl rfl ?_
    refine gtX4_24 (n := 55) hG dX4_add_52 rfl ?_
    refine s_iconst (n := 56) hG dX4_add_55 ki_1 rfl ?_
    refine s_iadd (n := 57) hG dX4_add_56 rfl ?_
    refine s_topi (fun y57 hy57 => ?_)
    replace h := h y57 hy57
    refine ptX4_24 (n := 60) hG dX4_add_57 rfl ?_
    refine s_ng (fun g57 hg57 => ?_)
    replace h := h g57 hg57
    refine s_aload_n (n := 61) hG dX4_add_60 rfl rfl ?_
    refine gtX4_24 (n := 64) hG dX4_add_61 rfl ?_
    refine s_iconst (n := 65) hG dX4_add_64 ki_1 rfl ?_
    refine s_isub (n := 66) hG dX4_add_65 rfl ?_
    exact s_iret hG dX4_add_66 (hQ _ _ ⟨_, _, _, rfl, rfl, h⟩)
  · replace h := h.2 c
    refine s_iconst (n := 8) hG dX4_add_7 ki_m1 rfl ?_
    exact s_iret hG dX4_add_8 (hQ _ _ ⟨_, _, _, rfl, rfl, h⟩)
def wX4_priceAt (N : Nat) (a1 : Int32) (g : gFG) (f : gFF) (Q : Int32 → gFG → gFF → Prop) : Prop := wX4_has N a1 g f (fun r2 g2 f2 => ((r2 = 0) → Q 0 g2 f2) ∧ ((¬ r2 = 0) → (vp_in a1 6) ∧ (Q (f2 22 a1.toNatClampNeg) g2 f2)))
theorem mX4_priceAt (hE : gInj layC ad) {N : Nat} {a1 : Int32} {g : gFG} {f : gFF} {Q : Int32 → gFG → gFF → Prop} (h : wX4_priceAt N a1 g f Q) : gCT l D cs layC ad (gZc ad tX tY sK sV) 2 yX4_priceAt cX4_priceAt 2 (some .int) [.ref (ad 4), .int a1] (g, f, 0) (gQi Q) := by
  refine met_walk (lv0 := [some (.ref (ad 4)), some (.int a1)]) ⟨hE, gZc_ok _ _ _ _ _⟩ (by decide) (Nat.le_of_ble_eq_true rfl) rfl (fun G Rt hG hQ => ?_)
  replace hG : gSim l D cs layC ad (gZc ad tX tY sK sV) 2 RX4 cX4_priceAt 2 (some .int) G Rt := hG
  unfold wX4_priceAt at h
  refine s_aload_n (n := 1) hG dX4_priceAt_0 rfl rfl ?_
  refine s_iload_n (n := 2) hG dX4_priceAt_1 rfl rfl ?_
  refine s_callV (n := 5) (st := []) hG (mX4_has hE h) ceX4_has lmX4_32 ⟨by decide, rfl, rfl⟩ rfl ⟨rfl, Nat.le_of_ble_eq_true rfl, by decide⟩ dX4_priceAt_2 rfl ?_
  rintro _ _ ⟨r2, g2, f2, rfl, rfl, h⟩
  refine s_if_eq (n := 8) (tgt := 17) hG dX4_priceAt_5 rfl rfl (fun c => ?_) (fun c => ?_)
  · replace h := h.1 c
    refine s_iconst (n := 18) hG dX4_priceAt_17 ki_0 rfl ?_
    exact s_iret hG dX4_priceAt_18 (hQ _ _ ⟨_, _, _, rfl, rfl, h⟩)
  · replace h := h.2 c
    refine s_aload_n (n := 9) hG dX4_priceAt_8 rfl rfl ?_
    refine gtX4_18 (n := 12) hG dX4_priceAt_9 rfl ?_
    refine s_iload_n (n := 13) hG dX4_priceAt_12 rfl rfl ?_
    obtain ⟨hin, h⟩ := h
    refine s_iald (n := 14) hG dX4_priceAt_13 (gaC_22 hin) rfl ?_
    refine s_goto (tgt := 18) hG dX4_priceAt_14 rfl ?_
    exact s_iret hG dX4_priceAt_18 (hQ _ _ ⟨_, _, _, rfl, rfl, h⟩)
end GWa
