section GWm
variable {l : Launch} {D : va_G} {cs : gCs} {ad : Nat → Nat} {Z : State → Prop}
def wX12_in (N : Nat) (a1 : Int64) (a2 : Int64) (a3 : Int64) (g : gFG) (f : gFF) (w : Int64) (Q : Int32 → gFG → gFF → Int64 → Prop) : Prop := (((lg_cmp a1 a2) < 0) → Q 0 g f w) ∧ ((¬ (lg_cmp a1 a2) < 0) → ((0 < (lg_cmp a1 a3)) → Q 0 g f w) ∧ ((¬ 0 < (lg_cmp a1 a3)) → Q 1 g f w))
theorem mX12_in (hE : gInj layM ad ∧ gZok (gA layM ad) Z) {N : Nat} {a1 : Int64} {a2 : Int64} {a3 : Int64} {g : gFG} {f : gFF} {w : Int64} {Q : Int32 → gFG → gFF → Int64 → Prop} (h : wX12_in N a1 a2 a3 g f w Q) : gCT l D cs layM ad Z 1 yX12_in cX12_in 6 (some .boolean) [.long a1, .long a2, .long a3] (g, f, w) (gMi Q) := by
  refine met_walk (lv0 := [some (.long a1), none, some (.long a2), none, some (.long a3), none]) hE (by decide) (Nat.le_of_ble_eq_true rfl) rfl (fun G Rt hG hQ => ?_)
  replace hG : gSim l D cs layM ad Z 1 RX12 cX12_in 6 (some .boolean) G Rt := hG
  unfold wX12_in at h
  refine s_lload_n (n := 1) hG dX12_in_0 rfl rfl ?_
  refine s_lload_n (n := 2) hG dX12_in_1 rfl rfl ?_
  refine s_lcmp (n := 3) hG dX12_in_2 rfl ?_
  refine s_if_lt (n := 6) (tgt := 17) hG dX12_in_3 rfl rfl (fun c => ?_) (fun c => ?_)
  · replace h := h.1 c
    refine s_iconst (n := 18) hG dX12_in_17 ki_0 rfl ?_
    exact s_zret hG dX12_in_18 (gz_n gz_0) (hQ _ _ ⟨_, _, _, _, rfl, rfl, h⟩)
  · replace h := h.2 c
    refine s_lload_n (n := 7) hG dX12_in_6 rfl rfl ?_
    refine s_lload (n := 9) hG dX12_in_7 rfl rfl ?_
    refine s_lcmp (n := 10) hG dX12_in_9 rfl ?_
    refine s_if_gt (n := 13) (tgt := 17) hG dX12_in_10 rfl rfl (fun c => ?_) (fun c => ?_)
    · replace h := h.1 c
      refine s_iconst (n := 18) hG dX12_in_17 ki_0 rfl ?_
      exact s_zret hG dX12_in_18 (gz_n gz_0) (hQ _ _ ⟨_, _, _, _, rfl, rfl, h⟩)
    · replace h := h.2 c
      refine s_iconst (n := 14) hG dX12_in_13 ki_1 rfl ?_
      refine s_goto (tgt := 18) hG dX12_in_14 rfl ?_
      exact s_zret hG dX12_in_18 (gz_n gz_1) (hQ _ _ ⟨_, _, _, _, rfl, rfl, h⟩)
def wX12_told (N : Nat) (a1 : Int32) (g : gFG) (f : gFF) (w : Int64) (Q : Int32 → gFG → gFF → Int64 → Prop) : Prop := ((0 ≤ a1) → ∀ g10 : gFG, g10 = (va_up g 1 0) → Q a1 g10 f w) ∧ ((¬ 0 ≤ a1) → ∀ g10 : gFG, g10 = (va_up g 1 a1) → Q a1 g10 f w)
theorem mX12_told (hE : gInj layM ad ∧ gZok (gA layM ad) Z) {N : Nat} {a1 : Int32} {g : gFG} {f : gFF} {w : Int64} {Q : Int32 → gFG → gFF → Int64 → Prop} (h : wX12_told N a1 g f w Q) : gCT l D cs layM ad Z 1 yX12_told cX12_told 2 (some .int) [.ref (ad 0), .int a1] (g, f, w) (gMi Q) := by
  refine met_walk (lv0 := [some (.ref (ad 0)), some (.int a1)]) hE (by decide) (Nat.le_of_ble_eq_true rfl) rfl (fun G Rt hG hQ => ?_)
  replace hG : gSim l D cs layM ad Z 1 RX12 cX12_told 2 (some .int) G Rt := hG
  unfold wX12_told at h
  refine s_aload_n (n := 1) hG dX12_told_0 rfl rfl ?_
  refine s_iload_n (n := 2) hG dX12_told_1 rfl rfl ?_
  refine s_if_ge (n := 5) (tgt := 9) hG dX12_told_2 rfl rfl (fun c => ?_) (fun c => ?_)
  · replace h := h.1 c
    refine s_iconst (n := 10) hG dX12_told_9 ki_0 rfl ?_
    refine ptX12_99 (n := 13) hG dX12_told_10 rfl ?_
    refine s_ng (fun g10 hg10 => ?_)
    replace h := h g10 hg10
    refine s_iload_n (n := 14) hG dX12_told_13 rfl rfl ?_
    exact s_iret hG dX12_told_14 (hQ _ _ ⟨_, _, _, _, rfl, rfl, h⟩)
  · replace h := h.2 c
    refine s_iload_n (n := 6) hG dX12_told_5 rfl rfl ?_
    refine s_goto (tgt := 10) hG dX12_told_6 rfl ?_
    refine ptX12_99 (n := 13) hG dX12_told_10 rfl ?_
    refine s_ng (fun g10 hg10 => ?_)
    replace h := h g10 hg10
    refine s_iload_n (n := 14) hG dX12_told_13 rfl rfl ?_
    exact s_iret hG dX12_told_14 (hQ _ _ ⟨_, _, _, _, rfl, rfl, h⟩)
def wX12_isCell (N : Nat) (a1 : Int32) (a2 : Int32) (g : gFG) (f : gFF) (w : Int64) (Q : Int32 → gFG → gFF → Int64 → Prop) : Prop := wX12_in N a1.toInt64 0 ((g 2).toInt64 - 1) g f w (fun r10 g10 f10 w10 => ((r10 = 0) → Q 0 g10 f10 w10) ∧ ((¬ r10 = 0) → wX12_in N a2.toInt64 0 ((g10 3).toInt64 - 1) g10 f10 w10 (fun r26 g26 f26 w26 => ((r26 = 0) → Q 0 g26 f26 w26) ∧ ((¬ r26 = 0) → Q 1 g26 f26 w26))))
theorem mX12_isCell (hE : gInj layM ad ∧ gZok (gA layM ad) Z) {N : Nat} {a1 : Int32} {a2 : Int32} {g : gFG} {f : gFF} {w : Int64} {Q : Int32 → gFG → gFF → Int64 → Prop} (h : wX12_isCell N a1 a2 g f w Q) : gCT l D cs layM ad Z 2 yX12_isCell cX12_isCell 3 (some .boolean) [.ref (ad 0), .int a1, .int a2] (g, f, w) (gMi Q) := by
  refine met_walk (lv0 := [some (.ref (ad 0)), some (.int a1), some (.int a2)]) hE (by decide) (Nat.le_of_ble_eq_true rfl) rfl (fun G Rt hG hQ => ?_)
  replace hG : gSim l D cs layM ad Z 2 RX12 cX12_isCell 3 (some .boolean) G Rt := hG
  unfold wX12_isCell at h
  refine s_iload_n (n := 1) hG dX12_isCell_0 rfl rfl ?_
  refine s_i2l (n := 2) hG dX12_isCell_1 rfl ?_
  refine s_lconst (n := 3) hG dX12_isCell_2 kl_0 rfl ?_
  refine s_aload_n (n := 4) hG dX12_isCell_3 rfl rfl ?_
  refine gtX12_7 (n := 7) hG dX12_isCell_4 rfl ?_
  refine s_i2l (n := 8) hG dX12_isCell_7 rfl ?_
  refine s_lconst (n := 9) hG dX12_isCell_8 kl_1 rfl ?_
  refine s_lsub (n := 10) hG dX12_isCell_9 rfl ?_
  refine s_callS (n := 13) (st := []) hG (mX12_in hE h) ceX12_in lmX12_102 rfl ⟨rfl, Nat.le_of_ble_eq_true rfl, by decide⟩ dX12_isCell_10 rfl ?_
  rintro _ _ ⟨r10, g10, f10, w10, rfl, rfl, h⟩
  refine s_if_eq (n := 16) (tgt := 36) hG dX12_isCell_13 rfl rfl (fun c => ?_) (fun c => ?_)
  · replace h := h.1 c
    refine s_iconst (n := 37) hG dX12_isCell_36 ki_0 rfl ?_
    exact s_zret hG dX12_isCell_37 (gz_n gz_0) (hQ _ _ ⟨_, _, _, _, rfl, rfl, h⟩)
  · replace h := h.2 c
    refine s_iload_n (n := 17) hG dX12_isCell_16 rfl rfl ?_
    refine s_i2l (n := 18) hG dX12_isCell_17 rfl ?_
    refine s_lconst (n := 19) hG dX12_isCell_18 kl_0 rfl ?_
    refine s_aload_n (n := 20) hG dX12_isCell_19 rfl rfl ?_
    refine gtX12_13 (n := 23) hG dX12_isCell_20 rfl ?_
    refine s_i2l (n := 24) hG dX12_isCell_23 rfl ?_
    refine s_lconst (n := 25) hG dX12_isCell_24 kl_1 rfl ?_
    refine s_lsub (n := 26) hG dX12_isCell_25 rfl ?_
    refine s_callS (n := 29) (st := []) hG (mX12_in hE h) ceX12_in lmX12_102 rfl ⟨rfl, Nat.le_of_ble_eq_true rfl, by decide⟩ dX12_isCell_26 rfl ?_
    rintro _ _ ⟨r26, g26, f26, w26, rfl, rfl, h⟩
    refine s_if_eq (n := 32) (tgt := 36) hG dX12_isCell_29 rfl rfl (fun c => ?_) (fun c => ?_)
    · replace h := h.1 c
      refine s_iconst (n := 37) hG dX12_isCell_36 ki_0 rfl ?_
      exact s_zret hG dX12_isCell_37 (gz_n gz_0) (hQ _ _ ⟨_, _, _, _, rfl, rfl, h⟩)
    · replace h := h.2 c
      refine s_iconst (n := 33) hG dX12_isCell_32 ki_1 rfl ?_
      refine s_goto (tgt := 37) hG dX12_isCell_33 rfl ?_
      exact s_zret hG dX12_isCell_37 (gz_n gz_1) (hQ _ _ ⟨_, _, _, _, rfl, rfl, h⟩)
def wX12_forget_l7 (N : Nat)   (Q : gFG → gFF → Int64 → Prop) : Nat → Int32 → gFG → gFF → Int64 → Prop
  | 0, _, _, _, _ => False
  | n + 1, v1, g, f, w => ((144 ≤ v1) → Q g f w) ∧ ((¬ 144 ≤ v1) → (vp_in v1 144) ∧ (∀ f20 : gFF, f20 = (va_up f 2 (upd (f 2) v1.toNatClampNeg 0)) → ∀ x1_21 : Int32, x1_21 = (v1 + 1) → wX12_forget_l7 N   Q n x1_21 g f20 w))
theorem sX12_forget_l7 {G : gG} {Rt : Option Value → gSt → Prop} (hE : gInj layM ad ∧ gZok (gA layM ad) Z) (hG : gSim l D cs layM ad Z 1 RX12 cX12_forget 2 none G Rt) {Q : gFG → gFF → Int64 → Prop} (hQ : ∀ v S, gMv Q v S → Rt v S) {N : Nat}     : ∀ (n : Nat) (v1 : Int32) (g : gFG) (f : gFF) (w : Int64), wX12_forget_l7 N   Q n v1 g f w → G 7 [some (.ref (ad 0)), some (.int v1)] [] (g, f, w) := by
  intro n
  induction n with
  | zero => intro _ _ _ _ h; unfold wX12_forget_l7 at h; exact h.elim
  | succ n ih =>
    intro v1 g f w h
    unfold wX12_forget_l7 at h
    refine s_iload_n (n := 8) hG dX12_forget_7 rfl rfl ?_
    refine s_sipush (n := 11) hG dX12_forget_8 ks_144 rfl ?_
    refine s_icmp_ge (n := 14) (tgt := 27) hG dX12_forget_11 rfl rfl (fun c => ?_) (fun c => ?_)
    · replace h := h.1 c
      exact s_vret hG dX12_forget_27 (hQ _ _ ⟨_, _, _, rfl, rfl, h⟩)
    · replace h := h.2 c
      refine s_aload_n (n := 15) hG dX12_forget_14 rfl rfl ?_
      refine gtX12_20 (n := 18) hG dX12_forget_15 rfl ?_
      refine s_iload_n (n := 19) hG dX12_forget_18 rfl rfl ?_
      refine s_iconst (n := 20) hG dX12_forget_19 ki_0 rfl ?_
      obtain ⟨hin, h⟩ := h
      refine s_zast (n := 21) hG dX12_forget_20 (gaM_2 hin) (gz_v gz_0) rfl ?_
      refine s_nf (fun f20 hf20 => ?_)
      replace h := h f20 hf20
      obtain ⟨x1_21, hx1_21⟩ : ∃ z : Int32, z = (v1 + 1) := ⟨_, rfl⟩
      replace h := h x1_21 hx1_21
      refine s_iinc (n := 24) (v := x1_21) (lv2 := [some (.ref (ad 0)), some (.int x1_21)]) hG dX12_forget_21 ki_1 rfl hx1_21 rfl rfl rfl ?_
      refine s_goto (tgt := 7) hG dX12_forget_24 rfl ?_
      exact s_wk hG (ih _ _ _ _ h) ⟨rfl, rfl, trivial⟩
def wX12_forget (N : Nat)  (g : gFG) (f : gFF) (w : Int64) (Q : gFG → gFF → Int64 → Prop) : Prop := ∀ g2 : gFG, g2 = (va_up g 6 0) → wX12_forget_l7 N  Q N 0 g2 f w
theorem mX12_forget (hE : gInj layM ad ∧ gZok (gA layM ad) Z) {N : Nat}  {g : gFG} {f : gFF} {w : Int64} {Q : gFG → gFF → Int64 → Prop} (h : wX12_forget N  g f w Q) : gCT l D cs layM ad Z 1 yX12_forget cX12_forget 2 none [.ref (ad 0)] (g, f, w) (gMv Q) := by
  refine met_walk (lv0 := [some (.ref (ad 0)), none]) hE (by decide) (Nat.le_of_ble_eq_true rfl) rfl (fun G Rt hG hQ => ?_)
  replace hG : gSim l D cs layM ad Z 1 RX12 cX12_forget 2 none G Rt := hG
  unfold wX12_forget at h
  refine s_aload_n (n := 1) hG dX12_forget_0 rfl rfl ?_
  refine s_iconst (n := 2) hG dX12_forget_1 ki_0 rfl ?_
  refine ptX12_106 (n := 5) hG dX12_forget_2 rfl ?_
  refine s_ng (fun g2 hg2 => ?_)
  replace h := h g2 hg2
  refine s_iconst (n := 6) hG dX12_forget_5 ki_0 rfl ?_
  refine s_istore_n (n := 7) (lv2 := [some (.ref (ad 0)), some (.int 0)]) hG dX12_forget_6 rfl rfl rfl ?_
  exact s_wk hG (sX12_forget_l7 hE hG hQ  N _ _ _ _ h) ⟨rfl, rfl, trivial⟩
def wX12_size_j33 (N : Nat)  (Q : Int32 → gFG → gFF → Int64 → Prop)  (g : gFG) (f : gFF) (w : Int64) : Prop := wX12_told N (-1) g f w (fun r35 g35 f35 w35 => Q r35 g35 f35 w35)
theorem sX12_size_j33 {G : gG} {Rt : Option Value → gSt → Prop} (hE : gInj layM ad ∧ gZok (gA layM ad) Z) (hG : gSim l D cs layM ad Z 2 RX12 cX12_size 4 (some .int) G Rt) {Q : Int32 → gFG → gFF → Int64 → Prop} (hQ : ∀ v S, gMi Q v S → Rt v S) {N : Nat}    {g : gFG} {f : gFF} {w : Int64}  (h : wX12_size_j33 N  Q  g f w) : G 33 [some (.ref (ad 0)), none, none, none] [] (g, f, w) := by
  unfold wX12_size_j33 at h
  refine s_aload_n (n := 34) hG dX12_size_33 rfl rfl ?_
  refine s_iconst (n := 35) hG dX12_size_34 ki_m1 rfl ?_
  refine s_callV (n := 38) (st := []) hG (mX12_told hE h) ceX12_told lmX12_113 ⟨by decide, rfl, rfl⟩ rfl ⟨rfl, Nat.le_of_ble_eq_true rfl, by decide⟩ dX12_size_35 rfl ?_
  rintro _ _ ⟨r35, g35, f35, w35, rfl, rfl, h⟩
  exact s_iret hG dX12_size_38 (hQ _ _ ⟨_, _, _, _, rfl, rfl, h⟩)
def wX12_size_l51 (N : Nat)   (Q : Int32 → gFG → gFF → Int64 → Prop) : Nat → Int32 → gFG → gFF → Int64 → Prop
  | 0, _, _, _, _ => False
  | n + 1, v3, g, f, w => ((144 ≤ v3) → wX12_forget N g f w (fun g72 f72 w72 => wX12_told N 0 g72 f72 w72 (fun r77 g77 f77 w77 => Q r77 g77 f77 w77))) ∧ ((¬ 144 ≤ v3) → (vp_in v3 144) ∧ (∀ f64 : gFF, f64 = (va_up f 1 (upd (f 1) v3.toNatClampNeg 0)) → ∀ x3_65 : Int32, x3_65 = (v3 + 1) → wX12_size_l51 N   Q n x3_65 g f64 w))
theorem sX12_size_l51 {G : gG} {Rt : Option Value → gSt → Prop} (hE : gInj layM ad ∧ gZok (gA layM ad) Z) (hG : gSim l D cs layM ad Z 2 RX12 cX12_size 4 (some .int) G Rt) {Q : Int32 → gFG → gFF → Int64 → Prop} (hQ : ∀ v S, gMi Q v S → Rt v S) {N : Nat}     : ∀ (n : Nat) (v3 : Int32) (g : gFG) (f : gFF) (w : Int64), wX12_size_l51 N   Q n v3 g f w → G 51 [some (.ref (ad 0)), none, none, some (.int v3)] [] (g, f, w) := by
  intro n
  induction n with
  | zero => intro _ _ _ _ h; unfold wX12_size_l51 at h; exact h.elim
  | succ n ih =>
    intro v3 g f w h
    unfold wX12_size_l51 at h
    refine s_iload_n (n := 52) hG dX12_size_51 rfl rfl ?_
    refine s_sipush (n := 55) hG dX12_size_52 ks_144 rfl ?_
    refine s_icmp_ge (n := 58) (tgt := 71) hG dX12_size_55 rfl rfl (fun c => ?_) (fun c => ?_)
    · replace h := h.1 c
      refine s_aload_n (n := 72) hG dX12_size_71 rfl rfl ?_
      refine s_callV (n := 75) (st := []) hG (mX12_forget hE h) ceX12_forget lmX12_117 ⟨by decide, rfl, rfl⟩ rfl ⟨rfl, Nat.le_of_ble_eq_true rfl, by decide⟩ dX12_size_72 rfl ?_
      rintro _ _ ⟨g72, f72, w72, rfl, rfl, h⟩
      refine s_aload_n (n := 76) hG dX12_size_75 rfl rfl ?_
      refine s_iconst (n := 77) hG dX12_size_76 ki_0 rfl ?_
      refine s_callV (n := 80) (st := []) hG (mX12_told hE h) ceX12_told lmX12_113 ⟨by decide, rfl, rfl⟩ rfl ⟨rfl, Nat.le_of_ble_eq_true rfl, by decide⟩ dX12_size_77 rfl ?_
      rintro _ _ ⟨r77, g77, f77, w77, rfl, rfl, h⟩
      exact s_iret hG dX12_size_80 (hQ _ _ ⟨_, _, _, _, rfl, rfl, h⟩)
    · replace h := h.2 c
      refine s_aload_n (n := 59) hG dX12_size_58 rfl rfl ?_
      refine gtX12_16 (n := 62) hG dX12_size_59 rfl ?_
      refine s_iload_n (n := 63) hG dX12_size_62 rfl rfl ?_
      refine s_iconst (n := 64) hG dX12_size_63 ki_0 rfl ?_
      obtain ⟨hin, h⟩ := h
      refine s_iast (n := 65) hG dX12_size_64 (gaM_1 hin) rfl ?_
      refine s_nf (fun f64 hf64 => ?_)
      replace h := h f64 hf64
      obtain ⟨x3_65, hx3_65⟩ : ∃ z : Int32, z = (v3 + 1) := ⟨_, rfl⟩
      replace h := h x3_65 hx3_65
      refine s_iinc (n := 68) (v := x3_65) (lv2 := [some (.ref (ad 0)), none, none, some (.int x3_65)]) hG dX12_size_65 ki_1 rfl hx3_65 rfl rfl rfl ?_
      refine s_goto (tgt := 51) hG dX12_size_68 rfl ?_
      exact s_wk hG (ih _ _ _ _ h) ⟨rfl, rfl, trivial⟩
def wX12_size (N : Nat) (a1 : Int32) (a2 : Int32) (g : gFG) (f : gFF) (w : Int64) (Q : Int32 → gFG → gFF → Int64 → Prop) : Prop := ∀ g2 : gFG, g2 = (va_up g 0 0) → wX12_in N a1.toInt64 2 12 g2 f w (fun r13 g13 f13 w13 => ((r13 = 0) → wX12_size_j33 N  Q g13 f13 w13) ∧ ((¬ r13 = 0) → wX12_in N a2.toInt64 2 12 g13 f13 w13 (fun r27 g27 f27 w27 => ((¬ r27 = 0) → ∀ g41 : gFG, g41 = (va_up g27 2 a1) → ∀ g46 : gFG, g46 = (va_up g41 3 a2) → wX12_size_l51 N  Q N 0 g46 f27 w27) ∧ ((r27 = 0) → wX12_size_j33 N  Q g27 f27 w27))))
theorem mX12_size (hE : gInj layM ad ∧ gZok (gA layM ad) Z) {N : Nat} {a1 : Int32} {a2 : Int32} {g : gFG} {f : gFF} {w : Int64} {Q : Int32 → gFG → gFF → Int64 → Prop} (h : wX12_size N a1 a2 g f w Q) : gCT l D cs layM ad Z 2 yX12_size cX12_size 4 (some .int) [.ref (ad 0), .int a1, .int a2] (g, f, w) (gMi Q) := by
  refine met_walk (lv0 := [some (.ref (ad 0)), some (.int a1), some (.int a2), none]) hE (by decide) (Nat.le_of_ble_eq_true rfl) rfl (fun G Rt hG hQ => ?_)
  replace hG : gSim l D cs layM ad Z 2 RX12 cX12_size 4 (some .int) G Rt := hG
  unfold wX12_size at h
  refine s_aload_n (n := 1) hG dX12_size_0 rfl rfl ?_
  refine s_iconst (n := 2) hG dX12_size_1 ki_0 rfl ?_
  refine ptX12_96 (n := 5) hG dX12_size_2 rfl ?_
  refine s_ng (fun g2 hg2 => ?_)
  replace h := h g2 hg2
  refine s_iload_n (n := 6) hG dX12_size_5 rfl rfl ?_
  refine s_i2l (n := 7) hG dX12_size_6 rfl ?_
  refine s_ldc2_w (n := 10) hG dX12_size_7 lcX12_109 rfl ?_
  refine s_ldc2_w (n := 13) hG dX12_size_10 lcX12_111 rfl ?_
  refine s_callS (n := 16) (st := []) hG (mX12_in hE h) ceX12_in lmX12_102 rfl ⟨rfl, Nat.le_of_ble_eq_true rfl, by decide⟩ dX12_size_13 rfl ?_
  rintro _ _ ⟨r13, g13, f13, w13, rfl, rfl, h⟩
  refine s_if_eq (n := 19) (tgt := 33) hG dX12_size_16 rfl rfl (fun c => ?_) (fun c => ?_)
  · replace h := h.1 c
    exact s_wk hG (sX12_size_j33 hE hG hQ  h) ⟨rfl, trivial⟩
  · replace h := h.2 c
    refine s_iload_n (n := 20) hG dX12_size_19 rfl rfl ?_
    refine s_i2l (n := 21) hG dX12_size_20 rfl ?_
    refine s_ldc2_w (n := 24) hG dX12_size_21 lcX12_109 rfl ?_
    refine s_ldc2_w (n := 27) hG dX12_size_24 lcX12_111 rfl ?_
    refine s_callS (n := 30) (st := []) hG (mX12_in hE h) ceX12_in lmX12_102 rfl ⟨rfl, Nat.le_of_ble_eq_true rfl, by decide⟩ dX12_size_27 rfl ?_
    rintro _ _ ⟨r27, g27, f27, w27, rfl, rfl, h⟩
    refine s_if_ne (n := 33) (tgt := 39) hG dX12_size_30 rfl rfl (fun c => ?_) (fun c => ?_)
    · replace h := h.1 c
      refine s_aload_n (n := 40) hG dX12_size_39 rfl rfl ?_
      refine s_iload_n (n := 41) hG dX12_size_40 rfl rfl ?_
      refine ptX12_7 (n := 44) hG dX12_size_41 rfl ?_
      refine s_ng (fun g41 hg41 => ?_)
      replace h := h g41 hg41
      refine s_aload_n (n := 45) hG dX12_size_44 rfl rfl ?_
      refine s_iload_n (n := 46) hG dX12_size_45 rfl rfl ?_
      refine ptX12_13 (n := 49) hG dX12_size_46 rfl ?_
      refine s_ng (fun g46 hg46 => ?_)
      replace h := h g46 hg46
      refine s_iconst (n := 50) hG dX12_size_49 ki_0 rfl ?_
      refine s_istore_n (n := 51) (lv2 := [some (.ref (ad 0)), some (.int a1), some (.int a2), some (.int 0)]) hG dX12_size_50 rfl rfl rfl ?_
      exact s_wk hG (sX12_size_l51 hE hG hQ  N _ _ _ _ h) ⟨rfl, rfl, trivial⟩
    · replace h := h.2 c
      exact s_wk hG (sX12_size_j33 hE hG hQ  h) ⟨rfl, trivial⟩
def wX12_draw_j44 (N : Nat)  (Q : Int32 → gFG → gFF → Int64 → Prop)  (g : gFG) (f : gFF) (w : Int64) : Prop := wX12_told N (-1) g f w (fun r46 g46 f46 w46 => Q r46 g46 f46 w46)
theorem sX12_draw_j44 {G : gG} {Rt : Option Value → gSt → Prop} (hE : gInj layM ad ∧ gZok (gA layM ad) Z) (hG : gSim l D cs layM ad Z 3 RX12 cX12_draw 9 (some .int) G Rt) {Q : Int32 → gFG → gFF → Int64 → Prop} (hQ : ∀ v S, gMi Q v S → Rt v S) {N : Nat}    {g : gFG} {f : gFF} {w : Int64}  (h : wX12_draw_j44 N  Q  g f w) : G 44 [some (.ref (ad 0)), none, none, none, none, none, none, none, none] [] (g, f, w) := by
  unfold wX12_draw_j44 at h
  refine s_aload_n (n := 45) hG dX12_draw_44 rfl rfl ?_
  refine s_iconst (n := 46) hG dX12_draw_45 ki_m1 rfl ?_
  refine s_callV (n := 49) (st := []) hG (mX12_told hE h) ceX12_told lmX12_113 ⟨by decide, rfl, rfl⟩ rfl ⟨rfl, Nat.le_of_ble_eq_true rfl, by decide⟩ dX12_draw_46 rfl ?_
  rintro _ _ ⟨r46, g46, f46, w46, rfl, rfl, h⟩
  exact s_iret hG dX12_draw_49 (hQ _ _ ⟨_, _, _, _, rfl, rfl, h⟩)
def wX12_draw_j69 (N : Nat)  (Q : Int32 → gFG → gFF → Int64 → Prop)  (g : gFG) (f : gFF) (w : Int64) : Prop := wX12_told N (-2) g f w (fun r72 g72 f72 w72 => Q r72 g72 f72 w72)
theorem sX12_draw_j69 {G : gG} {Rt : Option Value → gSt → Prop} (hE : gInj layM ad ∧ gZok (gA layM ad) Z) (hG : gSim l D cs layM ad Z 3 RX12 cX12_draw 9 (some .int) G Rt) {Q : Int32 → gFG → gFF → Int64 → Prop} (hQ : ∀ v S, gMi Q v S → Rt v S) {N : Nat}    {g : gFG} {f : gFF} {w : Int64}  (h : wX12_draw_j69 N  Q  g f w) : G 69 [some (.ref (ad 0)), none, none, none, none, none, none, none, none] [] (g, f, w) := by
  unfold wX12_draw_j69 at h
  refine s_aload_n (n := 70) hG dX12_draw_69 rfl rfl ?_
  refine s_bipush (n := 72) hG dX12_draw_70 kb_m2 rfl ?_
  refine s_callV (n := 75) (st := []) hG (mX12_told hE h) ceX12_told lmX12_113 ⟨by decide, rfl, rfl⟩ rfl ⟨rfl, Nat.le_of_ble_eq_true rfl, by decide⟩ dX12_draw_72 rfl ?_
  rintro _ _ ⟨r72, g72, f72, w72, rfl, rfl, h⟩
  exact s_iret hG dX12_draw_75 (hQ _ _ ⟨_, _, _, _, rfl, rfl, h⟩)
def wX12_draw_l92 (N : Nat) (v1 : Int32) (v3 : Int32) (v4 : Int32) (v5 : Int32) (v7 : Int32) (K82 : Int32 → Int32 → gFG → gFF → Int64 → Prop) (Q : Int32 → gFG → gFF → Int64 → Prop) : Nat → Int32 → Int32 → gFG → gFF → Int64 → Prop
  | 0, _, _, _, _, _ => False
  | n + 1, v6, v8, g, f, w => ((v3 < v8) → ∀ x7_122 : Int32, x7_122 = (v7 + 1) → K82 v6 x7_122 g f w) ∧ ((¬ v3 < v8) → ∀ i112 : Int32, i112 = ((12 * v7) + v8) → (vp_in i112 144) ∧ (∀ f112 : gFF, f112 = (va_up f 1 (upd (f 1) i112.toNatClampNeg v5)) → ∀ x6_113 : Int32, x6_113 = (v6 + 1) → ∀ x8_116 : Int32, x8_116 = (v8 + 1) → wX12_draw_l92 N v1 v3 v4 v5 v7 K82 Q n x6_113 x8_116 g f112 w))
theorem sX12_draw_l92 {G : gG} {Rt : Option Value → gSt → Prop} (hE : gInj layM ad ∧ gZok (gA layM ad) Z) (hG : gSim l D cs layM ad Z 3 RX12 cX12_draw 9 (some .int) G Rt) {Q : Int32 → gFG → gFF → Int64 → Prop} (hQ : ∀ v S, gMi Q v S → Rt v S) {N : Nat} {v1 : Int32} {v3 : Int32} {v4 : Int32} {v5 : Int32} {v7 : Int32} {K82 : Int32 → Int32 → gFG → gFF → Int64 → Prop}  (hK82 : ∀ (uv6 : Int32) (uv7 : Int32) (ug : gFG) (uf : gFF) (uw : Int64), K82 uv6 uv7 ug uf uw → G 82 [some (.ref (ad 0)), some (.int v1), none, some (.int v3), some (.int v4), some (.int v5), some (.int uv6), some (.int uv7), none] [] (ug, uf, uw)) : ∀ (n : Nat) (v6 : Int32) (v8 : Int32) (g : gFG) (f : gFF) (w : Int64), wX12_draw_l92 N v1 v3 v4 v5 v7 K82 Q n v6 v8 g f w → G 92 [some (.ref (ad 0)), some (.int v1), none, some (.int v3), some (.int v4), some (.int v5), some (.int v6), some (.int v7), some (.int v8)] [] (g, f, w) := by
  intro n
  induction n with
  | zero => intro _ _ _ _ _ h; unfold wX12_draw_l92 at h; exact h.elim
  | succ n ih =>
    intro v6 v8 g f w h
    unfold wX12_draw_l92 at h
    refine s_iload (n := 94) hG dX12_draw_92 rfl rfl ?_
    refine s_iload_n (n := 95) hG dX12_draw_94 rfl rfl ?_
    refine s_icmp_gt (n := 98) (tgt := 122) hG dX12_draw_95 rfl rfl (fun c => ?_) (fun c => ?_)
    · replace h := h.1 c
      obtain ⟨x7_122, hx7_122⟩ : ∃ z : Int32, z = (v7 + 1) := ⟨_, rfl⟩
      replace h := h x7_122 hx7_122
      refine s_iinc (n := 125) (v := x7_122) (lv2 := [some (.ref (ad 0)), some (.int v1), none, some (.int v3), some (.int v4), some (.int v5), some (.int v6), some (.int x7_122), some (.int v8)]) hG dX12_draw_122 ki_1 rfl hx7_122 rfl rfl rfl ?_
      refine s_goto (tgt := 82) hG dX12_draw_125 rfl ?_
      exact s_wk hG (hK82 _ _ _ _ _ h) ⟨rfl, rfl, rfl, rfl, rfl, rfl, rfl, trivial⟩
    · replace h := h.2 c
      refine s_aload_n (n := 99) hG dX12_draw_98 rfl rfl ?_
      refine gtX12_16 (n := 102) hG dX12_draw_99 rfl ?_
      refine s_bipush (n := 104) hG dX12_draw_102 kb_12 rfl ?_
      refine s_iload (n := 106) hG dX12_draw_104 rfl rfl ?_
      refine s_imul (n := 107) hG dX12_draw_106 rfl ?_
      refine s_iload (n := 109) hG dX12_draw_107 rfl rfl ?_
      refine s_iadd (n := 110) hG dX12_draw_109 rfl ?_
      refine s_iload (n := 112) hG dX12_draw_110 rfl rfl ?_
      refine s_topi2 (fun i112 hi112 => ?_)
      replace h := h i112 hi112
      obtain ⟨hin, h⟩ := h
      refine s_iast (n := 113) hG dX12_draw_112 (gaM_1 hin) rfl ?_
      refine s_nf (fun f112 hf112 => ?_)
      replace h := h f112 hf112
      obtain ⟨x6_113, hx6_113⟩ : ∃ z : Int32, z = (v6 + 1) := ⟨_, rfl⟩
      replace h := h x6_113 hx6_113
      refine s_iinc (n := 116) (v := x6_113) (lv2 := [some (.ref (ad 0)), some (.int v1), none, some (.int v3), some (.int v4), some (.int v5), some (.int x6_113), some (.int v7), some (.int v8)]) hG dX12_draw_113 ki_1 rfl hx6_113 rfl rfl rfl ?_
      obtain ⟨x8_116, hx8_116⟩ : ∃ z : Int32, z = (v8 + 1) := ⟨_, rfl⟩
      replace h := h x8_116 hx8_116
      refine s_iinc (n := 119) (v := x8_116) (lv2 := [some (.ref (ad 0)), some (.int v1), none, some (.int v3), some (.int v4), some (.int v5), some (.int x6_113), some (.int v7), some (.int x8_116)]) hG dX12_draw_116 ki_1 rfl hx8_116 rfl rfl rfl ?_
      refine s_goto (tgt := 92) hG dX12_draw_119 rfl ?_
      exact s_wk hG (ih _ _ _ _ _ h) ⟨rfl, rfl, rfl, rfl, rfl, rfl, rfl, rfl, trivial⟩
def wX12_draw_l82 (N : Nat) (v1 : Int32) (v3 : Int32) (v4 : Int32) (v5 : Int32)  (Q : Int32 → gFG → gFF → Int64 → Prop) : Nat → Int32 → Int32 → gFG → gFF → Int64 → Prop
  | 0, _, _, _, _, _ => False
  | n + 1, v6, v7, g, f, w => ((v4 < v7) → wX12_forget N g f w (fun g129 f129 w129 => wX12_told N v6 g129 f129 w129 (fun r135 g135 f135 w135 => Q r135 g135 f135 w135))) ∧ ((¬ v4 < v7) → wX12_draw_l92 N v1 v3 v4 v5 v7 (wX12_draw_l82 N v1 v3 v4 v5  Q n) Q N v6 v1 g f w)
theorem sX12_draw_l82 {G : gG} {Rt : Option Value → gSt → Prop} (hE : gInj layM ad ∧ gZok (gA layM ad) Z) (hG : gSim l D cs layM ad Z 3 RX12 cX12_draw 9 (some .int) G Rt) {Q : Int32 → gFG → gFF → Int64 → Prop} (hQ : ∀ v S, gMi Q v S → Rt v S) {N : Nat} {v1 : Int32} {v3 : Int32} {v4 : Int32} {v5 : Int32}    : ∀ (n : Nat) (v6 : Int32) (v7 : Int32) (g : gFG) (f : gFF) (w : Int64), wX12_draw_l82 N v1 v3 v4 v5  Q n v6 v7 g f w → G 82 [some (.ref (ad 0)), some (.int v1), none, some (.int v3), some (.int v4), some (.int v5), some (.int v6), some (.int v7), none] [] (g, f, w) := by
  intro n
  induction n with
  | zero => intro _ _ _ _ _ h; unfold wX12_draw_l82 at h; exact h.elim
  | succ n ih =>
    intro v6 v7 g f w h
    unfold wX12_draw_l82 at h
    refine s_iload (n := 84) hG dX12_draw_82 rfl rfl ?_
    refine s_iload (n := 86) hG dX12_draw_84 rfl rfl ?_
    refine s_icmp_gt (n := 89) (tgt := 128) hG dX12_draw_86 rfl rfl (fun c => ?_) (fun c => ?_)
    · replace h := h.1 c
      refine s_aload_n (n := 129) hG dX12_draw_128 rfl rfl ?_
      refine s_callV (n := 132) (st := []) hG (mX12_forget hE h) ceX12_forget lmX12_117 ⟨by decide, rfl, rfl⟩ rfl ⟨rfl, Nat.le_of_ble_eq_true rfl, by decide⟩ dX12_draw_129 rfl ?_
      rintro _ _ ⟨g129, f129, w129, rfl, rfl, h⟩
      refine s_aload_n (n := 133) hG dX12_draw_132 rfl rfl ?_
      refine s_iload (n := 135) hG dX12_draw_133 rfl rfl ?_
      refine s_callV (n := 138) (st := []) hG (mX12_told hE h) ceX12_told lmX12_113 ⟨by decide, rfl, rfl⟩ rfl ⟨rfl, Nat.le_of_ble_eq_true rfl, by decide⟩ dX12_draw_135 rfl ?_
      rintro _ _ ⟨r135, g135, f135, w135, rfl, rfl, h⟩
      exact s_iret hG dX12_draw_138 (hQ _ _ ⟨_, _, _, _, rfl, rfl, h⟩)
    · replace h := h.2 c
      refine s_iload_n (n := 90) hG dX12_draw_89 rfl rfl ?_
      refine s_istore (n := 92) (lv2 := [some (.ref (ad 0)), some (.int v1), none, some (.int v3), some (.int v4), some (.int v5), some (.int v6), some (.int v7), some (.int v1)]) hG dX12_draw_90 rfl rfl rfl ?_
      exact s_wk hG (sX12_draw_l92 hE hG hQ ih N _ _ _ _ _ h) ⟨rfl, rfl, rfl, rfl, rfl, rfl, rfl, rfl, trivial⟩
def wX12_draw_j33 (N : Nat)  (Q : Int32 → gFG → gFF → Int64 → Prop) (v1 : Int32) (v2 : Int32) (v3 : Int32) (v4 : Int32) (v5 : Int32) (g : gFG) (f : gFF) (w : Int64) : Prop := ((v3 < v1) → wX12_draw_j44 N  Q g f w) ∧ ((¬ v3 < v1) → ((v2 ≤ v4) → wX12_isCell N v1 v2 g f w (fun r53 g53 f53 w53 => ((r53 = 0) → wX12_draw_j69 N  Q g53 f53 w53) ∧ ((¬ r53 = 0) → wX12_isCell N v3 v4 g53 f53 w53 (fun r63 g63 f63 w63 => ((¬ r63 = 0) → wX12_draw_l82 N v1 v3 v4 v5 Q N 0 v2 g63 f63 w63) ∧ ((r63 = 0) → wX12_draw_j69 N  Q g63 f63 w63))))) ∧ ((¬ v2 ≤ v4) → wX12_draw_j44 N  Q g f w))
theorem sX12_draw_j33 {G : gG} {Rt : Option Value → gSt → Prop} (hE : gInj layM ad ∧ gZok (gA layM ad) Z) (hG : gSim l D cs layM ad Z 3 RX12 cX12_draw 9 (some .int) G Rt) {Q : Int32 → gFG → gFF → Int64 → Prop} (hQ : ∀ v S, gMi Q v S → Rt v S) {N : Nat}   {v1 : Int32} {v2 : Int32} {v3 : Int32} {v4 : Int32} {v5 : Int32} {g : gFG} {f : gFF} {w : Int64}  (h : wX12_draw_j33 N  Q v1 v2 v3 v4 v5 g f w) : G 33 [some (.ref (ad 0)), some (.int v1), some (.int v2), some (.int v3), some (.int v4), some (.int v5), none, none, none] [] (g, f, w) := by
  unfold wX12_draw_j33 at h
  refine s_iload_n (n := 34) hG dX12_draw_33 rfl rfl ?_
  refine s_iload_n (n := 35) hG dX12_draw_34 rfl rfl ?_
  refine s_icmp_gt (n := 38) (tgt := 44) hG dX12_draw_35 rfl rfl (fun c => ?_) (fun c => ?_)
  · replace h := h.1 c
    exact s_wk hG (sX12_draw_j44 hE hG hQ  h) ⟨rfl, trivial⟩
  · replace h := h.2 c
    refine s_iload_n (n := 39) hG dX12_draw_38 rfl rfl ?_
    refine s_iload (n := 41) hG dX12_draw_39 rfl rfl ?_
    refine s_icmp_le (n := 44) (tgt := 50) hG dX12_draw_41 rfl rfl (fun c => ?_) (fun c => ?_)
    · replace h := h.1 c
      refine s_aload_n (n := 51) hG dX12_draw_50 rfl rfl ?_
      refine s_iload_n (n := 52) hG dX12_draw_51 rfl rfl ?_
      refine s_iload_n (n := 53) hG dX12_draw_52 rfl rfl ?_
      refine s_callV (n := 56) (st := []) hG (mX12_isCell hE h) ceX12_isCell lmX12_126 ⟨by decide, rfl, rfl⟩ rfl ⟨rfl, Nat.le_of_ble_eq_true rfl, by decide⟩ dX12_draw_53 rfl ?_
      rintro _ _ ⟨r53, g53, f53, w53, rfl, rfl, h⟩
      refine s_if_eq (n := 59) (tgt := 69) hG dX12_draw_56 rfl rfl (fun c => ?_) (fun c => ?_)
      · replace h := h.1 c
        exact s_wk hG (sX12_draw_j69 hE hG hQ  h) ⟨rfl, trivial⟩
      · replace h := h.2 c
        refine s_aload_n (n := 60) hG dX12_draw_59 rfl rfl ?_
        refine s_iload_n (n := 61) hG dX12_draw_60 rfl rfl ?_
        refine s_iload (n := 63) hG dX12_draw_61 rfl rfl ?_
        refine s_callV (n := 66) (st := []) hG (mX12_isCell hE h) ceX12_isCell lmX12_126 ⟨by decide, rfl, rfl⟩ rfl ⟨rfl, Nat.le_of_ble_eq_true rfl, by decide⟩ dX12_draw_63 rfl ?_
        rintro _ _ ⟨r63, g63, f63, w63, rfl, rfl, h⟩
        refine s_if_ne (n := 69) (tgt := 76) hG dX12_draw_66 rfl rfl (fun c => ?_) (fun c => ?_)
        · replace h := h.1 c
          refine s_iconst (n := 77) hG dX12_draw_76 ki_0 rfl ?_
          refine s_istore (n := 79) (lv2 := [some (.ref (ad 0)), some (.int v1), some (.int v2), some (.int v3), some (.int v4), some (.int v5), some (.int 0), none, none]) hG dX12_draw_77 rfl rfl rfl ?_
          refine s_iload_n (n := 80) hG dX12_draw_79 rfl rfl ?_
          refine s_istore (n := 82) (lv2 := [some (.ref (ad 0)), some (.int v1), some (.int v2), some (.int v3), some (.int v4), some (.int v5), some (.int 0), some (.int v2), none]) hG dX12_draw_80 rfl rfl rfl ?_
          exact s_wk hG (sX12_draw_l82 hE hG hQ  N _ _ _ _ _ h) ⟨rfl, rfl, rfl, rfl, rfl, rfl, rfl, trivial⟩
        · replace h := h.2 c
          exact s_wk hG (sX12_draw_j69 hE hG hQ  h) ⟨rfl, trivial⟩
    · replace h := h.2 c
      exact s_wk hG (sX12_draw_j44 hE hG hQ  h) ⟨rfl, trivial⟩
def wX12_draw (N : Nat) (a1 : Int32) (a2 : Int32) (a3 : Int32) (a4 : Int32) (a5 : Int32) (g : gFG) (f : gFF) (w : Int64) (Q : Int32 → gFG → gFF → Int64 → Prop) : Prop := ∀ g2 : gFG, g2 = (va_up g 0 0) → wX12_in N a5.toInt64 0 4 g2 f w (fun r12 g12 f12 w12 => ((¬ r12 = 0) → wX12_draw_j33 N  Q a1 a2 a3 a4 a5 g12 f12 w12) ∧ ((r12 = 0) → wX12_in N a5.toInt64 10 17 g12 f12 w12 (fun r27 g27 f27 w27 => ((r27 = 0) → wX12_draw_j44 N  Q g27 f27 w27) ∧ ((¬ r27 = 0) → wX12_draw_j33 N  Q a1 a2 a3 a4 a5 g27 f27 w27))))
theorem mX12_draw (hE : gInj layM ad ∧ gZok (gA layM ad) Z) {N : Nat} {a1 : Int32} {a2 : Int32} {a3 : Int32} {a4 : Int32} {a5 : Int32} {g : gFG} {f : gFF} {w : Int64} {Q : Int32 → gFG → gFF → Int64 → Prop} (h : wX12_draw N a1 a2 a3 a4 a5 g f w Q) : gCT l D cs layM ad Z 3 yX12_draw cX12_draw 9 (some .int) [.ref (ad 0), .int a1, .int a2, .int a3, .int a4, .int a5] (g, f, w) (gMi Q) := by
  refine met_walk (lv0 := [some (.ref (ad 0)), some (.int a1), some (.int a2), some (.int a3), some (.int a4), some (.int a5), none, none, none]) hE (by decide) (Nat.le_of_ble_eq_true rfl) rfl (fun G Rt hG hQ => ?_)
  replace hG : gSim l D cs layM ad Z 3 RX12 cX12_draw 9 (some .int) G Rt := hG
  unfold wX12_draw at h
  refine s_aload_n (n := 1) hG dX12_draw_0 rfl rfl ?_
  refine s_iconst (n := 2) hG dX12_draw_1 ki_0 rfl ?_
  refine ptX12_96 (n := 5) hG dX12_draw_2 rfl ?_
  refine s_ng (fun g2 hg2 => ?_)
  replace h := h g2 hg2
  refine s_iload (n := 7) hG dX12_draw_5 rfl rfl ?_
  refine s_i2l (n := 8) hG dX12_draw_7 rfl ?_
  refine s_lconst (n := 9) hG dX12_draw_8 kl_0 rfl ?_
  refine s_ldc2_w (n := 12) hG dX12_draw_9 lcX12_120 rfl ?_
  refine s_callS (n := 15) (st := []) hG (mX12_in hE h) ceX12_in lmX12_102 rfl ⟨rfl, Nat.le_of_ble_eq_true rfl, by decide⟩ dX12_draw_12 rfl ?_
  rintro _ _ ⟨r12, g12, f12, w12, rfl, rfl, h⟩
  refine s_if_ne (n := 18) (tgt := 33) hG dX12_draw_15 rfl rfl (fun c => ?_) (fun c => ?_)
  · replace h := h.1 c
    exact s_wk hG (sX12_draw_j33 hE hG hQ  h) ⟨rfl, rfl, rfl, rfl, rfl, rfl, trivial⟩
  · replace h := h.2 c
    refine s_iload (n := 20) hG dX12_draw_18 rfl rfl ?_
    refine s_i2l (n := 21) hG dX12_draw_20 rfl ?_
    refine s_ldc2_w (n := 24) hG dX12_draw_21 lcX12_122 rfl ?_
    refine s_ldc2_w (n := 27) hG dX12_draw_24 lcX12_124 rfl ?_
    refine s_callS (n := 30) (st := []) hG (mX12_in hE h) ceX12_in lmX12_102 rfl ⟨rfl, Nat.le_of_ble_eq_true rfl, by decide⟩ dX12_draw_27 rfl ?_
    rintro _ _ ⟨r27, g27, f27, w27, rfl, rfl, h⟩
    refine s_if_eq (n := 33) (tgt := 44) hG dX12_draw_30 rfl rfl (fun c => ?_) (fun c => ?_)
    · replace h := h.1 c
      exact s_wk hG (sX12_draw_j44 hE hG hQ  h) ⟨rfl, trivial⟩
    · replace h := h.2 c
      exact s_wk hG (sX12_draw_j33 hE hG hQ  h) ⟨rfl, rfl, rfl, rfl, rfl, rfl, trivial⟩
def wX12_isHollow_j29 (N : Nat)  (Q : Int32 → gFG → gFF → Int64 → Prop)  (g : gFG) (f : gFF) (w : Int64) : Prop := Q 1 g f w
theorem sX12_isHollow_j29 {G : gG} {Rt : Option Value → gSt → Prop} (hE : gInj layM ad ∧ gZok (gA layM ad) Z) (hG : gSim l D cs layM ad Z 1 RX12 cX12_isHollow 2 (some .boolean) G Rt) {Q : Int32 → gFG → gFF → Int64 → Prop} (hQ : ∀ v S, gMi Q v S → Rt v S) {N : Nat}    {g : gFG} {f : gFF} {w : Int64}  (h : wX12_isHollow_j29 N  Q  g f w) : G 29 [none, none] [] (g, f, w) := by
  unfold wX12_isHollow_j29 at h
  refine s_iconst (n := 30) hG dX12_isHollow_29 ki_1 rfl ?_
  refine s_goto (tgt := 34) hG dX12_isHollow_30 rfl ?_
  exact s_zret hG dX12_isHollow_34 (gz_n gz_1) (hQ _ _ ⟨_, _, _, _, rfl, rfl, h⟩)
def wX12_isHollow (N : Nat) (a1 : Int32) (g : gFG) (f : gFF) (w : Int64) (Q : Int32 → gFG → gFF → Int64 → Prop) : Prop := (vp_in a1 144) ∧ ((((f 1 a1.toNatClampNeg) = 0) → wX12_isHollow_j29 N  Q g f w) ∧ ((¬ (f 1 a1.toNatClampNeg) = 0) → (vp_in a1 144) ∧ ((((f 1 a1.toNatClampNeg) = 3) → wX12_isHollow_j29 N  Q g f w) ∧ ((¬ (f 1 a1.toNatClampNeg) = 3) → (vp_in a1 144) ∧ (((¬ (f 1 a1.toNatClampNeg) = 4) → Q 0 g f w) ∧ (((f 1 a1.toNatClampNeg) = 4) → wX12_isHollow_j29 N  Q g f w))))))
theorem mX12_isHollow (hE : gInj layM ad ∧ gZok (gA layM ad) Z) {N : Nat} {a1 : Int32} {g : gFG} {f : gFF} {w : Int64} {Q : Int32 → gFG → gFF → Int64 → Prop} (h : wX12_isHollow N a1 g f w Q) : gCT l D cs layM ad Z 1 yX12_isHollow cX12_isHollow 2 (some .boolean) [.ref (ad 0), .int a1] (g, f, w) (gMi Q) := by
  refine met_walk (lv0 := [some (.ref (ad 0)), some (.int a1)]) hE (by decide) (Nat.le_of_ble_eq_true rfl) rfl (fun G Rt hG hQ => ?_)
  replace hG : gSim l D cs layM ad Z 1 RX12 cX12_isHollow 2 (some .boolean) G Rt := hG
  unfold wX12_isHollow at h
  refine s_aload_n (n := 1) hG dX12_isHollow_0 rfl rfl ?_
  refine gtX12_16 (n := 4) hG dX12_isHollow_1 rfl ?_
  refine s_iload_n (n := 5) hG dX12_isHollow_4 rfl rfl ?_
  obtain ⟨hin, h⟩ := h
  refine s_iald (n := 6) hG dX12_isHollow_5 (gaM_1 hin) rfl ?_
  refine s_if_eq (n := 9) (tgt := 29) hG dX12_isHollow_6 rfl rfl (fun c => ?_) (fun c => ?_)
  · replace h := h.1 c
    exact s_wk hG (sX12_isHollow_j29 hE hG hQ  h) trivial
  · replace h := h.2 c
    refine s_aload_n (n := 10) hG dX12_isHollow_9 rfl rfl ?_
    refine gtX12_16 (n := 13) hG dX12_isHollow_10 rfl ?_
    refine s_iload_n (n := 14) hG dX12_isHollow_13 rfl rfl ?_
    obtain ⟨hin, h⟩ := h
    refine s_iald (n := 15) hG dX12_isHollow_14 (gaM_1 hin) rfl ?_
    refine s_iconst (n := 16) hG dX12_isHollow_15 ki_3 rfl ?_
    refine s_icmp_eq (n := 19) (tgt := 29) hG dX12_isHollow_16 rfl rfl (fun c => ?_) (fun c => ?_)
    · replace h := h.1 c
      exact s_wk hG (sX12_isHollow_j29 hE hG hQ  h) trivial
    · replace h := h.2 c
      refine s_aload_n (n := 20) hG dX12_isHollow_19 rfl rfl ?_
      refine gtX12_16 (n := 23) hG dX12_isHollow_20 rfl ?_
      refine s_iload_n (n := 24) hG dX12_isHollow_23 rfl rfl ?_
      obtain ⟨hin, h⟩ := h
      refine s_iald (n := 25) hG dX12_isHollow_24 (gaM_1 hin) rfl ?_
      refine s_iconst (n := 26) hG dX12_isHollow_25 ki_4 rfl ?_
      refine s_icmp_ne (n := 29) (tgt := 33) hG dX12_isHollow_26 rfl rfl (fun c => ?_) (fun c => ?_)
      · replace h := h.1 c
        refine s_iconst (n := 34) hG dX12_isHollow_33 ki_0 rfl ?_
        exact s_zret hG dX12_isHollow_34 (gz_n gz_0) (hQ _ _ ⟨_, _, _, _, rfl, rfl, h⟩)
      · replace h := h.2 c
        exact s_wk hG (sX12_isHollow_j29 hE hG hQ  h) trivial
def wX12_melt_j63 (N : Nat)  (Q : Int32 → gFG → gFF → Int64 → Prop) (v1 : Int32) (v2 : Int32) (t0 : Int32) (g : gFG) (f : gFF) (w : Int64) : Prop := (vp_in v1 144) ∧ (∀ f70 : gFF, f70 = (va_up f 4 (upd (f 4) v1.toNatClampNeg t0)) → (vp_in v2 144) ∧ (∀ f77 : gFF, f77 = (va_up f70 4 (upd (f70 4) v2.toNatClampNeg t0)) → Q 1 g f77 w))
theorem sX12_melt_j63 {G : gG} {Rt : Option Value → gSt → Prop} (hE : gInj layM ad ∧ gZok (gA layM ad) Z) (hG : gSim l D cs layM ad Z 2 RX12 cX12_melt 4 (some .boolean) G Rt) {Q : Int32 → gFG → gFF → Int64 → Prop} (hQ : ∀ v S, gMi Q v S → Rt v S) {N : Nat}   {v1 : Int32} {v2 : Int32} {t0 : Int32} {g : gFG} {f : gFF} {w : Int64}  (h : wX12_melt_j63 N  Q v1 v2 t0 g f w) : G 63 [some (.ref (ad 0)), some (.int v1), some (.int v2), none] [.int t0] (g, f, w) := by
  unfold wX12_melt_j63 at h
  refine s_istore_n (n := 64) (lv2 := [some (.ref (ad 0)), some (.int v1), some (.int v2), some (.int t0)]) hG dX12_melt_63 rfl rfl rfl ?_
  refine s_aload_n (n := 65) hG dX12_melt_64 rfl rfl ?_
  refine gtX12_27 (n := 68) hG dX12_melt_65 rfl ?_
  refine s_iload_n (n := 69) hG dX12_melt_68 rfl rfl ?_
  refine s_iload_n (n := 70) hG dX12_melt_69 rfl rfl ?_
  obtain ⟨hin, h⟩ := h
  refine s_iast (n := 71) hG dX12_melt_70 (gaM_4 hin) rfl ?_
  refine s_nf (fun f70 hf70 => ?_)
  replace h := h f70 hf70
  refine s_aload_n (n := 72) hG dX12_melt_71 rfl rfl ?_
  refine gtX12_27 (n := 75) hG dX12_melt_72 rfl ?_
  refine s_iload_n (n := 76) hG dX12_melt_75 rfl rfl ?_
  refine s_iload_n (n := 77) hG dX12_melt_76 rfl rfl ?_
  obtain ⟨hin, h⟩ := h
  refine s_iast (n := 78) hG dX12_melt_77 (gaM_4 hin) rfl ?_
  refine s_nf (fun f77 hf77 => ?_)
  replace h := h f77 hf77
  refine s_iconst (n := 79) hG dX12_melt_78 ki_1 rfl ?_
  exact s_zret hG dX12_melt_79 (gz_n gz_1) (hQ _ _ ⟨_, _, _, _, rfl, rfl, h⟩)
def wX12_melt (N : Nat) (a1 : Int32) (a2 : Int32) (g : gFG) (f : gFF) (w : Int64) (Q : Int32 → gFG → gFF → Int64 → Prop) : Prop := wX12_isHollow N a1 g f w (fun r2 g2 f2 w2 => ((r2 = 0) → Q 0 g2 f2 w2) ∧ ((¬ r2 = 0) → wX12_isHollow N a2 g2 f2 w2 (fun r10 g10 f10 w10 => ((r10 = 0) → Q 0 g10 f10 w10) ∧ ((¬ r10 = 0) → (vp_in a1 144) ∧ ((vp_in a2 144) ∧ (((¬ (f10 4 a1.toNatClampNeg) = (f10 4 a2.toNatClampNeg)) → (vp_in a1 144) ∧ ((vp_in a2 144) ∧ ((((f10 4 a2.toNatClampNeg) ≤ (f10 4 a1.toNatClampNeg)) → (vp_in a2 144) ∧ (wX12_melt_j63 N  Q a1 a2 (f10 4 a2.toNatClampNeg) g10 f10 w10)) ∧ ((¬ (f10 4 a2.toNatClampNeg) ≤ (f10 4 a1.toNatClampNeg)) → (vp_in a1 144) ∧ (wX12_melt_j63 N  Q a1 a2 (f10 4 a1.toNatClampNeg) g10 f10 w10))))) ∧ (((f10 4 a1.toNatClampNeg) = (f10 4 a2.toNatClampNeg)) → Q 0 g10 f10 w10)))))))
theorem mX12_melt (hE : gInj layM ad ∧ gZok (gA layM ad) Z) {N : Nat} {a1 : Int32} {a2 : Int32} {g : gFG} {f : gFF} {w : Int64} {Q : Int32 → gFG → gFF → Int64 → Prop} (h : wX12_melt N a1 a2 g f w Q) : gCT l D cs layM ad Z 2 yX12_melt cX12_melt 4 (some .boolean) [.ref (ad 0), .int a1, .int a2] (g, f, w) (gMi Q) := by
  refine met_walk (lv0 := [some (.ref (ad 0)), some (.int a1), some (.int a2), none]) hE (by decide) (Nat.le_of_ble_eq_true rfl) rfl (fun G Rt hG hQ => ?_)
  replace hG : gSim l D cs layM ad Z 2 RX12 cX12_melt 4 (some .boolean) G Rt := hG
  unfold wX12_melt at h
  refine s_aload_n (n := 1) hG dX12_melt_0 rfl rfl ?_
  refine s_iload_n (n := 2) hG dX12_melt_1 rfl rfl ?_
  refine s_callV (n := 5) (st := []) hG (mX12_isHollow hE h) ceX12_isHollow lmX12_133 ⟨by decide, rfl, rfl⟩ rfl ⟨rfl, Nat.le_of_ble_eq_true rfl, by decide⟩ dX12_melt_2 rfl ?_
  rintro _ _ ⟨r2, g2, f2, w2, rfl, rfl, h⟩
  refine s_if_eq (n := 8) (tgt := 31) hG dX12_melt_5 rfl rfl (fun c => ?_) (fun c => ?_)
  · replace h := h.1 c
    refine s_iconst (n := 32) hG dX12_melt_31 ki_0 rfl ?_
    exact s_zret hG dX12_melt_32 (gz_n gz_0) (hQ _ _ ⟨_, _, _, _, rfl, rfl, h⟩)
  · replace h := h.2 c
    refine s_aload_n (n := 9) hG dX12_melt_8 rfl rfl ?_
    refine s_iload_n (n := 10) hG dX12_melt_9 rfl rfl ?_
    refine s_callV (n := 13) (st := []) hG (mX12_isHollow hE h) ceX12_isHollow lmX12_133 ⟨by decide, rfl, rfl⟩ rfl ⟨rfl, Nat.le_of_ble_eq_true rfl, by decide⟩ dX12_melt_10 rfl ?_
    rintro _ _ ⟨r10, g10, f10, w10, rfl, rfl, h⟩
    refine s_if_eq (n := 16) (tgt := 31) hG dX12_melt_13 rfl rfl (fun c => ?_) (fun c => ?_)
    · replace h := h.1 c
      refine s_iconst (n := 32) hG dX12_melt_31 ki_0 rfl ?_
      exact s_zret hG dX12_melt_32 (gz_n gz_0) (hQ _ _ ⟨_, _, _, _, rfl, rfl, h⟩)
    · replace h := h.2 c
      refine s_aload_n (n := 17) hG dX12_melt_16 rfl rfl ?_
      refine gtX12_27 (n := 20) hG dX12_melt_17 rfl ?_
      refine s_iload_n (n := 21) hG dX12_melt_20 rfl rfl ?_
      obtain ⟨hin, h⟩ := h
      refine s_iald (n := 22) hG dX12_melt_21 (gaM_4 hin) rfl ?_
      refine s_aload_n (n := 23) hG dX12_melt_22 rfl rfl ?_
      refine gtX12_27 (n := 26) hG dX12_melt_23 rfl ?_
      refine s_iload_n (n := 27) hG dX12_melt_26 rfl rfl ?_
      obtain ⟨hin, h⟩ := h
      refine s_iald (n := 28) hG dX12_melt_27 (gaM_4 hin) rfl ?_
      refine s_icmp_ne (n := 31) (tgt := 33) hG dX12_melt_28 rfl rfl (fun c => ?_) (fun c => ?_)
      · replace h := h.1 c
        refine s_aload_n (n := 34) hG dX12_melt_33 rfl rfl ?_
        refine gtX12_27 (n := 37) hG dX12_melt_34 rfl ?_
        refine s_iload_n (n := 38) hG dX12_melt_37 rfl rfl ?_
        obtain ⟨hin, h⟩ := h
        refine s_iald (n := 39) hG dX12_melt_38 (gaM_4 hin) rfl ?_
        refine s_aload_n (n := 40) hG dX12_melt_39 rfl rfl ?_
        refine gtX12_27 (n := 43) hG dX12_melt_40 rfl ?_
        refine s_iload_n (n := 44) hG dX12_melt_43 rfl rfl ?_
        obtain ⟨hin, h⟩ := h
        refine s_iald (n := 45) hG dX12_melt_44 (gaM_4 hin) rfl ?_
        refine s_icmp_ge (n := 48) (tgt := 57) hG dX12_melt_45 rfl rfl (fun c => ?_) (fun c => ?_)
        · replace h := h.1 c
          refine s_aload_n (n := 58) hG dX12_melt_57 rfl rfl ?_
          refine gtX12_27 (n := 61) hG dX12_melt_58 rfl ?_
          refine s_iload_n (n := 62) hG dX12_melt_61 rfl rfl ?_
          obtain ⟨hin, h⟩ := h
          refine s_iald (n := 63) hG dX12_melt_62 (gaM_4 hin) rfl ?_
          exact s_wk hG (sX12_melt_j63 hE hG hQ  h) ⟨rfl, rfl, rfl, trivial⟩
        · replace h := h.2 c
          refine s_aload_n (n := 49) hG dX12_melt_48 rfl rfl ?_
          refine gtX12_27 (n := 52) hG dX12_melt_49 rfl ?_
          refine s_iload_n (n := 53) hG dX12_melt_52 rfl rfl ?_
          obtain ⟨hin, h⟩ := h
          refine s_iald (n := 54) hG dX12_melt_53 (gaM_4 hin) rfl ?_
          refine s_goto (tgt := 63) hG dX12_melt_54 rfl ?_
          exact s_wk hG (sX12_melt_j63 hE hG hQ  h) ⟨rfl, rfl, rfl, trivial⟩
      · replace h := h.2 c
        refine s_iconst (n := 32) hG dX12_melt_31 ki_0 rfl ?_
        exact s_zret hG dX12_melt_32 (gz_n gz_0) (hQ _ _ ⟨_, _, _, _, rfl, rfl, h⟩)
def wX12_join_j128 (N : Nat) (K24 : Int32 → gFG → gFF → Int64 → Prop) (K32 : Int32 → Int32 → gFG → gFF → Int64 → Prop) (K43 : Int32 → Int32 → gFG → gFF → Int64 → Prop) (Q : gFG → gFF → Int64 → Prop) (v1 : Int32) (v3 : Int32) (v4 : Int32) (t0 : Int32) (g : gFG) (f : gFF) (w : Int64) : Prop := ∀ x4_129 : Int32, x4_129 = (v4 + 1) → K43 t0 x4_129 g f w
theorem sX12_join_j128 {G : gG} {Rt : Option Value → gSt → Prop} (hE : gInj layM ad ∧ gZok (gA layM ad) Z) (hG : gSim l D cs layM ad Z 3 RX12 cX12_join 6 none G Rt) {Q : gFG → gFF → Int64 → Prop} (hQ : ∀ v S, gMv Q v S → Rt v S) {N : Nat} {K24 : Int32 → gFG → gFF → Int64 → Prop} {K32 : Int32 → Int32 → gFG → gFF → Int64 → Prop} {K43 : Int32 → Int32 → gFG → gFF → Int64 → Prop}  {v1 : Int32} {v3 : Int32} {v4 : Int32} {t0 : Int32} {g : gFG} {f : gFF} {w : Int64} (hK24 : ∀ (uv2 : Int32) (ug : gFG) (uf : gFF) (uw : Int64), K24 uv2 ug uf uw → G 24 [some (.ref (ad 0)), some (.int v1), some (.int uv2), none, none, none] [] (ug, uf, uw)) (hK32 : ∀ (uv2 : Int32) (uv3 : Int32) (ug : gFG) (uf : gFF) (uw : Int64), K32 uv2 uv3 ug uf uw → G 32 [some (.ref (ad 0)), some (.int v1), some (.int uv2), some (.int uv3), none, none] [] (ug, uf, uw)) (hK43 : ∀ (uv2 : Int32) (uv4 : Int32) (ug : gFG) (uf : gFF) (uw : Int64), K43 uv2 uv4 ug uf uw → G 43 [some (.ref (ad 0)), some (.int v1), some (.int uv2), some (.int v3), some (.int uv4), none] [] (ug, uf, uw)) (h : wX12_join_j128 N K24 K32 K43 Q v1 v3 v4 t0 g f w) : G 128 [some (.ref (ad 0)), some (.int v1), none, some (.int v3), some (.int v4), none] [.int t0] (g, f, w) := by
  unfold wX12_join_j128 at h
  refine s_istore_n (n := 129) (lv2 := [some (.ref (ad 0)), some (.int v1), some (.int t0), some (.int v3), some (.int v4), none]) hG dX12_join_128 rfl rfl rfl ?_
  obtain ⟨x4_129, hx4_129⟩ : ∃ z : Int32, z = (v4 + 1) := ⟨_, rfl⟩
  replace h := h x4_129 hx4_129
  refine s_iinc (n := 132) (v := x4_129) (lv2 := [some (.ref (ad 0)), some (.int v1), some (.int t0), some (.int v3), some (.int x4_129), none]) hG dX12_join_129 ki_1 rfl hx4_129 rfl rfl rfl ?_
  refine s_goto (tgt := 43) hG dX12_join_132 rfl ?_
  exact s_wk hG (hK43 _ _ _ _ _ h) ⟨rfl, rfl, rfl, rfl, rfl, trivial⟩
def wX12_join_j123 (N : Nat) (K24 : Int32 → gFG → gFF → Int64 → Prop) (K32 : Int32 → Int32 → gFG → gFF → Int64 → Prop) (K43 : Int32 → Int32 → gFG → gFF → Int64 → Prop) (Q : gFG → gFF → Int64 → Prop) (v1 : Int32) (v3 : Int32) (v4 : Int32) (g : gFG) (f : gFF) (w : Int64) : Prop := wX12_join_j128 N (K24) (K32) (K43) Q v1 v3 v4 1 g f w
theorem sX12_join_j123 {G : gG} {Rt : Option Value → gSt → Prop} (hE : gInj layM ad ∧ gZok (gA layM ad) Z) (hG : gSim l D cs layM ad Z 3 RX12 cX12_join 6 none G Rt) {Q : gFG → gFF → Int64 → Prop} (hQ : ∀ v S, gMv Q v S → Rt v S) {N : Nat} {K24 : Int32 → gFG → gFF → Int64 → Prop} {K32 : Int32 → Int32 → gFG → gFF → Int64 → Prop} {K43 : Int32 → Int32 → gFG → gFF → Int64 → Prop}  {v1 : Int32} {v3 : Int32} {v4 : Int32} {g : gFG} {f : gFF} {w : Int64} (hK24 : ∀ (uv2 : Int32) (ug : gFG) (uf : gFF) (uw : Int64), K24 uv2 ug uf uw → G 24 [some (.ref (ad 0)), some (.int v1), some (.int uv2), none, none, none] [] (ug, uf, uw)) (hK32 : ∀ (uv2 : Int32) (uv3 : Int32) (ug : gFG) (uf : gFF) (uw : Int64), K32 uv2 uv3 ug uf uw → G 32 [some (.ref (ad 0)), some (.int v1), some (.int uv2), some (.int uv3), none, none] [] (ug, uf, uw)) (hK43 : ∀ (uv2 : Int32) (uv4 : Int32) (ug : gFG) (uf : gFF) (uw : Int64), K43 uv2 uv4 ug uf uw → G 43 [some (.ref (ad 0)), some (.int v1), some (.int uv2), some (.int v3), some (.int uv4), none] [] (ug, uf, uw)) (h : wX12_join_j123 N K24 K32 K43 Q v1 v3 v4 g f w) : G 123 [some (.ref (ad 0)), some (.int v1), none, some (.int v3), some (.int v4), none] [] (g, f, w) := by
  unfold wX12_join_j123 at h
  refine s_iconst (n := 124) hG dX12_join_123 ki_1 rfl ?_
  refine s_goto (tgt := 128) hG dX12_join_124 rfl ?_
  exact s_wk hG (sX12_join_j128 hE hG hQ hK24 hK32 hK43 h) ⟨rfl, rfl, rfl, rfl, trivial⟩
def wX12_join_j119 (N : Nat) (K24 : Int32 → gFG → gFF → Int64 → Prop) (K32 : Int32 → Int32 → gFG → gFF → Int64 → Prop) (K43 : Int32 → Int32 → gFG → gFF → Int64 → Prop) (Q : gFG → gFF → Int64 → Prop) (v1 : Int32) (v2 : Int32) (v3 : Int32) (v4 : Int32) (g : gFG) (f : gFF) (w : Int64) : Prop := ((v2 = 0) → wX12_join_j128 N (K24) (K32) (K43) Q v1 v3 v4 0 g f w) ∧ ((¬ v2 = 0) → wX12_join_j123 N (K24) (K32) (K43) Q v1 v3 v4 g f w)
theorem sX12_join_j119 {G : gG} {Rt : Option Value → gSt → Prop} (hE : gInj layM ad ∧ gZok (gA layM ad) Z) (hG : gSim l D cs layM ad Z 3 RX12 cX12_join 6 none G Rt) {Q : gFG → gFF → Int64 → Prop} (hQ : ∀ v S, gMv Q v S → Rt v S) {N : Nat} {K24 : Int32 → gFG → gFF → Int64 → Prop} {K32 : Int32 → Int32 → gFG → gFF → Int64 → Prop} {K43 : Int32 → Int32 → gFG → gFF → Int64 → Prop}  {v1 : Int32} {v2 : Int32} {v3 : Int32} {v4 : Int32} {g : gFG} {f : gFF} {w : Int64} (hK24 : ∀ (uv2 : Int32) (ug : gFG) (uf : gFF) (uw : Int64), K24 uv2 ug uf uw → G 24 [some (.ref (ad 0)), some (.int v1), some (.int uv2), none, none, none] [] (ug, uf, uw)) (hK32 : ∀ (uv2 : Int32) (uv3 : Int32) (ug : gFG) (uf : gFF) (uw : Int64), K32 uv2 uv3 ug uf uw → G 32 [some (.ref (ad 0)), some (.int v1), some (.int uv2), some (.int uv3), none, none] [] (ug, uf, uw)) (hK43 : ∀ (uv2 : Int32) (uv4 : Int32) (ug : gFG) (uf : gFF) (uw : Int64), K43 uv2 uv4 ug uf uw → G 43 [some (.ref (ad 0)), some (.int v1), some (.int uv2), some (.int v3), some (.int uv4), none] [] (ug, uf, uw)) (h : wX12_join_j119 N K24 K32 K43 Q v1 v2 v3 v4 g f w) : G 119 [some (.ref (ad 0)), some (.int v1), some (.int v2), some (.int v3), some (.int v4), none] [] (g, f, w) := by
  unfold wX12_join_j119 at h
  refine s_iload_n (n := 120) hG dX12_join_119 rfl rfl ?_
  refine s_if_eq (n := 123) (tgt := 127) hG dX12_join_120 rfl rfl (fun c => ?_) (fun c => ?_)
  · replace h := h.1 c
    refine s_iconst (n := 128) hG dX12_join_127 ki_0 rfl ?_
    exact s_wk hG (sX12_join_j128 hE hG hQ hK24 hK32 hK43 h) ⟨rfl, rfl, rfl, rfl, trivial⟩
  · replace h := h.2 c
    exact s_wk hG (sX12_join_j123 hE hG hQ hK24 hK32 hK43 h) ⟨rfl, rfl, rfl, rfl, trivial⟩
def wX12_join_j94 (N : Nat) (K24 : Int32 → gFG → gFF → Int64 → Prop) (K32 : Int32 → Int32 → gFG → gFF → Int64 → Prop) (K43 : Int32 → Int32 → gFG → gFF → Int64 → Prop) (Q : gFG → gFF → Int64 → Prop) (v1 : Int32) (v3 : Int32) (v4 : Int32) (v5 : Int32) (t0 : Int32) (g : gFG) (f : gFF) (w : Int64) : Prop := (((g 3) ≤ (v3 + 1)) → wX12_join_j119 N (K24) (K32) (K43) Q v1 t0 v3 v4 g f w) ∧ ((¬ (g 3) ≤ (v3 + 1)) → wX12_melt N v5 (v5 + 12) g f w (fun r113 g113 f113 w113 => ((¬ r113 = 0) → wX12_join_j123 N (K24) (K32) (K43) Q v1 v3 v4 g113 f113 w113) ∧ ((r113 = 0) → wX12_join_j119 N (K24) (K32) (K43) Q v1 t0 v3 v4 g113 f113 w113)))
theorem sX12_join_j94 {G : gG} {Rt : Option Value → gSt → Prop} (hE : gInj layM ad ∧ gZok (gA layM ad) Z) (hG : gSim l D cs layM ad Z 3 RX12 cX12_join 6 none G Rt) {Q : gFG → gFF → Int64 → Prop} (hQ : ∀ v S, gMv Q v S → Rt v S) {N : Nat} {K24 : Int32 → gFG → gFF → Int64 → Prop} {K32 : Int32 → Int32 → gFG → gFF → Int64 → Prop} {K43 : Int32 → Int32 → gFG → gFF → Int64 → Prop}  {v1 : Int32} {v3 : Int32} {v4 : Int32} {v5 : Int32} {t0 : Int32} {g : gFG} {f : gFF} {w : Int64} (hK24 : ∀ (uv2 : Int32) (ug : gFG) (uf : gFF) (uw : Int64), K24 uv2 ug uf uw → G 24 [some (.ref (ad 0)), some (.int v1), some (.int uv2), none, none, none] [] (ug, uf, uw)) (hK32 : ∀ (uv2 : Int32) (uv3 : Int32) (ug : gFG) (uf : gFF) (uw : Int64), K32 uv2 uv3 ug uf uw → G 32 [some (.ref (ad 0)), some (.int v1), some (.int uv2), some (.int uv3), none, none] [] (ug, uf, uw)) (hK43 : ∀ (uv2 : Int32) (uv4 : Int32) (ug : gFG) (uf : gFF) (uw : Int64), K43 uv2 uv4 ug uf uw → G 43 [some (.ref (ad 0)), some (.int v1), some (.int uv2), some (.int v3), some (.int uv4), none] [] (ug, uf, uw)) (h : wX12_join_j94 N K24 K32 K43 Q v1 v3 v4 v5 t0 g f w) : G 94 [some (.ref (ad 0)), some (.int v1), none, some (.int v3), some (.int v4), some (.int v5)] [.int t0] (g, f, w) := by
  unfold wX12_join_j94 at h
  refine s_istore_n (n := 95) (lv2 := [some (.ref (ad 0)), some (.int v1), some (.int t0), some (.int v3), some (.int v4), some (.int v5)]) hG dX12_join_94 rfl rfl rfl ?_
  refine s_iload_n (n := 96) hG dX12_join_95 rfl rfl ?_
  refine s_iconst (n := 97) hG dX12_join_96 ki_1 rfl ?_
  refine s_iadd (n := 98) hG dX12_join_97 rfl ?_
  refine s_aload_n (n := 99) hG dX12_join_98 rfl rfl ?_
  refine gtX12_13 (n := 102) hG dX12_join_99 rfl ?_
  refine s_icmp_ge (n := 105) (tgt := 119) hG dX12_join_102 rfl rfl (fun c => ?_) (fun c => ?_)
  · replace h := h.1 c
    exact s_wk hG (sX12_join_j119 hE hG hQ hK24 hK32 hK43 h) ⟨rfl, rfl, rfl, rfl, rfl, trivial⟩
  · replace h := h.2 c
    refine s_aload_n (n := 106) hG dX12_join_105 rfl rfl ?_
    refine s_iload (n := 108) hG dX12_join_106 rfl rfl ?_
    refine s_iload (n := 110) hG dX12_join_108 rfl rfl ?_
    refine s_bipush (n := 112) hG dX12_join_110 kb_12 rfl ?_
    refine s_iadd (n := 113) hG dX12_join_112 rfl ?_
    refine s_callV (n := 116) (st := []) hG (mX12_melt hE h) ceX12_melt lmX12_130 ⟨by decide, rfl, rfl⟩ rfl ⟨rfl, Nat.le_of_ble_eq_true rfl, by decide⟩ dX12_join_113 rfl ?_
    rintro _ _ ⟨r113, g113, f113, w113, rfl, rfl, h⟩
    refine s_if_ne (n := 119) (tgt := 123) hG dX12_join_116 rfl rfl (fun c => ?_) (fun c => ?_)
    · replace h := h.1 c
      exact s_wk hG (sX12_join_j123 hE hG hQ hK24 hK32 hK43 h) ⟨rfl, rfl, rfl, rfl, trivial⟩
    · replace h := h.2 c
      exact s_wk hG (sX12_join_j119 hE hG hQ hK24 hK32 hK43 h) ⟨rfl, rfl, rfl, rfl, rfl, trivial⟩
def wX12_join_j89 (N : Nat) (K24 : Int32 → gFG → gFF → Int64 → Prop) (K32 : Int32 → Int32 → gFG → gFF → Int64 → Prop) (K43 : Int32 → Int32 → gFG → gFF → Int64 → Prop) (Q : gFG → gFF → Int64 → Prop) (v1 : Int32) (v3 : Int32) (v4 : Int32) (v5 : Int32) (g : gFG) (f : gFF) (w : Int64) : Prop := wX12_join_j94 N (K24) (K32) (K43) Q v1 v3 v4 v5 1 g f w
theorem sX12_join_j89 {G : gG} {Rt : Option Value → gSt → Prop} (hE : gInj layM ad ∧ gZok (gA layM ad) Z) (hG : gSim l D cs layM ad Z 3 RX12 cX12_join 6 none G Rt) {Q : gFG → gFF → Int64 → Prop} (hQ : ∀ v S, gMv Q v S → Rt v S) {N : Nat} {K24 : Int32 → gFG → gFF → Int64 → Prop} {K32 : Int32 → Int32 → gFG → gFF → Int64 → Prop} {K43 : Int32 → Int32 → gFG → gFF → Int64 → Prop}  {v1 : Int32} {v3 : Int32} {v4 : Int32} {v5 : Int32} {g : gFG} {f : gFF} {w : Int64} (hK24 : ∀ (uv2 : Int32) (ug : gFG) (uf : gFF) (uw : Int64), K24 uv2 ug uf uw → G 24 [some (.ref (ad 0)), some (.int v1), some (.int uv2), none, none, none] [] (ug, uf, uw)) (hK32 : ∀ (uv2 : Int32) (uv3 : Int32) (ug : gFG) (uf : gFF) (uw : Int64), K32 uv2 uv3 ug uf uw → G 32 [some (.ref (ad 0)), some (.int v1), some (.int uv2), some (.int uv3), none, none] [] (ug, uf, uw)) (hK43 : ∀ (uv2 : Int32) (uv4 : Int32) (ug : gFG) (uf : gFF) (uw : Int64), K43 uv2 uv4 ug uf uw → G 43 [some (.ref (ad 0)), some (.int v1), some (.int uv2), some (.int v3), some (.int uv4), none] [] (ug, uf, uw)) (h : wX12_join_j89 N K24 K32 K43 Q v1 v3 v4 v5 g f w) : G 89 [some (.ref (ad 0)), some (.int v1), none, some (.int v3), some (.int v4), some (.int v5)] [] (g, f, w) := by
  unfold wX12_join_j89 at h
  refine s_iconst (n := 90) hG dX12_join_89 ki_1 rfl ?_
  refine s_goto (tgt := 94) hG dX12_join_90 rfl ?_
  exact s_wk hG (sX12_join_j94 hE hG hQ hK24 hK32 hK43 h) ⟨rfl, rfl, rfl, rfl, rfl, trivial⟩
def wX12_join_j85 (N : Nat) (K24 : Int32 → gFG → gFF → Int64 → Prop) (K32 : Int32 → Int32 → gFG → gFF → Int64 → Prop) (K43 : Int32 → Int32 → gFG → gFF → Int64 → Prop) (Q : gFG → gFF → Int64 → Prop) (v1 : Int32) (v2 : Int32) (v3 : Int32) (v4 : Int32) (v5 : Int32) (g : gFG) (f : gFF) (w : Int64) : Prop := ((v2 = 0) → wX12_join_j94 N (K24) (K32) (K43) Q v1 v3 v4 v5 0 g f w) ∧ ((¬ v2 = 0) → wX12_join_j89 N (K24) (K32) (K43) Q v1 v3 v4 v5 g f w)
theorem sX12_join_j85 {G : gG} {Rt : Option Value → gSt → Prop} (hE : gInj layM ad ∧ gZok (gA layM ad) Z) (hG : gSim l D cs layM ad Z 3 RX12 cX12_join 6 none G Rt) {Q : gFG → gFF → Int64 → Prop} (hQ : ∀ v S, gMv Q v S → Rt v S) {N : Nat} {K24 : Int32 → gFG → gFF → Int64 → Prop} {K32 : Int32 → Int32 → gFG → gFF → Int64 → Prop} {K43 : Int32 → Int32 → gFG → gFF → Int64 → Prop}  {v1 : Int32} {v2 : Int32} {v3 : Int32} {v4 : Int32} {v5 : Int32} {g : gFG} {f : gFF} {w : Int64} (hK24 : ∀ (uv2 : Int32) (ug : gFG) (uf : gFF) (uw : Int64), K24 uv2 ug uf uw → G 24 [some (.ref (ad 0)), some (.int v1), some (.int uv2), none, none, none] [] (ug, uf, uw)) (hK32 : ∀ (uv2 : Int32) (uv3 : Int32) (ug : gFG) (uf : gFF) (uw : Int64), K32 uv2 uv3 ug uf uw → G 32 [some (.ref (ad 0)), some (.int v1), some (.int uv2), some (.int uv3), none, none] [] (ug, uf, uw)) (hK43 : ∀ (uv2 : Int32) (uv4 : Int32) (ug : gFG) (uf : gFF) (uw : Int64), K43 uv2 uv4 ug uf uw → G 43 [some (.ref (ad 0)), some (.int v1), some (.int uv2), some (.int v3), some (.int uv4), none] [] (ug, uf, uw)) (h : wX12_join_j85 N K24 K32 K43 Q v1 v2 v3 v4 v5 g f w) : G 85 [some (.ref (ad 0)), some (.int v1), some (.int v2), some (.int v3), some (.int v4), some (.int v5)] [] (g, f, w) := by
  unfold wX12_join_j85 at h
  refine s_iload_n (n := 86) hG dX12_join_85 rfl rfl ?_
  refine s_if_eq (n := 89) (tgt := 93) hG dX12_join_86 rfl rfl (fun c => ?_) (fun c => ?_)
  · replace h := h.1 c
    refine s_iconst (n := 94) hG dX12_join_93 ki_0 rfl ?_
    exact s_wk hG (sX12_join_j94 hE hG hQ hK24 hK32 hK43 h) ⟨rfl, rfl, rfl, rfl, rfl, trivial⟩
  · replace h := h.2 c
    exact s_wk hG (sX12_join_j89 hE hG hQ hK24 hK32 hK43 h) ⟨rfl, rfl, rfl, rfl, rfl, trivial⟩
def wX12_join_l43 (N : Nat) (v1 : Int32) (v3 : Int32) (K24 : Int32 → gFG → gFF → Int64 → Prop) (K32 : Int32 → Int32 → gFG → gFF → Int64 → Prop) (Q : gFG → gFF → Int64 → Prop) : Nat → Int32 → Int32 → gFG → gFF → Int64 → Prop
  | 0, _, _, _, _, _ => False
  | n + 1, v2, v4, g, f, w => (((g 2) ≤ v4) → ∀ x3_135 : Int32, x3_135 = (v3 + 1) → K32 v2 x3_135 g f w) ∧ ((¬ (g 2) ≤ v4) → ∀ x5_59 : Int32, x5_59 = ((12 * v3) + v4) → (((g 2) ≤ (v4 + 1)) → wX12_join_j85 N (K24) (K32) (wX12_join_l43 N v1 v3 K24 K32 Q n) Q v1 v2 v3 v4 x5_59 g f w) ∧ ((¬ (g 2) ≤ (v4 + 1)) → wX12_melt N x5_59 (x5_59 + 1) g f w (fun r79 g79 f79 w79 => ((¬ r79 = 0) → wX12_join_j89 N (K24) (K32) (wX12_join_l43 N v1 v3 K24 K32 Q n) Q v1 v3 v4 x5_59 g79 f79 w79) ∧ ((r79 = 0) → wX12_join_j85 N (K24) (K32) (wX12_join_l43 N v1 v3 K24 K32 Q n) Q v1 v2 v3 v4 x5_59 g79 f79 w79))))
theorem sX12_join_l43 {G : gG} {Rt : Option Value → gSt → Prop} (hE : gInj layM ad ∧ gZok (gA layM ad) Z) (hG : gSim l D cs layM ad Z 3 RX12 cX12_join 6 none G Rt) {Q : gFG → gFF → Int64 → Prop} (hQ : ∀ v S, gMv Q v S → Rt v S) {N : Nat} {v1 : Int32} {v3 : Int32} {K24 : Int32 → gFG → gFF → Int64 → Prop} {K32 : Int32 → Int32 → gFG → gFF → Int64 → Prop}  (hK24 : ∀ (uv2 : Int32) (ug : gFG) (uf : gFF) (uw : Int64), K24 uv2 ug uf uw → G 24 [some (.ref (ad 0)), some (.int v1), some (.int uv2), none, none, none] [] (ug, uf, uw)) (hK32 : ∀ (uv2 : Int32) (uv3 : Int32) (ug : gFG) (uf : gFF) (uw : Int64), K32 uv2 uv3 ug uf uw → G 32 [some (.ref (ad 0)), some (.int v1), some (.int uv2), some (.int uv3), none, none] [] (ug, uf, uw)) : ∀ (n : Nat) (v2 : Int32) (v4 : Int32) (g : gFG) (f : gFF) (w : Int64), wX12_join_l43 N v1 v3 K24 K32 Q n v2 v4 g f w → G 43 [some (.ref (ad 0)), some (.int v1), some (.int v2), some (.int v3), some (.int v4), none] [] (g, f, w) := by
  intro n
  induction n with
  | zero => intro _ _ _ _ _ h; unfold wX12_join_l43 at h; exact h.elim
  | succ n ih =>
    intro v2 v4 g f w h
    unfold wX12_join_l43 at h
    refine s_iload (n := 45) hG dX12_join_43 rfl rfl ?_
    refine s_aload_n (n := 46) hG dX12_join_45 rfl rfl ?_
    refine gtX12_7 (n := 49) hG dX12_join_46 rfl ?_
    refine s_icmp_ge (n := 52) (tgt := 135) hG dX12_join_49 rfl rfl (fun c => ?_) (fun c => ?_)
    · replace h := h.1 c
      obtain ⟨x3_135, hx3_135⟩ : ∃ z : Int32, z = (v3 + 1) := ⟨_, rfl⟩
      replace h := h x3_135 hx3_135
      refine s_iinc (n := 138) (v := x3_135) (lv2 := [some (.ref (ad 0)), some (.int v1), some (.int v2), some (.int x3_135), some (.int v4), none]) hG dX12_join_135 ki_1 rfl hx3_135 rfl rfl rfl ?_
      refine s_goto (tgt := 32) hG dX12_join_138 rfl ?_
      exact s_wk hG (hK32 _ _ _ _ _ h) ⟨rfl, rfl, rfl, rfl, trivial⟩
    · replace h := h.2 c
      refine s_bipush (n := 54) hG dX12_join_52 kb_12 rfl ?_
      refine s_iload_n (n := 55) hG dX12_join_54 rfl rfl ?_
      refine s_imul (n := 56) hG dX12_join_55 rfl ?_
      refine s_iload (n := 58) hG dX12_join_56 rfl rfl ?_
      refine s_iadd (n := 59) hG dX12_join_58 rfl ?_
      refine s_topi (fun x5_59 hx5_59 => ?_)
      replace h := h x5_59 hx5_59
      refine s_istore (n := 61) (lv2 := [some (.ref (ad 0)), some (.int v1), some (.int v2), some (.int v3), some (.int v4), some (.int x5_59)]) hG dX12_join_59 rfl rfl rfl ?_
      refine s_iload (n := 63) hG dX12_join_61 rfl rfl ?_
      refine s_iconst (n := 64) hG dX12_join_63 ki_1 rfl ?_
      refine s_iadd (n := 65) hG dX12_join_64 rfl ?_
      refine s_aload_n (n := 66) hG dX12_join_65 rfl rfl ?_
      refine gtX12_7 (n := 69) hG dX12_join_66 rfl ?_
      refine s_icmp_ge (n := 72) (tgt := 85) hG dX12_join_69 rfl rfl (fun c => ?_) (fun c => ?_)
      · replace h := h.1 c
        exact s_wk hG (sX12_join_j85 hE hG hQ hK24 hK32 ih h) ⟨rfl, rfl, rfl, rfl, rfl, rfl, trivial⟩
      · replace h := h.2 c
        refine s_aload_n (n := 73) hG dX12_join_72 rfl rfl ?_
        refine s_iload (n := 75) hG dX12_join_73 rfl rfl ?_
        refine s_iload (n := 77) hG dX12_join_75 rfl rfl ?_
        refine s_iconst (n := 78) hG dX12_join_77 ki_1 rfl ?_
        refine s_iadd (n := 79) hG dX12_join_78 rfl ?_
        refine s_callV (n := 82) (st := []) hG (mX12_melt hE h) ceX12_melt lmX12_130 ⟨by decide, rfl, rfl⟩ rfl ⟨rfl, Nat.le_of_ble_eq_true rfl, by decide⟩ dX12_join_79 rfl ?_
        rintro _ _ ⟨r79, g79, f79, w79, rfl, rfl, h⟩
        refine s_if_ne (n := 85) (tgt := 89) hG dX12_join_82 rfl rfl (fun c => ?_) (fun c => ?_)
        · replace h := h.1 c
          exact s_wk hG (sX12_join_j89 hE hG hQ hK24 hK32 ih h) ⟨rfl, rfl, rfl, rfl, rfl, trivial⟩
        · replace h := h.2 c
          exact s_wk hG (sX12_join_j85 hE hG hQ hK24 hK32 ih h) ⟨rfl, rfl, rfl, rfl, rfl, rfl, trivial⟩
def wX12_join_l32 (N : Nat) (v1 : Int32) (K24 : Int32 → gFG → gFF → Int64 → Prop) (Q : gFG → gFF → Int64 → Prop) : Nat → Int32 → Int32 → gFG → gFF → Int64 → Prop
  | 0, _, _, _, _, _ => False
  | n + 1, v2, v3, g, f, w => (((g 3) ≤ v3) → K24 v2 g f w) ∧ ((¬ (g 3) ≤ v3) → wX12_join_l43 N v1 v3 (K24) (wX12_join_l32 N v1 K24 Q n) Q N v2 0 g f w)
theorem sX12_join_l32 {G : gG} {Rt : Option Value → gSt → Prop} (hE : gInj layM ad ∧ gZok (gA layM ad) Z) (hG : gSim l D cs layM ad Z 3 RX12 cX12_join 6 none G Rt) {Q : gFG → gFF → Int64 → Prop} (hQ : ∀ v S, gMv Q v S → Rt v S) {N : Nat} {v1 : Int32} {K24 : Int32 → gFG → gFF → Int64 → Prop}  (hK24 : ∀ (uv2 : Int32) (ug : gFG) (uf : gFF) (uw : Int64), K24 uv2 ug uf uw → G 24 [some (.ref (ad 0)), some (.int v1), some (.int uv2), none, none, none] [] (ug, uf, uw)) : ∀ (n : Nat) (v2 : Int32) (v3 : Int32) (g : gFG) (f : gFF) (w : Int64), wX12_join_l32 N v1 K24 Q n v2 v3 g f w → G 32 [some (.ref (ad 0)), some (.int v1), some (.int v2), some (.int v3), none, none] [] (g, f, w) := by
  intro n
  induction n with
  | zero => intro _ _ _ _ _ h; unfold wX12_join_l32 at h; exact h.elim
  | succ n ih =>
    intro v2 v3 g f w h
    unfold wX12_join_l32 at h
    refine s_iload_n (n := 33) hG dX12_join_32 rfl rfl ?_
    refine s_aload_n (n := 34) hG dX12_join_33 rfl rfl ?_
    refine gtX12_13 (n := 37) hG dX12_join_34 rfl ?_
    refine s_icmp_ge (n := 40) (tgt := 141) hG dX12_join_37 rfl rfl (fun c => ?_) (fun c => ?_)
    · replace h := h.1 c
      refine s_goto (tgt := 24) hG dX12_join_141 rfl ?_
      exact s_wk hG (hK24 _ _ _ _ h) ⟨rfl, rfl, rfl, trivial⟩
    · replace h := h.2 c
      refine s_iconst (n := 41) hG dX12_join_40 ki_0 rfl ?_
      refine s_istore (n := 43) (lv2 := [some (.ref (ad 0)), some (.int v1), some (.int v2), some (.int v3), some (.int 0), none]) hG dX12_join_41 rfl rfl rfl ?_
      exact s_wk hG (sX12_join_l43 hE hG hQ hK24 ih N _ _ _ _ _ h) ⟨rfl, rfl, rfl, rfl, rfl, trivial⟩
def wX12_join_l24 (N : Nat) (v1 : Int32)  (Q : gFG → gFF → Int64 → Prop) : Nat → Int32 → gFG → gFF → Int64 → Prop
  | 0, _, _, _, _ => False
  | n + 1, v2, g, f, w => ((v2 = 0) → Q g f w) ∧ ((¬ v2 = 0) → wX12_join_l32 N v1 (wX12_join_l24 N v1  Q n) Q N 0 v1 g f w)
theorem sX12_join_l24 {G : gG} {Rt : Option Value → gSt → Prop} (hE : gInj layM ad ∧ gZok (gA layM ad) Z) (hG : gSim l D cs layM ad Z 3 RX12 cX12_join 6 none G Rt) {Q : gFG → gFF → Int64 → Prop} (hQ : ∀ v S, gMv Q v S → Rt v S) {N : Nat} {v1 : Int32}    : ∀ (n : Nat) (v2 : Int32) (g : gFG) (f : gFF) (w : Int64), wX12_join_l24 N v1  Q n v2 g f w → G 24 [some (.ref (ad 0)), some (.int v1), some (.int v2), none, none, none] [] (g, f, w) := by
  intro n
  induction n with
  | zero => intro _ _ _ _ h; unfold wX12_join_l24 at h; exact h.elim
  | succ n ih =>
    intro v2 g f w h
    unfold wX12_join_l24 at h
    refine s_iload_n (n := 25) hG dX12_join_24 rfl rfl ?_
    refine s_if_eq (n := 28) (tgt := 144) hG dX12_join_25 rfl rfl (fun c => ?_) (fun c => ?_)
    · replace h := h.1 c
      exact s_vret hG dX12_join_144 (hQ _ _ ⟨_, _, _, rfl, rfl, h⟩)
    · replace h := h.2 c
      refine s_iconst (n := 29) hG dX12_join_28 ki_0 rfl ?_
      refine s_istore_n (n := 30) (lv2 := [some (.ref (ad 0)), some (.int v1), some (.int 0), none, none, none]) hG dX12_join_29 rfl rfl rfl ?_
      refine s_iload_n (n := 31) hG dX12_join_30 rfl rfl ?_
      refine s_istore_n (n := 32) (lv2 := [some (.ref (ad 0)), some (.int v1), some (.int 0), some (.int v1), none, none]) hG dX12_join_31 rfl rfl rfl ?_
      exact s_wk hG (sX12_join_l32 hE hG hQ ih N _ _ _ _ _ h) ⟨rfl, rfl, rfl, rfl, trivial⟩
def wX12_join_l2 (N : Nat) (v1 : Int32)  (Q : gFG → gFF → Int64 → Prop) : Nat → Int32 → gFG → gFF → Int64 → Prop
  | 0, _, _, _, _ => False
  | n + 1, v2, g, f, w => ((144 ≤ v2) → wX12_join_l24 N v1 Q N 1 g f w) ∧ ((¬ 144 ≤ v2) → (vp_in v2 144) ∧ (∀ f15 : gFF, f15 = (va_up f 4 (upd (f 4) v2.toNatClampNeg v2)) → ∀ x2_16 : Int32, x2_16 = (v2 + 1) → wX12_join_l2 N v1  Q n x2_16 g f15 w))
theorem sX12_join_l2 {G : gG} {Rt : Option Value → gSt → Prop} (hE : gInj layM ad ∧ gZok (gA layM ad) Z) (hG : gSim l D cs layM ad Z 3 RX12 cX12_join 6 none G Rt) {Q : gFG → gFF → Int64 → Prop} (hQ : ∀ v S, gMv Q v S → Rt v S) {N : Nat} {v1 : Int32}    : ∀ (n : Nat) (v2 : Int32) (g : gFG) (f : gFF) (w : Int64), wX12_join_l2 N v1  Q n v2 g f w → G 2 [some (.ref (ad 0)), some (.int v1), some (.int v2), none, none, none] [] (g, f, w) := by
  intro n
  induction n with
  | zero => intro _ _ _ _ h; unfold wX12_join_l2 at h; exact h.elim
  | succ n ih =>
    intro v2 g f w h
    unfold wX12_join_l2 at h
    refine s_iload_n (n := 3) hG dX12_join_2 rfl rfl ?_
    refine s_sipush (n := 6) hG dX12_join_3 ks_144 rfl ?_
    refine s_icmp_ge (n := 9) (tgt := 22) hG dX12_join_6 rfl rfl (fun c => ?_) (fun c => ?_)
    · replace h := h.1 c
      refine s_iconst (n := 23) hG dX12_join_22 ki_1 rfl ?_
      refine s_istore_n (n := 24) (lv2 := [some (.ref (ad 0)), some (.int v1), some (.int 1), none, none, none]) hG dX12_join_23 rfl rfl rfl ?_
      exact s_wk hG (sX12_join_l24 hE hG hQ  N _ _ _ _ h) ⟨rfl, rfl, rfl, trivial⟩
    · replace h := h.2 c
      refine s_aload_n (n := 10) hG dX12_join_9 rfl rfl ?_
      refine gtX12_27 (n := 13) hG dX12_join_10 rfl ?_
      refine s_iload_n (n := 14) hG dX12_join_13 rfl rfl ?_
      refine s_iload_n (n := 15) hG dX12_join_14 rfl rfl ?_
      obtain ⟨hin, h⟩ := h
      refine s_iast (n := 16) hG dX12_join_15 (gaM_4 hin) rfl ?_
      refine s_nf (fun f15 hf15 => ?_)
      replace h := h f15 hf15
      obtain ⟨x2_16, hx2_16⟩ : ∃ z : Int32, z = (v2 + 1) := ⟨_, rfl⟩
      replace h := h x2_16 hx2_16
      refine s_iinc (n := 19) (v := x2_16) (lv2 := [some (.ref (ad 0)), some (.int v1), some (.int x2_16), none, none, none]) hG dX12_join_16 ki_1 rfl hx2_16 rfl rfl rfl ?_
      refine s_goto (tgt := 2) hG dX12_join_19 rfl ?_
      exact s_wk hG (ih _ _ _ _ h) ⟨rfl, rfl, rfl, trivial⟩
def wX12_join (N : Nat) (a1 : Int32) (g : gFG) (f : gFF) (w : Int64) (Q : gFG → gFF → Int64 → Prop) : Prop := wX12_join_l2 N a1 Q N 0 g f w
theorem mX12_join (hE : gInj layM ad ∧ gZok (gA layM ad) Z) {N : Nat} {a1 : Int32} {g : gFG} {f : gFF} {w : Int64} {Q : gFG → gFF → Int64 → Prop} (h : wX12_join N a1 g f w Q) : gCT l D cs layM ad Z 3 yX12_join cX12_join 6 none [.ref (ad 0), .int a1] (g, f, w) (gMv Q) := by
  refine met_walk (lv0 := [some (.ref (ad 0)), some (.int a1), none, none, none, none]) hE (by decide) (Nat.le_of_ble_eq_true rfl) rfl (fun G Rt hG hQ => ?_)
  replace hG : gSim l D cs layM ad Z 3 RX12 cX12_join 6 none G Rt := hG
  unfold wX12_join at h
  refine s_iconst (n := 1) hG dX12_join_0 ki_0 rfl ?_
  refine s_istore_n (n := 2) (lv2 := [some (.ref (ad 0)), some (.int a1), some (.int 0), none, none, none]) hG dX12_join_1 rfl rfl rfl ?_
  exact s_wk hG (sX12_join_l2 hE hG hQ  N _ _ _ _ h) ⟨rfl, rfl, rfl, trivial⟩
def wX12_has_j76 (N : Nat) (K6 : Int32 → Int32 → gFG → gFF → Int64 → Prop) (K18 : Int32 → Int32 → gFG → gFF → Int64 → Prop) (Q : Int32 → gFG → gFF → Int64 → Prop) (v1 : Int32) (v3 : Int32) (v5 : Int32) (v6 : Int32) (t0 : Int32) (g : gFG) (f : gFF) (w : Int64) : Prop := ∀ x6_78 : Int32, x6_78 = (v6 + 1) → K18 t0 x6_78 g f w
theorem sX12_has_j76 {G : gG} {Rt : Option Value → gSt → Prop} (hE : gInj layM ad ∧ gZok (gA layM ad) Z) (hG : gSim l D cs layM ad Z 1 RX12 cX12_has 7 (some .boolean) G Rt) {Q : Int32 → gFG → gFF → Int64 → Prop} (hQ : ∀ v S, gMi Q v S → Rt v S) {N : Nat} {K6 : Int32 → Int32 → gFG → gFF → Int64 → Prop} {K18 : Int32 → Int32 → gFG → gFF → Int64 → Prop}  {v1 : Int32} {v3 : Int32} {v5 : Int32} {v6 : Int32} {t0 : Int32} {g : gFG} {f : gFF} {w : Int64} (hK6 : ∀ (uv4 : Int32) (uv5 : Int32) (ug : gFG) (uf : gFF) (uw : Int64), K6 uv4 uv5 ug uf uw → G 6 [some (.ref (ad 0)), some (.int v1), none, some (.int v3), some (.int uv4), some (.int uv5), none] [] (ug, uf, uw)) (hK18 : ∀ (uv4 : Int32) (uv6 : Int32) (ug : gFG) (uf : gFF) (uw : Int64), K18 uv4 uv6 ug uf uw → G 18 [some (.ref (ad 0)), some (.int v1), none, some (.int v3), some (.int uv4), some (.int v5), some (.int uv6)] [] (ug, uf, uw)) (h : wX12_has_j76 N K6 K18 Q v1 v3 v5 v6 t0 g f w) : G 76 [some (.ref (ad 0)), some (.int v1), none, some (.int v3), none, some (.int v5), some (.int v6)] [.int t0] (g, f, w) := by
  unfold wX12_has_j76 at h
  refine s_istore (n := 78) (lv2 := [some (.ref (ad 0)), some (.int v1), none, some (.int v3), some (.int t0), some (.int v5), some (.int v6)]) hG dX12_has_76 rfl rfl rfl ?_
  obtain ⟨x6_78, hx6_78⟩ : ∃ z : Int32, z = (v6 + 1) := ⟨_, rfl⟩
  replace h := h x6_78 hx6_78
  refine s_iinc (n := 81) (v := x6_78) (lv2 := [some (.ref (ad 0)), some (.int v1), none, some (.int v3), some (.int t0), some (.int v5), some (.int x6_78)]) hG dX12_has_78 ki_1 rfl hx6_78 rfl rfl rfl ?_
  refine s_goto (tgt := 18) hG dX12_has_81 rfl ?_
  exact s_wk hG (hK18 _ _ _ _ _ h) ⟨rfl, rfl, rfl, rfl, rfl, rfl, trivial⟩
def wX12_has_j71 (N : Nat) (K6 : Int32 → Int32 → gFG → gFF → Int64 → Prop) (K18 : Int32 → Int32 → gFG → gFF → Int64 → Prop) (Q : Int32 → gFG → gFF → Int64 → Prop) (v1 : Int32) (v3 : Int32) (v5 : Int32) (v6 : Int32) (g : gFG) (f : gFF) (w : Int64) : Prop := wX12_has_j76 N (K6) (K18) Q v1 v3 v5 v6 1 g f w
theorem sX12_has_j71 {G : gG} {Rt : Option Value → gSt → Prop} (hE : gInj layM ad ∧ gZok (gA layM ad) Z) (hG : gSim l D cs layM ad Z 1 RX12 cX12_has 7 (some .boolean) G Rt) {Q : Int32 → gFG → gFF → Int64 → Prop} (hQ : ∀ v S, gMi Q v S → Rt v S) {N : Nat} {K6 : Int32 → Int32 → gFG → gFF → Int64 → Prop} {K18 : Int32 → Int32 → gFG → gFF → Int64 → Prop}  {v1 : Int32} {v3 : Int32} {v5 : Int32} {v6 : Int32} {g : gFG} {f : gFF} {w : Int64} (hK6 : ∀ (uv4 : Int32) (uv5 : Int32) (ug : gFG) (uf : gFF) (uw : Int64), K6 uv4 uv5 ug uf uw → G 6 [some (.ref (ad 0)), some (.int v1), none, some (.int v3), some (.int uv4), some (.int uv5), none] [] (ug, uf, uw)) (hK18 : ∀ (uv4 : Int32) (uv6 : Int32) (ug : gFG) (uf : gFF) (uw : Int64), K18 uv4 uv6 ug uf uw → G 18 [some (.ref (ad 0)), some (.int v1), none, some (.int v3), some (.int uv4), some (.int v5), some (.int uv6)] [] (ug, uf, uw)) (h : wX12_has_j71 N K6 K18 Q v1 v3 v5 v6 g f w) : G 71 [some (.ref (ad 0)), some (.int v1), none, some (.int v3), none, some (.int v5), some (.int v6)] [] (g, f, w) := by
  unfold wX12_has_j71 at h
  refine s_iconst (n := 72) hG dX12_has_71 ki_1 rfl ?_
  refine s_goto (tgt := 76) hG dX12_has_72 rfl ?_
  exact s_wk hG (sX12_has_j76 hE hG hQ hK6 hK18 h) ⟨rfl, rfl, rfl, rfl, rfl, trivial⟩
def wX12_has_j75 (N : Nat) (K6 : Int32 → Int32 → gFG → gFF → Int64 → Prop) (K18 : Int32 → Int32 → gFG → gFF → Int64 → Prop) (Q : Int32 → gFG → gFF → Int64 → Prop) (v1 : Int32) (v3 : Int32) (v5 : Int32) (v6 : Int32) (g : gFG) (f : gFF) (w : Int64) : Prop := wX12_has_j76 N (K6) (K18) Q v1 v3 v5 v6 0 g f w
theorem sX12_has_j75 {G : gG} {Rt : Option Value → gSt → Prop} (hE : gInj layM ad ∧ gZok (gA layM ad) Z) (hG : gSim l D cs layM ad Z 1 RX12 cX12_has 7 (some .boolean) G Rt) {Q : Int32 → gFG → gFF → Int64 → Prop} (hQ : ∀ v S, gMi Q v S → Rt v S) {N : Nat} {K6 : Int32 → Int32 → gFG → gFF → Int64 → Prop} {K18 : Int32 → Int32 → gFG → gFF → Int64 → Prop}  {v1 : Int32} {v3 : Int32} {v5 : Int32} {v6 : Int32} {g : gFG} {f : gFF} {w : Int64} (hK6 : ∀ (uv4 : Int32) (uv5 : Int32) (ug : gFG) (uf : gFF) (uw : Int64), K6 uv4 uv5 ug uf uw → G 6 [some (.ref (ad 0)), some (.int v1), none, some (.int v3), some (.int uv4), some (.int uv5), none] [] (ug, uf, uw)) (hK18 : ∀ (uv4 : Int32) (uv6 : Int32) (ug : gFG) (uf : gFF) (uw : Int64), K18 uv4 uv6 ug uf uw → G 18 [some (.ref (ad 0)), some (.int v1), none, some (.int v3), some (.int uv4), some (.int v5), some (.int uv6)] [] (ug, uf, uw)) (h : wX12_has_j75 N K6 K18 Q v1 v3 v5 v6 g f w) : G 75 [some (.ref (ad 0)), some (.int v1), none, some (.int v3), none, some (.int v5), some (.int v6)] [] (g, f, w) := by
  unfold wX12_has_j75 at h
  refine s_iconst (n := 76) hG dX12_has_75 ki_0 rfl ?_
  exact s_wk hG (sX12_has_j76 hE hG hQ hK6 hK18 h) ⟨rfl, rfl, rfl, rfl, rfl, trivial⟩
def wX12_has_l18 (N : Nat) (v1 : Int32) (v3 : Int32) (v5 : Int32) (K6 : Int32 → Int32 → gFG → gFF → Int64 → Prop) (Q : Int32 → gFG → gFF → Int64 → Prop) : Nat → Int32 → Int32 → gFG → gFF → Int64 → Prop
  | 0, _, _, _, _, _ => False
  | n + 1, v4, v6, g, f, w => (((g 2) ≤ v6) → ∀ x5_84 : Int32, x5_84 = (v5 + 1) → K6 v4 x5_84 g f w) ∧ ((¬ (g 2) ≤ v6) → ((¬ v4 = 0) → wX12_has_j71 N (K6) (wX12_has_l18 N v1 v3 v5 K6 Q n) Q v1 v3 v5 v6 g f w) ∧ ((v4 = 0) → ∀ i44 : Int32, i44 = ((12 * v5) + v6) → (vp_in i44 144) ∧ (((¬ (f 1 i44.toNatClampNeg) = v3) → wX12_has_j75 N (K6) (wX12_has_l18 N v1 v3 v5 K6 Q n) Q v1 v3 v5 v6 g f w) ∧ (((f 1 i44.toNatClampNeg) = v3) → ∀ i61 : Int32, i61 = ((12 * v5) + v6) → (vp_in i61 144) ∧ ((vp_in v1 144) ∧ (((¬ (f 4 i61.toNatClampNeg) = (f 4 v1.toNatClampNeg)) → wX12_has_j75 N (K6) (wX12_has_l18 N v1 v3 v5 K6 Q n) Q v1 v3 v5 v6 g f w) ∧ (((f 4 i61.toNatClampNeg) = (f 4 v1.toNatClampNeg)) → wX12_has_j71 N (K6) (wX12_has_l18 N v1 v3 v5 K6 Q n) Q v1 v3 v5 v6 g f w)))))))
theorem sX12_has_l18 {G : gG} {Rt : Option Value → gSt → Prop} (hE : gInj layM ad ∧ gZok (gA layM ad) Z) (hG : gSim l D cs layM ad Z 1 RX12 cX12_has 7 (some .boolean) G Rt) {Q : Int32 → gFG → gFF → Int64 → Prop} (hQ : ∀ v S, gMi Q v S → Rt v S) {N : Nat} {v1 : Int32} {v3 : Int32} {v5 : Int32} {K6 : Int32 → Int32 → gFG → gFF → Int64 → Prop}  (hK6 : ∀ (uv4 : Int32) (uv5 : Int32) (ug : gFG) (uf : gFF) (uw : Int64), K6 uv4 uv5 ug uf uw → G 6 [some (.ref (ad 0)), some (.int v1), none, some (.int v3), some (.int uv4), some (.int uv5), none] [] (ug, uf, uw)) : ∀ (n : Nat) (v4 : Int32) (v6 : Int32) (g : gFG) (f : gFF) (w : Int64), wX12_has_l18 N v1 v3 v5 K6 Q n v4 v6 g f w → G 18 [some (.ref (ad 0)), some (.int v1), none, some (.int v3), some (.int v4), some (.int v5), some (.int v6)] [] (g, f, w) := by
  intro n
  induction n with
  | zero => intro _ _ _ _ _ h; unfold wX12_has_l18 at h; exact h.elim
  | succ n ih =>
    intro v4 v6 g f w h
    unfold wX12_has_l18 at h
    refine s_iload (n := 20) hG dX12_has_18 rfl rfl ?_
    refine s_aload_n (n := 21) hG dX12_has_20 rfl rfl ?_
    refine gtX12_7 (n := 24) hG dX12_has_21 rfl ?_
    refine s_icmp_ge (n := 27) (tgt := 84) hG dX12_has_24 rfl rfl (fun c => ?_) (fun c => ?_)
    · replace h := h.1 c
      obtain ⟨x5_84, hx5_84⟩ : ∃ z : Int32, z = (v5 + 1) := ⟨_, rfl⟩
      replace h := h x5_84 hx5_84
      refine s_iinc (n := 87) (v := x5_84) (lv2 := [some (.ref (ad 0)), some (.int v1), none, some (.int v3), some (.int v4), some (.int x5_84), some (.int v6)]) hG dX12_has_84 ki_1 rfl hx5_84 rfl rfl rfl ?_
      refine s_goto (tgt := 6) hG dX12_has_87 rfl ?_
      exact s_wk hG (hK6 _ _ _ _ _ h) ⟨rfl, rfl, rfl, rfl, rfl, trivial⟩
    · replace h := h.2 c
      refine s_iload (n := 29) hG dX12_has_27 rfl rfl ?_
      refine s_if_ne (n := 32) (tgt := 71) hG dX12_has_29 rfl rfl (fun c => ?_) (fun c => ?_)
      · replace h := h.1 c
        exact s_wk hG (sX12_has_j71 hE hG hQ hK6 ih h) ⟨rfl, rfl, rfl, rfl, rfl, trivial⟩
      · replace h := h.2 c
        refine s_aload_n (n := 33) hG dX12_has_32 rfl rfl ?_
        refine gtX12_16 (n := 36) hG dX12_has_33 rfl ?_
        refine s_bipush (n := 38) hG dX12_has_36 kb_12 rfl ?_
        refine s_iload (n := 40) hG dX12_has_38 rfl rfl ?_
        refine s_imul (n := 41) hG dX12_has_40 rfl ?_
        refine s_iload (n := 43) hG dX12_has_41 rfl rfl ?_
        refine s_iadd (n := 44) hG dX12_has_43 rfl ?_
        refine s_topi (fun i44 hi44 => ?_)
        replace h := h i44 hi44
        obtain ⟨hin, h⟩ := h
        refine s_iald (n := 45) hG dX12_has_44 (gaM_1 hin) rfl ?_
        refine s_iload_n (n := 46) hG dX12_has_45 rfl rfl ?_
        refine s_icmp_ne (n := 49) (tgt := 75) hG dX12_has_46 rfl rfl (fun c => ?_) (fun c => ?_)
        · replace h := h.1 c
          exact s_wk hG (sX12_has_j75 hE hG hQ hK6 ih h) ⟨rfl, rfl, rfl, rfl, rfl, trivial⟩
        · replace h := h.2 c
          refine s_aload_n (n := 50) hG dX12_has_49 rfl rfl ?_
          refine gtX12_27 (n := 53) hG dX12_has_50 rfl ?_
          refine s_bipush (n := 55) hG dX12_has_53 kb_12 rfl ?_
          refine s_iload (n := 57) hG dX12_has_55 rfl rfl ?_
          refine s_imul (n := 58) hG dX12_has_57 rfl ?_
          refine s_iload (n := 60) hG dX12_has_58 rfl rfl ?_
          refine s_iadd (n := 61) hG dX12_has_60 rfl ?_
          refine s_topi (fun i61 hi61 => ?_)
          replace h := h i61 hi61
          obtain ⟨hin, h⟩ := h
          refine s_iald (n := 62) hG dX12_has_61 (gaM_4 hin) rfl ?_
          refine s_aload_n (n := 63) hG dX12_has_62 rfl rfl ?_
          refine gtX12_27 (n := 66) hG dX12_has_63 rfl ?_
          refine s_iload_n (n := 67) hG dX12_has_66 rfl rfl ?_
          obtain ⟨hin, h⟩ := h
          refine s_iald (n := 68) hG dX12_has_67 (gaM_4 hin) rfl ?_
          refine s_icmp_ne (n := 71) (tgt := 75) hG dX12_has_68 rfl rfl (fun c => ?_) (fun c => ?_)
          · replace h := h.1 c
            exact s_wk hG (sX12_has_j75 hE hG hQ hK6 ih h) ⟨rfl, rfl, rfl, rfl, rfl, trivial⟩
          · replace h := h.2 c
            exact s_wk hG (sX12_has_j71 hE hG hQ hK6 ih h) ⟨rfl, rfl, rfl, rfl, rfl, trivial⟩
def wX12_has_l6 (N : Nat) (v1 : Int32) (v3 : Int32)  (Q : Int32 → gFG → gFF → Int64 → Prop) : Nat → Int32 → Int32 → gFG → gFF → Int64 → Prop
  | 0, _, _, _, _, _ => False
  | n + 1, v4, v5, g, f, w => (((g 3) ≤ v5) → (gz v4) ∧ Q v4 g f w) ∧ ((¬ (g 3) ≤ v5) → wX12_has_l18 N v1 v3 v5 (wX12_has_l6 N v1 v3  Q n) Q N v4 0 g f w)
theorem sX12_has_l6 {G : gG} {Rt : Option Value → gSt → Prop} (hE : gInj layM ad ∧ gZok (gA layM ad) Z) (hG : gSim l D cs layM ad Z 1 RX12 cX12_has 7 (some .boolean) G Rt) {Q : Int32 → gFG → gFF → Int64 → Prop} (hQ : ∀ v S, gMi Q v S → Rt v S) {N : Nat} {v1 : Int32} {v3 : Int32}    : ∀ (n : Nat) (v4 : Int32) (v5 : Int32) (g : gFG) (f : gFF) (w : Int64), wX12_has_l6 N v1 v3  Q n v4 v5 g f w → G 6 [some (.ref (ad 0)), some (.int v1), none, some (.int v3), some (.int v4), some (.int v5), none] [] (g, f, w) := by
  intro n
  induction n with
  | zero => intro _ _ _ _ _ h; unfold wX12_has_l6 at h; exact h.elim
  | succ n ih =>
    intro v4 v5 g f w h
    unfold wX12_has_l6 at h
    refine s_iload (n := 8) hG dX12_has_6 rfl rfl ?_
    refine s_aload_n (n := 9) hG dX12_has_8 rfl rfl ?_
    refine gtX12_13 (n := 12) hG dX12_has_9 rfl ?_
    refine s_icmp_ge (n := 15) (tgt := 90) hG dX12_has_12 rfl rfl (fun c => ?_) (fun c => ?_)
    · replace h := h.1 c
      refine s_iload (n := 92) hG dX12_has_90 rfl rfl ?_
      obtain ⟨hz, h⟩ := h
      exact s_zret hG dX12_has_92 (gz_n hz) (hQ _ _ ⟨_, _, _, _, rfl, rfl, h⟩)
    · replace h := h.2 c
      refine s_iconst (n := 16) hG dX12_has_15 ki_0 rfl ?_
      refine s_istore (n := 18) (lv2 := [some (.ref (ad 0)), some (.int v1), none, some (.int v3), some (.int v4), some (.int v5), some (.int 0)]) hG dX12_has_16 rfl rfl rfl ?_
      exact s_wk hG (sX12_has_l18 hE hG hQ ih N _ _ _ _ _ h) ⟨rfl, rfl, rfl, rfl, rfl, rfl, trivial⟩
def wX12_has (N : Nat) (a1 : Int32) (a2 : Int32) (a3 : Int32) (g : gFG) (f : gFF) (w : Int64) (Q : Int32 → gFG → gFF → Int64 → Prop) : Prop := wX12_has_l6 N a1 a3 Q N 0 a2 g f w
theorem mX12_has (hE : gInj layM ad ∧ gZok (gA layM ad) Z) {N : Nat} {a1 : Int32} {a2 : Int32} {a3 : Int32} {g : gFG} {f : gFF} {w : Int64} {Q : Int32 → gFG → gFF → Int64 → Prop} (h : wX12_has N a1 a2 a3 g f w Q) : gCT l D cs layM ad Z 1 yX12_has cX12_has 7 (some .boolean) [.ref (ad 0), .int a1, .int a2, .int a3] (g, f, w) (gMi Q) := by
  refine met_walk (lv0 := [some (.ref (ad 0)), some (.int a1), some (.int a2), some (.int a3), none, none, none]) hE (by decide) (Nat.le_of_ble_eq_true rfl) rfl (fun G Rt hG hQ => ?_)
  replace hG : gSim l D cs layM ad Z 1 RX12 cX12_has 7 (some .boolean) G Rt := hG
  unfold wX12_has at h
  refine s_iconst (n := 1) hG dX12_has_0 ki_0 rfl ?_
  refine s_istore (n := 3) (lv2 := [some (.ref (ad 0)), some (.int a1), some (.int a2), some (.int a3), some (.int 0), none, none]) hG dX12_has_1 rfl rfl rfl ?_
  refine s_iload_n (n := 4) hG dX12_has_3 rfl rfl ?_
  refine s_istore (n := 6) (lv2 := [some (.ref (ad 0)), some (.int a1), some (.int a2), some (.int a3), some (.int 0), some (.int a2), none]) hG dX12_has_4 rfl rfl rfl ?_
  exact s_wk hG (sX12_has_l6 hE hG hQ  N _ _ _ _ _ h) ⟨rfl, rfl, rfl, rfl, rfl, trivial⟩
def wX12_pourMould_j213 (N : Nat) (K182 : Int32 → gFG → gFF → Int64 → Prop) (Q : gFG → gFF → Int64 → Prop) (v1 : Int32) (t0 : Int32) (t1 : Int32) (g : gFG) (f : gFF) (w : Int64) : Prop := (vp_in t1 144) ∧ (∀ f213 : gFF, f213 = (va_up f 3 (upd (f 3) t1.toNatClampNeg t0)) → ∀ x1_214 : Int32, x1_214 = (v1 + 1) → K182 x1_214 g f213 w)
theorem sX12_pourMould_j213 {G : gG} {Rt : Option Value → gSt → Prop} (hE : gInj layM ad ∧ gZok (gA layM ad) Z) (hG : gSim l D cs layM ad Z 4 RX12 cX12_pourMould 4 none G Rt) {Q : gFG → gFF → Int64 → Prop} (hQ : ∀ v S, gMv Q v S → Rt v S) {N : Nat} {K182 : Int32 → gFG → gFF → Int64 → Prop}  {v1 : Int32} {t0 : Int32} {t1 : Int32} {g : gFG} {f : gFF} {w : Int64} (hK182 : ∀ (uv1 : Int32) (ug : gFG) (uf : gFF) (uw : Int64), K182 uv1 ug uf uw → G 182 [some (.ref (ad 0)), some (.int uv1), none, none] [] (ug, uf, uw)) (h : wX12_pourMould_j213 N K182 Q v1 t0 t1 g f w) : G 213 [some (.ref (ad 0)), some (.int v1), none, none] [.int t0, .int t1, .ref (ad 3)] (g, f, w) := by
  unfold wX12_pourMould_j213 at h
  obtain ⟨hin, h⟩ := h
  refine s_iast (n := 214) hG dX12_pourMould_213 (gaM_3 hin) rfl ?_
  refine s_nf (fun f213 hf213 => ?_)
  replace h := h f213 hf213
  obtain ⟨x1_214, hx1_214⟩ : ∃ z : Int32, z = (v1 + 1) := ⟨_, rfl⟩
  replace h := h x1_214 hx1_214
  refine s_iinc (n := 217) (v := x1_214) (lv2 := [some (.ref (ad 0)), some (.int x1_214), none, none]) hG dX12_pourMould_214 ki_1 rfl hx1_214 rfl rfl rfl ?_
  refine s_goto (tgt := 182) hG dX12_pourMould_217 rfl ?_
  exact s_wk hG (hK182 _ _ _ _ h) ⟨rfl, rfl, trivial⟩
def wX12_pourMould_l182 (N : Nat)   (Q : gFG → gFF → Int64 → Prop) : Nat → Int32 → gFG → gFF → Int64 → Prop
  | 0, _, _, _, _ => False
  | n + 1, v1, g, f, w => ((144 ≤ v1) → Q g f w) ∧ ((¬ 144 ≤ v1) → (vp_in v1 144) ∧ ((((f 2 v1.toNatClampNeg) = 0) → (vp_in v1 144) ∧ (wX12_pourMould_j213 N (wX12_pourMould_l182 N   Q n) Q v1 (f 3 v1.toNatClampNeg) v1 g f w)) ∧ ((¬ (f 2 v1.toNatClampNeg) = 0) → wX12_pourMould_j213 N (wX12_pourMould_l182 N   Q n) Q v1 5 v1 g f w)))
theorem sX12_pourMould_l182 {G : gG} {Rt : Option Value → gSt → Prop} (hE : gInj layM ad ∧ gZok (gA layM ad) Z) (hG : gSim l D cs layM ad Z 4 RX12 cX12_pourMould 4 none G Rt) {Q : gFG → gFF → Int64 → Prop} (hQ : ∀ v S, gMv Q v S → Rt v S) {N : Nat}     : ∀ (n : Nat) (v1 : Int32) (g : gFG) (f : gFF) (w : Int64), wX12_pourMould_l182 N   Q n v1 g f w → G 182 [some (.ref (ad 0)), some (.int v1), none, none] [] (g, f, w) := by
  intro n
  induction n with
  | zero => intro _ _ _ _ h; unfold wX12_pourMould_l182 at h; exact h.elim
  | succ n ih =>
    intro v1 g f w h
    unfold wX12_pourMould_l182 at h
    refine s_iload_n (n := 183) hG dX12_pourMould_182 rfl rfl ?_
    refine s_sipush (n := 186) hG dX12_pourMould_183 ks_144 rfl ?_
    refine s_icmp_ge (n := 189) (tgt := 220) hG dX12_pourMould_186 rfl rfl (fun c => ?_) (fun c => ?_)
    · replace h := h.1 c
      exact s_vret hG dX12_pourMould_220 (hQ _ _ ⟨_, _, _, rfl, rfl, h⟩)
    · replace h := h.2 c
      refine s_aload_n (n := 190) hG dX12_pourMould_189 rfl rfl ?_
      refine gtX12_24 (n := 193) hG dX12_pourMould_190 rfl ?_
      refine s_iload_n (n := 194) hG dX12_pourMould_193 rfl rfl ?_
      refine s_aload_n (n := 195) hG dX12_pourMould_194 rfl rfl ?_
      refine gtX12_20 (n := 198) hG dX12_pourMould_195 rfl ?_
      refine s_iload_n (n := 199) hG dX12_pourMould_198 rfl rfl ?_
      obtain ⟨hin, h⟩ := h
      refine s_zald (n := 200) hG dX12_pourMould_199 (gaM_2 hin) rfl ?_
      refine s_if_eq (n := 203) (tgt := 207) hG dX12_pourMould_200 rfl rfl (fun c => ?_) (fun c => ?_)
      · replace h := h.1 c
        refine s_aload_n (n := 208) hG dX12_pourMould_207 rfl rfl ?_
        refine gtX12_24 (n := 211) hG dX12_pourMould_208 rfl ?_
        refine s_iload_n (n := 212) hG dX12_pourMould_211 rfl rfl ?_
        obtain ⟨hin, h⟩ := h
        refine s_iald (n := 213) hG dX12_pourMould_212 (gaM_3 hin) rfl ?_
        exact s_wk hG (sX12_pourMould_j213 hE hG hQ ih h) ⟨rfl, rfl, trivial⟩
      · replace h := h.2 c
        refine s_iconst (n := 204) hG dX12_pourMould_203 ki_5 rfl ?_
        refine s_goto (tgt := 213) hG dX12_pourMould_204 rfl ?_
        exact s_wk hG (sX12_pourMould_j213 hE hG hQ ih h) ⟨rfl, rfl, trivial⟩
def wX12_pourMould_j168 (N : Nat) (K93 : Int32 → gFG → gFF → Int64 → Prop) (K108 : Int32 → gFG → gFF → Int64 → Prop) (Q : gFG → gFF → Int64 → Prop) (v1 : Int32) (v2 : Int32) (g : gFG) (f : gFF) (w : Int64) : Prop := ∀ x2_168 : Int32, x2_168 = (v2 + 1) → K108 x2_168 g f w
theorem sX12_pourMould_j168 {G : gG} {Rt : Option Value → gSt → Prop} (hE : gInj layM ad ∧ gZok (gA layM ad) Z) (hG : gSim l D cs layM ad Z 4 RX12 cX12_pourMould 4 none G Rt) {Q : gFG → gFF → Int64 → Prop} (hQ : ∀ v S, gMv Q v S → Rt v S) {N : Nat} {K93 : Int32 → gFG → gFF → Int64 → Prop} {K108 : Int32 → gFG → gFF → Int64 → Prop}  {v1 : Int32} {v2 : Int32} {g : gFG} {f : gFF} {w : Int64} (hK93 : ∀ (uv1 : Int32) (ug : gFG) (uf : gFF) (uw : Int64), K93 uv1 ug uf uw → G 93 [some (.ref (ad 0)), some (.int uv1), none, none] [] (ug, uf, uw)) (hK108 : ∀ (uv2 : Int32) (ug : gFG) (uf : gFF) (uw : Int64), K108 uv2 ug uf uw → G 108 [some (.ref (ad 0)), some (.int v1), some (.int uv2), none] [] (ug, uf, uw)) (h : wX12_pourMould_j168 N K93 K108 Q v1 v2 g f w) : G 168 [some (.ref (ad 0)), some (.int v1), some (.int v2), none] [] (g, f, w) := by
  unfold wX12_pourMould_j168 at h
  obtain ⟨x2_168, hx2_168⟩ : ∃ z : Int32, z = (v2 + 1) := ⟨_, rfl⟩
  replace h := h x2_168 hx2_168
  refine s_iinc (n := 171) (v := x2_168) (lv2 := [some (.ref (ad 0)), some (.int v1), some (.int x2_168), none]) hG dX12_pourMould_168 ki_1 rfl hx2_168 rfl rfl rfl ?_
  refine s_goto (tgt := 108) hG dX12_pourMould_171 rfl ?_
  exact s_wk hG (hK108 _ _ _ _ h) ⟨rfl, rfl, rfl, trivial⟩
def wX12_pourMould_l108 (N : Nat) (v1 : Int32) (K93 : Int32 → gFG → gFF → Int64 → Prop) (Q : gFG → gFF → Int64 → Prop) : Nat → Int32 → gFG → gFF → Int64 → Prop
  | 0, _, _, _, _ => False
  | n + 1, v2, g, f, w => (((g 2) ≤ v2) → ∀ x1_174 : Int32, x1_174 = (v1 + 1) → K93 x1_174 g f w) ∧ ((¬ (g 2) ≤ v2) → ∀ x3_122 : Int32, x3_122 = ((12 * v1) + v2) → wX12_isHollow N x3_122 g f w (fun r125 g125 f125 w125 => ((r125 = 0) → wX12_pourMould_j168 N (K93) (wX12_pourMould_l108 N v1 K93 Q n) Q v1 v2 g125 f125 w125) ∧ ((¬ r125 = 0) → (vp_in x3_122 144) ∧ (((¬ (f125 3 x3_122.toNatClampNeg) = 1) → wX12_pourMould_j168 N (K93) (wX12_pourMould_l108 N v1 K93 Q n) Q v1 v2 g125 f125 w125) ∧ (((f125 3 x3_122.toNatClampNeg) = 1) → wX12_has N x3_122 v1 3 g125 f125 w125 (fun r145 g145 f145 w145 => ((¬ r145 = 0) → wX12_pourMould_j168 N (K93) (wX12_pourMould_l108 N v1 K93 Q n) Q v1 v2 g145 f145 w145) ∧ ((r145 = 0) → wX12_has N x3_122 v1 4 g145 f145 w145 (fun r155 g155 f155 w155 => ((¬ r155 = 0) → wX12_pourMould_j168 N (K93) (wX12_pourMould_l108 N v1 K93 Q n) Q v1 v2 g155 f155 w155) ∧ ((r155 = 0) → (vp_in x3_122 144) ∧ (∀ f167 : gFF, f167 = (va_up f155 3 (upd (f155 3) x3_122.toNatClampNeg 3)) → wX12_pourMould_j168 N (K93) (wX12_pourMould_l108 N v1 K93 Q n) Q v1 v2 g155 f167 w155))))))))))
theorem sX12_pourMould_l108 {G : gG} {Rt : Option Value → gSt → Prop} (hE : gInj layM ad ∧ gZok (gA layM ad) Z) (hG : gSim l D cs layM ad Z 4 RX12 cX12_pourMould 4 none G Rt) {Q : gFG → gFF → Int64 → Prop} (hQ : ∀ v S, gMv Q v S → Rt v S) {N : Nat} {v1 : Int32} {K93 : Int32 → gFG → gFF → Int64 → Prop}  (hK93 : ∀ (uv1 : Int32) (ug : gFG) (uf : gFF) (uw : Int64), K93 uv1 ug uf uw → G 93 [some (.ref (ad 0)), some (.int uv1), none, none] [] (ug, uf, uw)) : ∀ (n : Nat) (v2 : Int32) (g : gFG) (f : gFF) (w : Int64), wX12_pourMould_l108 N v1 K93 Q n v2 g f w → G 108 [some (.ref (ad 0)), some (.int v1), some (.int v2), none] [] (g, f, w) := by
  intro n
  induction n with
  | zero => intro _ _ _ _ h; unfold wX12_pourMould_l108 at h; exact h.elim
  | succ n ih =>
    intro v2 g f w h
    unfold wX12_pourMould_l108 at h
    refine s_iload_n (n := 109) hG dX12_pourMould_108 rfl rfl ?_
    refine s_aload_n (n := 110) hG dX12_pourMould_109 rfl rfl ?_
    refine gtX12_7 (n := 113) hG dX12_pourMould_110 rfl ?_
    refine s_icmp_ge (n := 116) (tgt := 174) hG dX12_pourMould_113 rfl rfl (fun c => ?_) (fun c => ?_)
    · replace h := h.1 c
      obtain ⟨x1_174, hx1_174⟩ : ∃ z : Int32, z = (v1 + 1) := ⟨_, rfl⟩
      replace h := h x1_174 hx1_174
      refine s_iinc (n := 177) (v := x1_174) (lv2 := [some (.ref (ad 0)), some (.int x1_174), some (.int v2), none]) hG dX12_pourMould_174 ki_1 rfl hx1_174 rfl rfl rfl ?_
      refine s_goto (tgt := 93) hG dX12_pourMould_177 rfl ?_
      exact s_wk hG (hK93 _ _ _ _ h) ⟨rfl, rfl, trivial⟩
    · replace h := h.2 c
      refine s_bipush (n := 118) hG dX12_pourMould_116 kb_12 rfl ?_
      refine s_iload_n (n := 119) hG dX12_pourMould_118 rfl rfl ?_
      refine s_imul (n := 120) hG dX12_pourMould_119 rfl ?_
      refine s_iload_n (n := 121) hG dX12_pourMould_120 rfl rfl ?_
      refine s_iadd (n := 122) hG dX12_pourMould_121 rfl ?_
      refine s_topi (fun x3_122 hx3_122 => ?_)
      replace h := h x3_122 hx3_122
      refine s_istore_n (n := 123) (lv2 := [some (.ref (ad 0)), some (.int v1), some (.int v2), some (.int x3_122)]) hG dX12_pourMould_122 rfl rfl rfl ?_
      refine s_aload_n (n := 124) hG dX12_pourMould_123 rfl rfl ?_
      refine s_iload_n (n := 125) hG dX12_pourMould_124 rfl rfl ?_
      refine s_callV (n := 128) (st := []) hG (mX12_isHollow hE h) ceX12_isHollow lmX12_133 ⟨by decide, rfl, rfl⟩ rfl ⟨rfl, Nat.le_of_ble_eq_true rfl, by decide⟩ dX12_pourMould_125 rfl ?_
      rintro _ _ ⟨r125, g125, f125, w125, rfl, rfl, h⟩
      refine s_if_eq (n := 131) (tgt := 168) hG dX12_pourMould_128 rfl rfl (fun c => ?_) (fun c => ?_)
      · replace h := h.1 c
        exact s_wk hG (sX12_pourMould_j168 hE hG hQ hK93 ih h) ⟨rfl, rfl, rfl, trivial⟩
      · replace h := h.2 c
        refine s_aload_n (n := 132) hG dX12_pourMould_131 rfl rfl ?_
        refine gtX12_24 (n := 135) hG dX12_pourMould_132 rfl ?_
        refine s_iload_n (n := 136) hG dX12_pourMould_135 rfl rfl ?_
        obtain ⟨hin, h⟩ := h
        refine s_iald (n := 137) hG dX12_pourMould_136 (gaM_3 hin) rfl ?_
        refine s_iconst (n := 138) hG dX12_pourMould_137 ki_1 rfl ?_
        refine s_icmp_ne (n := 141) (tgt := 168) hG dX12_pourMould_138 rfl rfl (fun c => ?_) (fun c => ?_)
        · replace h := h.1 c
          exact s_wk hG (sX12_pourMould_j168 hE hG hQ hK93 ih h) ⟨rfl, rfl, rfl, trivial⟩
        · replace h := h.2 c
          refine s_aload_n (n := 142) hG dX12_pourMould_141 rfl rfl ?_
          refine s_iload_n (n := 143) hG dX12_pourMould_142 rfl rfl ?_
          refine s_iload_n (n := 144) hG dX12_pourMould_143 rfl rfl ?_
          refine s_iconst (n := 145) hG dX12_pourMould_144 ki_3 rfl ?_
          refine s_callV (n := 148) (st := []) hG (mX12_has hE h) ceX12_has lmX12_141 ⟨by decide, rfl, rfl⟩ rfl ⟨rfl, Nat.le_of_ble_eq_true rfl, by decide⟩ dX12_pourMould_145 rfl ?_
          rintro _ _ ⟨r145, g145, f145, w145, rfl, rfl, h⟩
          refine s_if_ne (n := 151) (tgt := 168) hG dX12_pourMould_148 rfl rfl (fun c => ?_) (fun c => ?_)
          · replace h := h.1 c
            exact s_wk hG (sX12_pourMould_j168 hE hG hQ hK93 ih h) ⟨rfl, rfl, rfl, trivial⟩
          · replace h := h.2 c
            refine s_aload_n (n := 152) hG dX12_pourMould_151 rfl rfl ?_
            refine s_iload_n (n := 153) hG dX12_pourMould_152 rfl rfl ?_
            refine s_iload_n (n := 154) hG dX12_pourMould_153 rfl rfl ?_
            refine s_iconst (n := 155) hG dX12_pourMould_154 ki_4 rfl ?_
            refine s_callV (n := 158) (st := []) hG (mX12_has hE h) ceX12_has lmX12_141 ⟨by decide, rfl, rfl⟩ rfl ⟨rfl, Nat.le_of_ble_eq_true rfl, by decide⟩ dX12_pourMould_155 rfl ?_
            rintro _ _ ⟨r155, g155, f155, w155, rfl, rfl, h⟩
            refine s_if_ne (n := 161) (tgt := 168) hG dX12_pourMould_158 rfl rfl (fun c => ?_) (fun c => ?_)
            · replace h := h.1 c
              exact s_wk hG (sX12_pourMould_j168 hE hG hQ hK93 ih h) ⟨rfl, rfl, rfl, trivial⟩
            · replace h := h.2 c
              refine s_aload_n (n := 162) hG dX12_pourMould_161 rfl rfl ?_
              refine gtX12_24 (n := 165) hG dX12_pourMould_162 rfl ?_
              refine s_iload_n (n := 166) hG dX12_pourMould_165 rfl rfl ?_
              refine s_iconst (n := 167) hG dX12_pourMould_166 ki_3 rfl ?_
              obtain ⟨hin, h⟩ := h
              refine s_iast (n := 168) hG dX12_pourMould_167 (gaM_3 hin) rfl ?_
              refine s_nf (fun f167 hf167 => ?_)
              replace h := h f167 hf167
              exact s_wk hG (sX12_pourMould_j168 hE hG hQ hK93 ih h) ⟨rfl, rfl, rfl, trivial⟩
def wX12_pourMould_l93 (N : Nat)   (Q : gFG → gFF → Int64 → Prop) : Nat → Int32 → gFG → gFF → Int64 → Prop
  | 0, _, _, _, _ => False
  | n + 1, v1, g, f, w => (((g 3) ≤ v1) → wX12_pourMould_l182 N  Q N 0 g f w) ∧ ((¬ (g 3) ≤ v1) → wX12_join N v1 g f w (fun g103 f103 w103 => wX12_pourMould_l108 N v1 (wX12_pourMould_l93 N   Q n) Q N 0 g103 f103 w103))
theorem sX12_pourMould_l93 {G : gG} {Rt : Option Value → gSt → Prop} (hE : gInj layM ad ∧ gZok (gA layM ad) Z) (hG : gSim l D cs layM ad Z 4 RX12 cX12_pourMould 4 none G Rt) {Q : gFG → gFF → Int64 → Prop} (hQ : ∀ v S, gMv Q v S → Rt v S) {N : Nat}     : ∀ (n : Nat) (v1 : Int32) (g : gFG) (f : gFF) (w : Int64), wX12_pourMould_l93 N   Q n v1 g f w → G 93 [some (.ref (ad 0)), some (.int v1), none, none] [] (g, f, w) := by
  intro n
  induction n with
  | zero => intro _ _ _ _ h; unfold wX12_pourMould_l93 at h; exact h.elim
  | succ n ih =>
    intro v1 g f w h
    unfold wX12_pourMould_l93 at h
    refine s_iload_n (n := 94) hG dX12_pourMould_93 rfl rfl ?_
    refine s_aload_n (n := 95) hG dX12_pourMould_94 rfl rfl ?_
    refine gtX12_13 (n := 98) hG dX12_pourMould_95 rfl ?_
    refine s_icmp_ge (n := 101) (tgt := 180) hG dX12_pourMould_98 rfl rfl (fun c => ?_) (fun c => ?_)
    · replace h := h.1 c
      refine s_iconst (n := 181) hG dX12_pourMould_180 ki_0 rfl ?_
      refine s_istore_n (n := 182) (lv2 := [some (.ref (ad 0)), some (.int 0), none, none]) hG dX12_pourMould_181 rfl rfl rfl ?_
      exact s_wk hG (sX12_pourMould_l182 hE hG hQ  N _ _ _ _ h) ⟨rfl, rfl, trivial⟩
    · replace h := h.2 c
      refine s_aload_n (n := 102) hG dX12_pourMould_101 rfl rfl ?_
      refine s_iload_n (n := 103) hG dX12_pourMould_102 rfl rfl ?_
      refine s_callV (n := 106) (st := []) hG (mX12_join hE h) ceX12_join lmX12_137 ⟨by decide, rfl, rfl⟩ rfl ⟨rfl, Nat.le_of_ble_eq_true rfl, by decide⟩ dX12_pourMould_103 rfl ?_
      rintro _ _ ⟨g103, f103, w103, rfl, rfl, h⟩
      refine s_iconst (n := 107) hG dX12_pourMould_106 ki_0 rfl ?_
      refine s_istore_n (n := 108) (lv2 := [some (.ref (ad 0)), some (.int v1), some (.int 0), none]) hG dX12_pourMould_107 rfl rfl rfl ?_
      exact s_wk hG (sX12_pourMould_l108 hE hG hQ ih N _ _ _ _ h) ⟨rfl, rfl, rfl, trivial⟩
def wX12_pourMould_j78 (N : Nat) (K7 : Int32 → gFG → gFF → Int64 → Prop) (K17 : Int32 → gFG → gFF → Int64 → Prop) (Q : gFG → gFF → Int64 → Prop) (v1 : Int32) (v2 : Int32) (t0 : Int32) (t1 : Int32) (g : gFG) (f : gFF) (w : Int64) : Prop := (vp_in t1 144) ∧ (∀ f78 : gFF, f78 = (va_up f 3 (upd (f 3) t1.toNatClampNeg t0)) → ∀ x2_79 : Int32, x2_79 = (v2 + 1) → K17 x2_79 g f78 w)
theorem sX12_pourMould_j78 {G : gG} {Rt : Option Value → gSt → Prop} (hE : gInj layM ad ∧ gZok (gA layM ad) Z) (hG : gSim l D cs layM ad Z 4 RX12 cX12_pourMould 4 none G Rt) {Q : gFG → gFF → Int64 → Prop} (hQ : ∀ v S, gMv Q v S → Rt v S) {N : Nat} {K7 : Int32 → gFG → gFF → Int64 → Prop} {K17 : Int32 → gFG → gFF → Int64 → Prop}  {v1 : Int32} {v2 : Int32} {t0 : Int32} {t1 : Int32} {g : gFG} {f : gFF} {w : Int64} (hK7 : ∀ (uv1 : Int32) (ug : gFG) (uf : gFF) (uw : Int64), K7 uv1 ug uf uw → G 7 [some (.ref (ad 0)), some (.int uv1), none, none] [] (ug, uf, uw)) (hK17 : ∀ (uv2 : Int32) (ug : gFG) (uf : gFF) (uw : Int64), K17 uv2 ug uf uw → G 17 [some (.ref (ad 0)), some (.int v1), some (.int uv2), none] [] (ug, uf, uw)) (h : wX12_pourMould_j78 N K7 K17 Q v1 v2 t0 t1 g f w) : G 78 [some (.ref (ad 0)), some (.int v1), some (.int v2), none] [.int t0, .int t1, .ref (ad 3)] (g, f, w) := by
  unfold wX12_pourMould_j78 at h
  obtain ⟨hin, h⟩ := h
  refine s_iast (n := 79) hG dX12_pourMould_78 (gaM_3 hin) rfl ?_
  refine s_nf (fun f78 hf78 => ?_)
  replace h := h f78 hf78
  obtain ⟨x2_79, hx2_79⟩ : ∃ z : Int32, z = (v2 + 1) := ⟨_, rfl⟩
  replace h := h x2_79 hx2_79
  refine s_iinc (n := 82) (v := x2_79) (lv2 := [some (.ref (ad 0)), some (.int v1), some (.int x2_79), none]) hG dX12_pourMould_79 ki_1 rfl hx2_79 rfl rfl rfl ?_
  refine s_goto (tgt := 17) hG dX12_pourMould_82 rfl ?_
  exact s_wk hG (hK17 _ _ _ _ h) ⟨rfl, rfl, rfl, trivial⟩
def wX12_pourMould_l17 (N : Nat) (v1 : Int32) (K7 : Int32 → gFG → gFF → Int64 → Prop) (Q : gFG → gFF → Int64 → Prop) : Nat → Int32 → gFG → gFF → Int64 → Prop
  | 0, _, _, _, _ => False
  | n + 1, v2, g, f, w => (((g 2) ≤ v2) → ∀ x1_85 : Int32, x1_85 = (v1 + 1) → K7 x1_85 g f w) ∧ ((¬ (g 2) ≤ v2) → ∀ x3_31 : Int32, x3_31 = ((12 * v1) + v2) → (vp_in x3_31 144) ∧ (((¬ (f 1 x3_31.toNatClampNeg) = 2) → wX12_isHollow N x3_31 g f w (fun r53 g53 f53 w53 => ((¬ r53 = 0) → wX12_has N x3_31 0 3 g53 f53 w53 (fun r67 g67 f67 w67 => ((r67 = 0) → wX12_pourMould_j78 N (K7) (wX12_pourMould_l17 N v1 K7 Q n) Q v1 v2 2 x3_31 g67 f67 w67) ∧ ((¬ r67 = 0) → wX12_pourMould_j78 N (K7) (wX12_pourMould_l17 N v1 K7 Q n) Q v1 v2 1 x3_31 g67 f67 w67))) ∧ ((r53 = 0) → wX12_pourMould_j78 N (K7) (wX12_pourMould_l17 N v1 K7 Q n) Q v1 v2 0 x3_31 g53 f53 w53))) ∧ (((f 1 x3_31.toNatClampNeg) = 2) → wX12_pourMould_j78 N (K7) (wX12_pourMould_l17 N v1 K7 Q n) Q v1 v2 1 x3_31 g f w)))
theorem sX12_pourMould_l17 {G : gG} {Rt : Option Value → gSt → Prop} (hE : gInj layM ad ∧ gZok (gA layM ad) Z) (hG : gSim l D cs layM ad Z 4 RX12 cX12_pourMould 4 none G Rt) {Q : gFG → gFF → Int64 → Prop} (hQ : ∀ v S, gMv Q v S → Rt v S) {N : Nat} {v1 : Int32} {K7 : Int32 → gFG → gFF → Int64 → Prop}  (hK7 : ∀ (uv1 : Int32) (ug : gFG) (uf : gFF) (uw : Int64), K7 uv1 ug uf uw → G 7 [some (.ref (ad 0)), some (.int uv1), none, none] [] (ug, uf, uw)) : ∀ (n : Nat) (v2 : Int32) (g : gFG) (f : gFF) (w : Int64), wX12_pourMould_l17 N v1 K7 Q n v2 g f w → G 17 [some (.ref (ad 0)), some (.int v1), some (.int v2), none] [] (g, f, w) := by
  intro n
  induction n with
  | zero => intro _ _ _ _ h; unfold wX12_pourMould_l17 at h; exact h.elim
  | succ n ih =>
    intro v2 g f w h
    unfold wX12_pourMould_l17 at h
    refine s_iload_n (n := 18) hG dX12_pourMould_17 rfl rfl ?_
    refine s_aload_n (n := 19) hG dX12_pourMould_18 rfl rfl ?_
    refine gtX12_7 (n := 22) hG dX12_pourMould_19 rfl ?_
    refine s_icmp_ge (n := 25) (tgt := 85) hG dX12_pourMould_22 rfl rfl (fun c => ?_) (fun c => ?_)
    · replace h := h.1 c
      obtain ⟨x1_85, hx1_85⟩ : ∃ z : Int32, z = (v1 + 1) := ⟨_, rfl⟩
      replace h := h x1_85 hx1_85
      refine s_iinc (n := 88) (v := x1_85) (lv2 := [some (.ref (ad 0)), some (.int x1_85), some (.int v2), none]) hG dX12_pourMould_85 ki_1 rfl hx1_85 rfl rfl rfl ?_
      refine s_goto (tgt := 7) hG dX12_pourMould_88 rfl ?_
      exact s_wk hG (hK7 _ _ _ _ h) ⟨rfl, rfl, trivial⟩
    · replace h := h.2 c
      refine s_bipush (n := 27) hG dX12_pourMould_25 kb_12 rfl ?_
      refine s_iload_n (n := 28) hG dX12_pourMould_27 rfl rfl ?_
      refine s_imul (n := 29) hG dX12_pourMould_28 rfl ?_
      refine s_iload_n (n := 30) hG dX12_pourMould_29 rfl rfl ?_
      refine s_iadd (n := 31) hG dX12_pourMould_30 rfl ?_
      refine s_topi (fun x3_31 hx3_31 => ?_)
      replace h := h x3_31 hx3_31
      refine s_istore_n (n := 32) (lv2 := [some (.ref (ad 0)), some (.int v1), some (.int v2), some (.int x3_31)]) hG dX12_pourMould_31 rfl rfl rfl ?_
      refine s_aload_n (n := 33) hG dX12_pourMould_32 rfl rfl ?_
      refine gtX12_24 (n := 36) hG dX12_pourMould_33 rfl ?_
      refine s_iload_n (n := 37) hG dX12_pourMould_36 rfl rfl ?_
      refine s_aload_n (n := 38) hG dX12_pourMould_37 rfl rfl ?_
      refine gtX12_16 (n := 41) hG dX12_pourMould_38 rfl ?_
      refine s_iload_n (n := 42) hG dX12_pourMould_41 rfl rfl ?_
      obtain ⟨hin, h⟩ := h
      refine s_iald (n := 43) hG dX12_pourMould_42 (gaM_1 hin) rfl ?_
      refine s_iconst (n := 44) hG dX12_pourMould_43 ki_2 rfl ?_
      refine s_icmp_ne (n := 47) (tgt := 51) hG dX12_pourMould_44 rfl rfl (fun c => ?_) (fun c => ?_)
      · replace h := h.1 c
        refine s_aload_n (n := 52) hG dX12_pourMould_51 rfl rfl ?_
        refine s_iload_n (n := 53) hG dX12_pourMould_52 rfl rfl ?_
        refine s_callV (n := 56) (st := [.int x3_31, .ref (ad 3)]) hG (mX12_isHollow hE h) ceX12_isHollow lmX12_133 ⟨by decide, rfl, rfl⟩ rfl ⟨rfl, Nat.le_of_ble_eq_true rfl, by decide⟩ dX12_pourMould_53 rfl ?_
        rintro _ _ ⟨r53, g53, f53, w53, rfl, rfl, h⟩
        refine s_if_ne (n := 59) (tgt := 63) hG dX12_pourMould_56 rfl rfl (fun c => ?_) (fun c => ?_)
        · replace h := h.1 c
          refine s_aload_n (n := 64) hG dX12_pourMould_63 rfl rfl ?_
          refine s_iload_n (n := 65) hG dX12_pourMould_64 rfl rfl ?_
          refine s_iconst (n := 66) hG dX12_pourMould_65 ki_0 rfl ?_
          refine s_iconst (n := 67) hG dX12_pourMould_66 ki_3 rfl ?_
          refine s_callV (n := 70) (st := [.int x3_31, .ref (ad 3)]) hG (mX12_has hE h) ceX12_has lmX12_141 ⟨by decide, rfl, rfl⟩ rfl ⟨rfl, Nat.le_of_ble_eq_true rfl, by decide⟩ dX12_pourMould_67 rfl ?_
          rintro _ _ ⟨r67, g67, f67, w67, rfl, rfl, h⟩
          refine s_if_eq (n := 73) (tgt := 77) hG dX12_pourMould_70 rfl rfl (fun c => ?_) (fun c => ?_)
          · replace h := h.1 c
            refine s_iconst (n := 78) hG dX12_pourMould_77 ki_2 rfl ?_
            exact s_wk hG (sX12_pourMould_j78 hE hG hQ hK7 ih h) ⟨rfl, rfl, rfl, trivial⟩
          · replace h := h.2 c
            refine s_iconst (n := 74) hG dX12_pourMould_73 ki_1 rfl ?_
            refine s_goto (tgt := 78) hG dX12_pourMould_74 rfl ?_
            exact s_wk hG (sX12_pourMould_j78 hE hG hQ hK7 ih h) ⟨rfl, rfl, rfl, trivial⟩
        · replace h := h.2 c
          refine s_iconst (n := 60) hG dX12_pourMould_59 ki_0 rfl ?_
          refine s_goto (tgt := 78) hG dX12_pourMould_60 rfl ?_
          exact s_wk hG (sX12_pourMould_j78 hE hG hQ hK7 ih h) ⟨rfl, rfl, rfl, trivial⟩
      · replace h := h.2 c
        refine s_iconst (n := 48) hG dX12_pourMould_47 ki_1 rfl ?_
        refine s_goto (tgt := 78) hG dX12_pourMould_48 rfl ?_
        exact s_wk hG (sX12_pourMould_j78 hE hG hQ hK7 ih h) ⟨rfl, rfl, rfl, trivial⟩
def wX12_pourMould_l7 (N : Nat)   (Q : gFG → gFF → Int64 → Prop) : Nat → Int32 → gFG → gFF → Int64 → Prop
  | 0, _, _, _, _ => False
  | n + 1, v1, g, f, w => (((g 3) ≤ v1) → wX12_pourMould_l93 N  Q N 0 g f w) ∧ ((¬ (g 3) ≤ v1) → wX12_pourMould_l17 N v1 (wX12_pourMould_l7 N   Q n) Q N 0 g f w)
theorem sX12_pourMould_l7 {G : gG} {Rt : Option Value → gSt → Prop} (hE : gInj layM ad ∧ gZok (gA layM ad) Z) (hG : gSim l D cs layM ad Z 4 RX12 cX12_pourMould 4 none G Rt) {Q : gFG → gFF → Int64 → Prop} (hQ : ∀ v S, gMv Q v S → Rt v S) {N : Nat}     : ∀ (n : Nat) (v1 : Int32) (g : gFG) (f : gFF) (w : Int64), wX12_pourMould_l7 N   Q n v1 g f w → G 7 [some (.ref (ad 0)), some (.int v1), none, none] [] (g, f, w) := by
  intro n
  induction n with
  | zero => intro _ _ _ _ h; unfold wX12_pourMould_l7 at h; exact h.elim
  | succ n ih =>
    intro v1 g f w h
    unfold wX12_pourMould_l7 at h
    refine s_iload_n (n := 8) hG dX12_pourMould_7 rfl rfl ?_
    refine s_aload_n (n := 9) hG dX12_pourMould_8 rfl rfl ?_
    refine gtX12_13 (n := 12) hG dX12_pourMould_9 rfl ?_
    refine s_icmp_ge (n := 15) (tgt := 91) hG dX12_pourMould_12 rfl rfl (fun c => ?_) (fun c => ?_)
    · replace h := h.1 c
      refine s_iconst (n := 92) hG dX12_pourMould_91 ki_0 rfl ?_
      refine s_istore_n (n := 93) (lv2 := [some (.ref (ad 0)), some (.int 0), none, none]) hG dX12_pourMould_92 rfl rfl rfl ?_
      exact s_wk hG (sX12_pourMould_l93 hE hG hQ  N _ _ _ _ h) ⟨rfl, rfl, trivial⟩
    · replace h := h.2 c
      refine s_iconst (n := 16) hG dX12_pourMould_15 ki_0 rfl ?_
      refine s_istore_n (n := 17) (lv2 := [some (.ref (ad 0)), some (.int v1), some (.int 0), none]) hG dX12_pourMould_16 rfl rfl rfl ?_
      exact s_wk hG (sX12_pourMould_l17 hE hG hQ ih N _ _ _ _ h) ⟨rfl, rfl, rfl, trivial⟩
def wX12_pourMould (N : Nat)  (g : gFG) (f : gFF) (w : Int64) (Q : gFG → gFF → Int64 → Prop) : Prop := wX12_join N 0 g f w (fun g2 f2 w2 => wX12_pourMould_l7 N  Q N 0 g2 f2 w2)
theorem mX12_pourMould (hE : gInj layM ad ∧ gZok (gA layM ad) Z) {N : Nat}  {g : gFG} {f : gFF} {w : Int64} {Q : gFG → gFF → Int64 → Prop} (h : wX12_pourMould N  g f w Q) : gCT l D cs layM ad Z 4 yX12_pourMould cX12_pourMould 4 none [.ref (ad 0)] (g, f, w) (gMv Q) := by
  refine met_walk (lv0 := [some (.ref (ad 0)), none, none, none]) hE (by decide) (Nat.le_of_ble_eq_true rfl) rfl (fun G Rt hG hQ => ?_)
  replace hG : gSim l D cs layM ad Z 4 RX12 cX12_pourMould 4 none G Rt := hG
  unfold wX12_pourMould at h
  refine s_aload_n (n := 1) hG dX12_pourMould_0 rfl rfl ?_
  refine s_iconst (n := 2) hG dX12_pourMould_1 ki_0 rfl ?_
  refine s_callV (n := 5) (st := []) hG (mX12_join hE h) ceX12_join lmX12_137 ⟨by decide, rfl, rfl⟩ rfl ⟨rfl, Nat.le_of_ble_eq_true rfl, by decide⟩ dX12_pourMould_2 rfl ?_
  rintro _ _ ⟨g2, f2, w2, rfl, rfl, h⟩
  refine s_iconst (n := 6) hG dX12_pourMould_5 ki_0 rfl ?_
  refine s_istore_n (n := 7) (lv2 := [some (.ref (ad 0)), some (.int 0), none, none]) hG dX12_pourMould_6 rfl rfl rfl ?_
  exact s_wk hG (sX12_pourMould_l7 hE hG hQ  N _ _ _ _ h) ⟨rfl, rfl, trivial⟩
def wX12_isCast_j39 (N : Nat)  (Q : Int32 → gFG → gFF → Int64 → Prop)  (g : gFG) (f : gFF) (w : Int64) : Prop := Q 1 g f w
theorem sX12_isCast_j39 {G : gG} {Rt : Option Value → gSt → Prop} (hE : gInj layM ad ∧ gZok (gA layM ad) Z) (hG : gSim l D cs layM ad Z 3 RX12 cX12_isCast 3 (some .boolean) G Rt) {Q : Int32 → gFG → gFF → Int64 → Prop} (hQ : ∀ v S, gMi Q v S → Rt v S) {N : Nat}    {g : gFG} {f : gFF} {w : Int64}  (h : wX12_isCast_j39 N  Q  g f w) : G 39 [none, none, none] [] (g, f, w) := by
  unfold wX12_isCast_j39 at h
  refine s_iconst (n := 40) hG dX12_isCast_39 ki_1 rfl ?_
  refine s_goto (tgt := 44) hG dX12_isCast_40 rfl ?_
  exact s_zret hG dX12_isCast_44 (gz_n gz_1) (hQ _ _ ⟨_, _, _, _, rfl, rfl, h⟩)
def wX12_isCast (N : Nat) (a1 : Int32) (a2 : Int32) (g : gFG) (f : gFF) (w : Int64) (Q : Int32 → gFG → gFF → Int64 → Prop) : Prop := wX12_isCell N a1 a2 g f w (fun r3 g3 f3 w3 => ((r3 = 0) → Q 0 g3 f3 w3) ∧ ((¬ r3 = 0) → ∀ i19 : Int32, i19 = ((12 * a2) + a1) → (vp_in i19 144) ∧ ((((f3 3 i19.toNatClampNeg) = 1) → wX12_isCast_j39 N  Q g3 f3 w3) ∧ ((¬ (f3 3 i19.toNatClampNeg) = 1) → ∀ i34 : Int32, i34 = ((12 * a2) + a1) → (vp_in i34 144) ∧ (((¬ (f3 3 i34.toNatClampNeg) = 5) → Q 0 g3 f3 w3) ∧ (((f3 3 i34.toNatClampNeg) = 5) → wX12_isCast_j39 N  Q g3 f3 w3))))))
theorem mX12_isCast (hE : gInj layM ad ∧ gZok (gA layM ad) Z) {N : Nat} {a1 : Int32} {a2 : Int32} {g : gFG} {f : gFF} {w : Int64} {Q : Int32 → gFG → gFF → Int64 → Prop} (h : wX12_isCast N a1 a2 g f w Q) : gCT l D cs layM ad Z 3 yX12_isCast cX12_isCast 3 (some .boolean) [.ref (ad 0), .int a1, .int a2] (g, f, w) (gMi Q) := by
  refine met_walk (lv0 := [some (.ref (ad 0)), some (.int a1), some (.int a2)]) hE (by decide) (Nat.le_of_ble_eq_true rfl) rfl (fun G Rt hG hQ => ?_)
  replace hG : gSim l D cs layM ad Z 3 RX12 cX12_isCast 3 (some .boolean) G Rt := hG
  unfold wX12_isCast at h
  refine s_aload_n (n := 1) hG dX12_isCast_0 rfl rfl ?_
  refine s_iload_n (n := 2) hG dX12_isCast_1 rfl rfl ?_
  refine s_iload_n (n := 3) hG dX12_isCast_2 rfl rfl ?_
  refine s_callV (n := 6) (st := []) hG (mX12_isCell hE h) ceX12_isCell lmX12_126 ⟨by decide, rfl, rfl⟩ rfl ⟨rfl, Nat.le_of_ble_eq_true rfl, by decide⟩ dX12_isCast_3 rfl ?_
  rintro _ _ ⟨r3, g3, f3, w3, rfl, rfl, h⟩
  refine s_if_eq (n := 9) (tgt := 43) hG dX12_isCast_6 rfl rfl (fun c => ?_) (fun c => ?_)
  · replace h := h.1 c
    refine s_iconst (n := 44) hG dX12_isCast_43 ki_0 rfl ?_
    exact s_zret hG dX12_isCast_44 (gz_n gz_0) (hQ _ _ ⟨_, _, _, _, rfl, rfl, h⟩)
  · replace h := h.2 c
    refine s_aload_n (n := 10) hG dX12_isCast_9 rfl rfl ?_
    refine gtX12_24 (n := 13) hG dX12_isCast_10 rfl ?_
    refine s_bipush (n := 15) hG dX12_isCast_13 kb_12 rfl ?_
    refine s_iload_n (n := 16) hG dX12_isCast_15 rfl rfl ?_
    refine s_imul (n := 17) hG dX12_isCast_16 rfl ?_
    refine s_iload_n (n := 18) hG dX12_isCast_17 rfl rfl ?_
    refine s_iadd (n := 19) hG dX12_isCast_18 rfl ?_
    refine s_topi (fun i19 hi19 => ?_)
    replace h := h i19 hi19
    obtain ⟨hin, h⟩ := h
    refine s_iald (n := 20) hG dX12_isCast_19 (gaM_3 hin) rfl ?_
    refine s_iconst (n := 21) hG dX12_isCast_20 ki_1 rfl ?_
    refine s_icmp_eq (n := 24) (tgt := 39) hG dX12_isCast_21 rfl rfl (fun c => ?_) (fun c => ?_)
    · replace h := h.1 c
      exact s_wk hG (sX12_isCast_j39 hE hG hQ  h) trivial
    · replace h := h.2 c
      refine s_aload_n (n := 25) hG dX12_isCast_24 rfl rfl ?_
      refine gtX12_24 (n := 28) hG dX12_isCast_25 rfl ?_
      refine s_bipush (n := 30) hG dX12_isCast_28 kb_12 rfl ?_
      refine s_iload_n (n := 31) hG dX12_isCast_30 rfl rfl ?_
      refine s_imul (n := 32) hG dX12_isCast_31 rfl ?_
      refine s_iload_n (n := 33) hG dX12_isCast_32 rfl rfl ?_
      refine s_iadd (n := 34) hG dX12_isCast_33 rfl ?_
      refine s_topi (fun i34 hi34 => ?_)
      replace h := h i34 hi34
      obtain ⟨hin, h⟩ := h
      refine s_iald (n := 35) hG dX12_isCast_34 (gaM_3 hin) rfl ?_
      refine s_iconst (n := 36) hG dX12_isCast_35 ki_5 rfl ?_
      refine s_icmp_ne (n := 39) (tgt := 43) hG dX12_isCast_36 rfl rfl (fun c => ?_) (fun c => ?_)
      · replace h := h.1 c
        refine s_iconst (n := 44) hG dX12_isCast_43 ki_0 rfl ?_
        exact s_zret hG dX12_isCast_44 (gz_n gz_0) (hQ _ _ ⟨_, _, _, _, rfl, rfl, h⟩)
      · replace h := h.2 c
        exact s_wk hG (sX12_isCast_j39 hE hG hQ  h) trivial
def wX12_cell (N : Nat) (a1 : Int32) (a2 : Int32) (a3 : Int32) (g : gFG) (f : gFF) (w : Int64) (Q : Int32 → gFG → gFF → Int64 → Prop) : Prop := ∀ g2 : gFG, g2 = (va_up g 0 0) → wX12_isCell N a1 a2 g2 f w (fun r8 g8 f8 w8 => ((r8 = 0) → Q (-1) g8 f8 w8) ∧ ((¬ r8 = 0) → wX12_in N a3.toInt64 0 1 g8 f8 w8 (fun r18 g18 f18 w18 => ((¬ r18 = 0) → wX12_pourMould N g18 f18 w18 (fun g27 f27 w27 => ((¬ a3 = 0) → ∀ i58 : Int32, i58 = ((12 * a2) + a1) → (vp_in i58 144) ∧ (Q (f27 3 i58.toNatClampNeg) g27 f27 w27)) ∧ ((a3 = 0) → ∀ i44 : Int32, i44 = ((12 * a2) + a1) → (vp_in i44 144) ∧ (Q (f27 1 i44.toNatClampNeg) g27 f27 w27)))) ∧ ((r18 = 0) → Q (-1) g18 f18 w18))))
theorem mX12_cell (hE : gInj layM ad ∧ gZok (gA layM ad) Z) {N : Nat} {a1 : Int32} {a2 : Int32} {a3 : Int32} {g : gFG} {f : gFF} {w : Int64} {Q : Int32 → gFG → gFF → Int64 → Prop} (h : wX12_cell N a1 a2 a3 g f w Q) : gCT l D cs layM ad Z 5 yX12_cell cX12_cell 4 (some .int) [.ref (ad 0), .int a1, .int a2, .int a3] (g, f, w) (gMi Q) := by
  refine met_walk (lv0 := [some (.ref (ad 0)), some (.int a1), some (.int a2), some (.int a3)]) hE (by decide) (Nat.le_of_ble_eq_true rfl) rfl (fun G Rt hG hQ => ?_)
  replace hG : gSim l D cs layM ad Z 5 RX12 cX12_cell 4 (some .int) G Rt := hG
  unfold wX12_cell at h
  refine s_aload_n (n := 1) hG dX12_cell_0 rfl rfl ?_
  refine s_iconst (n := 2) hG dX12_cell_1 ki_0 rfl ?_
  refine ptX12_96 (n := 5) hG dX12_cell_2 rfl ?_
  refine s_ng (fun g2 hg2 => ?_)
  replace h := h g2 hg2
  refine s_aload_n (n := 6) hG dX12_cell_5 rfl rfl ?_
  refine s_iload_n (n := 7) hG dX12_cell_6 rfl rfl ?_
  refine s_iload_n (n := 8) hG dX12_cell_7 rfl rfl ?_
  refine s_callV (n := 11) (st := []) hG (mX12_isCell hE h) ceX12_isCell lmX12_126 ⟨by decide, rfl, rfl⟩ rfl ⟨rfl, Nat.le_of_ble_eq_true rfl, by decide⟩ dX12_cell_8 rfl ?_
  rintro _ _ ⟨r8, g8, f8, w8, rfl, rfl, h⟩
  refine s_if_eq (n := 14) (tgt := 24) hG dX12_cell_11 rfl rfl (fun c => ?_) (fun c => ?_)
  · replace h := h.1 c
    refine s_iconst (n := 25) hG dX12_cell_24 ki_m1 rfl ?_
    exact s_iret hG dX12_cell_25 (hQ _ _ ⟨_, _, _, _, rfl, rfl, h⟩)
  · replace h := h.2 c
    refine s_iload_n (n := 15) hG dX12_cell_14 rfl rfl ?_
    refine s_i2l (n := 16) hG dX12_cell_15 rfl ?_
    refine s_lconst (n := 17) hG dX12_cell_16 kl_0 rfl ?_
    refine s_lconst (n := 18) hG dX12_cell_17 kl_1 rfl ?_
    refine s_callS (n := 21) (st := []) hG (mX12_in hE h) ceX12_in lmX12_102 rfl ⟨rfl, Nat.le_of_ble_eq_true rfl, by decide⟩ dX12_cell_18 rfl ?_
    rintro _ _ ⟨r18, g18, f18, w18, rfl, rfl, h⟩
    refine s_if_ne (n := 24) (tgt := 26) hG dX12_cell_21 rfl rfl (fun c => ?_) (fun c => ?_)
    · replace h := h.1 c
      refine s_aload_n (n := 27) hG dX12_cell_26 rfl rfl ?_
      refine s_callV (n := 30) (st := []) hG (mX12_pourMould hE h) ceX12_pourMould lmX12_145 ⟨by decide, rfl, rfl⟩ rfl ⟨rfl, Nat.le_of_ble_eq_true rfl, by decide⟩ dX12_cell_27 rfl ?_
      rintro _ _ ⟨g27, f27, w27, rfl, rfl, h⟩
      refine s_iload_n (n := 31) hG dX12_cell_30 rfl rfl ?_
      refine s_if_ne (n := 34) (tgt := 48) hG dX12_cell_31 rfl rfl (fun c => ?_) (fun c => ?_)
      · replace h := h.1 c
        refine s_aload_n (n := 49) hG dX12_cell_48 rfl rfl ?_
        refine gtX12_24 (n := 52) hG dX12_cell_49 rfl ?_
        refine s_bipush (n := 54) hG dX12_cell_52 kb_12 rfl ?_
        refine s_iload_n (n := 55) hG dX12_cell_54 rfl rfl ?_
        refine s_imul (n := 56) hG dX12_cell_55 rfl ?_
        refine s_iload_n (n := 57) hG dX12_cell_56 rfl rfl ?_
        refine s_iadd (n := 58) hG dX12_cell_57 rfl ?_
        refine s_topi (fun i58 hi58 => ?_)
        replace h := h i58 hi58
        obtain ⟨hin, h⟩ := h
        refine s_iald (n := 59) hG dX12_cell_58 (gaM_3 hin) rfl ?_
        exact s_iret hG dX12_cell_59 (hQ _ _ ⟨_, _, _, _, rfl, rfl, h⟩)
      · replace h := h.2 c
        refine s_aload_n (n := 35) hG dX12_cell_34 rfl rfl ?_
        refine gtX12_16 (n := 38) hG dX12_cell_35 rfl ?_
        refine s_bipush (n := 40) hG dX12_cell_38 kb_12 rfl ?_
        refine s_iload_n (n := 41) hG dX12_cell_40 rfl rfl ?_
        refine s_imul (n := 42) hG dX12_cell_41 rfl ?_
        refine s_iload_n (n := 43) hG dX12_cell_42 rfl rfl ?_
        refine s_iadd (n := 44) hG dX12_cell_43 rfl ?_
        refine s_topi (fun i44 hi44 => ?_)
        replace h := h i44 hi44
        obtain ⟨hin, h⟩ := h
        refine s_iald (n := 45) hG dX12_cell_44 (gaM_1 hin) rfl ?_
        refine s_goto (tgt := 59) hG dX12_cell_45 rfl ?_
        exact s_iret hG dX12_cell_59 (hQ _ _ ⟨_, _, _, _, rfl, rfl, h⟩)
    · replace h := h.2 c
      refine s_iconst (n := 25) hG dX12_cell_24 ki_m1 rfl ?_
      exact s_iret hG dX12_cell_25 (hQ _ _ ⟨_, _, _, _, rfl, rfl, h⟩)
def wX12_repair_j103 (N : Nat)  (Q : Int32 → gFG → gFF → Int64 → Prop)  (g : gFG) (f : gFF) (w : Int64) : Prop := wX12_told N (-3) g f w (fun r106 g106 f106 w106 => Q r106 g106 f106 w106)
theorem sX12_repair_j103 {G : gG} {Rt : Option Value → gSt → Prop} (hE : gInj layM ad ∧ gZok (gA layM ad) Z) (hG : gSim l D cs layM ad Z 5 RX12 cX12_repair 5 (some .int) G Rt) {Q : Int32 → gFG → gFF → Int64 → Prop} (hQ : ∀ v S, gMi Q v S → Rt v S) {N : Nat}    {g : gFG} {f : gFF} {w : Int64}  (h : wX12_repair_j103 N  Q  g f w) : G 103 [some (.ref (ad 0)), none, none, none, none] [] (g, f, w) := by
  unfold wX12_repair_j103 at h
  refine s_aload_n (n := 104) hG dX12_repair_103 rfl rfl ?_
  refine s_bipush (n := 106) hG dX12_repair_104 kb_m3 rfl ?_
  refine s_callV (n := 109) (st := []) hG (mX12_told hE h) ceX12_told lmX12_113 ⟨by decide, rfl, rfl⟩ rfl ⟨rfl, Nat.le_of_ble_eq_true rfl, by decide⟩ dX12_repair_106 rfl ?_
  rintro _ _ ⟨r106, g106, f106, w106, rfl, rfl, h⟩
  exact s_iret hG dX12_repair_109 (hQ _ _ ⟨_, _, _, _, rfl, rfl, h⟩)
def wX12_repair_j98 (N : Nat)  (Q : Int32 → gFG → gFF → Int64 → Prop) (v1 : Int32) (v2 : Int32) (v4 : Int32) (g : gFG) (f : gFF) (w : Int64) : Prop := ((¬ v4 = 0) → ∀ i121 : Int32, i121 = ((12 * v2) + v1) → (vp_in i121 144) ∧ (∀ f121 : gFF, f121 = (va_up f 2 (upd (f 2) i121.toNatClampNeg 1)) → ∀ y129 : Int32, y129 = ((g 6) + 1) → ∀ g129 : gFG, g129 = (va_up g 6 y129) → wX12_told N (g129 6) g129 f121 w (fun r137 g137 f137 w137 => Q r137 g137 f137 w137))) ∧ ((v4 = 0) → wX12_repair_j103 N  Q g f w)
theorem sX12_repair_j98 {G : gG} {Rt : Option Value → gSt → Prop} (hE : gInj layM ad ∧ gZok (gA layM ad) Z) (hG : gSim l D cs layM ad Z 5 RX12 cX12_repair 5 (some .int) G Rt) {Q : Int32 → gFG → gFF → Int64 → Prop} (hQ : ∀ v S, gMi Q v S → Rt v S) {N : Nat}   {v1 : Int32} {v2 : Int32} {v4 : Int32} {g : gFG} {f : gFF} {w : Int64}  (h : wX12_repair_j98 N  Q v1 v2 v4 g f w) : G 98 [some (.ref (ad 0)), some (.int v1), some (.int v2), none, some (.int v4)] [] (g, f, w) := by
  unfold wX12_repair_j98 at h
  refine s_iload (n := 100) hG dX12_repair_98 rfl rfl ?_
  refine s_if_ne (n := 103) (tgt := 110) hG dX12_repair_100 rfl rfl (fun c => ?_) (fun c => ?_)
  · replace h := h.1 c
    refine s_aload_n (n := 111) hG dX12_repair_110 rfl rfl ?_
    refine gtX12_20 (n := 114) hG dX12_repair_111 rfl ?_
    refine s_bipush (n := 116) hG dX12_repair_114 kb_12 rfl ?_
    refine s_iload_n (n := 117) hG dX12_repair_116 rfl rfl ?_
    refine s_imul (n := 118) hG dX12_repair_117 rfl ?_
    refine s_iload_n (n := 119) hG dX12_repair_118 rfl rfl ?_
    refine s_iadd (n := 120) hG dX12_repair_119 rfl ?_
    refine s_iconst (n := 121) hG dX12_repair_120 ki_1 rfl ?_
    refine s_topi2 (fun i121 hi121 => ?_)
    replace h := h i121 hi121
    obtain ⟨hin, h⟩ := h
    refine s_zast (n := 122) hG dX12_repair_121 (gaM_2 hin) (gz_v gz_1) rfl ?_
    refine s_nf (fun f121 hf121 => ?_)
    replace h := h f121 hf121
    refine s_aload_n (n := 123) hG dX12_repair_122 rfl rfl ?_
    refine s_dup (n := 124) hG dX12_repair_123 rfl rfl ?_
    refine gtX12_106 (n := 127) hG dX12_repair_124 rfl ?_
    refine s_iconst (n := 128) hG dX12_repair_127 ki_1 rfl ?_
    refine s_iadd (n := 129) hG dX12_repair_128 rfl ?_
    refine s_topi (fun y129 hy129 => ?_)
    replace h := h y129 hy129
    refine ptX12_106 (n := 132) hG dX12_repair_129 rfl ?_
    refine s_ng (fun g129 hg129 => ?_)
    replace h := h g129 hg129
    refine s_aload_n (n := 133) hG dX12_repair_132 rfl rfl ?_
    refine s_aload_n (n := 134) hG dX12_repair_133 rfl rfl ?_
    refine gtX12_106 (n := 137) hG dX12_repair_134 rfl ?_
    refine s_callV (n := 140) (st := []) hG (mX12_told hE h) ceX12_told lmX12_113 ⟨by decide, rfl, rfl⟩ rfl ⟨rfl, Nat.le_of_ble_eq_true rfl, by decide⟩ dX12_repair_137 rfl ?_
    rintro _ _ ⟨r137, g137, f137, w137, rfl, rfl, h⟩
    exact s_iret hG dX12_repair_140 (hQ _ _ ⟨_, _, _, _, rfl, rfl, h⟩)
  · replace h := h.2 c
    exact s_wk hG (sX12_repair_j103 hE hG hQ  h) ⟨rfl, trivial⟩
def wX12_repair_j86 (N : Nat)  (Q : Int32 → gFG → gFF → Int64 → Prop) (v1 : Int32) (v2 : Int32) (v3 : Int32) (t0 : Int32) (g : gFG) (f : gFF) (w : Int64) : Prop := ((v3 = 2) → wX12_repair_j98 N  Q v1 v2 t0 g f w) ∧ ((¬ v3 = 2) → ((¬ v3 = 3) → wX12_repair_j103 N  Q g f w) ∧ ((v3 = 3) → wX12_repair_j98 N  Q v1 v2 t0 g f w))
theorem sX12_repair_j86 {G : gG} {Rt : Option Value → gSt → Prop} (hE : gInj layM ad ∧ gZok (gA layM ad) Z) (hG : gSim l D cs layM ad Z 5 RX12 cX12_repair 5 (some .int) G Rt) {Q : Int32 → gFG → gFF → Int64 → Prop} (hQ : ∀ v S, gMi Q v S → Rt v S) {N : Nat}   {v1 : Int32} {v2 : Int32} {v3 : Int32} {t0 : Int32} {g : gFG} {f : gFF} {w : Int64}  (h : wX12_repair_j86 N  Q v1 v2 v3 t0 g f w) : G 86 [some (.ref (ad 0)), some (.int v1), some (.int v2), some (.int v3), none] [.int t0] (g, f, w) := by
  unfold wX12_repair_j86 at h
  refine s_istore (n := 88) (lv2 := [some (.ref (ad 0)), some (.int v1), some (.int v2), some (.int v3), some (.int t0)]) hG dX12_repair_86 rfl rfl rfl ?_
  refine s_iload_n (n := 89) hG dX12_repair_88 rfl rfl ?_
  refine s_iconst (n := 90) hG dX12_repair_89 ki_2 rfl ?_
  refine s_icmp_eq (n := 93) (tgt := 98) hG dX12_repair_90 rfl rfl (fun c => ?_) (fun c => ?_)
  · replace h := h.1 c
    exact s_wk hG (sX12_repair_j98 hE hG hQ  h) ⟨rfl, rfl, rfl, rfl, trivial⟩
  · replace h := h.2 c
    refine s_iload_n (n := 94) hG dX12_repair_93 rfl rfl ?_
    refine s_iconst (n := 95) hG dX12_repair_94 ki_3 rfl ?_
    refine s_icmp_ne (n := 98) (tgt := 103) hG dX12_repair_95 rfl rfl (fun c => ?_) (fun c => ?_)
    · replace h := h.1 c
      exact s_wk hG (sX12_repair_j103 hE hG hQ  h) ⟨rfl, trivial⟩
    · replace h := h.2 c
      exact s_wk hG (sX12_repair_j98 hE hG hQ  h) ⟨rfl, rfl, rfl, rfl, trivial⟩
def wX12_repair_j81 (N : Nat)  (Q : Int32 → gFG → gFF → Int64 → Prop) (v1 : Int32) (v2 : Int32) (v3 : Int32) (g : gFG) (f : gFF) (w : Int64) : Prop := wX12_repair_j86 N  Q v1 v2 v3 1 g f w
theorem sX12_repair_j81 {G : gG} {Rt : Option Value → gSt → Prop} (hE : gInj layM ad ∧ gZok (gA layM ad) Z) (hG : gSim l D cs layM ad Z 5 RX12 cX12_repair 5 (some .int) G Rt) {Q : Int32 → gFG → gFF → Int64 → Prop} (hQ : ∀ v S, gMi Q v S → Rt v S) {N : Nat}   {v1 : Int32} {v2 : Int32} {v3 : Int32} {g : gFG} {f : gFF} {w : Int64}  (h : wX12_repair_j81 N  Q v1 v2 v3 g f w) : G 81 [some (.ref (ad 0)), some (.int v1), some (.int v2), some (.int v3), none] [] (g, f, w) := by
  unfold wX12_repair_j81 at h
  refine s_iconst (n := 82) hG dX12_repair_81 ki_1 rfl ?_
  refine s_goto (tgt := 86) hG dX12_repair_82 rfl ?_
  exact s_wk hG (sX12_repair_j86 hE hG hQ  h) ⟨rfl, rfl, rfl, rfl, trivial⟩
def wX12_repair (N : Nat) (a1 : Int32) (a2 : Int32) (g : gFG) (f : gFF) (w : Int64) (Q : Int32 → gFG → gFF → Int64 → Prop) : Prop := ∀ g2 : gFG, g2 = (va_up g 0 0) → wX12_isCell N a1 a2 g2 f w (fun r8 g8 f8 w8 => ((¬ r8 = 0) → wX12_pourMould N g8 f8 w8 (fun g22 f22 w22 => ∀ i35 : Int32, i35 = ((12 * a2) + a1) → (vp_in i35 144) ∧ (∀ x3_36 : Int32, x3_36 = (f22 3 i35.toNatClampNeg) → wX12_isCast N (a1 - 1) a2 g22 f22 w22 (fun r42 g42 f42 w42 => ((¬ r42 = 0) → wX12_repair_j81 N  Q a1 a2 x3_36 g42 f42 w42) ∧ ((r42 = 0) → wX12_isCast N (a1 + 1) a2 g42 f42 w42 (fun r53 g53 f53 w53 => ((¬ r53 = 0) → wX12_repair_j81 N  Q a1 a2 x3_36 g53 f53 w53) ∧ ((r53 = 0) → wX12_isCast N a1 (a2 - 1) g53 f53 w53 (fun r64 g64 f64 w64 => ((¬ r64 = 0) → wX12_repair_j81 N  Q a1 a2 x3_36 g64 f64 w64) ∧ ((r64 = 0) → wX12_isCast N a1 (a2 + 1) g64 f64 w64 (fun r75 g75 f75 w75 => ((r75 = 0) → wX12_repair_j86 N  Q a1 a2 x3_36 0 g75 f75 w75) ∧ ((¬ r75 = 0) → wX12_repair_j81 N  Q a1 a2 x3_36 g75 f75 w75))))))))))) ∧ ((r8 = 0) → wX12_told N (-2) g8 f8 w8 (fun r17 g17 f17 w17 => Q r17 g17 f17 w17)))
theorem mX12_repair (hE : gInj layM ad ∧ gZok (gA layM ad) Z) {N : Nat} {a1 : Int32} {a2 : Int32} {g : gFG} {f : gFF} {w : Int64} {Q : Int32 → gFG → gFF → Int64 → Prop} (h : wX12_repair N a1 a2 g f w Q) : gCT l D cs layM ad Z 5 yX12_repair cX12_repair 5 (some .int) [.ref (ad 0), .int a1, .int a2] (g, f, w) (gMi Q) := by
  refine met_walk (lv0 := [some (.ref (ad 0)), some (.int a1), some (.int a2), none, none]) hE (by decide) (Nat.le_of_ble_eq_true rfl) rfl (fun G Rt hG hQ => ?_)
  replace hG : gSim l D cs layM ad Z 5 RX12 cX12_repair 5 (some .int) G Rt := hG
  unfold wX12_repair at h
  refine s_aload_n (n := 1) hG dX12_repair_0 rfl rfl ?_
  refine s_iconst (n := 2) hG dX12_repair_1 ki_0 rfl ?_
  refine ptX12_96 (n := 5) hG dX12_repair_2 rfl ?_
  refine s_ng (fun g2 hg2 => ?_)
  replace h := h g2 hg2
  refine s_aload_n (n := 6) hG dX12_repair_5 rfl rfl ?_
  refine s_iload_n (n := 7) hG dX12_repair_6 rfl rfl ?_
  refine s_iload_n (n := 8) hG dX12_repair_7 rfl rfl ?_
  refine s_callV (n := 11) (st := []) hG (mX12_isCell hE h) ceX12_isCell lmX12_126 ⟨by decide, rfl, rfl⟩ rfl ⟨rfl, Nat.le_of_ble_eq_true rfl, by decide⟩ dX12_repair_8 rfl ?_
  rintro _ _ ⟨r8, g8, f8, w8, rfl, rfl, h⟩
  refine s_if_ne (n := 14) (tgt := 21) hG dX12_repair_11 rfl rfl (fun c => ?_) (fun c => ?_)
  · replace h := h.1 c
    refine s_aload_n (n := 22) hG dX12_repair_21 rfl rfl ?_
    refine s_callV (n := 25) (st := []) hG (mX12_pourMould hE h) ceX12_pourMould lmX12_145 ⟨by decide, rfl, rfl⟩ rfl ⟨rfl, Nat.le_of_ble_eq_true rfl, by decide⟩ dX12_repair_22 rfl ?_
    rintro _ _ ⟨g22, f22, w22, rfl, rfl, h⟩
    refine s_aload_n (n := 26) hG dX12_repair_25 rfl rfl ?_
    refine gtX12_24 (n := 29) hG dX12_repair_26 rfl ?_
    refine s_bipush (n := 31) hG dX12_repair_29 kb_12 rfl ?_
    refine s_iload_n (n := 32) hG dX12_repair_31 rfl rfl ?_
    refine s_imul (n := 33) hG dX12_repair_32 rfl ?_
    refine s_iload_n (n := 34) hG dX12_repair_33 rfl rfl ?_
    refine s_iadd (n := 35) hG dX12_repair_34 rfl ?_
    refine s_topi (fun i35 hi35 => ?_)
    replace h := h i35 hi35
    obtain ⟨hin, h⟩ := h
    refine s_iald (n := 36) hG dX12_repair_35 (gaM_3 hin) rfl ?_
    refine s_topi (fun x3_36 hx3_36 => ?_)
    replace h := h x3_36 hx3_36
    refine s_istore_n (n := 37) (lv2 := [some (.ref (ad 0)), some (.int a1), some (.int a2), some (.int x3_36), none]) hG dX12_repair_36 rfl rfl rfl ?_
    refine s_aload_n (n := 38) hG dX12_repair_37 rfl rfl ?_
    refine s_iload_n (n := 39) hG dX12_repair_38 rfl rfl ?_
    refine s_iconst (n := 40) hG dX12_repair_39 ki_1 rfl ?_
    refine s_isub (n := 41) hG dX12_repair_40 rfl ?_
    refine s_iload_n (n := 42) hG dX12_repair_41 rfl rfl ?_
    refine s_callV (n := 45) (st := []) hG (mX12_isCast hE h) ceX12_isCast lmX12_148 ⟨by decide, rfl, rfl⟩ rfl ⟨rfl, Nat.le_of_ble_eq_true rfl, by decide⟩ dX12_repair_42 rfl ?_
    rintro _ _ ⟨r42, g42, f42, w42, rfl, rfl, h⟩
    refine s_if_ne (n := 48) (tgt := 81) hG dX12_repair_45 rfl rfl (fun c => ?_) (fun c => ?_)
    · replace h := h.1 c
      exact s_wk hG (sX12_repair_j81 hE hG hQ  h) ⟨rfl, rfl, rfl, rfl, trivial⟩
    · replace h := h.2 c
      refine s_aload_n (n := 49) hG dX12_repair_48 rfl rfl ?_
      refine s_iload_n (n := 50) hG dX12_repair_49 rfl rfl ?_
      refine s_iconst (n := 51) hG dX12_repair_50 ki_1 rfl ?_
      refine s_iadd (n := 52) hG dX12_repair_51 rfl ?_
      refine s_iload_n (n := 53) hG dX12_repair_52 rfl rfl ?_
      refine s_callV (n := 56) (st := []) hG (mX12_isCast hE h) ceX12_isCast lmX12_148 ⟨by decide, rfl, rfl⟩ rfl ⟨rfl, Nat.le_of_ble_eq_true rfl, by decide⟩ dX12_repair_53 rfl ?_
      rintro _ _ ⟨r53, g53, f53, w53, rfl, rfl, h⟩
      refine s_if_ne (n := 59) (tgt := 81) hG dX12_repair_56 rfl rfl (fun c => ?_) (fun c => ?_)
      · replace h := h.1 c
        exact s_wk hG (sX12_repair_j81 hE hG hQ  h) ⟨rfl, rfl, rfl, rfl, trivial⟩
      · replace h := h.2 c
        refine s_aload_n (n := 60) hG dX12_repair_59 rfl rfl ?_
        refine s_iload_n (n := 61) hG dX12_repair_60 rfl rfl ?_
        refine s_iload_n (n := 62) hG dX12_repair_61 rfl rfl ?_
        refine s_iconst (n := 63) hG dX12_repair_62 ki_1 rfl ?_
        refine s_isub (n := 64) hG dX12_repair_63 rfl ?_
        refine s_callV (n := 67) (st := []) hG (mX12_isCast hE h) ceX12_isCast lmX12_148 ⟨by decide, rfl, rfl⟩ rfl ⟨rfl, Nat.le_of_ble_eq_true rfl, by decide⟩ dX12_repair_64 rfl ?_
        rintro _ _ ⟨r64, g64, f64, w64, rfl, rfl, h⟩
        refine s_if_ne (n := 70) (tgt := 81) hG dX12_repair_67 rfl rfl (fun c => ?_) (fun c => ?_)
        · replace h := h.1 c
          exact s_wk hG (sX12_repair_j81 hE hG hQ  h) ⟨rfl, rfl, rfl, rfl, trivial⟩
        · replace h := h.2 c
          refine s_aload_n (n := 71) hG dX12_repair_70 rfl rfl ?_
          refine s_iload_n (n := 72) hG dX12_repair_71 rfl rfl ?_
          refine s_iload_n (n := 73) hG dX12_repair_72 rfl rfl ?_
          refine s_iconst (n := 74) hG dX12_repair_73 ki_1 rfl ?_
          refine s_iadd (n := 75) hG dX12_repair_74 rfl ?_
          refine s_callV (n := 78) (st := []) hG (mX12_isCast hE h) ceX12_isCast lmX12_148 ⟨by decide, rfl, rfl⟩ rfl ⟨rfl, Nat.le_of_ble_eq_true rfl, by decide⟩ dX12_repair_75 rfl ?_
          rintro _ _ ⟨r75, g75, f75, w75, rfl, rfl, h⟩
          refine s_if_eq (n := 81) (tgt := 85) hG dX12_repair_78 rfl rfl (fun c => ?_) (fun c => ?_)
          · replace h := h.1 c
            refine s_iconst (n := 86) hG dX12_repair_85 ki_0 rfl ?_
            exact s_wk hG (sX12_repair_j86 hE hG hQ  h) ⟨rfl, rfl, rfl, rfl, trivial⟩
          · replace h := h.2 c
            exact s_wk hG (sX12_repair_j81 hE hG hQ  h) ⟨rfl, rfl, rfl, rfl, trivial⟩
  · replace h := h.2 c
    refine s_aload_n (n := 15) hG dX12_repair_14 rfl rfl ?_
    refine s_bipush (n := 17) hG dX12_repair_15 kb_m2 rfl ?_
    refine s_callV (n := 20) (st := []) hG (mX12_told hE h) ceX12_told lmX12_113 ⟨by decide, rfl, rfl⟩ rfl ⟨rfl, Nat.le_of_ble_eq_true rfl, by decide⟩ dX12_repair_17 rfl ?_
    rintro _ _ ⟨r17, g17, f17, w17, rfl, rfl, h⟩
    exact s_iret hG dX12_repair_20 (hQ _ _ ⟨_, _, _, _, rfl, rfl, h⟩)
def wX12_wallAt_l82 (N : Nat) (v1 : Int32) (v3 : Int32)  (Q : Int32 → gFG → gFF → Int64 → Prop) : Nat → Int32 → Int32 → gFG → gFF → Int64 → Prop
  | 0, _, _, _, _, _ => False
  | n + 1, v4, v5, g, f, w => wX12_isCast N v1 v5 g f w (fun r86 g86 f86 w86 => ((r86 = 0) → ((v4 ≤ v3) → Q v4 g86 f86 w86) ∧ ((¬ v4 ≤ v3) → Q v3 g86 f86 w86)) ∧ ((¬ r86 = 0) → ∀ x4_92 : Int32, x4_92 = (v4 + 1) → ∀ x5_95 : Int32, x5_95 = (v5 + 1) → wX12_wallAt_l82 N v1 v3  Q n x4_92 x5_95 g86 f86 w86))
theorem sX12_wallAt_l82 {G : gG} {Rt : Option Value → gSt → Prop} (hE : gInj layM ad ∧ gZok (gA layM ad) Z) (hG : gSim l D cs layM ad Z 4 RX12 cX12_wallAt 6 (some .int) G Rt) {Q : Int32 → gFG → gFF → Int64 → Prop} (hQ : ∀ v S, gMi Q v S → Rt v S) {N : Nat} {v1 : Int32} {v3 : Int32}    : ∀ (n : Nat) (v4 : Int32) (v5 : Int32) (g : gFG) (f : gFF) (w : Int64), wX12_wallAt_l82 N v1 v3  Q n v4 v5 g f w → G 82 [some (.ref (ad 0)), some (.int v1), none, some (.int v3), some (.int v4), some (.int v5)] [] (g, f, w) := by
  intro n
  induction n with
  | zero => intro _ _ _ _ _ h; unfold wX12_wallAt_l82 at h; exact h.elim
  | succ n ih =>
    intro v4 v5 g f w h
    unfold wX12_wallAt_l82 at h
    refine s_aload_n (n := 83) hG dX12_wallAt_82 rfl rfl ?_
    refine s_iload_n (n := 84) hG dX12_wallAt_83 rfl rfl ?_
    refine s_iload (n := 86) hG dX12_wallAt_84 rfl rfl ?_
    refine s_callV (n := 89) (st := []) hG (mX12_isCast hE h) ceX12_isCast lmX12_148 ⟨by decide, rfl, rfl⟩ rfl ⟨rfl, Nat.le_of_ble_eq_true rfl, by decide⟩ dX12_wallAt_86 rfl ?_
    rintro _ _ ⟨r86, g86, f86, w86, rfl, rfl, h⟩
    refine s_if_eq (n := 92) (tgt := 101) hG dX12_wallAt_89 rfl rfl (fun c => ?_) (fun c => ?_)
    · replace h := h.1 c
      refine s_iload_n (n := 102) hG dX12_wallAt_101 rfl rfl ?_
      refine s_iload (n := 104) hG dX12_wallAt_102 rfl rfl ?_
      refine s_icmp_ge (n := 107) (tgt := 111) hG dX12_wallAt_104 rfl rfl (fun c => ?_) (fun c => ?_)
      · replace h := h.1 c
        refine s_iload (n := 113) hG dX12_wallAt_111 rfl rfl ?_
        exact s_iret hG dX12_wallAt_113 (hQ _ _ ⟨_, _, _, _, rfl, rfl, h⟩)
      · replace h := h.2 c
        refine s_iload_n (n := 108) hG dX12_wallAt_107 rfl rfl ?_
        refine s_goto (tgt := 113) hG dX12_wallAt_108 rfl ?_
        exact s_iret hG dX12_wallAt_113 (hQ _ _ ⟨_, _, _, _, rfl, rfl, h⟩)
    · replace h := h.2 c
      obtain ⟨x4_92, hx4_92⟩ : ∃ z : Int32, z = (v4 + 1) := ⟨_, rfl⟩
      replace h := h x4_92 hx4_92
      refine s_iinc (n := 95) (v := x4_92) (lv2 := [some (.ref (ad 0)), some (.int v1), none, some (.int v3), some (.int x4_92), some (.int v5)]) hG dX12_wallAt_92 ki_1 rfl hx4_92 rfl rfl rfl ?_
      obtain ⟨x5_95, hx5_95⟩ : ∃ z : Int32, z = (v5 + 1) := ⟨_, rfl⟩
      replace h := h x5_95 hx5_95
      refine s_iinc (n := 98) (v := x5_95) (lv2 := [some (.ref (ad 0)), some (.int v1), none, some (.int v3), some (.int x4_92), some (.int x5_95)]) hG dX12_wallAt_95 ki_1 rfl hx5_95 rfl rfl rfl ?_
      refine s_goto (tgt := 82) hG dX12_wallAt_98 rfl ?_
      exact s_wk hG (ih _ _ _ _ _ h) ⟨rfl, rfl, rfl, rfl, rfl, trivial⟩
def wX12_wallAt_l58 (N : Nat) (v1 : Int32) (v2 : Int32) (v3 : Int32)  (Q : Int32 → gFG → gFF → Int64 → Prop) : Nat → Int32 → Int32 → gFG → gFF → Int64 → Prop
  | 0, _, _, _, _, _ => False
  | n + 1, v4, v5, g, f, w => wX12_isCast N v1 v5 g f w (fun r62 g62 f62 w62 => ((r62 = 0) → ∀ x5_80 : Int32, x5_80 = (v2 + 1) → wX12_wallAt_l82 N v1 v3 Q N v4 x5_80 g62 f62 w62) ∧ ((¬ r62 = 0) → ∀ x4_68 : Int32, x4_68 = (v4 + 1) → ∀ x5_71 : Int32, x5_71 = (v5 + (-1)) → wX12_wallAt_l58 N v1 v2 v3  Q n x4_68 x5_71 g62 f62 w62))
theorem sX12_wallAt_l58 {G : gG} {Rt : Option Value → gSt → Prop} (hE : gInj layM ad ∧ gZok (gA layM ad) Z) (hG : gSim l D cs layM ad Z 4 RX12 cX12_wallAt 6 (some .int) G Rt) {Q : Int32 → gFG → gFF → Int64 → Prop} (hQ : ∀ v S, gMi Q v S → Rt v S) {N : Nat} {v1 : Int32} {v2 : Int32} {v3 : Int32}    : ∀ (n : Nat) (v4 : Int32) (v5 : Int32) (g : gFG) (f : gFF) (w : Int64), wX12_wallAt_l58 N v1 v2 v3  Q n v4 v5 g f w → G 58 [some (.ref (ad 0)), some (.int v1), some (.int v2), some (.int v3), some (.int v4), some (.int v5)] [] (g, f, w) := by
  intro n
  induction n with
  | zero => intro _ _ _ _ _ h; unfold wX12_wallAt_l58 at h; exact h.elim
  | succ n ih =>
    intro v4 v5 g f w h
    unfold wX12_wallAt_l58 at h
    refine s_aload_n (n := 59) hG dX12_wallAt_58 rfl rfl ?_
    refine s_iload_n (n := 60) hG dX12_wallAt_59 rfl rfl ?_
    refine s_iload (n := 62) hG dX12_wallAt_60 rfl rfl ?_
    refine s_callV (n := 65) (st := []) hG (mX12_isCast hE h) ceX12_isCast lmX12_148 ⟨by decide, rfl, rfl⟩ rfl ⟨rfl, Nat.le_of_ble_eq_true rfl, by decide⟩ dX12_wallAt_62 rfl ?_
    rintro _ _ ⟨r62, g62, f62, w62, rfl, rfl, h⟩
    refine s_if_eq (n := 68) (tgt := 77) hG dX12_wallAt_65 rfl rfl (fun c => ?_) (fun c => ?_)
    · replace h := h.1 c
      refine s_iload_n (n := 78) hG dX12_wallAt_77 rfl rfl ?_
      refine s_iconst (n := 79) hG dX12_wallAt_78 ki_1 rfl ?_
      refine s_iadd (n := 80) hG dX12_wallAt_79 rfl ?_
      refine s_topi (fun x5_80 hx5_80 => ?_)
      replace h := h x5_80 hx5_80
      refine s_istore (n := 82) (lv2 := [some (.ref (ad 0)), some (.int v1), some (.int v2), some (.int v3), some (.int v4), some (.int x5_80)]) hG dX12_wallAt_80 rfl rfl rfl ?_
      exact s_wk hG (sX12_wallAt_l82 hE hG hQ  N _ _ _ _ _ h) ⟨rfl, rfl, rfl, rfl, rfl, trivial⟩
    · replace h := h.2 c
      obtain ⟨x4_68, hx4_68⟩ : ∃ z : Int32, z = (v4 + 1) := ⟨_, rfl⟩
      replace h := h x4_68 hx4_68
      refine s_iinc (n := 71) (v := x4_68) (lv2 := [some (.ref (ad 0)), some (.int v1), some (.int v2), some (.int v3), some (.int x4_68), some (.int v5)]) hG dX12_wallAt_68 ki_1 rfl hx4_68 rfl rfl rfl ?_
      obtain ⟨x5_71, hx5_71⟩ : ∃ z : Int32, z = (v5 + (-1)) := ⟨_, rfl⟩
      replace h := h x5_71 hx5_71
      refine s_iinc (n := 74) (v := x5_71) (lv2 := [some (.ref (ad 0)), some (.int v1), some (.int v2), some (.int v3), some (.int x4_68), some (.int x5_71)]) hG dX12_wallAt_71 ki_m1 rfl hx5_71 rfl rfl rfl ?_
      refine s_goto (tgt := 58) hG dX12_wallAt_74 rfl ?_
      exact s_wk hG (ih _ _ _ _ _ h) ⟨rfl, rfl, rfl, rfl, rfl, rfl, trivial⟩
def wX12_wallAt_l31 (N : Nat) (v1 : Int32) (v2 : Int32)  (Q : Int32 → gFG → gFF → Int64 → Prop) : Nat → Int32 → Int32 → gFG → gFF → Int64 → Prop
  | 0, _, _, _, _, _ => False
  | n + 1, v3, v4, g, f, w => wX12_isCast N v4 v2 g f w (fun r35 g35 f35 w35 => ((r35 = 0) → ∀ x5_56 : Int32, x5_56 = (v2 - 1) → wX12_wallAt_l58 N v1 v2 v3 Q N 1 x5_56 g35 f35 w35) ∧ ((¬ r35 = 0) → ∀ x3_41 : Int32, x3_41 = (v3 + 1) → ∀ x4_44 : Int32, x4_44 = (v4 + 1) → wX12_wallAt_l31 N v1 v2  Q n x3_41 x4_44 g35 f35 w35))
theorem sX12_wallAt_l31 {G : gG} {Rt : Option Value → gSt → Prop} (hE : gInj layM ad ∧ gZok (gA layM ad) Z) (hG : gSim l D cs layM ad Z 4 RX12 cX12_wallAt 6 (some .int) G Rt) {Q : Int32 → gFG → gFF → Int64 → Prop} (hQ : ∀ v S, gMi Q v S → Rt v S) {N : Nat} {v1 : Int32} {v2 : Int32}    : ∀ (n : Nat) (v3 : Int32) (v4 : Int32) (g : gFG) (f : gFF) (w : Int64), wX12_wallAt_l31 N v1 v2  Q n v3 v4 g f w → G 31 [some (.ref (ad 0)), some (.int v1), some (.int v2), some (.int v3), some (.int v4), none] [] (g, f, w) := by
  intro n
  induction n with
  | zero => intro _ _ _ _ _ h; unfold wX12_wallAt_l31 at h; exact h.elim
  | succ n ih =>
    intro v3 v4 g f w h
    unfold wX12_wallAt_l31 at h
    refine s_aload_n (n := 32) hG dX12_wallAt_31 rfl rfl ?_
    refine s_iload (n := 34) hG dX12_wallAt_32 rfl rfl ?_
    refine s_iload_n (n := 35) hG dX12_wallAt_34 rfl rfl ?_
    refine s_callV (n := 38) (st := []) hG (mX12_isCast hE h) ceX12_isCast lmX12_148 ⟨by decide, rfl, rfl⟩ rfl ⟨rfl, Nat.le_of_ble_eq_true rfl, by decide⟩ dX12_wallAt_35 rfl ?_
    rintro _ _ ⟨r35, g35, f35, w35, rfl, rfl, h⟩
    refine s_if_eq (n := 41) (tgt := 50) hG dX12_wallAt_38 rfl rfl (fun c => ?_) (fun c => ?_)
    · replace h := h.1 c
      refine s_iconst (n := 51) hG dX12_wallAt_50 ki_1 rfl ?_
      refine s_istore (n := 53) (lv2 := [some (.ref (ad 0)), some (.int v1), some (.int v2), some (.int v3), some (.int 1), none]) hG dX12_wallAt_51 rfl rfl rfl ?_
      refine s_iload_n (n := 54) hG dX12_wallAt_53 rfl rfl ?_
      refine s_iconst (n := 55) hG dX12_wallAt_54 ki_1 rfl ?_
      refine s_isub (n := 56) hG dX12_wallAt_55 rfl ?_
      refine s_topi (fun x5_56 hx5_56 => ?_)
      replace h := h x5_56 hx5_56
      refine s_istore (n := 58) (lv2 := [some (.ref (ad 0)), some (.int v1), some (.int v2), some (.int v3), some (.int 1), some (.int x5_56)]) hG dX12_wallAt_56 rfl rfl rfl ?_
      exact s_wk hG (sX12_wallAt_l58 hE hG hQ  N _ _ _ _ _ h) ⟨rfl, rfl, rfl, rfl, rfl, rfl, trivial⟩
    · replace h := h.2 c
      obtain ⟨x3_41, hx3_41⟩ : ∃ z : Int32, z = (v3 + 1) := ⟨_, rfl⟩
      replace h := h x3_41 hx3_41
      refine s_iinc (n := 44) (v := x3_41) (lv2 := [some (.ref (ad 0)), some (.int v1), some (.int v2), some (.int x3_41), some (.int v4), none]) hG dX12_wallAt_41 ki_1 rfl hx3_41 rfl rfl rfl ?_
      obtain ⟨x4_44, hx4_44⟩ : ∃ z : Int32, z = (v4 + 1) := ⟨_, rfl⟩
      replace h := h x4_44 hx4_44
      refine s_iinc (n := 47) (v := x4_44) (lv2 := [some (.ref (ad 0)), some (.int v1), some (.int v2), some (.int x3_41), some (.int x4_44), none]) hG dX12_wallAt_44 ki_1 rfl hx4_44 rfl rfl rfl ?_
      refine s_goto (tgt := 31) hG dX12_wallAt_47 rfl ?_
      exact s_wk hG (ih _ _ _ _ _ h) ⟨rfl, rfl, rfl, rfl, rfl, trivial⟩
def wX12_wallAt_l7 (N : Nat) (v1 : Int32) (v2 : Int32)  (Q : Int32 → gFG → gFF → Int64 → Prop) : Nat → Int32 → Int32 → gFG → gFF → Int64 → Prop
  | 0, _, _, _, _, _ => False
  | n + 1, v3, v4, g, f, w => wX12_isCast N v4 v2 g f w (fun r11 g11 f11 w11 => ((r11 = 0) → ∀ x4_29 : Int32, x4_29 = (v1 + 1) → wX12_wallAt_l31 N v1 v2 Q N v3 x4_29 g11 f11 w11) ∧ ((¬ r11 = 0) → ∀ x3_17 : Int32, x3_17 = (v3 + 1) → ∀ x4_20 : Int32, x4_20 = (v4 + (-1)) → wX12_wallAt_l7 N v1 v2  Q n x3_17 x4_20 g11 f11 w11))
theorem sX12_wallAt_l7 {G : gG} {Rt : Option Value → gSt → Prop} (hE : gInj layM ad ∧ gZok (gA layM ad) Z) (hG : gSim l D cs layM ad Z 4 RX12 cX12_wallAt 6 (some .int) G Rt) {Q : Int32 → gFG → gFF → Int64 → Prop} (hQ : ∀ v S, gMi Q v S → Rt v S) {N : Nat} {v1 : Int32} {v2 : Int32}    : ∀ (n : Nat) (v3 : Int32) (v4 : Int32) (g : gFG) (f : gFF) (w : Int64), wX12_wallAt_l7 N v1 v2  Q n v3 v4 g f w → G 7 [some (.ref (ad 0)), some (.int v1), some (.int v2), some (.int v3), some (.int v4), none] [] (g, f, w) := by
  intro n
  induction n with
  | zero => intro _ _ _ _ _ h; unfold wX12_wallAt_l7 at h; exact h.elim
  | succ n ih =>
    intro v3 v4 g f w h
    unfold wX12_wallAt_l7 at h
    refine s_aload_n (n := 8) hG dX12_wallAt_7 rfl rfl ?_
    refine s_iload (n := 10) hG dX12_wallAt_8 rfl rfl ?_
    refine s_iload_n (n := 11) hG dX12_wallAt_10 rfl rfl ?_
    refine s_callV (n := 14) (st := []) hG (mX12_isCast hE h) ceX12_isCast lmX12_148 ⟨by decide, rfl, rfl⟩ rfl ⟨rfl, Nat.le_of_ble_eq_true rfl, by decide⟩ dX12_wallAt_11 rfl ?_
    rintro _ _ ⟨r11, g11, f11, w11, rfl, rfl, h⟩
    refine s_if_eq (n := 17) (tgt := 26) hG dX12_wallAt_14 rfl rfl (fun c => ?_) (fun c => ?_)
    · replace h := h.1 c
      refine s_iload_n (n := 27) hG dX12_wallAt_26 rfl rfl ?_
      refine s_iconst (n := 28) hG dX12_wallAt_27 ki_1 rfl ?_
      refine s_iadd (n := 29) hG dX12_wallAt_28 rfl ?_
      refine s_topi (fun x4_29 hx4_29 => ?_)
      replace h := h x4_29 hx4_29
      refine s_istore (n := 31) (lv2 := [some (.ref (ad 0)), some (.int v1), some (.int v2), some (.int v3), some (.int x4_29), none]) hG dX12_wallAt_29 rfl rfl rfl ?_
      exact s_wk hG (sX12_wallAt_l31 hE hG hQ  N _ _ _ _ _ h) ⟨rfl, rfl, rfl, rfl, rfl, trivial⟩
    · replace h := h.2 c
      obtain ⟨x3_17, hx3_17⟩ : ∃ z : Int32, z = (v3 + 1) := ⟨_, rfl⟩
      replace h := h x3_17 hx3_17
      refine s_iinc (n := 20) (v := x3_17) (lv2 := [some (.ref (ad 0)), some (.int v1), some (.int v2), some (.int x3_17), some (.int v4), none]) hG dX12_wallAt_17 ki_1 rfl hx3_17 rfl rfl rfl ?_
      obtain ⟨x4_20, hx4_20⟩ : ∃ z : Int32, z = (v4 + (-1)) := ⟨_, rfl⟩
      replace h := h x4_20 hx4_20
      refine s_iinc (n := 23) (v := x4_20) (lv2 := [some (.ref (ad 0)), some (.int v1), some (.int v2), some (.int x3_17), some (.int x4_20), none]) hG dX12_wallAt_20 ki_m1 rfl hx4_20 rfl rfl rfl ?_
      refine s_goto (tgt := 7) hG dX12_wallAt_23 rfl ?_
      exact s_wk hG (ih _ _ _ _ _ h) ⟨rfl, rfl, rfl, rfl, rfl, trivial⟩
def wX12_wallAt (N : Nat) (a1 : Int32) (a2 : Int32) (g : gFG) (f : gFF) (w : Int64) (Q : Int32 → gFG → gFF → Int64 → Prop) : Prop := ∀ x4_5 : Int32, x4_5 = (a1 - 1) → wX12_wallAt_l7 N a1 a2 Q N 1 x4_5 g f w
theorem mX12_wallAt (hE : gInj layM ad ∧ gZok (gA layM ad) Z) {N : Nat} {a1 : Int32} {a2 : Int32} {g : gFG} {f : gFF} {w : Int64} {Q : Int32 → gFG → gFF → Int64 → Prop} (h : wX12_wallAt N a1 a2 g f w Q) : gCT l D cs layM ad Z 4 yX12_wallAt cX12_wallAt 6 (some .int) [.ref (ad 0), .int a1, .int a2] (g, f, w) (gMi Q) := by
  refine met_walk (lv0 := [some (.ref (ad 0)), some (.int a1), some (.int a2), none, none, none]) hE (by decide) (Nat.le_of_ble_eq_true rfl) rfl (fun G Rt hG hQ => ?_)
  replace hG : gSim l D cs layM ad Z 4 RX12 cX12_wallAt 6 (some .int) G Rt := hG
  unfold wX12_wallAt at h
  refine s_iconst (n := 1) hG dX12_wallAt_0 ki_1 rfl ?_
  refine s_istore_n (n := 2) (lv2 := [some (.ref (ad 0)), some (.int a1), some (.int a2), some (.int 1), none, none]) hG dX12_wallAt_1 rfl rfl rfl ?_
  refine s_iload_n (n := 3) hG dX12_wallAt_2 rfl rfl ?_
  refine s_iconst (n := 4) hG dX12_wallAt_3 ki_1 rfl ?_
  refine s_isub (n := 5) hG dX12_wallAt_4 rfl ?_
  refine s_topi (fun x4_5 hx4_5 => ?_)
  replace h := h x4_5 hx4_5
  refine s_istore (n := 7) (lv2 := [some (.ref (ad 0)), some (.int a1), some (.int a2), some (.int 1), some (.int x4_5), none]) hG dX12_wallAt_5 rfl rfl rfl ?_
  exact s_wk hG (sX12_wallAt_l7 hE hG hQ  N _ _ _ _ _ h) ⟨rfl, rfl, rfl, rfl, rfl, trivial⟩
def wX12_wallOf_j64 (N : Nat) (K4 : Int32 → Int32 → gFG → gFF → Int64 → Prop) (K14 : Int32 → Int32 → gFG → gFF → Int64 → Prop) (Q : Int32 → gFG → gFF → Int64 → Prop) (v2 : Int32) (v3 : Int32) (t0 : Int32) (g : gFG) (f : gFF) (w : Int64) : Prop := ∀ x3_65 : Int32, x3_65 = (v3 + 1) → K14 t0 x3_65 g f w
theorem sX12_wallOf_j64 {G : gG} {Rt : Option Value → gSt → Prop} (hE : gInj layM ad ∧ gZok (gA layM ad) Z) (hG : gSim l D cs layM ad Z 5 RX12 cX12_wallOf 5 (some .int) G Rt) {Q : Int32 → gFG → gFF → Int64 → Prop} (hQ : ∀ v S, gMi Q v S → Rt v S) {N : Nat} {K4 : Int32 → Int32 → gFG → gFF → Int64 → Prop} {K14 : Int32 → Int32 → gFG → gFF → Int64 → Prop}  {v2 : Int32} {v3 : Int32} {t0 : Int32} {g : gFG} {f : gFF} {w : Int64} (hK4 : ∀ (uv1 : Int32) (uv2 : Int32) (ug : gFG) (uf : gFF) (uw : Int64), K4 uv1 uv2 ug uf uw → G 4 [some (.ref (ad 0)), some (.int uv1), some (.int uv2), none, none] [] (ug, uf, uw)) (hK14 : ∀ (uv1 : Int32) (uv3 : Int32) (ug : gFG) (uf : gFF) (uw : Int64), K14 uv1 uv3 ug uf uw → G 14 [some (.ref (ad 0)), some (.int uv1), some (.int v2), some (.int uv3), none] [] (ug, uf, uw)) (h : wX12_wallOf_j64 N K4 K14 Q v2 v3 t0 g f w) : G 64 [some (.ref (ad 0)), none, some (.int v2), some (.int v3), none] [.int t0] (g, f, w) := by
  unfold wX12_wallOf_j64 at h
  refine s_istore_n (n := 65) (lv2 := [some (.ref (ad 0)), some (.int t0), some (.int v2), some (.int v3), none]) hG dX12_wallOf_64 rfl rfl rfl ?_
  obtain ⟨x3_65, hx3_65⟩ : ∃ z : Int32, z = (v3 + 1) := ⟨_, rfl⟩
  replace h := h x3_65 hx3_65
  refine s_iinc (n := 68) (v := x3_65) (lv2 := [some (.ref (ad 0)), some (.int t0), some (.int v2), some (.int x3_65), none]) hG dX12_wallOf_65 ki_1 rfl hx3_65 rfl rfl rfl ?_
  refine s_goto (tgt := 14) hG dX12_wallOf_68 rfl ?_
  exact s_wk hG (hK14 _ _ _ _ _ h) ⟨rfl, rfl, rfl, rfl, trivial⟩
def wX12_wallOf_j63 (N : Nat) (K4 : Int32 → Int32 → gFG → gFF → Int64 → Prop) (K14 : Int32 → Int32 → gFG → gFF → Int64 → Prop) (Q : Int32 → gFG → gFF → Int64 → Prop) (v1 : Int32) (v2 : Int32) (v3 : Int32) (g : gFG) (f : gFF) (w : Int64) : Prop := wX12_wallOf_j64 N (K4) (K14) Q v2 v3 v1 g f w
theorem sX12_wallOf_j63 {G : gG} {Rt : Option Value → gSt → Prop} (hE : gInj layM ad ∧ gZok (gA layM ad) Z) (hG : gSim l D cs layM ad Z 5 RX12 cX12_wallOf 5 (some .int) G Rt) {Q : Int32 → gFG → gFF → Int64 → Prop} (hQ : ∀ v S, gMi Q v S → Rt v S) {N : Nat} {K4 : Int32 → Int32 → gFG → gFF → Int64 → Prop} {K14 : Int32 → Int32 → gFG → gFF → Int64 → Prop}  {v1 : Int32} {v2 : Int32} {v3 : Int32} {g : gFG} {f : gFF} {w : Int64} (hK4 : ∀ (uv1 : Int32) (uv2 : Int32) (ug : gFG) (uf : gFF) (uw : Int64), K4 uv1 uv2 ug uf uw → G 4 [some (.ref (ad 0)), some (.int uv1), some (.int uv2), none, none] [] (ug, uf, uw)) (hK14 : ∀ (uv1 : Int32) (uv3 : Int32) (ug : gFG) (uf : gFF) (uw : Int64), K14 uv1 uv3 ug uf uw → G 14 [some (.ref (ad 0)), some (.int uv1), some (.int v2), some (.int uv3), none] [] (ug, uf, uw)) (h : wX12_wallOf_j63 N K4 K14 Q v1 v2 v3 g f w) : G 63 [some (.ref (ad 0)), some (.int v1), some (.int v2), some (.int v3), none] [] (g, f, w) := by
  unfold wX12_wallOf_j63 at h
  refine s_iload_n (n := 64) hG dX12_wallOf_63 rfl rfl ?_
  exact s_wk hG (sX12_wallOf_j64 hE hG hQ hK4 hK14 h) ⟨rfl, rfl, rfl, trivial⟩
def wX12_wallOf_j58 (N : Nat) (K4 : Int32 → Int32 → gFG → gFF → Int64 → Prop) (K14 : Int32 → Int32 → gFG → gFF → Int64 → Prop) (Q : Int32 → gFG → gFF → Int64 → Prop) (v2 : Int32) (v3 : Int32) (v4 : Int32) (g : gFG) (f : gFF) (w : Int64) : Prop := wX12_wallOf_j64 N (K4) (K14) Q v2 v3 v4 g f w
theorem sX12_wallOf_j58 {G : gG} {Rt : Option Value → gSt → Prop} (hE : gInj layM ad ∧ gZok (gA layM ad) Z) (hG : gSim l D cs layM ad Z 5 RX12 cX12_wallOf 5 (some .int) G Rt) {Q : Int32 → gFG → gFF → Int64 → Prop} (hQ : ∀ v S, gMi Q v S → Rt v S) {N : Nat} {K4 : Int32 → Int32 → gFG → gFF → Int64 → Prop} {K14 : Int32 → Int32 → gFG → gFF → Int64 → Prop}  {v2 : Int32} {v3 : Int32} {v4 : Int32} {g : gFG} {f : gFF} {w : Int64} (hK4 : ∀ (uv1 : Int32) (uv2 : Int32) (ug : gFG) (uf : gFF) (uw : Int64), K4 uv1 uv2 ug uf uw → G 4 [some (.ref (ad 0)), some (.int uv1), some (.int uv2), none, none] [] (ug, uf, uw)) (hK14 : ∀ (uv1 : Int32) (uv3 : Int32) (ug : gFG) (uf : gFF) (uw : Int64), K14 uv1 uv3 ug uf uw → G 14 [some (.ref (ad 0)), some (.int uv1), some (.int v2), some (.int uv3), none] [] (ug, uf, uw)) (h : wX12_wallOf_j58 N K4 K14 Q v2 v3 v4 g f w) : G 58 [some (.ref (ad 0)), none, some (.int v2), some (.int v3), some (.int v4)] [] (g, f, w) := by
  unfold wX12_wallOf_j58 at h
  refine s_iload (n := 60) hG dX12_wallOf_58 rfl rfl ?_
  refine s_goto (tgt := 64) hG dX12_wallOf_60 rfl ?_
  exact s_wk hG (sX12_wallOf_j64 hE hG hQ hK4 hK14 h) ⟨rfl, rfl, rfl, trivial⟩
def wX12_wallOf_j41 (N : Nat) (K4 : Int32 → Int32 → gFG → gFF → Int64 → Prop) (K14 : Int32 → Int32 → gFG → gFF → Int64 → Prop) (Q : Int32 → gFG → gFF → Int64 → Prop) (v1 : Int32) (v2 : Int32) (v3 : Int32) (t0 : Int32) (g : gFG) (f : gFF) (w : Int64) : Prop := ((t0 ≤ 0) → wX12_wallOf_j63 N (K4) (K14) Q v1 v2 v3 g f w) ∧ ((¬ t0 ≤ 0) → ((v1 = 0) → wX12_wallOf_j58 N (K4) (K14) Q v2 v3 t0 g f w) ∧ ((¬ v1 = 0) → ((v1 ≤ t0) → wX12_wallOf_j63 N (K4) (K14) Q v1 v2 v3 g f w) ∧ ((¬ v1 ≤ t0) → wX12_wallOf_j58 N (K4) (K14) Q v2 v3 t0 g f w)))
theorem sX12_wallOf_j41 {G : gG} {Rt : Option Value → gSt → Prop} (hE : gInj layM ad ∧ gZok (gA layM ad) Z) (hG : gSim l D cs layM ad Z 5 RX12 cX12_wallOf 5 (some .int) G Rt) {Q : Int32 → gFG → gFF → Int64 → Prop} (hQ : ∀ v S, gMi Q v S → Rt v S) {N : Nat} {K4 : Int32 → Int32 → gFG → gFF → Int64 → Prop} {K14 : Int32 → Int32 → gFG → gFF → Int64 → Prop}  {v1 : Int32} {v2 : Int32} {v3 : Int32} {t0 : Int32} {g : gFG} {f : gFF} {w : Int64} (hK4 : ∀ (uv1 : Int32) (uv2 : Int32) (ug : gFG) (uf : gFF) (uw : Int64), K4 uv1 uv2 ug uf uw → G 4 [some (.ref (ad 0)), some (.int uv1), some (.int uv2), none, none] [] (ug, uf, uw)) (hK14 : ∀ (uv1 : Int32) (uv3 : Int32) (ug : gFG) (uf : gFF) (uw : Int64), K14 uv1 uv3 ug uf uw → G 14 [some (.ref (ad 0)), some (.int uv1), some (.int v2), some (.int uv3), none] [] (ug, uf, uw)) (h : wX12_wallOf_j41 N K4 K14 Q v1 v2 v3 t0 g f w) : G 41 [some (.ref (ad 0)), some (.int v1), some (.int v2), some (.int v3), none] [.int t0] (g, f, w) := by
  unfold wX12_wallOf_j41 at h
  refine s_istore (n := 43) (lv2 := [some (.ref (ad 0)), some (.int v1), some (.int v2), some (.int v3), some (.int t0)]) hG dX12_wallOf_41 rfl rfl rfl ?_
  refine s_iload (n := 45) hG dX12_wallOf_43 rfl rfl ?_
  refine s_if_le (n := 48) (tgt := 63) hG dX12_wallOf_45 rfl rfl (fun c => ?_) (fun c => ?_)
  · replace h := h.1 c
    exact s_wk hG (sX12_wallOf_j63 hE hG hQ hK4 hK14 h) ⟨rfl, rfl, rfl, rfl, trivial⟩
  · replace h := h.2 c
    refine s_iload_n (n := 49) hG dX12_wallOf_48 rfl rfl ?_
    refine s_if_eq (n := 52) (tgt := 58) hG dX12_wallOf_49 rfl rfl (fun c => ?_) (fun c => ?_)
    · replace h := h.1 c
      exact s_wk hG (sX12_wallOf_j58 hE hG hQ hK4 hK14 h) ⟨rfl, rfl, rfl, rfl, trivial⟩
    · replace h := h.2 c
      refine s_iload (n := 54) hG dX12_wallOf_52 rfl rfl ?_
      refine s_iload_n (n := 55) hG dX12_wallOf_54 rfl rfl ?_
      refine s_icmp_ge (n := 58) (tgt := 63) hG dX12_wallOf_55 rfl rfl (fun c => ?_) (fun c => ?_)
      · replace h := h.1 c
        exact s_wk hG (sX12_wallOf_j63 hE hG hQ hK4 hK14 h) ⟨rfl, rfl, rfl, rfl, trivial⟩
      · replace h := h.2 c
        exact s_wk hG (sX12_wallOf_j58 hE hG hQ hK4 hK14 h) ⟨rfl, rfl, rfl, rfl, trivial⟩
def wX12_wallOf_l14 (N : Nat) (v2 : Int32) (K4 : Int32 → Int32 → gFG → gFF → Int64 → Prop) (Q : Int32 → gFG → gFF → Int64 → Prop) : Nat → Int32 → Int32 → gFG → gFF → Int64 → Prop
  | 0, _, _, _, _, _ => False
  | n + 1, v1, v3, g, f, w => (((g 2) ≤ v3) → ∀ x2_71 : Int32, x2_71 = (v2 + 1) → K4 v1 x2_71 g f w) ∧ ((¬ (g 2) ≤ v3) → wX12_isCast N v3 v2 g f w (fun r25 g25 f25 w25 => ((r25 = 0) → wX12_wallOf_j41 N (K4) (wX12_wallOf_l14 N v2 K4 Q n) Q v1 v2 v3 0 g25 f25 w25) ∧ ((¬ r25 = 0) → wX12_wallAt N v3 v2 g25 f25 w25 (fun r34 g34 f34 w34 => wX12_wallOf_j41 N (K4) (wX12_wallOf_l14 N v2 K4 Q n) Q v1 v2 v3 r34 g34 f34 w34))))
theorem sX12_wallOf_l14 {G : gG} {Rt : Option Value → gSt → Prop} (hE : gInj layM ad ∧ gZok (gA layM ad) Z) (hG : gSim l D cs layM ad Z 5 RX12 cX12_wallOf 5 (some .int) G Rt) {Q : Int32 → gFG → gFF → Int64 → Prop} (hQ : ∀ v S, gMi Q v S → Rt v S) {N : Nat} {v2 : Int32} {K4 : Int32 → Int32 → gFG → gFF → Int64 → Prop}  (hK4 : ∀ (uv1 : Int32) (uv2 : Int32) (ug : gFG) (uf : gFF) (uw : Int64), K4 uv1 uv2 ug uf uw → G 4 [some (.ref (ad 0)), some (.int uv1), some (.int uv2), none, none] [] (ug, uf, uw)) : ∀ (n : Nat) (v1 : Int32) (v3 : Int32) (g : gFG) (f : gFF) (w : Int64), wX12_wallOf_l14 N v2 K4 Q n v1 v3 g f w → G 14 [some (.ref (ad 0)), some (.int v1), some (.int v2), some (.int v3), none] [] (g, f, w) := by
  intro n
  induction n with
  | zero => intro _ _ _ _ _ h; unfold wX12_wallOf_l14 at h; exact h.elim
  | succ n ih =>
    intro v1 v3 g f w h
    unfold wX12_wallOf_l14 at h
    refine s_iload_n (n := 15) hG dX12_wallOf_14 rfl rfl ?_
    refine s_aload_n (n := 16) hG dX12_wallOf_15 rfl rfl ?_
    refine gtX12_7 (n := 19) hG dX12_wallOf_16 rfl ?_
    refine s_icmp_ge (n := 22) (tgt := 71) hG dX12_wallOf_19 rfl rfl (fun c => ?_) (fun c => ?_)
    · replace h := h.1 c
      obtain ⟨x2_71, hx2_71⟩ : ∃ z : Int32, z = (v2 + 1) := ⟨_, rfl⟩
      replace h := h x2_71 hx2_71
      refine s_iinc (n := 74) (v := x2_71) (lv2 := [some (.ref (ad 0)), some (.int v1), some (.int x2_71), some (.int v3), none]) hG dX12_wallOf_71 ki_1 rfl hx2_71 rfl rfl rfl ?_
      refine s_goto (tgt := 4) hG dX12_wallOf_74 rfl ?_
      exact s_wk hG (hK4 _ _ _ _ _ h) ⟨rfl, rfl, rfl, trivial⟩
    · replace h := h.2 c
      refine s_aload_n (n := 23) hG dX12_wallOf_22 rfl rfl ?_
      refine s_iload_n (n := 24) hG dX12_wallOf_23 rfl rfl ?_
      refine s_iload_n (n := 25) hG dX12_wallOf_24 rfl rfl ?_
      refine s_callV (n := 28) (st := []) hG (mX12_isCast hE h) ceX12_isCast lmX12_148 ⟨by decide, rfl, rfl⟩ rfl ⟨rfl, Nat.le_of_ble_eq_true rfl, by decide⟩ dX12_wallOf_25 rfl ?_
      rintro _ _ ⟨r25, g25, f25, w25, rfl, rfl, h⟩
      refine s_if_eq (n := 31) (tgt := 40) hG dX12_wallOf_28 rfl rfl (fun c => ?_) (fun c => ?_)
      · replace h := h.1 c
        refine s_iconst (n := 41) hG dX12_wallOf_40 ki_0 rfl ?_
        exact s_wk hG (sX12_wallOf_j41 hE hG hQ hK4 ih h) ⟨rfl, rfl, rfl, rfl, trivial⟩
      · replace h := h.2 c
        refine s_aload_n (n := 32) hG dX12_wallOf_31 rfl rfl ?_
        refine s_iload_n (n := 33) hG dX12_wallOf_32 rfl rfl ?_
        refine s_iload_n (n := 34) hG dX12_wallOf_33 rfl rfl ?_
        refine s_callV (n := 37) (st := []) hG (mX12_wallAt hE h) ceX12_wallAt lmX12_151 ⟨by decide, rfl, rfl⟩ rfl ⟨rfl, Nat.le_of_ble_eq_true rfl, by decide⟩ dX12_wallOf_34 rfl ?_
        rintro _ _ ⟨r34, g34, f34, w34, rfl, rfl, h⟩
        refine s_goto (tgt := 41) hG dX12_wallOf_37 rfl ?_
        exact s_wk hG (sX12_wallOf_j41 hE hG hQ hK4 ih h) ⟨rfl, rfl, rfl, rfl, trivial⟩
def wX12_wallOf_l4 (N : Nat)   (Q : Int32 → gFG → gFF → Int64 → Prop) : Nat → Int32 → Int32 → gFG → gFF → Int64 → Prop
  | 0, _, _, _, _, _ => False
  | n + 1, v1, v2, g, f, w => (((g 3) ≤ v2) → Q v1 g f w) ∧ ((¬ (g 3) ≤ v2) → wX12_wallOf_l14 N v2 (wX12_wallOf_l4 N   Q n) Q N v1 0 g f w)
theorem sX12_wallOf_l4 {G : gG} {Rt : Option Value → gSt → Prop} (hE : gInj layM ad ∧ gZok (gA layM ad) Z) (hG : gSim l D cs layM ad Z 5 RX12 cX12_wallOf 5 (some .int) G Rt) {Q : Int32 → gFG → gFF → Int64 → Prop} (hQ : ∀ v S, gMi Q v S → Rt v S) {N : Nat}     : ∀ (n : Nat) (v1 : Int32) (v2 : Int32) (g : gFG) (f : gFF) (w : Int64), wX12_wallOf_l4 N   Q n v1 v2 g f w → G 4 [some (.ref (ad 0)), some (.int v1), some (.int v2), none, none] [] (g, f, w) := by
  intro n
  induction n with
  | zero => intro _ _ _ _ _ h; unfold wX12_wallOf_l4 at h; exact h.elim
  | succ n ih =>
    intro v1 v2 g f w h
    unfold wX12_wallOf_l4 at h
    refine s_iload_n (n := 5) hG dX12_wallOf_4 rfl rfl ?_
    refine s_aload_n (n := 6) hG dX12_wallOf_5 rfl rfl ?_
    refine gtX12_13 (n := 9) hG dX12_wallOf_6 rfl ?_
    refine s_icmp_ge (n := 12) (tgt := 77) hG dX12_wallOf_9 rfl rfl (fun c => ?_) (fun c => ?_)
    · replace h := h.1 c
      refine s_iload_n (n := 78) hG dX12_wallOf_77 rfl rfl ?_
      exact s_iret hG dX12_wallOf_78 (hQ _ _ ⟨_, _, _, _, rfl, rfl, h⟩)
    · replace h := h.2 c
      refine s_iconst (n := 13) hG dX12_wallOf_12 ki_0 rfl ?_
      refine s_istore_n (n := 14) (lv2 := [some (.ref (ad 0)), some (.int v1), some (.int v2), some (.int 0), none]) hG dX12_wallOf_13 rfl rfl rfl ?_
      exact s_wk hG (sX12_wallOf_l14 hE hG hQ ih N _ _ _ _ _ h) ⟨rfl, rfl, rfl, rfl, trivial⟩
def wX12_wallOf (N : Nat)  (g : gFG) (f : gFF) (w : Int64) (Q : Int32 → gFG → gFF → Int64 → Prop) : Prop := wX12_wallOf_l4 N  Q N 0 0 g f w
theorem mX12_wallOf (hE : gInj layM ad ∧ gZok (gA layM ad) Z) {N : Nat}  {g : gFG} {f : gFF} {w : Int64} {Q : Int32 → gFG → gFF → Int64 → Prop} (h : wX12_wallOf N  g f w Q) : gCT l D cs layM ad Z 5 yX12_wallOf cX12_wallOf 5 (some .int) [.ref (ad 0)] (g, f, w) (gMi Q) := by
  refine met_walk (lv0 := [some (.ref (ad 0)), none, none, none, none]) hE (by decide) (Nat.le_of_ble_eq_true rfl) rfl (fun G Rt hG hQ => ?_)
  replace hG : gSim l D cs layM ad Z 5 RX12 cX12_wallOf 5 (some .int) G Rt := hG
  unfold wX12_wallOf at h
  refine s_iconst (n := 1) hG dX12_wallOf_0 ki_0 rfl ?_
  refine s_istore_n (n := 2) (lv2 := [some (.ref (ad 0)), some (.int 0), none, none, none]) hG dX12_wallOf_1 rfl rfl rfl ?_
  refine s_iconst (n := 3) hG dX12_wallOf_2 ki_0 rfl ?_
  refine s_istore_n (n := 4) (lv2 := [some (.ref (ad 0)), some (.int 0), some (.int 0), none, none]) hG dX12_wallOf_3 rfl rfl rfl ?_
  exact s_wk hG (sX12_wallOf_l4 hE hG hQ  N _ _ _ _ _ h) ⟨rfl, rfl, rfl, trivial⟩
def wX12_wall_j36 (N : Nat)  (Q : Int32 → gFG → gFF → Int64 → Prop) (v1 : Int32) (v2 : Int32) (v3 : Int32) (g : gFG) (f : gFF) (w : Int64) : Prop := wX12_pourMould N g f w (fun g37 f37 w37 => ((v3 = 0) → wX12_isCast N v1 v2 g37 f37 w37 (fun r54 g54 f54 w54 => ((r54 = 0) → Q 0 g54 f54 w54) ∧ ((¬ r54 = 0) → wX12_wallAt N v1 v2 g54 f54 w54 (fun r63 g63 f63 w63 => Q r63 g63 f63 w63)))) ∧ ((¬ v3 = 0) → wX12_wallOf N g37 f37 w37 (fun r45 g45 f45 w45 => Q r45 g45 f45 w45)))
theorem sX12_wall_j36 {G : gG} {Rt : Option Value → gSt → Prop} (hE : gInj layM ad ∧ gZok (gA layM ad) Z) (hG : gSim l D cs layM ad Z 6 RX12 cX12_wall 4 (some .int) G Rt) {Q : Int32 → gFG → gFF → Int64 → Prop} (hQ : ∀ v S, gMi Q v S → Rt v S) {N : Nat}   {v1 : Int32} {v2 : Int32} {v3 : Int32} {g : gFG} {f : gFF} {w : Int64}  (h : wX12_wall_j36 N  Q v1 v2 v3 g f w) : G 36 [some (.ref (ad 0)), some (.int v1), some (.int v2), some (.int v3)] [] (g, f, w) := by
  unfold wX12_wall_j36 at h
  refine s_aload_n (n := 37) hG dX12_wall_36 rfl rfl ?_
  refine s_callV (n := 40) (st := []) hG (mX12_pourMould hE h) ceX12_pourMould lmX12_145 ⟨by decide, rfl, rfl⟩ rfl ⟨rfl, Nat.le_of_ble_eq_true rfl, by decide⟩ dX12_wall_37 rfl ?_
  rintro _ _ ⟨g37, f37, w37, rfl, rfl, h⟩
  refine s_iload_n (n := 41) hG dX12_wall_40 rfl rfl ?_
  refine s_if_eq (n := 44) (tgt := 51) hG dX12_wall_41 rfl rfl (fun c => ?_) (fun c => ?_)
  · replace h := h.1 c
    refine s_aload_n (n := 52) hG dX12_wall_51 rfl rfl ?_
    refine s_iload_n (n := 53) hG dX12_wall_52 rfl rfl ?_
    refine s_iload_n (n := 54) hG dX12_wall_53 rfl rfl ?_
    refine s_callV (n := 57) (st := []) hG (mX12_isCast hE h) ceX12_isCast lmX12_148 ⟨by decide, rfl, rfl⟩ rfl ⟨rfl, Nat.le_of_ble_eq_true rfl, by decide⟩ dX12_wall_54 rfl ?_
    rintro _ _ ⟨r54, g54, f54, w54, rfl, rfl, h⟩
    refine s_if_eq (n := 60) (tgt := 69) hG dX12_wall_57 rfl rfl (fun c => ?_) (fun c => ?_)
    · replace h := h.1 c
      refine s_iconst (n := 70) hG dX12_wall_69 ki_0 rfl ?_
      exact s_iret hG dX12_wall_70 (hQ _ _ ⟨_, _, _, _, rfl, rfl, h⟩)
    · replace h := h.2 c
      refine s_aload_n (n := 61) hG dX12_wall_60 rfl rfl ?_
      refine s_iload_n (n := 62) hG dX12_wall_61 rfl rfl ?_
      refine s_iload_n (n := 63) hG dX12_wall_62 rfl rfl ?_
      refine s_callV (n := 66) (st := []) hG (mX12_wallAt hE h) ceX12_wallAt lmX12_151 ⟨by decide, rfl, rfl⟩ rfl ⟨rfl, Nat.le_of_ble_eq_true rfl, by decide⟩ dX12_wall_63 rfl ?_
      rintro _ _ ⟨r63, g63, f63, w63, rfl, rfl, h⟩
      refine s_goto (tgt := 70) hG dX12_wall_66 rfl ?_
      exact s_iret hG dX12_wall_70 (hQ _ _ ⟨_, _, _, _, rfl, rfl, h⟩)
  · replace h := h.2 c
    refine s_aload_n (n := 45) hG dX12_wall_44 rfl rfl ?_
    refine s_callV (n := 48) (st := []) hG (mX12_wallOf hE h) ceX12_wallOf lmX12_155 ⟨by decide, rfl, rfl⟩ rfl ⟨rfl, Nat.le_of_ble_eq_true rfl, by decide⟩ dX12_wall_45 rfl ?_
    rintro _ _ ⟨r45, g45, f45, w45, rfl, rfl, h⟩
    refine s_goto (tgt := 70) hG dX12_wall_48 rfl ?_
    exact s_iret hG dX12_wall_70 (hQ _ _ ⟨_, _, _, _, rfl, rfl, h⟩)
def wX12_wall_j20 (N : Nat)  (Q : Int32 → gFG → gFF → Int64 → Prop) (v1 : Int32) (v2 : Int32) (t0 : Int32) (g : gFG) (f : gFF) (w : Int64) : Prop := ((¬ t0 = 0) → wX12_wall_j36 N  Q v1 v2 t0 g f w) ∧ ((t0 = 0) → wX12_isCell N v1 v2 g f w (fun r28 g28 f28 w28 => ((¬ r28 = 0) → wX12_wall_j36 N  Q v1 v2 t0 g28 f28 w28) ∧ ((r28 = 0) → Q (-1) g28 f28 w28)))
theorem sX12_wall_j20 {G : gG} {Rt : Option Value → gSt → Prop} (hE : gInj layM ad ∧ gZok (gA layM ad) Z) (hG : gSim l D cs layM ad Z 6 RX12 cX12_wall 4 (some .int) G Rt) {Q : Int32 → gFG → gFF → Int64 → Prop} (hQ : ∀ v S, gMi Q v S → Rt v S) {N : Nat}   {v1 : Int32} {v2 : Int32} {t0 : Int32} {g : gFG} {f : gFF} {w : Int64}  (h : wX12_wall_j20 N  Q v1 v2 t0 g f w) : G 20 [some (.ref (ad 0)), some (.int v1), some (.int v2), none] [.int t0] (g, f, w) := by
  unfold wX12_wall_j20 at h
  refine s_istore_n (n := 21) (lv2 := [some (.ref (ad 0)), some (.int v1), some (.int v2), some (.int t0)]) hG dX12_wall_20 rfl rfl rfl ?_
  refine s_iload_n (n := 22) hG dX12_wall_21 rfl rfl ?_
  refine s_if_ne (n := 25) (tgt := 36) hG dX12_wall_22 rfl rfl (fun c => ?_) (fun c => ?_)
  · replace h := h.1 c
    exact s_wk hG (sX12_wall_j36 hE hG hQ  h) ⟨rfl, rfl, rfl, rfl, trivial⟩
  · replace h := h.2 c
    refine s_aload_n (n := 26) hG dX12_wall_25 rfl rfl ?_
    refine s_iload_n (n := 27) hG dX12_wall_26 rfl rfl ?_
    refine s_iload_n (n := 28) hG dX12_wall_27 rfl rfl ?_
    refine s_callV (n := 31) (st := []) hG (mX12_isCell hE h) ceX12_isCell lmX12_126 ⟨by decide, rfl, rfl⟩ rfl ⟨rfl, Nat.le_of_ble_eq_true rfl, by decide⟩ dX12_wall_28 rfl ?_
    rintro _ _ ⟨r28, g28, f28, w28, rfl, rfl, h⟩
    refine s_if_ne (n := 34) (tgt := 36) hG dX12_wall_31 rfl rfl (fun c => ?_) (fun c => ?_)
    · replace h := h.1 c
      exact s_wk hG (sX12_wall_j36 hE hG hQ  h) ⟨rfl, rfl, rfl, rfl, trivial⟩
    · replace h := h.2 c
      refine s_iconst (n := 35) hG dX12_wall_34 ki_m1 rfl ?_
      exact s_iret hG dX12_wall_35 (hQ _ _ ⟨_, _, _, _, rfl, rfl, h⟩)
def wX12_wall_j19 (N : Nat)  (Q : Int32 → gFG → gFF → Int64 → Prop) (v1 : Int32) (v2 : Int32) (g : gFG) (f : gFF) (w : Int64) : Prop := wX12_wall_j20 N  Q v1 v2 0 g f w
theorem sX12_wall_j19 {G : gG} {Rt : Option Value → gSt → Prop} (hE : gInj layM ad ∧ gZok (gA layM ad) Z) (hG : gSim l D cs layM ad Z 6 RX12 cX12_wall 4 (some .int) G Rt) {Q : Int32 → gFG → gFF → Int64 → Prop} (hQ : ∀ v S, gMi Q v S → Rt v S) {N : Nat}   {v1 : Int32} {v2 : Int32} {g : gFG} {f : gFF} {w : Int64}  (h : wX12_wall_j19 N  Q v1 v2 g f w) : G 19 [some (.ref (ad 0)), some (.int v1), some (.int v2), none] [] (g, f, w) := by
  unfold wX12_wall_j19 at h
  refine s_iconst (n := 20) hG dX12_wall_19 ki_0 rfl ?_
  exact s_wk hG (sX12_wall_j20 hE hG hQ  h) ⟨rfl, rfl, rfl, trivial⟩
def wX12_wall (N : Nat) (a1 : Int32) (a2 : Int32) (g : gFG) (f : gFF) (w : Int64) (Q : Int32 → gFG → gFF → Int64 → Prop) : Prop := ∀ g2 : gFG, g2 = (va_up g 0 0) → ((¬ a1 = (-1)) → wX12_wall_j19 N  Q a1 a2 g2 f w) ∧ ((a1 = (-1)) → ((¬ a2 = (-1)) → wX12_wall_j19 N  Q a1 a2 g2 f w) ∧ ((a2 = (-1)) → wX12_wall_j20 N  Q a1 a2 1 g2 f w))
theorem mX12_wall (hE : gInj layM ad ∧ gZok (gA layM ad) Z) {N : Nat} {a1 : Int32} {a2 : Int32} {g : gFG} {f : gFF} {w : Int64} {Q : Int32 → gFG → gFF → Int64 → Prop} (h : wX12_wall N a1 a2 g f w Q) : gCT l D cs layM ad Z 6 yX12_wall cX12_wall 4 (some .int) [.ref (ad 0), .int a1, .int a2] (g, f, w) (gMi Q) := by
  refine met_walk (lv0 := [some (.ref (ad 0)), some (.int a1), some (.int a2), none]) hE (by decide) (Nat.le_of_ble_eq_true rfl) rfl (fun G Rt hG hQ => ?_)
  replace hG : gSim l D cs layM ad Z 6 RX12 cX12_wall 4 (some .int) G Rt := hG
  unfold wX12_wall at h
  refine s_aload_n (n := 1) hG dX12_wall_0 rfl rfl ?_
  refine s_iconst (n := 2) hG dX12_wall_1 ki_0 rfl ?_
  refine ptX12_96 (n := 5) hG dX12_wall_2 rfl ?_
  refine s_ng (fun g2 hg2 => ?_)
  replace h := h g2 hg2
  refine s_iload_n (n := 6) hG dX12_wall_5 rfl rfl ?_
  refine s_iconst (n := 7) hG dX12_wall_6 ki_m1 rfl ?_
  refine s_icmp_ne (n := 10) (tgt := 19) hG dX12_wall_7 rfl rfl (fun c => ?_) (fun c => ?_)
  · replace h := h.1 c
    exact s_wk hG (sX12_wall_j19 hE hG hQ  h) ⟨rfl, rfl, rfl, trivial⟩
  · replace h := h.2 c
    refine s_iload_n (n := 11) hG dX12_wall_10 rfl rfl ?_
    refine s_iconst (n := 12) hG dX12_wall_11 ki_m1 rfl ?_
    refine s_icmp_ne (n := 15) (tgt := 19) hG dX12_wall_12 rfl rfl (fun c => ?_) (fun c => ?_)
    · replace h := h.1 c
      exact s_wk hG (sX12_wall_j19 hE hG hQ  h) ⟨rfl, rfl, rfl, trivial⟩
    · replace h := h.2 c
      refine s_iconst (n := 16) hG dX12_wall_15 ki_1 rfl ?_
      refine s_goto (tgt := 20) hG dX12_wall_16 rfl ?_
      exact s_wk hG (sX12_wall_j20 hE hG hQ  h) ⟨rfl, rfl, rfl, trivial⟩
def wX12_cellsOf_j197 (N : Nat) (K4 : Int32 → Int32 → gFG → gFF → Int64 → Prop) (K15 : Int32 → Int32 → gFG → gFF → Int64 → Prop) (Q : Int32 → gFG → gFF → Int64 → Prop) (v1 : Int32) (v3 : Int32) (v4 : Int32) (t0 : Int32) (t1 : Int32) (g : gFG) (f : gFF) (w : Int64) : Prop := ∀ x2_198 : Int32, x2_198 = (t1 + t0) → ∀ x4_199 : Int32, x4_199 = (v4 + 1) → K15 x2_198 x4_199 g f w
theorem sX12_cellsOf_j197 {G : gG} {Rt : Option Value → gSt → Prop} (hE : gInj layM ad ∧ gZok (gA layM ad) Z) (hG : gSim l D cs layM ad Z 4 RX12 cX12_cellsOf 7 (some .int) G Rt) {Q : Int32 → gFG → gFF → Int64 → Prop} (hQ : ∀ v S, gMi Q v S → Rt v S) {N : Nat} {K4 : Int32 → Int32 → gFG → gFF → Int64 → Prop} {K15 : Int32 → Int32 → gFG → gFF → Int64 → Prop}  {v1 : Int32} {v3 : Int32} {v4 : Int32} {t0 : Int32} {t1 : Int32} {g : gFG} {f : gFF} {w : Int64} (hK4 : ∀ (uv2 : Int32) (uv3 : Int32) (ug : gFG) (uf : gFF) (uw : Int64), K4 uv2 uv3 ug uf uw → G 4 [some (.ref (ad 0)), some (.int v1), some (.int uv2), some (.int uv3), none, none, none] [] (ug, uf, uw)) (hK15 : ∀ (uv2 : Int32) (uv4 : Int32) (ug : gFG) (uf : gFF) (uw : Int64), K15 uv2 uv4 ug uf uw → G 15 [some (.ref (ad 0)), some (.int v1), some (.int uv2), some (.int v3), some (.int uv4), none, none] [] (ug, uf, uw)) (h : wX12_cellsOf_j197 N K4 K15 Q v1 v3 v4 t0 t1 g f w) : G 197 [some (.ref (ad 0)), some (.int v1), none, some (.int v3), some (.int v4), none, none] [.int t0, .int t1] (g, f, w) := by
  unfold wX12_cellsOf_j197 at h
  refine s_iadd (n := 198) hG dX12_cellsOf_197 rfl ?_
  refine s_topi (fun x2_198 hx2_198 => ?_)
  replace h := h x2_198 hx2_198
  refine s_istore_n (n := 199) (lv2 := [some (.ref (ad 0)), some (.int v1), some (.int x2_198), some (.int v3), some (.int v4), none, none]) hG dX12_cellsOf_198 rfl rfl rfl ?_
  obtain ⟨x4_199, hx4_199⟩ : ∃ z : Int32, z = (v4 + 1) := ⟨_, rfl⟩
  replace h := h x4_199 hx4_199
  refine s_iinc (n := 202) (v := x4_199) (lv2 := [some (.ref (ad 0)), some (.int v1), some (.int x2_198), some (.int v3), some (.int x4_199), none, none]) hG dX12_cellsOf_199 ki_1 rfl hx4_199 rfl rfl rfl ?_
  refine s_goto (tgt := 15) hG dX12_cellsOf_202 rfl ?_
  exact s_wk hG (hK15 _ _ _ _ _ h) ⟨rfl, rfl, rfl, rfl, rfl, trivial⟩
def wX12_cellsOf_j184 (N : Nat) (K4 : Int32 → Int32 → gFG → gFF → Int64 → Prop) (K15 : Int32 → Int32 → gFG → gFF → Int64 → Prop) (Q : Int32 → gFG → gFF → Int64 → Prop) (v1 : Int32) (v2 : Int32) (v3 : Int32) (v4 : Int32) (t0 : Int32) (g : gFG) (f : gFF) (w : Int64) : Prop := ((t0 = 0) → wX12_cellsOf_j197 N (K4) (K15) Q v1 v3 v4 0 v2 g f w) ∧ ((¬ t0 = 0) → wX12_cellsOf_j197 N (K4) (K15) Q v1 v3 v4 1 v2 g f w)
theorem sX12_cellsOf_j184 {G : gG} {Rt : Option Value → gSt → Prop} (hE : gInj layM ad ∧ gZok (gA layM ad) Z) (hG : gSim l D cs layM ad Z 4 RX12 cX12_cellsOf 7 (some .int) G Rt) {Q : Int32 → gFG → gFF → Int64 → Prop} (hQ : ∀ v S, gMi Q v S → Rt v S) {N : Nat} {K4 : Int32 → Int32 → gFG → gFF → Int64 → Prop} {K15 : Int32 → Int32 → gFG → gFF → Int64 → Prop}  {v1 : Int32} {v2 : Int32} {v3 : Int32} {v4 : Int32} {t0 : Int32} {g : gFG} {f : gFF} {w : Int64} (hK4 : ∀ (uv2 : Int32) (uv3 : Int32) (ug : gFG) (uf : gFF) (uw : Int64), K4 uv2 uv3 ug uf uw → G 4 [some (.ref (ad 0)), some (.int v1), some (.int uv2), some (.int uv3), none, none, none] [] (ug, uf, uw)) (hK15 : ∀ (uv2 : Int32) (uv4 : Int32) (ug : gFG) (uf : gFF) (uw : Int64), K15 uv2 uv4 ug uf uw → G 15 [some (.ref (ad 0)), some (.int v1), some (.int uv2), some (.int v3), some (.int uv4), none, none] [] (ug, uf, uw)) (h : wX12_cellsOf_j184 N K4 K15 Q v1 v2 v3 v4 t0 g f w) : G 184 [some (.ref (ad 0)), some (.int v1), some (.int v2), some (.int v3), some (.int v4), none, none] [.int t0] (g, f, w) := by
  unfold wX12_cellsOf_j184 at h
  refine s_istore (n := 186) (lv2 := [some (.ref (ad 0)), some (.int v1), some (.int v2), some (.int v3), some (.int v4), none, some (.int t0)]) hG dX12_cellsOf_184 rfl rfl rfl ?_
  refine s_iload_n (n := 187) hG dX12_cellsOf_186 rfl rfl ?_
  refine s_iload (n := 189) hG dX12_cellsOf_187 rfl rfl ?_
  refine s_if_eq (n := 192) (tgt := 196) hG dX12_cellsOf_189 rfl rfl (fun c => ?_) (fun c => ?_)
  · replace h := h.1 c
    refine s_iconst (n := 197) hG dX12_cellsOf_196 ki_0 rfl ?_
    exact s_wk hG (sX12_cellsOf_j197 hE hG hQ hK4 hK15 h) ⟨rfl, rfl, rfl, rfl, trivial⟩
  · replace h := h.2 c
    refine s_iconst (n := 193) hG dX12_cellsOf_192 ki_1 rfl ?_
    refine s_goto (tgt := 197) hG dX12_cellsOf_193 rfl ?_
    exact s_wk hG (sX12_cellsOf_j197 hE hG hQ hK4 hK15 h) ⟨rfl, rfl, rfl, rfl, trivial⟩
def wX12_cellsOf_l15 (N : Nat) (v1 : Int32) (v3 : Int32) (K4 : Int32 → Int32 → gFG → gFF → Int64 → Prop) (Q : Int32 → gFG → gFF → Int64 → Prop) : Nat → Int32 → Int32 → gFG → gFF → Int64 → Prop
  | 0, _, _, _, _, _ => False
  | n + 1, v2, v4, g, f, w => (((g 2) ≤ v4) → ∀ x3_205 : Int32, x3_205 = (v3 + 1) → K4 v2 x3_205 g f w) ∧ ((¬ (g 2) ≤ v4) → ∀ x5_31 : Int32, x5_31 = ((12 * v3) + v4) → ((¬ v1 = 0) → ((¬ v1 = 1) → ((¬ v1 = 2) → ((¬ v1 = 3) → ((¬ v1 = 4) → ((¬ v1 = 5) → (vp_in x5_31 144) ∧ ((((f 1 x5_31.toNatClampNeg) < 10) → wX12_cellsOf_j184 N (K4) (wX12_cellsOf_l15 N v1 v3 K4 Q n) Q v1 v2 v3 v4 0 g f w) ∧ ((¬ (f 1 x5_31.toNatClampNeg) < 10) → wX12_cellsOf_j184 N (K4) (wX12_cellsOf_l15 N v1 v3 K4 Q n) Q v1 v2 v3 v4 1 g f w))) ∧ ((v1 = 5) → (vp_in x5_31 144) ∧ (((¬ (f 3 x5_31.toNatClampNeg) = 5) → wX12_cellsOf_j184 N (K4) (wX12_cellsOf_l15 N v1 v3 K4 Q n) Q v1 v2 v3 v4 0 g f w) ∧ (((f 3 x5_31.toNatClampNeg) = 5) → wX12_cellsOf_j184 N (K4) (wX12_cellsOf_l15 N v1 v3 K4 Q n) Q v1 v2 v3 v4 1 g f w)))) ∧ ((v1 = 4) → (vp_in x5_31 144) ∧ (((¬ (f 1 x5_31.toNatClampNeg) = 2) → wX12_cellsOf_j184 N (K4) (wX12_cellsOf_l15 N v1 v3 K4 Q n) Q v1 v2 v3 v4 0 g f w) ∧ (((f 1 x5_31.toNatClampNeg) = 2) → wX12_cellsOf_j184 N (K4) (wX12_cellsOf_l15 N v1 v3 K4 Q n) Q v1 v2 v3 v4 1 g f w)))) ∧ ((v1 = 3) → (vp_in x5_31 144) ∧ (((¬ (f 1 x5_31.toNatClampNeg) = 1) → wX12_cellsOf_j184 N (K4) (wX12_cellsOf_l15 N v1 v3 K4 Q n) Q v1 v2 v3 v4 0 g f w) ∧ (((f 1 x5_31.toNatClampNeg) = 1) → wX12_cellsOf_j184 N (K4) (wX12_cellsOf_l15 N v1 v3 K4 Q n) Q v1 v2 v3 v4 1 g f w)))) ∧ ((v1 = 2) → (vp_in x5_31 144) ∧ (((¬ (f 3 x5_31.toNatClampNeg) = 3) → wX12_cellsOf_j184 N (K4) (wX12_cellsOf_l15 N v1 v3 K4 Q n) Q v1 v2 v3 v4 0 g f w) ∧ (((f 3 x5_31.toNatClampNeg) = 3) → wX12_cellsOf_j184 N (K4) (wX12_cellsOf_l15 N v1 v3 K4 Q n) Q v1 v2 v3 v4 1 g f w)))) ∧ ((v1 = 1) → (vp_in x5_31 144) ∧ (((¬ (f 3 x5_31.toNatClampNeg) = 2) → wX12_cellsOf_j184 N (K4) (wX12_cellsOf_l15 N v1 v3 K4 Q n) Q v1 v2 v3 v4 0 g f w) ∧ (((f 3 x5_31.toNatClampNeg) = 2) → wX12_cellsOf_j184 N (K4) (wX12_cellsOf_l15 N v1 v3 K4 Q n) Q v1 v2 v3 v4 1 g f w)))) ∧ ((v1 = 0) → wX12_isCast N v4 v3 g f w (fun r41 g41 f41 w41 => wX12_cellsOf_j184 N (K4) (wX12_cellsOf_l15 N v1 v3 K4 Q n) Q v1 v2 v3 v4 r41 g41 f41 w41)))
theorem sX12_cellsOf_l15 {G : gG} {Rt : Option Value → gSt → Prop} (hE : gInj layM ad ∧ gZok (gA layM ad) Z) (hG : gSim l D cs layM ad Z 4 RX12 cX12_cellsOf 7 (some .int) G Rt) {Q : Int32 → gFG → gFF → Int64 → Prop} (hQ : ∀ v S, gMi Q v S → Rt v S) {N : Nat} {v1 : Int32} {v3 : Int32} {K4 : Int32 → Int32 → gFG → gFF → Int64 → Prop}  (hK4 : ∀ (uv2 : Int32) (uv3 : Int32) (ug : gFG) (uf : gFF) (uw : Int64), K4 uv2 uv3 ug uf uw → G 4 [some (.ref (ad 0)), some (.int v1), some (.int uv2), some (.int uv3), none, none, none] [] (ug, uf, uw)) : ∀ (n : Nat) (v2 : Int32) (v4 : Int32) (g : gFG) (f : gFF) (w : Int64), wX12_cellsOf_l15 N v1 v3 K4 Q n v2 v4 g f w → G 15 [some (.ref (ad 0)), some (.int v1), some (.int v2), some (.int v3), some (.int v4), none, none] [] (g, f, w) := by
  intro n
  induction n with
  | zero => intro _ _ _ _ _ h; unfold wX12_cellsOf_l15 at h; exact h.elim
  | succ n ih =>
    intro v2 v4 g f w h
    unfold wX12_cellsOf_l15 at h
    refine s_iload (n := 17) hG dX12_cellsOf_15 rfl rfl ?_
    refine s_aload_n (n := 18) hG dX12_cellsOf_17 rfl rfl ?_
    refine gtX12_7 (n := 21) hG dX12_cellsOf_18 rfl ?_
    refine s_icmp_ge (n := 24) (tgt := 205) hG dX12_cellsOf_21 rfl rfl (fun c => ?_) (fun c => ?_)
    · replace h := h.1 c
      obtain ⟨x3_205, hx3_205⟩ : ∃ z : Int32, z = (v3 + 1) := ⟨_, rfl⟩
      replace h := h x3_205 hx3_205
      refine s_iinc (n := 208) (v := x3_205) (lv2 := [some (.ref (ad 0)), some (.int v1), some (.int v2), some (.int x3_205), some (.int v4), none, none]) hG dX12_cellsOf_205 ki_1 rfl hx3_205 rfl rfl rfl ?_
      refine s_goto (tgt := 4) hG dX12_cellsOf_208 rfl ?_
      exact s_wk hG (hK4 _ _ _ _ _ h) ⟨rfl, rfl, rfl, rfl, trivial⟩
    · replace h := h.2 c
      refine s_bipush (n := 26) hG dX12_cellsOf_24 kb_12 rfl ?_
      refine s_iload_n (n := 27) hG dX12_cellsOf_26 rfl rfl ?_
      refine s_imul (n := 28) hG dX12_cellsOf_27 rfl ?_
      refine s_iload (n := 30) hG dX12_cellsOf_28 rfl rfl ?_
      refine s_iadd (n := 31) hG dX12_cellsOf_30 rfl ?_
      refine s_topi (fun x5_31 hx5_31 => ?_)
      replace h := h x5_31 hx5_31
      refine s_istore (n := 33) (lv2 := [some (.ref (ad 0)), some (.int v1), some (.int v2), some (.int v3), some (.int v4), some (.int x5_31), none]) hG dX12_cellsOf_31 rfl rfl rfl ?_
      refine s_iload_n (n := 34) hG dX12_cellsOf_33 rfl rfl ?_
      refine s_if_ne (n := 37) (tgt := 47) hG dX12_cellsOf_34 rfl rfl (fun c => ?_) (fun c => ?_)
      · replace h := h.1 c
        refine s_iload_n (n := 48) hG dX12_cellsOf_47 rfl rfl ?_
        refine s_iconst (n := 49) hG dX12_cellsOf_48 ki_1 rfl ?_
        refine s_icmp_ne (n := 52) (tgt := 71) hG dX12_cellsOf_49 rfl rfl (fun c => ?_) (fun c => ?_)
        · replace h := h.1 c
          refine s_iload_n (n := 72) hG dX12_cellsOf_71 rfl rfl ?_
          refine s_iconst (n := 73) hG dX12_cellsOf_72 ki_2 rfl ?_
          refine s_icmp_ne (n := 76) (tgt := 95) hG dX12_cellsOf_73 rfl rfl (fun c => ?_) (fun c => ?_)
          · replace h := h.1 c
            refine s_iload_n (n := 96) hG dX12_cellsOf_95 rfl rfl ?_
            refine s_iconst (n := 97) hG dX12_cellsOf_96 ki_3 rfl ?_
            refine s_icmp_ne (n := 100) (tgt := 119) hG dX12_cellsOf_97 rfl rfl (fun c => ?_) (fun c => ?_)
            · replace h := h.1 c
              refine s_iload_n (n := 120) hG dX12_cellsOf_119 rfl rfl ?_
              refine s_iconst (n := 121) hG dX12_cellsOf_120 ki_4 rfl ?_
              refine s_icmp_ne (n := 124) (tgt := 143) hG dX12_cellsOf_121 rfl rfl (fun c => ?_) (fun c => ?_)
              · replace h := h.1 c
                refine s_iload_n (n := 144) hG dX12_cellsOf_143 rfl rfl ?_
                refine s_iconst (n := 145) hG dX12_cellsOf_144 ki_5 rfl ?_
                refine s_icmp_ne (n := 148) (tgt := 167) hG dX12_cellsOf_145 rfl rfl (fun c => ?_) (fun c => ?_)
                · replace h := h.1 c
                  refine s_aload_n (n := 168) hG dX12_cellsOf_167 rfl rfl ?_
                  refine gtX12_16 (n := 171) hG dX12_cellsOf_168 rfl ?_
                  refine s_iload (n := 173) hG dX12_cellsOf_171 rfl rfl ?_
                  obtain ⟨hin, h⟩ := h
                  refine s_iald (n := 174) hG dX12_cellsOf_173 (gaM_1 hin) rfl ?_
                  refine s_bipush (n := 176) hG dX12_cellsOf_174 kb_10 rfl ?_
                  refine s_icmp_lt (n := 179) (tgt := 183) hG dX12_cellsOf_176 rfl rfl (fun c => ?_) (fun c => ?_)
                  · replace h := h.1 c
                    refine s_iconst (n := 184) hG dX12_cellsOf_183 ki_0 rfl ?_
                    exact s_wk hG (sX12_cellsOf_j184 hE hG hQ hK4 ih h) ⟨rfl, rfl, rfl, rfl, rfl, trivial⟩
                  · replace h := h.2 c
                    refine s_iconst (n := 180) hG dX12_cellsOf_179 ki_1 rfl ?_
                    refine s_goto (tgt := 184) hG dX12_cellsOf_180 rfl ?_
                    exact s_wk hG (sX12_cellsOf_j184 hE hG hQ hK4 ih h) ⟨rfl, rfl, rfl, rfl, rfl, trivial⟩
                · replace h := h.2 c
                  refine s_aload_n (n := 149) hG dX12_cellsOf_148 rfl rfl ?_
                  refine gtX12_24 (n := 152) hG dX12_cellsOf_149 rfl ?_
                  refine s_iload (n := 154) hG dX12_cellsOf_152 rfl rfl ?_
                  obtain ⟨hin, h⟩ := h
                  refine s_iald (n := 155) hG dX12_cellsOf_154 (gaM_3 hin) rfl ?_
                  refine s_iconst (n := 156) hG dX12_cellsOf_155 ki_5 rfl ?_
                  refine s_icmp_ne (n := 159) (tgt := 163) hG dX12_cellsOf_156 rfl rfl (fun c => ?_) (fun c => ?_)
                  · replace h := h.1 c
                    refine s_iconst (n := 164) hG dX12_cellsOf_163 ki_0 rfl ?_
                    refine s_goto (tgt := 184) hG dX12_cellsOf_164 rfl ?_
                    exact s_wk hG (sX12_cellsOf_j184 hE hG hQ hK4 ih h) ⟨rfl, rfl, rfl, rfl, rfl, trivial⟩
                  · replace h := h.2 c
                    refine s_iconst (n := 160) hG dX12_cellsOf_159 ki_1 rfl ?_
                    refine s_goto (tgt := 184) hG dX12_cellsOf_160 rfl ?_
                    exact s_wk hG (sX12_cellsOf_j184 hE hG hQ hK4 ih h) ⟨rfl, rfl, rfl, rfl, rfl, trivial⟩
              · replace h := h.2 c
                refine s_aload_n (n := 125) hG dX12_cellsOf_124 rfl rfl ?_
                refine gtX12_16 (n := 128) hG dX12_cellsOf_125 rfl ?_
                refine s_iload (n := 130) hG dX12_cellsOf_128 rfl rfl ?_
                obtain ⟨hin, h⟩ := h
                refine s_iald (n := 131) hG dX12_cellsOf_130 (gaM_1 hin) rfl ?_
                refine s_iconst (n := 132) hG dX12_cellsOf_131 ki_2 rfl ?_
                refine s_icmp_ne (n := 135) (tgt := 139) hG dX12_cellsOf_132 rfl rfl (fun c => ?_) (fun c => ?_)
                · replace h := h.1 c
                  refine s_iconst (n := 140) hG dX12_cellsOf_139 ki_0 rfl ?_
                  refine s_goto (tgt := 184) hG dX12_cellsOf_140 rfl ?_
                  exact s_wk hG (sX12_cellsOf_j184 hE hG hQ hK4 ih h) ⟨rfl, rfl, rfl, rfl, rfl, trivial⟩
                · replace h := h.2 c
                  refine s_iconst (n := 136) hG dX12_cellsOf_135 ki_1 rfl ?_
                  refine s_goto (tgt := 184) hG dX12_cellsOf_136 rfl ?_
                  exact s_wk hG (sX12_cellsOf_j184 hE hG hQ hK4 ih h) ⟨rfl, rfl, rfl, rfl, rfl, trivial⟩
            · replace h := h.2 c
              refine s_aload_n (n := 101) hG dX12_cellsOf_100 rfl rfl ?_
              refine gtX12_16 (n := 104) hG dX12_cellsOf_101 rfl ?_
              refine s_iload (n := 106) hG dX12_cellsOf_104 rfl rfl ?_
              obtain ⟨hin, h⟩ := h
              refine s_iald (n := 107) hG dX12_cellsOf_106 (gaM_1 hin) rfl ?_
              refine s_iconst (n := 108) hG dX12_cellsOf_107 ki_1 rfl ?_
              refine s_icmp_ne (n := 111) (tgt := 115) hG dX12_cellsOf_108 rfl rfl (fun c => ?_) (fun c => ?_)
              · replace h := h.1 c
                refine s_iconst (n := 116) hG dX12_cellsOf_115 ki_0 rfl ?_
                refine s_goto (tgt := 184) hG dX12_cellsOf_116 rfl ?_
                exact s_wk hG (sX12_cellsOf_j184 hE hG hQ hK4 ih h) ⟨rfl, rfl, rfl, rfl, rfl, trivial⟩
              · replace h := h.2 c
                refine s_iconst (n := 112) hG dX12_cellsOf_111 ki_1 rfl ?_
                refine s_goto (tgt := 184) hG dX12_cellsOf_112 rfl ?_
                exact s_wk hG (sX12_cellsOf_j184 hE hG hQ hK4 ih h) ⟨rfl, rfl, rfl, rfl, rfl, trivial⟩
          · replace h := h.2 c
            refine s_aload_n (n := 77) hG dX12_cellsOf_76 rfl rfl ?_
            refine gtX12_24 (n := 80) hG dX12_cellsOf_77 rfl ?_
            refine s_iload (n := 82) hG dX12_cellsOf_80 rfl rfl ?_
            obtain ⟨hin, h⟩ := h
            refine s_iald (n := 83) hG dX12_cellsOf_82 (gaM_3 hin) rfl ?_
            refine s_iconst (n := 84) hG dX12_cellsOf_83 ki_3 rfl ?_
            refine s_icmp_ne (n := 87) (tgt := 91) hG dX12_cellsOf_84 rfl rfl (fun c => ?_) (fun c => ?_)
            · replace h := h.1 c
              refine s_iconst (n := 92) hG dX12_cellsOf_91 ki_0 rfl ?_
              refine s_goto (tgt := 184) hG dX12_cellsOf_92 rfl ?_
              exact s_wk hG (sX12_cellsOf_j184 hE hG hQ hK4 ih h) ⟨rfl, rfl, rfl, rfl, rfl, trivial⟩
            · replace h := h.2 c
              refine s_iconst (n := 88) hG dX12_cellsOf_87 ki_1 rfl ?_
              refine s_goto (tgt := 184) hG dX12_cellsOf_88 rfl ?_
              exact s_wk hG (sX12_cellsOf_j184 hE hG hQ hK4 ih h) ⟨rfl, rfl, rfl, rfl, rfl, trivial⟩
        · replace h := h.2 c
          refine s_aload_n (n := 53) hG dX12_cellsOf_52 rfl rfl ?_
          refine gtX12_24 (n := 56) hG dX12_cellsOf_53 rfl ?_
          refine s_iload (n := 58) hG dX12_cellsOf_56 rfl rfl ?_
          obtain ⟨hin, h⟩ := h
          refine s_iald (n := 59) hG dX12_cellsOf_58 (gaM_3 hin) rfl ?_
          refine s_iconst (n := 60) hG dX12_cellsOf_59 ki_2 rfl ?_
          refine s_icmp_ne (n := 63) (tgt := 67) hG dX12_cellsOf_60 rfl rfl (fun c => ?_) (fun c => ?_)
          · replace h := h.1 c
            refine s_iconst (n := 68) hG dX12_cellsOf_67 ki_0 rfl ?_
            refine s_goto (tgt := 184) hG dX12_cellsOf_68 rfl ?_
            exact s_wk hG (sX12_cellsOf_j184 hE hG hQ hK4 ih h) ⟨rfl, rfl, rfl, rfl, rfl, trivial⟩
          · replace h := h.2 c
            refine s_iconst (n := 64) hG dX12_cellsOf_63 ki_1 rfl ?_
            refine s_goto (tgt := 184) hG dX12_cellsOf_64 rfl ?_
            exact s_wk hG (sX12_cellsOf_j184 hE hG hQ hK4 ih h) ⟨rfl, rfl, rfl, rfl, rfl, trivial⟩
      · replace h := h.2 c
        refine s_aload_n (n := 38) hG dX12_cellsOf_37 rfl rfl ?_
        refine s_iload (n := 40) hG dX12_cellsOf_38 rfl rfl ?_
        refine s_iload_n (n := 41) hG dX12_cellsOf_40 rfl rfl ?_
        refine s_callV (n := 44) (st := []) hG (mX12_isCast hE h) ceX12_isCast lmX12_148 ⟨by decide, rfl, rfl⟩ rfl ⟨rfl, Nat.le_of_ble_eq_true rfl, by decide⟩ dX12_cellsOf_41 rfl ?_
        rintro _ _ ⟨r41, g41, f41, w41, rfl, rfl, h⟩
        refine s_goto (tgt := 184) hG dX12_cellsOf_44 rfl ?_
        exact s_wk hG (sX12_cellsOf_j184 hE hG hQ hK4 ih h) ⟨rfl, rfl, rfl, rfl, rfl, trivial⟩
def wX12_cellsOf_l4 (N : Nat) (v1 : Int32)  (Q : Int32 → gFG → gFF → Int64 → Prop) : Nat → Int32 → Int32 → gFG → gFF → Int64 → Prop
  | 0, _, _, _, _, _ => False
  | n + 1, v2, v3, g, f, w => (((g 3) ≤ v3) → Q v2 g f w) ∧ ((¬ (g 3) ≤ v3) → wX12_cellsOf_l15 N v1 v3 (wX12_cellsOf_l4 N v1  Q n) Q N v2 0 g f w)
theorem sX12_cellsOf_l4 {G : gG} {Rt : Option Value → gSt → Prop} (hE : gInj layM ad ∧ gZok (gA layM ad) Z) (hG : gSim l D cs layM ad Z 4 RX12 cX12_cellsOf 7 (some .int) G Rt) {Q : Int32 → gFG → gFF → Int64 → Prop} (hQ : ∀ v S, gMi Q v S → Rt v S) {N : Nat} {v1 : Int32}    : ∀ (n : Nat) (v2 : Int32) (v3 : Int32) (g : gFG) (f : gFF) (w : Int64), wX12_cellsOf_l4 N v1  Q n v2 v3 g f w → G 4 [some (.ref (ad 0)), some (.int v1), some (.int v2), some (.int v3), none, none, none] [] (g, f, w) := by
  intro n
  induction n with
  | zero => intro _ _ _ _ _ h; unfold wX12_cellsOf_l4 at h; exact h.elim
  | succ n ih =>
    intro v2 v3 g f w h
    unfold wX12_cellsOf_l4 at h
    refine s_iload_n (n := 5) hG dX12_cellsOf_4 rfl rfl ?_
    refine s_aload_n (n := 6) hG dX12_cellsOf_5 rfl rfl ?_
    refine gtX12_13 (n := 9) hG dX12_cellsOf_6 rfl ?_
    refine s_icmp_ge (n := 12) (tgt := 211) hG dX12_cellsOf_9 rfl rfl (fun c => ?_) (fun c => ?_)
    · replace h := h.1 c
      refine s_iload_n (n := 212) hG dX12_cellsOf_211 rfl rfl ?_
      exact s_iret hG dX12_cellsOf_212 (hQ _ _ ⟨_, _, _, _, rfl, rfl, h⟩)
    · replace h := h.2 c
      refine s_iconst (n := 13) hG dX12_cellsOf_12 ki_0 rfl ?_
      refine s_istore (n := 15) (lv2 := [some (.ref (ad 0)), some (.int v1), some (.int v2), some (.int v3), some (.int 0), none, none]) hG dX12_cellsOf_13 rfl rfl rfl ?_
      exact s_wk hG (sX12_cellsOf_l15 hE hG hQ ih N _ _ _ _ _ h) ⟨rfl, rfl, rfl, rfl, rfl, trivial⟩
def wX12_cellsOf (N : Nat) (a1 : Int32) (g : gFG) (f : gFF) (w : Int64) (Q : Int32 → gFG → gFF → Int64 → Prop) : Prop := wX12_cellsOf_l4 N a1 Q N 0 0 g f w
theorem mX12_cellsOf (hE : gInj layM ad ∧ gZok (gA layM ad) Z) {N : Nat} {a1 : Int32} {g : gFG} {f : gFF} {w : Int64} {Q : Int32 → gFG → gFF → Int64 → Prop} (h : wX12_cellsOf N a1 g f w Q) : gCT l D cs layM ad Z 4 yX12_cellsOf cX12_cellsOf 7 (some .int) [.ref (ad 0), .int a1] (g, f, w) (gMi Q) := by
  refine met_walk (lv0 := [some (.ref (ad 0)), some (.int a1), none, none, none, none, none]) hE (by decide) (Nat.le_of_ble_eq_true rfl) rfl (fun G Rt hG hQ => ?_)
  replace hG : gSim l D cs layM ad Z 4 RX12 cX12_cellsOf 7 (some .int) G Rt := hG
  unfold wX12_cellsOf at h
  refine s_iconst (n := 1) hG dX12_cellsOf_0 ki_0 rfl ?_
  refine s_istore_n (n := 2) (lv2 := [some (.ref (ad 0)), some (.int a1), some (.int 0), none, none, none, none]) hG dX12_cellsOf_1 rfl rfl rfl ?_
  refine s_iconst (n := 3) hG dX12_cellsOf_2 ki_0 rfl ?_
  refine s_istore_n (n := 4) (lv2 := [some (.ref (ad 0)), some (.int a1), some (.int 0), some (.int 0), none, none, none]) hG dX12_cellsOf_3 rfl rfl rfl ?_
  exact s_wk hG (sX12_cellsOf_l4 hE hG hQ  N _ _ _ _ _ h) ⟨rfl, rfl, rfl, rfl, trivial⟩
def wX12_many (N : Nat) (a1 : Int32) (g : gFG) (f : gFF) (w : Int64) (Q : Int32 → gFG → gFF → Int64 → Prop) : Prop := ∀ g2 : gFG, g2 = (va_up g 0 0) → wX12_in N a1.toInt64 0 6 g2 f w (fun r11 g11 f11 w11 => ((¬ r11 = 0) → wX12_pourMould N g11 f11 w11 (fun g20 f20 w20 => wX12_cellsOf N a1 g20 f20 w20 (fun r25 g25 f25 w25 => Q r25 g25 f25 w25))) ∧ ((r11 = 0) → Q (-1) g11 f11 w11))
theorem mX12_many (hE : gInj layM ad ∧ gZok (gA layM ad) Z) {N : Nat} {a1 : Int32} {g : gFG} {f : gFF} {w : Int64} {Q : Int32 → gFG → gFF → Int64 → Prop} (h : wX12_many N a1 g f w Q) : gCT l D cs layM ad Z 5 yX12_many cX12_many 2 (some .int) [.ref (ad 0), .int a1] (g, f, w) (gMi Q) := by
  refine met_walk (lv0 := [some (.ref (ad 0)), some (.int a1)]) hE (by decide) (Nat.le_of_ble_eq_true rfl) rfl (fun G Rt hG hQ => ?_)
  replace hG : gSim l D cs layM ad Z 5 RX12 cX12_many 2 (some .int) G Rt := hG
  unfold wX12_many at h
  refine s_aload_n (n := 1) hG dX12_many_0 rfl rfl ?_
  refine s_iconst (n := 2) hG dX12_many_1 ki_0 rfl ?_
  refine ptX12_96 (n := 5) hG dX12_many_2 rfl ?_
  refine s_ng (fun g2 hg2 => ?_)
  replace h := h g2 hg2
  refine s_iload_n (n := 6) hG dX12_many_5 rfl rfl ?_
  refine s_i2l (n := 7) hG dX12_many_6 rfl ?_
  refine s_lconst (n := 8) hG dX12_many_7 kl_0 rfl ?_
  refine s_ldc2_w (n := 11) hG dX12_many_8 lcX12_159 rfl ?_
  refine s_callS (n := 14) (st := []) hG (mX12_in hE h) ceX12_in lmX12_102 rfl ⟨rfl, Nat.le_of_ble_eq_true rfl, by decide⟩ dX12_many_11 rfl ?_
  rintro _ _ ⟨r11, g11, f11, w11, rfl, rfl, h⟩
  refine s_if_ne (n := 17) (tgt := 19) hG dX12_many_14 rfl rfl (fun c => ?_) (fun c => ?_)
  · replace h := h.1 c
    refine s_aload_n (n := 20) hG dX12_many_19 rfl rfl ?_
    refine s_callV (n := 23) (st := []) hG (mX12_pourMould hE h) ceX12_pourMould lmX12_145 ⟨by decide, rfl, rfl⟩ rfl ⟨rfl, Nat.le_of_ble_eq_true rfl, by decide⟩ dX12_many_20 rfl ?_
    rintro _ _ ⟨g20, f20, w20, rfl, rfl, h⟩
    refine s_aload_n (n := 24) hG dX12_many_23 rfl rfl ?_
    refine s_iload_n (n := 25) hG dX12_many_24 rfl rfl ?_
    refine s_callV (n := 28) (st := []) hG (mX12_cellsOf hE h) ceX12_cellsOf lmX12_161 ⟨by decide, rfl, rfl⟩ rfl ⟨rfl, Nat.le_of_ble_eq_true rfl, by decide⟩ dX12_many_25 rfl ?_
    rintro _ _ ⟨r25, g25, f25, w25, rfl, rfl, h⟩
    exact s_iret hG dX12_many_28 (hQ _ _ ⟨_, _, _, _, rfl, rfl, h⟩)
  · replace h := h.2 c
    refine s_iconst (n := 18) hG dX12_many_17 ki_m1 rfl ?_
    exact s_iret hG dX12_many_18 (hQ _ _ ⟨_, _, _, _, rfl, rfl, h⟩)
def wX12_canGo_j198 (N : Nat) (K46 : Int32 → Int32 → gFG → gFF → Int64 → Prop) (K58 : Int32 → Int32 → gFG → gFF → Int64 → Prop) (Q : Int32 → gFG → gFF → Int64 → Prop) (v1 : Int32) (v3 : Int32) (v4 : Int32) (v5 : Int32) (v6 : Int32) (v7 : Int32) (g : gFG) (f : gFF) (w : Int64) : Prop := ∀ x7_198 : Int32, x7_198 = (v7 + 1) → K58 v5 x7_198 g f w
theorem sX12_canGo_j198 {G : gG} {Rt : Option Value → gSt → Prop} (hE : gInj layM ad ∧ gZok (gA layM ad) Z) (hG : gSim l D cs layM ad Z 3 RX12 cX12_canGo 11 (some .boolean) G Rt) {Q : Int32 → gFG → gFF → Int64 → Prop} (hQ : ∀ v S, gMi Q v S → Rt v S) {N : Nat} {K46 : Int32 → Int32 → gFG → gFF → Int64 → Prop} {K58 : Int32 → Int32 → gFG → gFF → Int64 → Prop}  {v1 : Int32} {v3 : Int32} {v4 : Int32} {v5 : Int32} {v6 : Int32} {v7 : Int32} {g : gFG} {f : gFF} {w : Int64} (hK46 : ∀ (uv5 : Int32) (uv6 : Int32) (ug : gFG) (uf : gFF) (uw : Int64), K46 uv5 uv6 ug uf uw → G 46 [some (.ref (ad 0)), some (.int v1), none, some (.int v3), some (.int v4), some (.int uv5), some (.int uv6), none, none, none, none] [] (ug, uf, uw)) (hK58 : ∀ (uv5 : Int32) (uv7 : Int32) (ug : gFG) (uf : gFF) (uw : Int64), K58 uv5 uv7 ug uf uw → G 58 [some (.ref (ad 0)), some (.int v1), none, some (.int v3), some (.int v4), some (.int uv5), some (.int v6), some (.int uv7), none, none, none] [] (ug, uf, uw)) (h : wX12_canGo_j198 N K46 K58 Q v1 v3 v4 v5 v6 v7 g f w) : G 198 [some (.ref (ad 0)), some (.int v1), none, some (.int v3), some (.int v4), some (.int v5), some (.int v6), some (.int v7), none, none, none] [] (g, f, w) := by
  unfold wX12_canGo_j198 at h
  obtain ⟨x7_198, hx7_198⟩ : ∃ z : Int32, z = (v7 + 1) := ⟨_, rfl⟩
  replace h := h x7_198 hx7_198
  refine s_iinc (n := 201) (v := x7_198) (lv2 := [some (.ref (ad 0)), some (.int v1), none, some (.int v3), some (.int v4), some (.int v5), some (.int v6), some (.int x7_198), none, none, none]) hG dX12_canGo_198 ki_1 rfl hx7_198 rfl rfl rfl ?_
  refine s_goto (tgt := 58) hG dX12_canGo_201 rfl ?_
  exact s_wk hG (hK58 _ _ _ _ _ h) ⟨rfl, rfl, rfl, rfl, rfl, rfl, rfl, trivial⟩
def wX12_canGo_j180 (N : Nat) (K46 : Int32 → Int32 → gFG → gFF → Int64 → Prop) (K58 : Int32 → Int32 → gFG → gFF → Int64 → Prop) (K103 : Int32 → Int32 → Int32 → gFG → gFF → Int64 → Prop) (Q : Int32 → gFG → gFF → Int64 → Prop) (v1 : Int32) (v3 : Int32) (v4 : Int32) (v6 : Int32) (v7 : Int32) (v8 : Int32) (v9 : Int32) (t0 : Int32) (g : gFG) (f : gFF) (w : Int64) : Prop := ∀ x8_186 : Int32, x8_186 = (v8 + v3) → ∀ x9_193 : Int32, x9_193 = (v9 + v4) → K103 t0 x8_186 x9_193 g f w
theorem sX12_canGo_j180 {G : gG} {Rt : Option Value → gSt → Prop} (hE : gInj layM ad ∧ gZok (gA layM ad) Z) (hG : gSim l D cs layM ad Z 3 RX12 cX12_canGo 11 (some .boolean) G Rt) {Q : Int32 → gFG → gFF → Int64 → Prop} (hQ : ∀ v S, gMi Q v S → Rt v S) {N : Nat} {K46 : Int32 → Int32 → gFG → gFF → Int64 → Prop} {K58 : Int32 → Int32 → gFG → gFF → Int64 → Prop} {K103 : Int32 → Int32 → Int32 → gFG → gFF → Int64 → Prop}  {v1 : Int32} {v3 : Int32} {v4 : Int32} {v6 : Int32} {v7 : Int32} {v8 : Int32} {v9 : Int32} {t0 : Int32} {g : gFG} {f : gFF} {w : Int64} (hK46 : ∀ (uv5 : Int32) (uv6 : Int32) (ug : gFG) (uf : gFF) (uw : Int64), K46 uv5 uv6 ug uf uw → G 46 [some (.ref (ad 0)), some (.int v1), none, some (.int v3), some (.int v4), some (.int uv5), some (.int uv6), none, none, none, none] [] (ug, uf, uw)) (hK58 : ∀ (uv5 : Int32) (uv7 : Int32) (ug : gFG) (uf : gFF) (uw : Int64), K58 uv5 uv7 ug uf uw → G 58 [some (.ref (ad 0)), some (.int v1), none, some (.int v3), some (.int v4), some (.int uv5), some (.int v6), some (.int uv7), none, none, none] [] (ug, uf, uw)) (hK103 : ∀ (uv5 : Int32) (uv8 : Int32) (uv9 : Int32) (ug : gFG) (uf : gFF) (uw : Int64), K103 uv5 uv8 uv9 ug uf uw → G 103 [some (.ref (ad 0)), some (.int v1), none, some (.int v3), some (.int v4), some (.int uv5), some (.int v6), some (.int v7), some (.int uv8), some (.int uv9), none] [] (ug, uf, uw)) (h : wX12_canGo_j180 N K46 K58 K103 Q v1 v3 v4 v6 v7 v8 v9 t0 g f w) : G 180 [some (.ref (ad 0)), some (.int v1), none, some (.int v3), some (.int v4), none, some (.int v6), some (.int v7), some (.int v8), some (.int v9), none] [.int t0] (g, f, w) := by
  unfold wX12_canGo_j180 at h
  refine s_istore (n := 182) (lv2 := [some (.ref (ad 0)), some (.int v1), none, some (.int v3), some (.int v4), some (.int t0), some (.int v6), some (.int v7), some (.int v8), some (.int v9), none]) hG dX12_canGo_180 rfl rfl rfl ?_
  refine s_iload (n := 184) hG dX12_canGo_182 rfl rfl ?_
  refine s_iload_n (n := 185) hG dX12_canGo_184 rfl rfl ?_
  refine s_iadd (n := 186) hG dX12_canGo_185 rfl ?_
  refine s_topi (fun x8_186 hx8_186 => ?_)
  replace h := h x8_186 hx8_186
  refine s_istore (n := 188) (lv2 := [some (.ref (ad 0)), some (.int v1), none, some (.int v3), some (.int v4), some (.int t0), some (.int v6), some (.int v7), some (.int x8_186), some (.int v9), none]) hG dX12_canGo_186 rfl rfl rfl ?_
  refine s_iload (n := 190) hG dX12_canGo_188 rfl rfl ?_
  refine s_iload (n := 192) hG dX12_canGo_190 rfl rfl ?_
  refine s_iadd (n := 193) hG dX12_canGo_192 rfl ?_
  refine s_topi (fun x9_193 hx9_193 => ?_)
  replace h := h x9_193 hx9_193
  refine s_istore (n := 195) (lv2 := [some (.ref (ad 0)), some (.int v1), none, some (.int v3), some (.int v4), some (.int t0), some (.int v6), some (.int v7), some (.int x8_186), some (.int x9_193), none]) hG dX12_canGo_193 rfl rfl rfl ?_
  refine s_goto (tgt := 103) hG dX12_canGo_195 rfl ?_
  exact s_wk hG (hK103 _ _ _ _ _ _ h) ⟨rfl, rfl, rfl, rfl, rfl, rfl, rfl, rfl, rfl, trivial⟩
def wX12_canGo_j175 (N : Nat) (K46 : Int32 → Int32 → gFG → gFF → Int64 → Prop) (K58 : Int32 → Int32 → gFG → gFF → Int64 → Prop) (K103 : Int32 → Int32 → Int32 → gFG → gFF → Int64 → Prop) (Q : Int32 → gFG → gFF → Int64 → Prop) (v1 : Int32) (v3 : Int32) (v4 : Int32) (v6 : Int32) (v7 : Int32) (v8 : Int32) (v9 : Int32) (g : gFG) (f : gFF) (w : Int64) : Prop := wX12_canGo_j180 N (K46) (K58) (K103) Q v1 v3 v4 v6 v7 v8 v9 1 g f w
theorem sX12_canGo_j175 {G : gG} {Rt : Option Value → gSt → Prop} (hE : gInj layM ad ∧ gZok (gA layM ad) Z) (hG : gSim l D cs layM ad Z 3 RX12 cX12_canGo 11 (some .boolean) G Rt) {Q : Int32 → gFG → gFF → Int64 → Prop} (hQ : ∀ v S, gMi Q v S → Rt v S) {N : Nat} {K46 : Int32 → Int32 → gFG → gFF → Int64 → Prop} {K58 : Int32 → Int32 → gFG → gFF → Int64 → Prop} {K103 : Int32 → Int32 → Int32 → gFG → gFF → Int64 → Prop}  {v1 : Int32} {v3 : Int32} {v4 : Int32} {v6 : Int32} {v7 : Int32} {v8 : Int32} {v9 : Int32} {g : gFG} {f : gFF} {w : Int64} (hK46 : ∀ (uv5 : Int32) (uv6 : Int32) (ug : gFG) (uf : gFF) (uw : Int64), K46 uv5 uv6 ug uf uw → G 46 [some (.ref (ad 0)), some (.int v1), none, some (.int v3), some (.int v4), some (.int uv5), some (.int uv6), none, none, none, none] [] (ug, uf, uw)) (hK58 : ∀ (uv5 : Int32) (uv7 : Int32) (ug : gFG) (uf : gFF) (uw : Int64), K58 uv5 uv7 ug uf uw → G 58 [some (.ref (ad 0)), some (.int v1), none, some (.int v3), some (.int v4), some (.int uv5), some (.int v6), some (.int uv7), none, none, none] [] (ug, uf, uw)) (hK103 : ∀ (uv5 : Int32) (uv8 : Int32) (uv9 : Int32) (ug : gFG) (uf : gFF) (uw : Int64), K103 uv5 uv8 uv9 ug uf uw → G 103 [some (.ref (ad 0)), some (.int v1), none, some (.int v3), some (.int v4), some (.int uv5), some (.int v6), some (.int v7), some (.int uv8), some (.int uv9), none] [] (ug, uf, uw)) (h : wX12_canGo_j175 N K46 K58 K103 Q v1 v3 v4 v6 v7 v8 v9 g f w) : G 175 [some (.ref (ad 0)), some (.int v1), none, some (.int v3), some (.int v4), none, some (.int v6), some (.int v7), some (.int v8), some (.int v9), none] [] (g, f, w) := by
  unfold wX12_canGo_j175 at h
  refine s_iconst (n := 176) hG dX12_canGo_175 ki_1 rfl ?_
  refine s_goto (tgt := 180) hG dX12_canGo_176 rfl ?_
  exact s_wk hG (sX12_canGo_j180 hE hG hQ hK46 hK58 hK103 h) ⟨rfl, rfl, rfl, rfl, rfl, rfl, rfl, rfl, trivial⟩
def wX12_canGo_j179 (N : Nat) (K46 : Int32 → Int32 → gFG → gFF → Int64 → Prop) (K58 : Int32 → Int32 → gFG → gFF → Int64 → Prop) (K103 : Int32 → Int32 → Int32 → gFG → gFF → Int64 → Prop) (Q : Int32 → gFG → gFF → Int64 → Prop) (v1 : Int32) (v3 : Int32) (v4 : Int32) (v6 : Int32) (v7 : Int32) (v8 : Int32) (v9 : Int32) (g : gFG) (f : gFF) (w : Int64) : Prop := wX12_canGo_j180 N (K46) (K58) (K103) Q v1 v3 v4 v6 v7 v8 v9 0 g f w
theorem sX12_canGo_j179 {G : gG} {Rt : Option Value → gSt → Prop} (hE : gInj layM ad ∧ gZok (gA layM ad) Z) (hG : gSim l D cs layM ad Z 3 RX12 cX12_canGo 11 (some .boolean) G Rt) {Q : Int32 → gFG → gFF → Int64 → Prop} (hQ : ∀ v S, gMi Q v S → Rt v S) {N : Nat} {K46 : Int32 → Int32 → gFG → gFF → Int64 → Prop} {K58 : Int32 → Int32 → gFG → gFF → Int64 → Prop} {K103 : Int32 → Int32 → Int32 → gFG → gFF → Int64 → Prop}  {v1 : Int32} {v3 : Int32} {v4 : Int32} {v6 : Int32} {v7 : Int32} {v8 : Int32} {v9 : Int32} {g : gFG} {f : gFF} {w : Int64} (hK46 : ∀ (uv5 : Int32) (uv6 : Int32) (ug : gFG) (uf : gFF) (uw : Int64), K46 uv5 uv6 ug uf uw → G 46 [some (.ref (ad 0)), some (.int v1), none, some (.int v3), some (.int v4), some (.int uv5), some (.int uv6), none, none, none, none] [] (ug, uf, uw)) (hK58 : ∀ (uv5 : Int32) (uv7 : Int32) (ug : gFG) (uf : gFF) (uw : Int64), K58 uv5 uv7 ug uf uw → G 58 [some (.ref (ad 0)), some (.int v1), none, some (.int v3), some (.int v4), some (.int uv5), some (.int v6), some (.int uv7), none, none, none] [] (ug, uf, uw)) (hK103 : ∀ (uv5 : Int32) (uv8 : Int32) (uv9 : Int32) (ug : gFG) (uf : gFF) (uw : Int64), K103 uv5 uv8 uv9 ug uf uw → G 103 [some (.ref (ad 0)), some (.int v1), none, some (.int v3), some (.int v4), some (.int uv5), some (.int v6), some (.int v7), some (.int uv8), some (.int uv9), none] [] (ug, uf, uw)) (h : wX12_canGo_j179 N K46 K58 K103 Q v1 v3 v4 v6 v7 v8 v9 g f w) : G 179 [some (.ref (ad 0)), some (.int v1), none, some (.int v3), some (.int v4), none, some (.int v6), some (.int v7), some (.int v8), some (.int v9), none] [] (g, f, w) := by
  unfold wX12_canGo_j179 at h
  refine s_iconst (n := 180) hG dX12_canGo_179 ki_0 rfl ?_
  exact s_wk hG (sX12_canGo_j180 hE hG hQ hK46 hK58 hK103 h) ⟨rfl, rfl, rfl, rfl, rfl, rfl, rfl, rfl, trivial⟩
def wX12_canGo_l103 (N : Nat) (v1 : Int32) (v3 : Int32) (v4 : Int32) (v6 : Int32) (v7 : Int32) (K46 : Int32 → Int32 → gFG → gFF → Int64 → Prop) (K58 : Int32 → Int32 → gFG → gFF → Int64 → Prop) (Q : Int32 → gFG → gFF → Int64 → Prop) : Nat → Int32 → Int32 → Int32 → gFG → gFF → Int64 → Prop
  | 0, _, _, _, _, _, _ => False
  | n + 1, v5, v8, v9, g, f, w => wX12_isCell N v8 v9 g f w (fun r108 g108 f108 w108 => ((r108 = 0) → wX12_canGo_j198 N (K46) (K58) Q v1 v3 v4 v5 v6 v7 g108 f108 w108) ∧ ((¬ r108 = 0) → ((v5 = 0) → wX12_canGo_j198 N (K46) (K58) Q v1 v3 v4 v5 v6 v7 g108 f108 w108) ∧ ((¬ v5 = 0) → ∀ i131 : Int32, i131 = ((12 * v9) + v8) → (vp_in i131 144) ∧ (∀ x10_132 : Int32, x10_132 = (f108 1 i131.toNatClampNeg) → ((x10_132 = (10 + v1)) → wX12_canGo_j175 N (K46) (K58) (wX12_canGo_l103 N v1 v3 v4 v6 v7 K46 K58 Q n) Q v1 v3 v4 v6 v7 v8 v9 g108 f108 w108) ∧ ((¬ x10_132 = (10 + v1)) → ((x10_132 = 3) → wX12_canGo_j175 N (K46) (K58) (wX12_canGo_l103 N v1 v3 v4 v6 v7 K46 K58 Q n) Q v1 v3 v4 v6 v7 v8 v9 g108 f108 w108) ∧ ((¬ x10_132 = 3) → ((x10_132 = 4) → wX12_canGo_j175 N (K46) (K58) (wX12_canGo_l103 N v1 v3 v4 v6 v7 K46 K58 Q n) Q v1 v3 v4 v6 v7 v8 v9 g108 f108 w108) ∧ ((¬ x10_132 = 4) → ((x10_132 < 10) → wX12_canGo_j179 N (K46) (K58) (wX12_canGo_l103 N v1 v3 v4 v6 v7 K46 K58 Q n) Q v1 v3 v4 v6 v7 v8 v9 g108 f108 w108) ∧ ((¬ x10_132 < 10) → ∀ i171 : Int32, i171 = (x10_132 - 10) → (vp_in i171 8) ∧ ((((f108 6 i171.toNatClampNeg) = 0) → wX12_canGo_j179 N (K46) (K58) (wX12_canGo_l103 N v1 v3 v4 v6 v7 K46 K58 Q n) Q v1 v3 v4 v6 v7 v8 v9 g108 f108 w108) ∧ ((¬ (f108 6 i171.toNatClampNeg) = 0) → wX12_canGo_j175 N (K46) (K58) (wX12_canGo_l103 N v1 v3 v4 v6 v7 K46 K58 Q n) Q v1 v3 v4 v6 v7 v8 v9 g108 f108 w108))))))))))
theorem sX12_canGo_l103 {G : gG} {Rt : Option Value → gSt → Prop} (hE : gInj layM ad ∧ gZok (gA layM ad) Z) (hG : gSim l D cs layM ad Z 3 RX12 cX12_canGo 11 (some .boolean) G Rt) {Q : Int32 → gFG → gFF → Int64 → Prop} (hQ : ∀ v S, gMi Q v S → Rt v S) {N : Nat} {v1 : Int32} {v3 : Int32} {v4 : Int32} {v6 : Int32} {v7 : Int32} {K46 : Int32 → Int32 → gFG → gFF → Int64 → Prop} {K58 : Int32 → Int32 → gFG → gFF → Int64 → Prop}  (hK46 : ∀ (uv5 : Int32) (uv6 : Int32) (ug : gFG) (uf : gFF) (uw : Int64), K46 uv5 uv6 ug uf uw → G 46 [some (.ref (ad 0)), some (.int v1), none, some (.int v3), some (.int v4), some (.int uv5), some (.int uv6), none, none, none, none] [] (ug, uf, uw)) (hK58 : ∀ (uv5 : Int32) (uv7 : Int32) (ug : gFG) (uf : gFF) (uw : Int64), K58 uv5 uv7 ug uf uw → G 58 [some (.ref (ad 0)), some (.int v1), none, some (.int v3), some (.int v4), some (.int uv5), some (.int v6), some (.int uv7), none, none, none] [] (ug, uf, uw)) : ∀ (n : Nat) (v5 : Int32) (v8 : Int32) (v9 : Int32) (g : gFG) (f : gFF) (w : Int64), wX12_canGo_l103 N v1 v3 v4 v6 v7 K46 K58 Q n v5 v8 v9 g f w → G 103 [some (.ref (ad 0)), some (.int v1), none, some (.int v3), some (.int v4), some (.int v5), some (.int v6), some (.int v7), some (.int v8), some (.int v9), none] [] (g, f, w) := by
  intro n
  induction n with
  | zero => intro _ _ _ _ _ _ h; unfold wX12_canGo_l103 at h; exact h.elim
  | succ n ih =>
    intro v5 v8 v9 g f w h
    unfold wX12_canGo_l103 at h
    refine s_aload_n (n := 104) hG dX12_canGo_103 rfl rfl ?_
    refine s_iload (n := 106) hG dX12_canGo_104 rfl rfl ?_
    refine s_iload (n := 108) hG dX12_canGo_106 rfl rfl ?_
    refine s_callV (n := 111) (st := []) hG (mX12_isCell hE h) ceX12_isCell lmX12_126 ⟨by decide, rfl, rfl⟩ rfl ⟨rfl, Nat.le_of_ble_eq_true rfl, by decide⟩ dX12_canGo_108 rfl ?_
    rintro _ _ ⟨r108, g108, f108, w108, rfl, rfl, h⟩
    refine s_if_eq (n := 114) (tgt := 198) hG dX12_canGo_111 rfl rfl (fun c => ?_) (fun c => ?_)
    · replace h := h.1 c
      exact s_wk hG (sX12_canGo_j198 hE hG hQ hK46 hK58 h) ⟨rfl, rfl, rfl, rfl, rfl, rfl, rfl, trivial⟩
    · replace h := h.2 c
      refine s_iload (n := 116) hG dX12_canGo_114 rfl rfl ?_
      refine s_if_eq (n := 119) (tgt := 198) hG dX12_canGo_116 rfl rfl (fun c => ?_) (fun c => ?_)
      · replace h := h.1 c
        exact s_wk hG (sX12_canGo_j198 hE hG hQ hK46 hK58 h) ⟨rfl, rfl, rfl, rfl, rfl, rfl, rfl, trivial⟩
      · replace h := h.2 c
        refine s_aload_n (n := 120) hG dX12_canGo_119 rfl rfl ?_
        refine gtX12_16 (n := 123) hG dX12_canGo_120 rfl ?_
        refine s_bipush (n := 125) hG dX12_canGo_123 kb_12 rfl ?_
        refine s_iload (n := 127) hG dX12_canGo_125 rfl rfl ?_
        refine s_imul (n := 128) hG dX12_canGo_127 rfl ?_
        refine s_iload (n := 130) hG dX12_canGo_128 rfl rfl ?_
        refine s_iadd (n := 131) hG dX12_canGo_130 rfl ?_
        refine s_topi (fun i131 hi131 => ?_)
        replace h := h i131 hi131
        obtain ⟨hin, h⟩ := h
        refine s_iald (n := 132) hG dX12_canGo_131 (gaM_1 hin) rfl ?_
        refine s_topi (fun x10_132 hx10_132 => ?_)
        replace h := h x10_132 hx10_132
        refine s_istore (n := 134) (lv2 := [some (.ref (ad 0)), some (.int v1), none, some (.int v3), some (.int v4), some (.int v5), some (.int v6), some (.int v7), some (.int v8), some (.int v9), some (.int x10_132)]) hG dX12_canGo_132 rfl rfl rfl ?_
        refine s_iload (n := 136) hG dX12_canGo_134 rfl rfl ?_
        refine s_bipush (n := 138) hG dX12_canGo_136 kb_10 rfl ?_
        refine s_iload_n (n := 139) hG dX12_canGo_138 rfl rfl ?_
        refine s_iadd (n := 140) hG dX12_canGo_139 rfl ?_
        refine s_icmp_eq (n := 143) (tgt := 175) hG dX12_canGo_140 rfl rfl (fun c => ?_) (fun c => ?_)
        · replace h := h.1 c
          exact s_wk hG (sX12_canGo_j175 hE hG hQ hK46 hK58 ih h) ⟨rfl, rfl, rfl, rfl, rfl, rfl, rfl, rfl, trivial⟩
        · replace h := h.2 c
          refine s_iload (n := 145) hG dX12_canGo_143 rfl rfl ?_
          refine s_iconst (n := 146) hG dX12_canGo_145 ki_3 rfl ?_
          refine s_icmp_eq (n := 149) (tgt := 175) hG dX12_canGo_146 rfl rfl (fun c => ?_) (fun c => ?_)
          · replace h := h.1 c
            exact s_wk hG (sX12_canGo_j175 hE hG hQ hK46 hK58 ih h) ⟨rfl, rfl, rfl, rfl, rfl, rfl, rfl, rfl, trivial⟩
          · replace h := h.2 c
            refine s_iload (n := 151) hG dX12_canGo_149 rfl rfl ?_
            refine s_iconst (n := 152) hG dX12_canGo_151 ki_4 rfl ?_
            refine s_icmp_eq (n := 155) (tgt := 175) hG dX12_canGo_152 rfl rfl (fun c => ?_) (fun c => ?_)
            · replace h := h.1 c
              exact s_wk hG (sX12_canGo_j175 hE hG hQ hK46 hK58 ih h) ⟨rfl, rfl, rfl, rfl, rfl, rfl, rfl, rfl, trivial⟩
            · replace h := h.2 c
              refine s_iload (n := 157) hG dX12_canGo_155 rfl rfl ?_
              refine s_bipush (n := 159) hG dX12_canGo_157 kb_10 rfl ?_
              refine s_icmp_lt (n := 162) (tgt := 179) hG dX12_canGo_159 rfl rfl (fun c => ?_) (fun c => ?_)
              · replace h := h.1 c
                exact s_wk hG (sX12_canGo_j179 hE hG hQ hK46 hK58 ih h) ⟨rfl, rfl, rfl, rfl, rfl, rfl, rfl, rfl, trivial⟩
              · replace h := h.2 c
                refine s_aload_n (n := 163) hG dX12_canGo_162 rfl rfl ?_
                refine gtX12_33 (n := 166) hG dX12_canGo_163 rfl ?_
                refine s_iload (n := 168) hG dX12_canGo_166 rfl rfl ?_
                refine s_bipush (n := 170) hG dX12_canGo_168 kb_10 rfl ?_
                refine s_isub (n := 171) hG dX12_canGo_170 rfl ?_
                refine s_topi (fun i171 hi171 => ?_)
                replace h := h i171 hi171
                obtain ⟨hin, h⟩ := h
                refine s_zald (n := 172) hG dX12_canGo_171 (gaM_6 hin) rfl ?_
                refine s_if_eq (n := 175) (tgt := 179) hG dX12_canGo_172 rfl rfl (fun c => ?_) (fun c => ?_)
                · replace h := h.1 c
                  exact s_wk hG (sX12_canGo_j179 hE hG hQ hK46 hK58 ih h) ⟨rfl, rfl, rfl, rfl, rfl, rfl, rfl, rfl, trivial⟩
                · replace h := h.2 c
                  exact s_wk hG (sX12_canGo_j175 hE hG hQ hK46 hK58 ih h) ⟨rfl, rfl, rfl, rfl, rfl, rfl, rfl, rfl, trivial⟩
def wX12_canGo_l58 (N : Nat) (v1 : Int32) (v3 : Int32) (v4 : Int32) (v6 : Int32) (K46 : Int32 → Int32 → gFG → gFF → Int64 → Prop) (Q : Int32 → gFG → gFF → Int64 → Prop) : Nat → Int32 → Int32 → gFG → gFF → Int64 → Prop
  | 0, _, _, _, _, _ => False
  | n + 1, v5, v7, g, f, w => (((g 2) ≤ v7) → ∀ x6_204 : Int32, x6_204 = (v6 + 1) → K46 v5 x6_204 g f w) ∧ ((¬ (g 2) ≤ v7) → ∀ i79 : Int32, i79 = ((12 * v6) + v7) → (vp_in i79 144) ∧ ((((f 1 i79.toNatClampNeg) = (10 + v1)) → ∀ x8_94 : Int32, x8_94 = (v7 + v3) → ∀ x9_101 : Int32, x9_101 = (v6 + v4) → wX12_canGo_l103 N v1 v3 v4 v6 v7 (K46) (wX12_canGo_l58 N v1 v3 v4 v6 K46 Q n) Q N v5 x8_94 x9_101 g f w) ∧ ((¬ (f 1 i79.toNatClampNeg) = (10 + v1)) → wX12_canGo_j198 N (K46) (wX12_canGo_l58 N v1 v3 v4 v6 K46 Q n) Q v1 v3 v4 v5 v6 v7 g f w)))
theorem sX12_canGo_l58 {G : gG} {Rt : Option Value → gSt → Prop} (hE : gInj layM ad ∧ gZok (gA layM ad) Z) (hG : gSim l D cs layM ad Z 3 RX12 cX12_canGo 11 (some .boolean) G Rt) {Q : Int32 → gFG → gFF → Int64 → Prop} (hQ : ∀ v S, gMi Q v S → Rt v S) {N : Nat} {v1 : Int32} {v3 : Int32} {v4 : Int32} {v6 : Int32} {K46 : Int32 → Int32 → gFG → gFF → Int64 → Prop}  (hK46 : ∀ (uv5 : Int32) (uv6 : Int32) (ug : gFG) (uf : gFF) (uw : Int64), K46 uv5 uv6 ug uf uw → G 46 [some (.ref (ad 0)), some (.int v1), none, some (.int v3), some (.int v4), some (.int uv5), some (.int uv6), none, none, none, none] [] (ug, uf, uw)) : ∀ (n : Nat) (v5 : Int32) (v7 : Int32) (g : gFG) (f : gFF) (w : Int64), wX12_canGo_l58 N v1 v3 v4 v6 K46 Q n v5 v7 g f w → G 58 [some (.ref (ad 0)), some (.int v1), none, some (.int v3), some (.int v4), some (.int v5), some (.int v6), some (.int v7), none, none, none] [] (g, f, w) := by
  intro n
  induction n with
  | zero => intro _ _ _ _ _ h; unfold wX12_canGo_l58 at h; exact h.elim
  | succ n ih =>
    intro v5 v7 g f w h
    unfold wX12_canGo_l58 at h
    refine s_iload (n := 60) hG dX12_canGo_58 rfl rfl ?_
    refine s_aload_n (n := 61) hG dX12_canGo_60 rfl rfl ?_
    refine gtX12_7 (n := 64) hG dX12_canGo_61 rfl ?_
    refine s_icmp_ge (n := 67) (tgt := 204) hG dX12_canGo_64 rfl rfl (fun c => ?_) (fun c => ?_)
    · replace h := h.1 c
      obtain ⟨x6_204, hx6_204⟩ : ∃ z : Int32, z = (v6 + 1) := ⟨_, rfl⟩
      replace h := h x6_204 hx6_204
      refine s_iinc (n := 207) (v := x6_204) (lv2 := [some (.ref (ad 0)), some (.int v1), none, some (.int v3), some (.int v4), some (.int v5), some (.int x6_204), some (.int v7), none, none, none]) hG dX12_canGo_204 ki_1 rfl hx6_204 rfl rfl rfl ?_
      refine s_goto (tgt := 46) hG dX12_canGo_207 rfl ?_
      exact s_wk hG (hK46 _ _ _ _ _ h) ⟨rfl, rfl, rfl, rfl, rfl, rfl, trivial⟩
    · replace h := h.2 c
      refine s_aload_n (n := 68) hG dX12_canGo_67 rfl rfl ?_
      refine gtX12_16 (n := 71) hG dX12_canGo_68 rfl ?_
      refine s_bipush (n := 73) hG dX12_canGo_71 kb_12 rfl ?_
      refine s_iload (n := 75) hG dX12_canGo_73 rfl rfl ?_
      refine s_imul (n := 76) hG dX12_canGo_75 rfl ?_
      refine s_iload (n := 78) hG dX12_canGo_76 rfl rfl ?_
      refine s_iadd (n := 79) hG dX12_canGo_78 rfl ?_
      refine s_topi (fun i79 hi79 => ?_)
      replace h := h i79 hi79
      obtain ⟨hin, h⟩ := h
      refine s_iald (n := 80) hG dX12_canGo_79 (gaM_1 hin) rfl ?_
      refine s_bipush (n := 82) hG dX12_canGo_80 kb_10 rfl ?_
      refine s_iload_n (n := 83) hG dX12_canGo_82 rfl rfl ?_
      refine s_iadd (n := 84) hG dX12_canGo_83 rfl ?_
      refine s_icmp_eq (n := 87) (tgt := 90) hG dX12_canGo_84 rfl rfl (fun c => ?_) (fun c => ?_)
      · replace h := h.1 c
        refine s_iload (n := 92) hG dX12_canGo_90 rfl rfl ?_
        refine s_iload_n (n := 93) hG dX12_canGo_92 rfl rfl ?_
        refine s_iadd (n := 94) hG dX12_canGo_93 rfl ?_
        refine s_topi (fun x8_94 hx8_94 => ?_)
        replace h := h x8_94 hx8_94
        refine s_istore (n := 96) (lv2 := [some (.ref (ad 0)), some (.int v1), none, some (.int v3), some (.int v4), some (.int v5), some (.int v6), some (.int v7), some (.int x8_94), none, none]) hG dX12_canGo_94 rfl rfl rfl ?_
        refine s_iload (n := 98) hG dX12_canGo_96 rfl rfl ?_
        refine s_iload (n := 100) hG dX12_canGo_98 rfl rfl ?_
        refine s_iadd (n := 101) hG dX12_canGo_100 rfl ?_
        refine s_topi (fun x9_101 hx9_101 => ?_)
        replace h := h x9_101 hx9_101
        refine s_istore (n := 103) (lv2 := [some (.ref (ad 0)), some (.int v1), none, some (.int v3), some (.int v4), some (.int v5), some (.int v6), some (.int v7), some (.int x8_94), some (.int x9_101), none]) hG dX12_canGo_101 rfl rfl rfl ?_
        exact s_wk hG (sX12_canGo_l103 hE hG hQ hK46 ih N _ _ _ _ _ _ h) ⟨rfl, rfl, rfl, rfl, rfl, rfl, rfl, rfl, rfl, trivial⟩
      · replace h := h.2 c
        refine s_goto (tgt := 198) hG dX12_canGo_87 rfl ?_
        exact s_wk hG (sX12_canGo_j198 hE hG hQ hK46 ih h) ⟨rfl, rfl, rfl, rfl, rfl, rfl, rfl, trivial⟩
def wX12_canGo_l46 (N : Nat) (v1 : Int32) (v3 : Int32) (v4 : Int32)  (Q : Int32 → gFG → gFF → Int64 → Prop) : Nat → Int32 → Int32 → gFG → gFF → Int64 → Prop
  | 0, _, _, _, _, _ => False
  | n + 1, v5, v6, g, f, w => (((g 3) ≤ v6) → (gz v5) ∧ Q v5 g f w) ∧ ((¬ (g 3) ≤ v6) → wX12_canGo_l58 N v1 v3 v4 v6 (wX12_canGo_l46 N v1 v3 v4  Q n) Q N v5 0 g f w)
theorem sX12_canGo_l46 {G : gG} {Rt : Option Value → gSt → Prop} (hE : gInj layM ad ∧ gZok (gA layM ad) Z) (hG : gSim l D cs layM ad Z 3 RX12 cX12_canGo 11 (some .boolean) G Rt) {Q : Int32 → gFG → gFF → Int64 → Prop} (hQ : ∀ v S, gMi Q v S → Rt v S) {N : Nat} {v1 : Int32} {v3 : Int32} {v4 : Int32}    : ∀ (n : Nat) (v5 : Int32) (v6 : Int32) (g : gFG) (f : gFF) (w : Int64), wX12_canGo_l46 N v1 v3 v4  Q n v5 v6 g f w → G 46 [some (.ref (ad 0)), some (.int v1), none, some (.int v3), some (.int v4), some (.int v5), some (.int v6), none, none, none, none] [] (g, f, w) := by
  intro n
  induction n with
  | zero => intro _ _ _ _ _ h; unfold wX12_canGo_l46 at h; exact h.elim
  | succ n ih =>
    intro v5 v6 g f w h
    unfold wX12_canGo_l46 at h
    refine s_iload (n := 48) hG dX12_canGo_46 rfl rfl ?_
    refine s_aload_n (n := 49) hG dX12_canGo_48 rfl rfl ?_
    refine gtX12_13 (n := 52) hG dX12_canGo_49 rfl ?_
    refine s_icmp_ge (n := 55) (tgt := 210) hG dX12_canGo_52 rfl rfl (fun c => ?_) (fun c => ?_)
    · replace h := h.1 c
      refine s_iload (n := 212) hG dX12_canGo_210 rfl rfl ?_
      obtain ⟨hz, h⟩ := h
      exact s_zret hG dX12_canGo_212 (gz_n hz) (hQ _ _ ⟨_, _, _, _, rfl, rfl, h⟩)
    · replace h := h.2 c
      refine s_iconst (n := 56) hG dX12_canGo_55 ki_0 rfl ?_
      refine s_istore (n := 58) (lv2 := [some (.ref (ad 0)), some (.int v1), none, some (.int v3), some (.int v4), some (.int v5), some (.int v6), some (.int 0), none, none, none]) hG dX12_canGo_56 rfl rfl rfl ?_
      exact s_wk hG (sX12_canGo_l58 hE hG hQ ih N _ _ _ _ _ h) ⟨rfl, rfl, rfl, rfl, rfl, rfl, rfl, trivial⟩
def wX12_canGo_j38 (N : Nat)  (Q : Int32 → gFG → gFF → Int64 → Prop) (v1 : Int32) (v3 : Int32) (t0 : Int32) (g : gFG) (f : gFF) (w : Int64) : Prop := wX12_canGo_l46 N v1 v3 t0 Q N 1 0 g f w
theorem sX12_canGo_j38 {G : gG} {Rt : Option Value → gSt → Prop} (hE : gInj layM ad ∧ gZok (gA layM ad) Z) (hG : gSim l D cs layM ad Z 3 RX12 cX12_canGo 11 (some .boolean) G Rt) {Q : Int32 → gFG → gFF → Int64 → Prop} (hQ : ∀ v S, gMi Q v S → Rt v S) {N : Nat}   {v1 : Int32} {v3 : Int32} {t0 : Int32} {g : gFG} {f : gFF} {w : Int64}  (h : wX12_canGo_j38 N  Q v1 v3 t0 g f w) : G 38 [some (.ref (ad 0)), some (.int v1), none, some (.int v3), none, none, none, none, none, none, none] [.int t0] (g, f, w) := by
  unfold wX12_canGo_j38 at h
  refine s_istore (n := 40) (lv2 := [some (.ref (ad 0)), some (.int v1), none, some (.int v3), some (.int t0), none, none, none, none, none, none]) hG dX12_canGo_38 rfl rfl rfl ?_
  refine s_iconst (n := 41) hG dX12_canGo_40 ki_1 rfl ?_
  refine s_istore (n := 43) (lv2 := [some (.ref (ad 0)), some (.int v1), none, some (.int v3), some (.int t0), some (.int 1), none, none, none, none, none]) hG dX12_canGo_41 rfl rfl rfl ?_
  refine s_iconst (n := 44) hG dX12_canGo_43 ki_0 rfl ?_
  refine s_istore (n := 46) (lv2 := [some (.ref (ad 0)), some (.int v1), none, some (.int v3), some (.int t0), some (.int 1), some (.int 0), none, none, none, none]) hG dX12_canGo_44 rfl rfl rfl ?_
  exact s_wk hG (sX12_canGo_l46 hE hG hQ  N _ _ _ _ _ h) ⟨rfl, rfl, rfl, rfl, rfl, rfl, trivial⟩
def wX12_canGo_j18 (N : Nat)  (Q : Int32 → gFG → gFF → Int64 → Prop) (v1 : Int32) (v2 : Int32) (t0 : Int32) (g : gFG) (f : gFF) (w : Int64) : Prop := ((¬ v2 = 1) → ((¬ v2 = 3) → wX12_canGo_j38 N  Q v1 t0 0 g f w) ∧ ((v2 = 3) → wX12_canGo_j38 N  Q v1 t0 (-1) g f w)) ∧ ((v2 = 1) → wX12_canGo_j38 N  Q v1 t0 1 g f w)
theorem sX12_canGo_j18 {G : gG} {Rt : Option Value → gSt → Prop} (hE : gInj layM ad ∧ gZok (gA layM ad) Z) (hG : gSim l D cs layM ad Z 3 RX12 cX12_canGo 11 (some .boolean) G Rt) {Q : Int32 → gFG → gFF → Int64 → Prop} (hQ : ∀ v S, gMi Q v S → Rt v S) {N : Nat}   {v1 : Int32} {v2 : Int32} {t0 : Int32} {g : gFG} {f : gFF} {w : Int64}  (h : wX12_canGo_j18 N  Q v1 v2 t0 g f w) : G 18 [some (.ref (ad 0)), some (.int v1), some (.int v2), none, none, none, none, none, none, none, none] [.int t0] (g, f, w) := by
  unfold wX12_canGo_j18 at h
  refine s_istore_n (n := 19) (lv2 := [some (.ref (ad 0)), some (.int v1), some (.int v2), some (.int t0), none, none, none, none, none, none, none]) hG dX12_canGo_18 rfl rfl rfl ?_
  refine s_iload_n (n := 20) hG dX12_canGo_19 rfl rfl ?_
  refine s_iconst (n := 21) hG dX12_canGo_20 ki_1 rfl ?_
  refine s_icmp_ne (n := 24) (tgt := 28) hG dX12_canGo_21 rfl rfl (fun c => ?_) (fun c => ?_)
  · replace h := h.1 c
    refine s_iload_n (n := 29) hG dX12_canGo_28 rfl rfl ?_
    refine s_iconst (n := 30) hG dX12_canGo_29 ki_3 rfl ?_
    refine s_icmp_ne (n := 33) (tgt := 37) hG dX12_canGo_30 rfl rfl (fun c => ?_) (fun c => ?_)
    · replace h := h.1 c
      refine s_iconst (n := 38) hG dX12_canGo_37 ki_0 rfl ?_
      exact s_wk hG (sX12_canGo_j38 hE hG hQ  h) ⟨rfl, rfl, rfl, trivial⟩
    · replace h := h.2 c
      refine s_iconst (n := 34) hG dX12_canGo_33 ki_m1 rfl ?_
      refine s_goto (tgt := 38) hG dX12_canGo_34 rfl ?_
      exact s_wk hG (sX12_canGo_j38 hE hG hQ  h) ⟨rfl, rfl, rfl, trivial⟩
  · replace h := h.2 c
    refine s_iconst (n := 25) hG dX12_canGo_24 ki_1 rfl ?_
    refine s_goto (tgt := 38) hG dX12_canGo_25 rfl ?_
    exact s_wk hG (sX12_canGo_j38 hE hG hQ  h) ⟨rfl, rfl, rfl, trivial⟩
def wX12_canGo (N : Nat) (a1 : Int32) (a2 : Int32) (g : gFG) (f : gFF) (w : Int64) (Q : Int32 → gFG → gFF → Int64 → Prop) : Prop := ((¬ a2 = 0) → ((¬ a2 = 2) → wX12_canGo_j18 N  Q a1 a2 0 g f w) ∧ ((a2 = 2) → wX12_canGo_j18 N  Q a1 a2 (-1) g f w)) ∧ ((a2 = 0) → wX12_canGo_j18 N  Q a1 a2 1 g f w)
theorem mX12_canGo (hE : gInj layM ad ∧ gZok (gA layM ad) Z) {N : Nat} {a1 : Int32} {a2 : Int32} {g : gFG} {f : gFF} {w : Int64} {Q : Int32 → gFG → gFF → Int64 → Prop} (h : wX12_canGo N a1 a2 g f w Q) : gCT l D cs layM ad Z 3 yX12_canGo cX12_canGo 11 (some .boolean) [.ref (ad 0), .int a1, .int a2] (g, f, w) (gMi Q) := by
  refine met_walk (lv0 := [some (.ref (ad 0)), some (.int a1), some (.int a2), none, none, none, none, none, none, none, none]) hE (by decide) (Nat.le_of_ble_eq_true rfl) rfl (fun G Rt hG hQ => ?_)
  replace hG : gSim l D cs layM ad Z 3 RX12 cX12_canGo 11 (some .boolean) G Rt := hG
  unfold wX12_canGo at h
  refine s_iload_n (n := 1) hG dX12_canGo_0 rfl rfl ?_
  refine s_if_ne (n := 4) (tgt := 8) hG dX12_canGo_1 rfl rfl (fun c => ?_) (fun c => ?_)
  · replace h := h.1 c
    refine s_iload_n (n := 9) hG dX12_canGo_8 rfl rfl ?_
    refine s_iconst (n := 10) hG dX12_canGo_9 ki_2 rfl ?_
    refine s_icmp_ne (n := 13) (tgt := 17) hG dX12_canGo_10 rfl rfl (fun c => ?_) (fun c => ?_)
    · replace h := h.1 c
      refine s_iconst (n := 18) hG dX12_canGo_17 ki_0 rfl ?_
      exact s_wk hG (sX12_canGo_j18 hE hG hQ  h) ⟨rfl, rfl, rfl, trivial⟩
    · replace h := h.2 c
      refine s_iconst (n := 14) hG dX12_canGo_13 ki_m1 rfl ?_
      refine s_goto (tgt := 18) hG dX12_canGo_14 rfl ?_
      exact s_wk hG (sX12_canGo_j18 hE hG hQ  h) ⟨rfl, rfl, rfl, trivial⟩
  · replace h := h.2 c
    refine s_iconst (n := 5) hG dX12_canGo_4 ki_1 rfl ?_
    refine s_goto (tgt := 18) hG dX12_canGo_5 rfl ?_
    exact s_wk hG (sX12_canGo_j18 hE hG hQ  h) ⟨rfl, rfl, rfl, trivial⟩
def wX12_drawOff_j229 (N : Nat) (K122 : Int32 → gFG → gFF → Int64 → Prop) (Q : gFG → gFF → Int64 → Prop) (v1 : Int32) (g : gFG) (f : gFF) (w : Int64) : Prop := K122 v1 g f w
theorem sX12_drawOff_j229 {G : gG} {Rt : Option Value → gSt → Prop} (hE : gInj layM ad ∧ gZok (gA layM ad) Z) (hG : gSim l D cs layM ad Z 4 RX12 cX12_drawOff 4 none G Rt) {Q : gFG → gFF → Int64 → Prop} (hQ : ∀ v S, gMv Q v S → Rt v S) {N : Nat} {K122 : Int32 → gFG → gFF → Int64 → Prop}  {v1 : Int32} {g : gFG} {f : gFF} {w : Int64} (hK122 : ∀ (uv1 : Int32) (ug : gFG) (uf : gFF) (uw : Int64), K122 uv1 ug uf uw → G 122 [some (.ref (ad 0)), some (.int uv1), none, none] [] (ug, uf, uw)) (h : wX12_drawOff_j229 N K122 Q v1 g f w) : G 229 [some (.ref (ad 0)), some (.int v1), none, none] [] (g, f, w) := by
  unfold wX12_drawOff_j229 at h
  refine s_goto (tgt := 122) hG dX12_drawOff_229 rfl ?_
  exact s_wk hG (hK122 _ _ _ _ h) ⟨rfl, rfl, trivial⟩
def wX12_drawOff_j223 (N : Nat) (K122 : Int32 → gFG → gFF → Int64 → Prop) (K130 : Int32 → Int32 → gFG → gFF → Int64 → Prop) (Q : gFG → gFF → Int64 → Prop) (v1 : Int32) (v2 : Int32) (g : gFG) (f : gFF) (w : Int64) : Prop := ∀ x2_223 : Int32, x2_223 = (v2 + 1) → K130 v1 x2_223 g f w
theorem sX12_drawOff_j223 {G : gG} {Rt : Option Value → gSt → Prop} (hE : gInj layM ad ∧ gZok (gA layM ad) Z) (hG : gSim l D cs layM ad Z 4 RX12 cX12_drawOff 4 none G Rt) {Q : gFG → gFF → Int64 → Prop} (hQ : ∀ v S, gMv Q v S → Rt v S) {N : Nat} {K122 : Int32 → gFG → gFF → Int64 → Prop} {K130 : Int32 → Int32 → gFG → gFF → Int64 → Prop}  {v1 : Int32} {v2 : Int32} {g : gFG} {f : gFF} {w : Int64} (hK122 : ∀ (uv1 : Int32) (ug : gFG) (uf : gFF) (uw : Int64), K122 uv1 ug uf uw → G 122 [some (.ref (ad 0)), some (.int uv1), none, none] [] (ug, uf, uw)) (hK130 : ∀ (uv1 : Int32) (uv2 : Int32) (ug : gFG) (uf : gFF) (uw : Int64), K130 uv1 uv2 ug uf uw → G 130 [some (.ref (ad 0)), some (.int uv1), some (.int uv2), none] [] (ug, uf, uw)) (h : wX12_drawOff_j223 N K122 K130 Q v1 v2 g f w) : G 223 [some (.ref (ad 0)), some (.int v1), some (.int v2), none] [] (g, f, w) := by
  unfold wX12_drawOff_j223 at h
  obtain ⟨x2_223, hx2_223⟩ : ∃ z : Int32, z = (v2 + 1) := ⟨_, rfl⟩
  replace h := h x2_223 hx2_223
  refine s_iinc (n := 226) (v := x2_223) (lv2 := [some (.ref (ad 0)), some (.int v1), some (.int x2_223), none]) hG dX12_drawOff_223 ki_1 rfl hx2_223 rfl rfl rfl ?_
  refine s_goto (tgt := 130) hG dX12_drawOff_226 rfl ?_
  exact s_wk hG (hK130 _ _ _ _ _ h) ⟨rfl, rfl, rfl, trivial⟩
def wX12_drawOff_j217 (N : Nat) (K122 : Int32 → gFG → gFF → Int64 → Prop) (K130 : Int32 → Int32 → gFG → gFF → Int64 → Prop) (K142 : Int32 → Int32 → gFG → gFF → Int64 → Prop) (Q : gFG → gFF → Int64 → Prop) (v1 : Int32) (v2 : Int32) (v3 : Int32) (g : gFG) (f : gFF) (w : Int64) : Prop := ∀ x3_217 : Int32, x3_217 = (v3 + 1) → K142 v1 x3_217 g f w
theorem sX12_drawOff_j217 {G : gG} {Rt : Option Value → gSt → Prop} (hE : gInj layM ad ∧ gZok (gA layM ad) Z) (hG : gSim l D cs layM ad Z 4 RX12 cX12_drawOff 4 none G Rt) {Q : gFG → gFF → Int64 → Prop} (hQ : ∀ v S, gMv Q v S → Rt v S) {N : Nat} {K122 : Int32 → gFG → gFF → Int64 → Prop} {K130 : Int32 → Int32 → gFG → gFF → Int64 → Prop} {K142 : Int32 → Int32 → gFG → gFF → Int64 → Prop}  {v1 : Int32} {v2 : Int32} {v3 : Int32} {g : gFG} {f : gFF} {w : Int64} (hK122 : ∀ (uv1 : Int32) (ug : gFG) (uf : gFF) (uw : Int64), K122 uv1 ug uf uw → G 122 [some (.ref (ad 0)), some (.int uv1), none, none] [] (ug, uf, uw)) (hK130 : ∀ (uv1 : Int32) (uv2 : Int32) (ug : gFG) (uf : gFF) (uw : Int64), K130 uv1 uv2 ug uf uw → G 130 [some (.ref (ad 0)), some (.int uv1), some (.int uv2), none] [] (ug, uf, uw)) (hK142 : ∀ (uv1 : Int32) (uv3 : Int32) (ug : gFG) (uf : gFF) (uw : Int64), K142 uv1 uv3 ug uf uw → G 142 [some (.ref (ad 0)), some (.int uv1), some (.int v2), some (.int uv3)] [] (ug, uf, uw)) (h : wX12_drawOff_j217 N K122 K130 K142 Q v1 v2 v3 g f w) : G 217 [some (.ref (ad 0)), some (.int v1), some (.int v2), some (.int v3)] [] (g, f, w) := by
  unfold wX12_drawOff_j217 at h
  obtain ⟨x3_217, hx3_217⟩ : ∃ z : Int32, z = (v3 + 1) := ⟨_, rfl⟩
  replace h := h x3_217 hx3_217
  refine s_iinc (n := 220) (v := x3_217) (lv2 := [some (.ref (ad 0)), some (.int v1), some (.int v2), some (.int x3_217)]) hG dX12_drawOff_217 ki_1 rfl hx3_217 rfl rfl rfl ?_
  refine s_goto (tgt := 142) hG dX12_drawOff_220 rfl ?_
  exact s_wk hG (hK142 _ _ _ _ _ h) ⟨rfl, rfl, rfl, rfl, trivial⟩
def wX12_drawOff_l142 (N : Nat) (v2 : Int32) (K122 : Int32 → gFG → gFF → Int64 → Prop) (K130 : Int32 → Int32 → gFG → gFF → Int64 → Prop) (Q : gFG → gFF → Int64 → Prop) : Nat → Int32 → Int32 → gFG → gFF → Int64 → Prop
  | 0, _, _, _, _, _ => False
  | n + 1, v1, v3, g, f, w => ((4 ≤ v3) → wX12_drawOff_j223 N (K122) (K130) Q v1 v2 g f w) ∧ ((¬ 4 ≤ v3) → ((¬ v1 = 0) → wX12_drawOff_j223 N (K122) (K130) Q v1 v2 g f w) ∧ ((v1 = 0) → (vp_in v2 8) ∧ ((((f 5 v2.toNatClampNeg) = 0) → wX12_drawOff_j217 N (K122) (K130) (wX12_drawOff_l142 N v2 K122 K130 Q n) Q v1 v2 v3 g f w) ∧ ((¬ (f 5 v2.toNatClampNeg) = 0) → (vp_in v2 8) ∧ (((¬ (f 6 v2.toNatClampNeg) = 0) → wX12_drawOff_j217 N (K122) (K130) (wX12_drawOff_l142 N v2 K122 K130 Q n) Q v1 v2 v3 g f w) ∧ (((f 6 v2.toNatClampNeg) = 0) → wX12_canGo N v2 v3 g f w (fun r172 g172 f172 w172 => ((r172 = 0) → wX12_drawOff_j217 N (K122) (K130) (wX12_drawOff_l142 N v2 K122 K130 Q n) Q v1 v2 v3 g172 f172 w172) ∧ ((¬ r172 = 0) → (vp_in v2 8) ∧ (∀ f184 : gFF, f184 = (va_up f172 6 (upd (f172 6) v2.toNatClampNeg 1)) → ∀ i194 : Int32, i194 = (g172 13) → (vp_in i194 8) ∧ (∀ f194 : gFF, f194 = (va_up f184 7 (upd (f184 7) i194.toNatClampNeg v2)) → ∀ i204 : Int32, i204 = (g172 13) → (vp_in i204 8) ∧ (∀ f204 : gFF, f204 = (va_up f194 8 (upd (f194 8) i204.toNatClampNeg v3)) → ∀ y212 : Int32, y212 = ((g172 13) + 1) → ∀ g212 : gFG, g212 = (va_up g172 13 y212) → wX12_drawOff_j217 N (K122) (K130) (wX12_drawOff_l142 N v2 K122 K130 Q n) Q 1 v2 v3 g212 f204 w172)))))))))))
theorem sX12_drawOff_l142 {G : gG} {Rt : Option Value → gSt → Prop} (hE : gInj layM ad ∧ gZok (gA layM ad) Z) (hG : gSim l D cs layM ad Z 4 RX12 cX12_drawOff 4 none G Rt) {Q : gFG → gFF → Int64 → Prop} (hQ : ∀ v S, gMv Q v S → Rt v S) {N : Nat} {v2 : Int32} {K122 : Int32 → gFG → gFF → Int64 → Prop} {K130 : Int32 → Int32 → gFG → gFF → Int64 → Prop}  (hK122 : ∀ (uv1 : Int32) (ug : gFG) (uf : gFF) (uw : Int64), K122 uv1 ug uf uw → G 122 [some (.ref (ad 0)), some (.int uv1), none, none] [] (ug, uf, uw)) (hK130 : ∀ (uv1 : Int32) (uv2 : Int32) (ug : gFG) (uf : gFF) (uw : Int64), K130 uv1 uv2 ug uf uw → G 130 [some (.ref (ad 0)), some (.int uv1), some (.int uv2), none] [] (ug, uf, uw)) : ∀ (n : Nat) (v1 : Int32) (v3 : Int32) (g : gFG) (f : gFF) (w : Int64), wX12_drawOff_l142 N v2 K122 K130 Q n v1 v3 g f w → G 142 [some (.ref (ad 0)), some (.int v1), some (.int v2), some (.int v3)] [] (g, f, w) := by
  intro n
  induction n with
  | zero => intro _ _ _ _ _ h; unfold wX12_drawOff_l142 at h; exact h.elim
  | succ n ih =>
    intro v1 v3 g f w h
    unfold wX12_drawOff_l142 at h
    refine s_iload_n (n := 143) hG dX12_drawOff_142 rfl rfl ?_
    refine s_iconst (n := 144) hG dX12_drawOff_143 ki_4 rfl ?_
    refine s_icmp_ge (n := 147) (tgt := 223) hG dX12_drawOff_144 rfl rfl (fun c => ?_) (fun c => ?_)
    · replace h := h.1 c
      exact s_wk hG (sX12_drawOff_j223 hE hG hQ hK122 hK130 h) ⟨rfl, rfl, rfl, trivial⟩
    · replace h := h.2 c
      refine s_iload_n (n := 148) hG dX12_drawOff_147 rfl rfl ?_
      refine s_if_ne (n := 151) (tgt := 223) hG dX12_drawOff_148 rfl rfl (fun c => ?_) (fun c => ?_)
      · replace h := h.1 c
        exact s_wk hG (sX12_drawOff_j223 hE hG hQ hK122 hK130 h) ⟨rfl, rfl, rfl, trivial⟩
      · replace h := h.2 c
        refine s_aload_n (n := 152) hG dX12_drawOff_151 rfl rfl ?_
        refine gtX12_30 (n := 155) hG dX12_drawOff_152 rfl ?_
        refine s_iload_n (n := 156) hG dX12_drawOff_155 rfl rfl ?_
        obtain ⟨hin, h⟩ := h
        refine s_zald (n := 157) hG dX12_drawOff_156 (gaM_5 hin) rfl ?_
        refine s_if_eq (n := 160) (tgt := 217) hG dX12_drawOff_157 rfl rfl (fun c => ?_) (fun c => ?_)
        · replace h := h.1 c
          exact s_wk hG (sX12_drawOff_j217 hE hG hQ hK122 hK130 ih h) ⟨rfl, rfl, rfl, rfl, trivial⟩
        · replace h := h.2 c
          refine s_aload_n (n := 161) hG dX12_drawOff_160 rfl rfl ?_
          refine gtX12_33 (n := 164) hG dX12_drawOff_161 rfl ?_
          refine s_iload_n (n := 165) hG dX12_drawOff_164 rfl rfl ?_
          obtain ⟨hin, h⟩ := h
          refine s_zald (n := 166) hG dX12_drawOff_165 (gaM_6 hin) rfl ?_
          refine s_if_ne (n := 169) (tgt := 217) hG dX12_drawOff_166 rfl rfl (fun c => ?_) (fun c => ?_)
          · replace h := h.1 c
            exact s_wk hG (sX12_drawOff_j217 hE hG hQ hK122 hK130 ih h) ⟨rfl, rfl, rfl, rfl, trivial⟩
          · replace h := h.2 c
            refine s_aload_n (n := 170) hG dX12_drawOff_169 rfl rfl ?_
            refine s_iload_n (n := 171) hG dX12_drawOff_170 rfl rfl ?_
            refine s_iload_n (n := 172) hG dX12_drawOff_171 rfl rfl ?_
            refine s_callV (n := 175) (st := []) hG (mX12_canGo hE h) ceX12_canGo lmX12_170 ⟨by decide, rfl, rfl⟩ rfl ⟨rfl, Nat.le_of_ble_eq_true rfl, by decide⟩ dX12_drawOff_172 rfl ?_
            rintro _ _ ⟨r172, g172, f172, w172, rfl, rfl, h⟩
            refine s_if_eq (n := 178) (tgt := 217) hG dX12_drawOff_175 rfl rfl (fun c => ?_) (fun c => ?_)
            · replace h := h.1 c
              exact s_wk hG (sX12_drawOff_j217 hE hG hQ hK122 hK130 ih h) ⟨rfl, rfl, rfl, rfl, trivial⟩
            · replace h := h.2 c
              refine s_aload_n (n := 179) hG dX12_drawOff_178 rfl rfl ?_
              refine gtX12_33 (n := 182) hG dX12_drawOff_179 rfl ?_
              refine s_iload_n (n := 183) hG dX12_drawOff_182 rfl rfl ?_
              refine s_iconst (n := 184) hG dX12_drawOff_183 ki_1 rfl ?_
              obtain ⟨hin, h⟩ := h
              refine s_zast (n := 185) hG dX12_drawOff_184 (gaM_6 hin) (gz_v gz_1) rfl ?_
              refine s_nf (fun f184 hf184 => ?_)
              replace h := h f184 hf184
              refine s_aload_n (n := 186) hG dX12_drawOff_185 rfl rfl ?_
              refine gtX12_36 (n := 189) hG dX12_drawOff_186 rfl ?_
              refine s_aload_n (n := 190) hG dX12_drawOff_189 rfl rfl ?_
              refine gtX12_167 (n := 193) hG dX12_drawOff_190 rfl ?_
              refine s_iload_n (n := 194) hG dX12_drawOff_193 rfl rfl ?_
              refine s_topi2 (fun i194 hi194 => ?_)
              replace h := h i194 hi194
              obtain ⟨hin, h⟩ := h
              refine s_iast (n := 195) hG dX12_drawOff_194 (gaM_7 hin) rfl ?_
              refine s_nf (fun f194 hf194 => ?_)
              replace h := h f194 hf194
              refine s_aload_n (n := 196) hG dX12_drawOff_195 rfl rfl ?_
              refine gtX12_39 (n := 199) hG dX12_drawOff_196 rfl ?_
              refine s_aload_n (n := 200) hG dX12_drawOff_199 rfl rfl ?_
              refine gtX12_167 (n := 203) hG dX12_drawOff_200 rfl ?_
              refine s_iload_n (n := 204) hG dX12_drawOff_203 rfl rfl ?_
              refine s_topi2 (fun i204 hi204 => ?_)
              replace h := h i204 hi204
              obtain ⟨hin, h⟩ := h
              refine s_iast (n := 205) hG dX12_drawOff_204 (gaM_8 hin) rfl ?_
              refine s_nf (fun f204 hf204 => ?_)
              replace h := h f204 hf204
              refine s_aload_n (n := 206) hG dX12_drawOff_205 rfl rfl ?_
              refine s_dup (n := 207) hG dX12_drawOff_206 rfl rfl ?_
              refine gtX12_167 (n := 210) hG dX12_drawOff_207 rfl ?_
              refine s_iconst (n := 211) hG dX12_drawOff_210 ki_1 rfl ?_
              refine s_iadd (n := 212) hG dX12_drawOff_211 rfl ?_
              refine s_topi (fun y212 hy212 => ?_)
              replace h := h y212 hy212
              refine ptX12_167 (n := 215) hG dX12_drawOff_212 rfl ?_
              refine s_ng (fun g212 hg212 => ?_)
              replace h := h g212 hg212
              refine s_iconst (n := 216) hG dX12_drawOff_215 ki_1 rfl ?_
              refine s_istore_n (n := 217) (lv2 := [some (.ref (ad 0)), some (.int 1), some (.int v2), some (.int v3)]) hG dX12_drawOff_216 rfl rfl rfl ?_
              exact s_wk hG (sX12_drawOff_j217 hE hG hQ hK122 hK130 ih h) ⟨rfl, rfl, rfl, rfl, trivial⟩
def wX12_drawOff_l130 (N : Nat)  (K122 : Int32 → gFG → gFF → Int64 → Prop) (Q : gFG → gFF → Int64 → Prop) : Nat → Int32 → Int32 → gFG → gFF → Int64 → Prop
  | 0, _, _, _, _, _ => False
  | n + 1, v1, v2, g, f, w => ((8 ≤ v2) → wX12_drawOff_j229 N (K122) Q v1 g f w) ∧ ((¬ 8 ≤ v2) → ((¬ v1 = 0) → wX12_drawOff_j229 N (K122) Q v1 g f w) ∧ ((v1 = 0) → wX12_drawOff_l142 N v2 (K122) (wX12_drawOff_l130 N  K122 Q n) Q N v1 0 g f w))
theorem sX12_drawOff_l130 {G : gG} {Rt : Option Value → gSt → Prop} (hE : gInj layM ad ∧ gZok (gA layM ad) Z) (hG : gSim l D cs layM ad Z 4 RX12 cX12_drawOff 4 none G Rt) {Q : gFG → gFF → Int64 → Prop} (hQ : ∀ v S, gMv Q v S → Rt v S) {N : Nat}  {K122 : Int32 → gFG → gFF → Int64 → Prop}  (hK122 : ∀ (uv1 : Int32) (ug : gFG) (uf : gFF) (uw : Int64), K122 uv1 ug uf uw → G 122 [some (.ref (ad 0)), some (.int uv1), none, none] [] (ug, uf, uw)) : ∀ (n : Nat) (v1 : Int32) (v2 : Int32) (g : gFG) (f : gFF) (w : Int64), wX12_drawOff_l130 N  K122 Q n v1 v2 g f w → G 130 [some (.ref (ad 0)), some (.int v1), some (.int v2), none] [] (g, f, w) := by
  intro n
  induction n with
  | zero => intro _ _ _ _ _ h; unfold wX12_drawOff_l130 at h; exact h.elim
  | succ n ih =>
    intro v1 v2 g f w h
    unfold wX12_drawOff_l130 at h
    refine s_iload_n (n := 131) hG dX12_drawOff_130 rfl rfl ?_
    refine s_bipush (n := 133) hG dX12_drawOff_131 kb_8 rfl ?_
    refine s_icmp_ge (n := 136) (tgt := 229) hG dX12_drawOff_133 rfl rfl (fun c => ?_) (fun c => ?_)
    · replace h := h.1 c
      exact s_wk hG (sX12_drawOff_j229 hE hG hQ hK122 h) ⟨rfl, rfl, trivial⟩
    · replace h := h.2 c
      refine s_iload_n (n := 137) hG dX12_drawOff_136 rfl rfl ?_
      refine s_if_ne (n := 140) (tgt := 229) hG dX12_drawOff_137 rfl rfl (fun c => ?_) (fun c => ?_)
      · replace h := h.1 c
        exact s_wk hG (sX12_drawOff_j229 hE hG hQ hK122 h) ⟨rfl, rfl, trivial⟩
      · replace h := h.2 c
        refine s_iconst (n := 141) hG dX12_drawOff_140 ki_0 rfl ?_
        refine s_istore_n (n := 142) (lv2 := [some (.ref (ad 0)), some (.int v1), some (.int v2), some (.int 0)]) hG dX12_drawOff_141 rfl rfl rfl ?_
        exact s_wk hG (sX12_drawOff_l142 hE hG hQ hK122 ih N _ _ _ _ _ h) ⟨rfl, rfl, rfl, rfl, trivial⟩
def wX12_drawOff_l122 (N : Nat)   (Q : gFG → gFF → Int64 → Prop) : Nat → Int32 → gFG → gFF → Int64 → Prop
  | 0, _, _, _, _ => False
  | n + 1, v1, g, f, w => ((v1 = 0) → Q g f w) ∧ ((¬ v1 = 0) → wX12_drawOff_l130 N (wX12_drawOff_l122 N   Q n) Q N 0 0 g f w)
theorem sX12_drawOff_l122 {G : gG} {Rt : Option Value → gSt → Prop} (hE : gInj layM ad ∧ gZok (gA layM ad) Z) (hG : gSim l D cs layM ad Z 4 RX12 cX12_drawOff 4 none G Rt) {Q : gFG → gFF → Int64 → Prop} (hQ : ∀ v S, gMv Q v S → Rt v S) {N : Nat}     : ∀ (n : Nat) (v1 : Int32) (g : gFG) (f : gFF) (w : Int64), wX12_drawOff_l122 N   Q n v1 g f w → G 122 [some (.ref (ad 0)), some (.int v1), none, none] [] (g, f, w) := by
  intro n
  induction n with
  | zero => intro _ _ _ _ h; unfold wX12_drawOff_l122 at h; exact h.elim
  | succ n ih =>
    intro v1 g f w h
    unfold wX12_drawOff_l122 at h
    refine s_iload_n (n := 123) hG dX12_drawOff_122 rfl rfl ?_
    refine s_if_eq (n := 126) (tgt := 232) hG dX12_drawOff_123 rfl rfl (fun c => ?_) (fun c => ?_)
    · replace h := h.1 c
      exact s_vret hG dX12_drawOff_232 (hQ _ _ ⟨_, _, _, rfl, rfl, h⟩)
    · replace h := h.2 c
      refine s_iconst (n := 127) hG dX12_drawOff_126 ki_0 rfl ?_
      refine s_istore_n (n := 128) (lv2 := [some (.ref (ad 0)), some (.int 0), none, none]) hG dX12_drawOff_127 rfl rfl rfl ?_
      refine s_iconst (n := 129) hG dX12_drawOff_128 ki_0 rfl ?_
      refine s_istore_n (n := 130) (lv2 := [some (.ref (ad 0)), some (.int 0), some (.int 0), none]) hG dX12_drawOff_129 rfl rfl rfl ?_
      exact s_wk hG (sX12_drawOff_l130 hE hG hQ ih N _ _ _ _ _ h) ⟨rfl, rfl, rfl, trivial⟩
def wX12_drawOff_j108 (N : Nat) (K40 : Int32 → gFG → gFF → Int64 → Prop) (K50 : Int32 → gFG → gFF → Int64 → Prop) (Q : gFG → gFF → Int64 → Prop) (v1 : Int32) (v2 : Int32) (g : gFG) (f : gFF) (w : Int64) : Prop := ∀ x2_108 : Int32, x2_108 = (v2 + 1) → K50 x2_108 g f w
theorem sX12_drawOff_j108 {G : gG} {Rt : Option Value → gSt → Prop} (hE : gInj layM ad ∧ gZok (gA layM ad) Z) (hG : gSim l D cs layM ad Z 4 RX12 cX12_drawOff 4 none G Rt) {Q : gFG → gFF → Int64 → Prop} (hQ : ∀ v S, gMv Q v S → Rt v S) {N : Nat} {K40 : Int32 → gFG → gFF → Int64 → Prop} {K50 : Int32 → gFG → gFF → Int64 → Prop}  {v1 : Int32} {v2 : Int32} {g : gFG} {f : gFF} {w : Int64} (hK40 : ∀ (uv1 : Int32) (ug : gFG) (uf : gFF) (uw : Int64), K40 uv1 ug uf uw → G 40 [some (.ref (ad 0)), some (.int uv1), none, none] [] (ug, uf, uw)) (hK50 : ∀ (uv2 : Int32) (ug : gFG) (uf : gFF) (uw : Int64), K50 uv2 ug uf uw → G 50 [some (.ref (ad 0)), some (.int v1), some (.int uv2), none] [] (ug, uf, uw)) (h : wX12_drawOff_j108 N K40 K50 Q v1 v2 g f w) : G 108 [some (.ref (ad 0)), some (.int v1), some (.int v2), none] [] (g, f, w) := by
  unfold wX12_drawOff_j108 at h
  obtain ⟨x2_108, hx2_108⟩ : ∃ z : Int32, z = (v2 + 1) := ⟨_, rfl⟩
  replace h := h x2_108 hx2_108
  refine s_iinc (n := 111) (v := x2_108) (lv2 := [some (.ref (ad 0)), some (.int v1), some (.int x2_108), none]) hG dX12_drawOff_108 ki_1 rfl hx2_108 rfl rfl rfl ?_
  refine s_goto (tgt := 50) hG dX12_drawOff_111 rfl ?_
  exact s_wk hG (hK50 _ _ _ _ h) ⟨rfl, rfl, rfl, trivial⟩
def wX12_drawOff_l50 (N : Nat) (v1 : Int32) (K40 : Int32 → gFG → gFF → Int64 → Prop) (Q : gFG → gFF → Int64 → Prop) : Nat → Int32 → gFG → gFF → Int64 → Prop
  | 0, _, _, _, _ => False
  | n + 1, v2, g, f, w => (((g 2) ≤ v2) → ∀ x1_114 : Int32, x1_114 = (v1 + 1) → K40 x1_114 g f w) ∧ ((¬ (g 2) ≤ v2) → ∀ i68 : Int32, i68 = ((12 * v1) + v2) → (vp_in i68 144) ∧ (∀ x3_69 : Int32, x3_69 = (f 1 i68.toNatClampNeg) → ((x3_69 < 10) → wX12_drawOff_j108 N (K40) (wX12_drawOff_l50 N v1 K40 Q n) Q v1 v2 g f w) ∧ ((¬ x3_69 < 10) → ∀ i84 : Int32, i84 = (x3_69 - 10) → (vp_in i84 8) ∧ (((¬ (f 5 i84.toNatClampNeg) = 0) → wX12_drawOff_j108 N (K40) (wX12_drawOff_l50 N v1 K40 Q n) Q v1 v2 g f w) ∧ (((f 5 i84.toNatClampNeg) = 0) → ∀ i97 : Int32, i97 = (x3_69 - 10) → (vp_in i97 8) ∧ (∀ f97 : gFF, f97 = (va_up f 5 (upd (f 5) i97.toNatClampNeg 1)) → ∀ y105 : Int32, y105 = ((g 14) + 1) → ∀ g105 : gFG, g105 = (va_up g 14 y105) → wX12_drawOff_j108 N (K40) (wX12_drawOff_l50 N v1 K40 Q n) Q v1 v2 g105 f97 w))))))
theorem sX12_drawOff_l50 {G : gG} {Rt : Option Value → gSt → Prop} (hE : gInj layM ad ∧ gZok (gA layM ad) Z) (hG : gSim l D cs layM ad Z 4 RX12 cX12_drawOff 4 none G Rt) {Q : gFG → gFF → Int64 → Prop} (hQ : ∀ v S, gMv Q v S → Rt v S) {N : Nat} {v1 : Int32} {K40 : Int32 → gFG → gFF → Int64 → Prop}  (hK40 : ∀ (uv1 : Int32) (ug : gFG) (uf : gFF) (uw : Int64), K40 uv1 ug uf uw → G 40 [some (.ref (ad 0)), some (.int uv1), none, none] [] (ug, uf, uw)) : ∀ (n : Nat) (v2 : Int32) (g : gFG) (f : gFF) (w : Int64), wX12_drawOff_l50 N v1 K40 Q n v2 g f w → G 50 [some (.ref (ad 0)), some (.int v1), some (.int v2), none] [] (g, f, w) := by
  intro n
  induction n with
  | zero => intro _ _ _ _ h; unfold wX12_drawOff_l50 at h; exact h.elim
  | succ n ih =>
    intro v2 g f w h
    unfold wX12_drawOff_l50 at h
    refine s_iload_n (n := 51) hG dX12_drawOff_50 rfl rfl ?_
    refine s_aload_n (n := 52) hG dX12_drawOff_51 rfl rfl ?_
    refine gtX12_7 (n := 55) hG dX12_drawOff_52 rfl ?_
    refine s_icmp_ge (n := 58) (tgt := 114) hG dX12_drawOff_55 rfl rfl (fun c => ?_) (fun c => ?_)
    · replace h := h.1 c
      obtain ⟨x1_114, hx1_114⟩ : ∃ z : Int32, z = (v1 + 1) := ⟨_, rfl⟩
      replace h := h x1_114 hx1_114
      refine s_iinc (n := 117) (v := x1_114) (lv2 := [some (.ref (ad 0)), some (.int x1_114), some (.int v2), none]) hG dX12_drawOff_114 ki_1 rfl hx1_114 rfl rfl rfl ?_
      refine s_goto (tgt := 40) hG dX12_drawOff_117 rfl ?_
      exact s_wk hG (hK40 _ _ _ _ h) ⟨rfl, rfl, trivial⟩
    · replace h := h.2 c
      refine s_aload_n (n := 59) hG dX12_drawOff_58 rfl rfl ?_
      refine gtX12_16 (n := 62) hG dX12_drawOff_59 rfl ?_
      refine s_bipush (n := 64) hG dX12_drawOff_62 kb_12 rfl ?_
      refine s_iload_n (n := 65) hG dX12_drawOff_64 rfl rfl ?_
      refine s_imul (n := 66) hG dX12_drawOff_65 rfl ?_
      refine s_iload_n (n := 67) hG dX12_drawOff_66 rfl rfl ?_
      refine s_iadd (n := 68) hG dX12_drawOff_67 rfl ?_
      refine s_topi (fun i68 hi68 => ?_)
      replace h := h i68 hi68
      obtain ⟨hin, h⟩ := h
      refine s_iald (n := 69) hG dX12_drawOff_68 (gaM_1 hin) rfl ?_
      refine s_topi (fun x3_69 hx3_69 => ?_)
      replace h := h x3_69 hx3_69
      refine s_istore_n (n := 70) (lv2 := [some (.ref (ad 0)), some (.int v1), some (.int v2), some (.int x3_69)]) hG dX12_drawOff_69 rfl rfl rfl ?_
      refine s_iload_n (n := 71) hG dX12_drawOff_70 rfl rfl ?_
      refine s_bipush (n := 73) hG dX12_drawOff_71 kb_10 rfl ?_
      refine s_icmp_lt (n := 76) (tgt := 108) hG dX12_drawOff_73 rfl rfl (fun c => ?_) (fun c => ?_)
      · replace h := h.1 c
        exact s_wk hG (sX12_drawOff_j108 hE hG hQ hK40 ih h) ⟨rfl, rfl, rfl, trivial⟩
      · replace h := h.2 c
        refine s_aload_n (n := 77) hG dX12_drawOff_76 rfl rfl ?_
        refine gtX12_30 (n := 80) hG dX12_drawOff_77 rfl ?_
        refine s_iload_n (n := 81) hG dX12_drawOff_80 rfl rfl ?_
        refine s_bipush (n := 83) hG dX12_drawOff_81 kb_10 rfl ?_
        refine s_isub (n := 84) hG dX12_drawOff_83 rfl ?_
        refine s_topi (fun i84 hi84 => ?_)
        replace h := h i84 hi84
        obtain ⟨hin, h⟩ := h
        refine s_zald (n := 85) hG dX12_drawOff_84 (gaM_5 hin) rfl ?_
        refine s_if_ne (n := 88) (tgt := 108) hG dX12_drawOff_85 rfl rfl (fun c => ?_) (fun c => ?_)
        · replace h := h.1 c
          exact s_wk hG (sX12_drawOff_j108 hE hG hQ hK40 ih h) ⟨rfl, rfl, rfl, trivial⟩
        · replace h := h.2 c
          refine s_aload_n (n := 89) hG dX12_drawOff_88 rfl rfl ?_
          refine gtX12_30 (n := 92) hG dX12_drawOff_89 rfl ?_
          refine s_iload_n (n := 93) hG dX12_drawOff_92 rfl rfl ?_
          refine s_bipush (n := 95) hG dX12_drawOff_93 kb_10 rfl ?_
          refine s_isub (n := 96) hG dX12_drawOff_95 rfl ?_
          refine s_iconst (n := 97) hG dX12_drawOff_96 ki_1 rfl ?_
          refine s_topi2 (fun i97 hi97 => ?_)
          replace h := h i97 hi97
          obtain ⟨hin, h⟩ := h
          refine s_zast (n := 98) hG dX12_drawOff_97 (gaM_5 hin) (gz_v gz_1) rfl ?_
          refine s_nf (fun f97 hf97 => ?_)
          replace h := h f97 hf97
          refine s_aload_n (n := 99) hG dX12_drawOff_98 rfl rfl ?_
          refine s_dup (n := 100) hG dX12_drawOff_99 rfl rfl ?_
          refine gtX12_164 (n := 103) hG dX12_drawOff_100 rfl ?_
          refine s_iconst (n := 104) hG dX12_drawOff_103 ki_1 rfl ?_
          refine s_iadd (n := 105) hG dX12_drawOff_104 rfl ?_
          refine s_topi (fun y105 hy105 => ?_)
          replace h := h y105 hy105
          refine ptX12_164 (n := 108) hG dX12_drawOff_105 rfl ?_
          refine s_ng (fun g105 hg105 => ?_)
          replace h := h g105 hg105
          exact s_wk hG (sX12_drawOff_j108 hE hG hQ hK40 ih h) ⟨rfl, rfl, rfl, trivial⟩
def wX12_drawOff_l40 (N : Nat)   (Q : gFG → gFF → Int64 → Prop) : Nat → Int32 → gFG → gFF → Int64 → Prop
  | 0, _, _, _, _ => False
  | n + 1, v1, g, f, w => (((g 3) ≤ v1) → wX12_drawOff_l122 N  Q N 1 g f w) ∧ ((¬ (g 3) ≤ v1) → wX12_drawOff_l50 N v1 (wX12_drawOff_l40 N   Q n) Q N 0 g f w)
theorem sX12_drawOff_l40 {G : gG} {Rt : Option Value → gSt → Prop} (hE : gInj layM ad ∧ gZok (gA layM ad) Z) (hG : gSim l D cs layM ad Z 4 RX12 cX12_drawOff 4 none G Rt) {Q : gFG → gFF → Int64 → Prop} (hQ : ∀ v S, gMv Q v S → Rt v S) {N : Nat}     : ∀ (n : Nat) (v1 : Int32) (g : gFG) (f : gFF) (w : Int64), wX12_drawOff_l40 N   Q n v1 g f w → G 40 [some (.ref (ad 0)), some (.int v1), none, none] [] (g, f, w) := by
  intro n
  induction n with
  | zero => intro _ _ _ _ h; unfold wX12_drawOff_l40 at h; exact h.elim
  | succ n ih =>
    intro v1 g f w h
    unfold wX12_drawOff_l40 at h
    refine s_iload_n (n := 41) hG dX12_drawOff_40 rfl rfl ?_
    refine s_aload_n (n := 42) hG dX12_drawOff_41 rfl rfl ?_
    refine gtX12_13 (n := 45) hG dX12_drawOff_42 rfl ?_
    refine s_icmp_ge (n := 48) (tgt := 120) hG dX12_drawOff_45 rfl rfl (fun c => ?_) (fun c => ?_)
    · replace h := h.1 c
      refine s_iconst (n := 121) hG dX12_drawOff_120 ki_1 rfl ?_
      refine s_istore_n (n := 122) (lv2 := [some (.ref (ad 0)), some (.int 1), none, none]) hG dX12_drawOff_121 rfl rfl rfl ?_
      exact s_wk hG (sX12_drawOff_l122 hE hG hQ  N _ _ _ _ h) ⟨rfl, rfl, trivial⟩
    · replace h := h.2 c
      refine s_iconst (n := 49) hG dX12_drawOff_48 ki_0 rfl ?_
      refine s_istore_n (n := 50) (lv2 := [some (.ref (ad 0)), some (.int v1), some (.int 0), none]) hG dX12_drawOff_49 rfl rfl rfl ?_
      exact s_wk hG (sX12_drawOff_l50 hE hG hQ ih N _ _ _ _ h) ⟨rfl, rfl, rfl, trivial⟩
def wX12_drawOff_l12 (N : Nat)   (Q : gFG → gFF → Int64 → Prop) : Nat → Int32 → gFG → gFF → Int64 → Prop
  | 0, _, _, _, _ => False
  | n + 1, v1, g, f, w => ((8 ≤ v1) → wX12_drawOff_l40 N  Q N 0 g f w) ∧ ((¬ 8 ≤ v1) → (vp_in v1 8) ∧ (∀ f24 : gFF, f24 = (va_up f 5 (upd (f 5) v1.toNatClampNeg 0)) → (vp_in v1 8) ∧ (∀ f31 : gFF, f31 = (va_up f24 6 (upd (f24 6) v1.toNatClampNeg 0)) → ∀ x1_32 : Int32, x1_32 = (v1 + 1) → wX12_drawOff_l12 N   Q n x1_32 g f31 w)))
theorem sX12_drawOff_l12 {G : gG} {Rt : Option Value → gSt → Prop} (hE : gInj layM ad ∧ gZok (gA layM ad) Z) (hG : gSim l D cs layM ad Z 4 RX12 cX12_drawOff 4 none G Rt) {Q : gFG → gFF → Int64 → Prop} (hQ : ∀ v S, gMv Q v S → Rt v S) {N : Nat}     : ∀ (n : Nat) (v1 : Int32) (g : gFG) (f : gFF) (w : Int64), wX12_drawOff_l12 N   Q n v1 g f w → G 12 [some (.ref (ad 0)), some (.int v1), none, none] [] (g, f, w) := by
  intro n
  induction n with
  | zero => intro _ _ _ _ h; unfold wX12_drawOff_l12 at h; exact h.elim
  | succ n ih =>
    intro v1 g f w h
    unfold wX12_drawOff_l12 at h
    refine s_iload_n (n := 13) hG dX12_drawOff_12 rfl rfl ?_
    refine s_bipush (n := 15) hG dX12_drawOff_13 kb_8 rfl ?_
    refine s_icmp_ge (n := 18) (tgt := 38) hG dX12_drawOff_15 rfl rfl (fun c => ?_) (fun c => ?_)
    · replace h := h.1 c
      refine s_iconst (n := 39) hG dX12_drawOff_38 ki_0 rfl ?_
      refine s_istore_n (n := 40) (lv2 := [some (.ref (ad 0)), some (.int 0), none, none]) hG dX12_drawOff_39 rfl rfl rfl ?_
      exact s_wk hG (sX12_drawOff_l40 hE hG hQ  N _ _ _ _ h) ⟨rfl, rfl, trivial⟩
    · replace h := h.2 c
      refine s_aload_n (n := 19) hG dX12_drawOff_18 rfl rfl ?_
      refine gtX12_30 (n := 22) hG dX12_drawOff_19 rfl ?_
      refine s_iload_n (n := 23) hG dX12_drawOff_22 rfl rfl ?_
      refine s_iconst (n := 24) hG dX12_drawOff_23 ki_0 rfl ?_
      obtain ⟨hin, h⟩ := h
      refine s_zast (n := 25) hG dX12_drawOff_24 (gaM_5 hin) (gz_v gz_0) rfl ?_
      refine s_nf (fun f24 hf24 => ?_)
      replace h := h f24 hf24
      refine s_aload_n (n := 26) hG dX12_drawOff_25 rfl rfl ?_
      refine gtX12_33 (n := 29) hG dX12_drawOff_26 rfl ?_
      refine s_iload_n (n := 30) hG dX12_drawOff_29 rfl rfl ?_
      refine s_iconst (n := 31) hG dX12_drawOff_30 ki_0 rfl ?_
      obtain ⟨hin, h⟩ := h
      refine s_zast (n := 32) hG dX12_drawOff_31 (gaM_6 hin) (gz_v gz_0) rfl ?_
      refine s_nf (fun f31 hf31 => ?_)
      replace h := h f31 hf31
      obtain ⟨x1_32, hx1_32⟩ : ∃ z : Int32, z = (v1 + 1) := ⟨_, rfl⟩
      replace h := h x1_32 hx1_32
      refine s_iinc (n := 35) (v := x1_32) (lv2 := [some (.ref (ad 0)), some (.int x1_32), none, none]) hG dX12_drawOff_32 ki_1 rfl hx1_32 rfl rfl rfl ?_
      refine s_goto (tgt := 12) hG dX12_drawOff_35 rfl ?_
      exact s_wk hG (ih _ _ _ _ h) ⟨rfl, rfl, trivial⟩
def wX12_drawOff (N : Nat)  (g : gFG) (f : gFF) (w : Int64) (Q : gFG → gFF → Int64 → Prop) : Prop := ∀ g2 : gFG, g2 = (va_up g 14 0) → ∀ g7 : gFG, g7 = (va_up g2 13 0) → wX12_drawOff_l12 N  Q N 0 g7 f w
theorem mX12_drawOff (hE : gInj layM ad ∧ gZok (gA layM ad) Z) {N : Nat}  {g : gFG} {f : gFF} {w : Int64} {Q : gFG → gFF → Int64 → Prop} (h : wX12_drawOff N  g f w Q) : gCT l D cs layM ad Z 4 yX12_drawOff cX12_drawOff 4 none [.ref (ad 0)] (g, f, w) (gMv Q) := by
  refine met_walk (lv0 := [some (.ref (ad 0)), none, none, none]) hE (by decide) (Nat.le_of_ble_eq_true rfl) rfl (fun G Rt hG hQ => ?_)
  replace hG : gSim l D cs layM ad Z 4 RX12 cX12_drawOff 4 none G Rt := hG
  unfold wX12_drawOff at h
  refine s_aload_n (n := 1) hG dX12_drawOff_0 rfl rfl ?_
  refine s_iconst (n := 2) hG dX12_drawOff_1 ki_0 rfl ?_
  refine ptX12_164 (n := 5) hG dX12_drawOff_2 rfl ?_
  refine s_ng (fun g2 hg2 => ?_)
  replace h := h g2 hg2
  refine s_aload_n (n := 6) hG dX12_drawOff_5 rfl rfl ?_
  refine s_iconst (n := 7) hG dX12_drawOff_6 ki_0 rfl ?_
  refine ptX12_167 (n := 10) hG dX12_drawOff_7 rfl ?_
  refine s_ng (fun g7 hg7 => ?_)
  replace h := h g7 hg7
  refine s_iconst (n := 11) hG dX12_drawOff_10 ki_0 rfl ?_
  refine s_istore_n (n := 12) (lv2 := [some (.ref (ad 0)), some (.int 0), none, none]) hG dX12_drawOff_11 rfl rfl rfl ?_
  exact s_wk hG (sX12_drawOff_l12 hE hG hQ  N _ _ _ _ h) ⟨rfl, rfl, trivial⟩
def wX12_off (N : Nat) (a1 : Int32) (a2 : Int32) (g : gFG) (f : gFF) (w : Int64) (Q : Int32 → gFG → gFF → Int64 → Prop) : Prop := ∀ g2 : gFG, g2 = (va_up g 0 0) → wX12_drawOff N g2 f w (fun g6 f6 w6 => ((¬ a1 = (-1)) → wX12_in N a1.toInt64 0 ((g6 13).toInt64 - 1) g6 f6 w6 (fun r66 g66 f66 w66 => ((¬ r66 = 0) → ((¬ a2 = 0) → ((¬ a2 = 1) → Q (-1) g66 f66 w66) ∧ ((a2 = 1) → (vp_in a1 8) ∧ (Q (f66 8 a1.toNatClampNeg) g66 f66 w66))) ∧ ((a2 = 0) → (vp_in a1 8) ∧ (Q (f66 7 a1.toNatClampNeg) g66 f66 w66))) ∧ ((r66 = 0) → Q (-1) g66 f66 w66))) ∧ ((a1 = (-1)) → ((¬ a2 = 0) → ((¬ a2 = 1) → ((¬ a2 = 2) → Q (-1) g6 f6 w6) ∧ ((a2 = 2) → Q (g6 14) g6 f6 w6)) ∧ ((a2 = 1) → Q ((g6 14) - (g6 13)) g6 f6 w6)) ∧ ((a2 = 0) → Q (g6 13) g6 f6 w6)))
theorem mX12_off (hE : gInj layM ad ∧ gZok (gA layM ad) Z) {N : Nat} {a1 : Int32} {a2 : Int32} {g : gFG} {f : gFF} {w : Int64} {Q : Int32 → gFG → gFF → Int64 → Prop} (h : wX12_off N a1 a2 g f w Q) : gCT l D cs layM ad Z 5 yX12_off cX12_off 3 (some .int) [.ref (ad 0), .int a1, .int a2] (g, f, w) (gMi Q) := by
  refine met_walk (lv0 := [some (.ref (ad 0)), some (.int a1), some (.int a2)]) hE (by decide) (Nat.le_of_ble_eq_true rfl) rfl (fun G Rt hG hQ => ?_)
  replace hG : gSim l D cs layM ad Z 5 RX12 cX12_off 3 (some .int) G Rt := hG
  unfold wX12_off at h
  refine s_aload_n (n := 1) hG dX12_off_0 rfl rfl ?_
  refine s_iconst (n := 2) hG dX12_off_1 ki_0 rfl ?_
  refine ptX12_96 (n := 5) hG dX12_off_2 rfl ?_
  refine s_ng (fun g2 hg2 => ?_)
  replace h := h g2 hg2
  refine s_aload_n (n := 6) hG dX12_off_5 rfl rfl ?_
  refine s_callV (n := 9) (st := []) hG (mX12_drawOff hE h) ceX12_drawOff lmX12_173 ⟨by decide, rfl, rfl⟩ rfl ⟨rfl, Nat.le_of_ble_eq_true rfl, by decide⟩ dX12_off_6 rfl ?_
  rintro _ _ ⟨g6, f6, w6, rfl, rfl, h⟩
  refine s_iload_n (n := 10) hG dX12_off_9 rfl rfl ?_
  refine s_iconst (n := 11) hG dX12_off_10 ki_m1 rfl ?_
  refine s_icmp_ne (n := 14) (tgt := 56) hG dX12_off_11 rfl rfl (fun c => ?_) (fun c => ?_)
  · replace h := h.1 c
    refine s_iload_n (n := 57) hG dX12_off_56 rfl rfl ?_
    refine s_i2l (n := 58) hG dX12_off_57 rfl ?_
    refine s_lconst (n := 59) hG dX12_off_58 kl_0 rfl ?_
    refine s_aload_n (n := 60) hG dX12_off_59 rfl rfl ?_
    refine gtX12_167 (n := 63) hG dX12_off_60 rfl ?_
    refine s_i2l (n := 64) hG dX12_off_63 rfl ?_
    refine s_lconst (n := 65) hG dX12_off_64 kl_1 rfl ?_
    refine s_lsub (n := 66) hG dX12_off_65 rfl ?_
    refine s_callS (n := 69) (st := []) hG (mX12_in hE h) ceX12_in lmX12_102 rfl ⟨rfl, Nat.le_of_ble_eq_true rfl, by decide⟩ dX12_off_66 rfl ?_
    rintro _ _ ⟨r66, g66, f66, w66, rfl, rfl, h⟩
    refine s_if_ne (n := 72) (tgt := 76) hG dX12_off_69 rfl rfl (fun c => ?_) (fun c => ?_)
    · replace h := h.1 c
      refine s_iload_n (n := 77) hG dX12_off_76 rfl rfl ?_
      refine s_if_ne (n := 80) (tgt := 89) hG dX12_off_77 rfl rfl (fun c => ?_) (fun c => ?_)
      · replace h := h.1 c
        refine s_iload_n (n := 90) hG dX12_off_89 rfl rfl ?_
        refine s_iconst (n := 91) hG dX12_off_90 ki_1 rfl ?_
        refine s_icmp_ne (n := 94) (tgt := 103) hG dX12_off_91 rfl rfl (fun c => ?_) (fun c => ?_)
        · replace h := h.1 c
          refine s_iconst (n := 104) hG dX12_off_103 ki_m1 rfl ?_
          exact s_iret hG dX12_off_104 (hQ _ _ ⟨_, _, _, _, rfl, rfl, h⟩)
        · replace h := h.2 c
          refine s_aload_n (n := 95) hG dX12_off_94 rfl rfl ?_
          refine gtX12_39 (n := 98) hG dX12_off_95 rfl ?_
          refine s_iload_n (n := 99) hG dX12_off_98 rfl rfl ?_
          obtain ⟨hin, h⟩ := h
          refine s_iald (n := 100) hG dX12_off_99 (gaM_8 hin) rfl ?_
          refine s_goto (tgt := 104) hG dX12_off_100 rfl ?_
          exact s_iret hG dX12_off_104 (hQ _ _ ⟨_, _, _, _, rfl, rfl, h⟩)
      · replace h := h.2 c
        refine s_aload_n (n := 81) hG dX12_off_80 rfl rfl ?_
        refine gtX12_36 (n := 84) hG dX12_off_81 rfl ?_
        refine s_iload_n (n := 85) hG dX12_off_84 rfl rfl ?_
        obtain ⟨hin, h⟩ := h
        refine s_iald (n := 86) hG dX12_off_85 (gaM_7 hin) rfl ?_
        refine s_goto (tgt := 104) hG dX12_off_86 rfl ?_
        exact s_iret hG dX12_off_104 (hQ _ _ ⟨_, _, _, _, rfl, rfl, h⟩)
    · replace h := h.2 c
      refine s_iconst (n := 73) hG dX12_off_72 ki_m1 rfl ?_
      refine s_goto (tgt := 104) hG dX12_off_73 rfl ?_
      exact s_iret hG dX12_off_104 (hQ _ _ ⟨_, _, _, _, rfl, rfl, h⟩)
  · replace h := h.2 c
    refine s_iload_n (n := 15) hG dX12_off_14 rfl rfl ?_
    refine s_if_ne (n := 18) (tgt := 25) hG dX12_off_15 rfl rfl (fun c => ?_) (fun c => ?_)
    · replace h := h.1 c
      refine s_iload_n (n := 26) hG dX12_off_25 rfl rfl ?_
      refine s_iconst (n := 27) hG dX12_off_26 ki_1 rfl ?_
      refine s_icmp_ne (n := 30) (tgt := 42) hG dX12_off_27 rfl rfl (fun c => ?_) (fun c => ?_)
      · replace h := h.1 c
        refine s_iload_n (n := 43) hG dX12_off_42 rfl rfl ?_
        refine s_iconst (n := 44) hG dX12_off_43 ki_2 rfl ?_
        refine s_icmp_ne (n := 47) (tgt := 54) hG dX12_off_44 rfl rfl (fun c => ?_) (fun c => ?_)
        · replace h := h.1 c
          refine s_iconst (n := 55) hG dX12_off_54 ki_m1 rfl ?_
          exact s_iret hG dX12_off_55 (hQ _ _ ⟨_, _, _, _, rfl, rfl, h⟩)
        · replace h := h.2 c
          refine s_aload_n (n := 48) hG dX12_off_47 rfl rfl ?_
          refine gtX12_164 (n := 51) hG dX12_off_48 rfl ?_
          refine s_goto (tgt := 55) hG dX12_off_51 rfl ?_
          exact s_iret hG dX12_off_55 (hQ _ _ ⟨_, _, _, _, rfl, rfl, h⟩)
      · replace h := h.2 c
        refine s_aload_n (n := 31) hG dX12_off_30 rfl rfl ?_
        refine gtX12_164 (n := 34) hG dX12_off_31 rfl ?_
        refine s_aload_n (n := 35) hG dX12_off_34 rfl rfl ?_
        refine gtX12_167 (n := 38) hG dX12_off_35 rfl ?_
        refine s_isub (n := 39) hG dX12_off_38 rfl ?_
        refine s_goto (tgt := 55) hG dX12_off_39 rfl ?_
        exact s_iret hG dX12_off_55 (hQ _ _ ⟨_, _, _, _, rfl, rfl, h⟩)
    · replace h := h.2 c
      refine s_aload_n (n := 19) hG dX12_off_18 rfl rfl ?_
      refine gtX12_167 (n := 22) hG dX12_off_19 rfl ?_
      refine s_goto (tgt := 55) hG dX12_off_22 rfl ?_
      exact s_iret hG dX12_off_55 (hQ _ _ ⟨_, _, _, _, rfl, rfl, h⟩)
def wX12_lot_j57 (N : Nat)  (Q : Int32 → gFG → gFF → Int64 → Prop)  (g : gFG) (f : gFF) (w : Int64) : Prop := wX12_told N (-1) g f w (fun r59 g59 f59 w59 => Q r59 g59 f59 w59)
theorem sX12_lot_j57 {G : gG} {Rt : Option Value → gSt → Prop} (hE : gInj layM ad ∧ gZok (gA layM ad) Z) (hG : gSim l D cs layM ad Z 2 RX12 cX12_lot 5 (some .int) G Rt) {Q : Int32 → gFG → gFF → Int64 → Prop} (hQ : ∀ v S, gMi Q v S → Rt v S) {N : Nat}    {g : gFG} {f : gFF} {w : Int64}  (h : wX12_lot_j57 N  Q  g f w) : G 57 [some (.ref (ad 0)), none, none, none, none] [] (g, f, w) := by
  unfold wX12_lot_j57 at h
  refine s_aload_n (n := 58) hG dX12_lot_57 rfl rfl ?_
  refine s_iconst (n := 59) hG dX12_lot_58 ki_m1 rfl ?_
  refine s_callV (n := 62) (st := []) hG (mX12_told hE h) ceX12_told lmX12_113 ⟨by decide, rfl, rfl⟩ rfl ⟨rfl, Nat.le_of_ble_eq_true rfl, by decide⟩ dX12_lot_59 rfl ?_
  rintro _ _ ⟨r59, g59, f59, w59, rfl, rfl, h⟩
  exact s_iret hG dX12_lot_62 (hQ _ _ ⟨_, _, _, _, rfl, rfl, h⟩)
def wX12_lot (N : Nat) (a1 : Int32) (a2 : Int32) (a3 : Int32) (a4 : Int32) (g : gFG) (f : gFF) (w : Int64) (Q : Int32 → gFG → gFF → Int64 → Prop) : Prop := ∀ g2 : gFG, g2 = (va_up g 0 0) → wX12_in N a1.toInt64 0 1000 g2 f w (fun r11 g11 f11 w11 => ((r11 = 0) → wX12_lot_j57 N  Q g11 f11 w11) ∧ ((¬ r11 = 0) → wX12_in N a2.toInt64 0 (1000 - a1.toInt64) g11 f11 w11 (fun r26 g26 f26 w26 => ((r26 = 0) → wX12_lot_j57 N  Q g26 f26 w26) ∧ ((¬ r26 = 0) → wX12_in N a3.toInt64 0 1000 g26 f26 w26 (fun r38 g38 f38 w38 => ((r38 = 0) → wX12_lot_j57 N  Q g38 f38 w38) ∧ ((¬ r38 = 0) → wX12_in N a4.toInt64 0 40 g38 f38 w38 (fun r51 g51 f51 w51 => ((¬ r51 = 0) → ((¬ (g51 15) = 6) → ∀ i88 : Int32, i88 = (g51 15) → (vp_in i88 6) ∧ (∀ f88 : gFF, f88 = (va_up f51 9 (upd (f51 9) i88.toNatClampNeg a1)) → ∀ i98 : Int32, i98 = (g51 15) → (vp_in i98 6) ∧ (∀ f98 : gFF, f98 = (va_up f88 10 (upd (f88 10) i98.toNatClampNeg a2)) → ∀ i108 : Int32, i108 = (g51 15) → (vp_in i108 6) ∧ (∀ f108 : gFF, f108 = (va_up f98 11 (upd (f98 11) i108.toNatClampNeg a3)) → ∀ i119 : Int32, i119 = (g51 15) → (vp_in i119 6) ∧ (∀ f119 : gFF, f119 = (va_up f108 12 (upd (f108 12) i119.toNatClampNeg a4)) → ∀ y127 : Int32, y127 = ((g51 15) + 1) → ∀ g127 : gFG, g127 = (va_up g51 15 y127) → wX12_told N ((g127 15) - 1) g127 f119 w51 (fun r137 g137 f137 w137 => Q r137 g137 f137 w137)))))) ∧ (((g51 15) = 6) → wX12_told N (-5) g51 f51 w51 (fun r75 g75 f75 w75 => Q r75 g75 f75 w75))) ∧ ((r51 = 0) → wX12_lot_j57 N  Q g51 f51 w51))))))))
theorem mX12_lot (hE : gInj layM ad ∧ gZok (gA layM ad) Z) {N : Nat} {a1 : Int32} {a2 : Int32} {a3 : Int32} {a4 : Int32} {g : gFG} {f : gFF} {w : Int64} {Q : Int32 → gFG → gFF → Int64 → Prop} (h : wX12_lot N a1 a2 a3 a4 g f w Q) : gCT l D cs layM ad Z 2 yX12_lot cX12_lot 5 (some .int) [.ref (ad 0), .int a1, .int a2, .int a3, .int a4] (g, f, w) (gMi Q) := by
  refine met_walk (lv0 := [some (.ref (ad 0)), some (.int a1), some (.int a2), some (.int a3), some (.int a4)]) hE (by decide) (Nat.le_of_ble_eq_true rfl) rfl (fun G Rt hG hQ => ?_)
  replace hG : gSim l D cs layM ad Z 2 RX12 cX12_lot 5 (some .int) G Rt := hG
  unfold wX12_lot at h
  refine s_aload_n (n := 1) hG dX12_lot_0 rfl rfl ?_
  refine s_iconst (n := 2) hG dX12_lot_1 ki_0 rfl ?_
  refine ptX12_96 (n := 5) hG dX12_lot_2 rfl ?_
  refine s_ng (fun g2 hg2 => ?_)
  replace h := h g2 hg2
  refine s_iload_n (n := 6) hG dX12_lot_5 rfl rfl ?_
  refine s_i2l (n := 7) hG dX12_lot_6 rfl ?_
  refine s_lconst (n := 8) hG dX12_lot_7 kl_0 rfl ?_
  refine s_ldc2_w (n := 11) hG dX12_lot_8 lcX12_176 rfl ?_
  refine s_callS (n := 14) (st := []) hG (mX12_in hE h) ceX12_in lmX12_102 rfl ⟨rfl, Nat.le_of_ble_eq_true rfl, by decide⟩ dX12_lot_11 rfl ?_
  rintro _ _ ⟨r11, g11, f11, w11, rfl, rfl, h⟩
  refine s_if_eq (n := 17) (tgt := 57) hG dX12_lot_14 rfl rfl (fun c => ?_) (fun c => ?_)
  · replace h := h.1 c
    exact s_wk hG (sX12_lot_j57 hE hG hQ  h) ⟨rfl, trivial⟩
  · replace h := h.2 c
    refine s_iload_n (n := 18) hG dX12_lot_17 rfl rfl ?_
    refine s_i2l (n := 19) hG dX12_lot_18 rfl ?_
    refine s_lconst (n := 20) hG dX12_lot_19 kl_0 rfl ?_
    refine s_ldc2_w (n := 23) hG dX12_lot_20 lcX12_176 rfl ?_
    refine s_iload_n (n := 24) hG dX12_lot_23 rfl rfl ?_
    refine s_i2l (n := 25) hG dX12_lot_24 rfl ?_
    refine s_lsub (n := 26) hG dX12_lot_25 rfl ?_
    refine s_callS (n := 29) (st := []) hG (mX12_in hE h) ceX12_in lmX12_102 rfl ⟨rfl, Nat.le_of_ble_eq_true rfl, by decide⟩ dX12_lot_26 rfl ?_
    rintro _ _ ⟨r26, g26, f26, w26, rfl, rfl, h⟩
    refine s_if_eq (n := 32) (tgt := 57) hG dX12_lot_29 rfl rfl (fun c => ?_) (fun c => ?_)
    · replace h := h.1 c
      exact s_wk hG (sX12_lot_j57 hE hG hQ  h) ⟨rfl, trivial⟩
    · replace h := h.2 c
      refine s_iload_n (n := 33) hG dX12_lot_32 rfl rfl ?_
      refine s_i2l (n := 34) hG dX12_lot_33 rfl ?_
      refine s_lconst (n := 35) hG dX12_lot_34 kl_0 rfl ?_
      refine s_ldc2_w (n := 38) hG dX12_lot_35 lcX12_176 rfl ?_
      refine s_callS (n := 41) (st := []) hG (mX12_in hE h) ceX12_in lmX12_102 rfl ⟨rfl, Nat.le_of_ble_eq_true rfl, by decide⟩ dX12_lot_38 rfl ?_
      rintro _ _ ⟨r38, g38, f38, w38, rfl, rfl, h⟩
      refine s_if_eq (n := 44) (tgt := 57) hG dX12_lot_41 rfl rfl (fun c => ?_) (fun c => ?_)
      · replace h := h.1 c
        exact s_wk hG (sX12_lot_j57 hE hG hQ  h) ⟨rfl, trivial⟩
      · replace h := h.2 c
        refine s_iload (n := 46) hG dX12_lot_44 rfl rfl ?_
        refine s_i2l (n := 47) hG dX12_lot_46 rfl ?_
        refine s_lconst (n := 48) hG dX12_lot_47 kl_0 rfl ?_
        refine s_ldc2_w (n := 51) hG dX12_lot_48 lcX12_178 rfl ?_
        refine s_callS (n := 54) (st := []) hG (mX12_in hE h) ceX12_in lmX12_102 rfl ⟨rfl, Nat.le_of_ble_eq_true rfl, by decide⟩ dX12_lot_51 rfl ?_
        rintro _ _ ⟨r51, g51, f51, w51, rfl, rfl, h⟩
        refine s_if_ne (n := 57) (tgt := 63) hG dX12_lot_54 rfl rfl (fun c => ?_) (fun c => ?_)
        · replace h := h.1 c
          refine s_aload_n (n := 64) hG dX12_lot_63 rfl rfl ?_
          refine gtX12_180 (n := 67) hG dX12_lot_64 rfl ?_
          refine s_bipush (n := 69) hG dX12_lot_67 kb_6 rfl ?_
          refine s_icmp_ne (n := 72) (tgt := 79) hG dX12_lot_69 rfl rfl (fun c => ?_) (fun c => ?_)
          · replace h := h.1 c
            refine s_aload_n (n := 80) hG dX12_lot_79 rfl rfl ?_
            refine gtX12_42 (n := 83) hG dX12_lot_80 rfl ?_
            refine s_aload_n (n := 84) hG dX12_lot_83 rfl rfl ?_
            refine gtX12_180 (n := 87) hG dX12_lot_84 rfl ?_
            refine s_iload_n (n := 88) hG dX12_lot_87 rfl rfl ?_
            refine s_topi2 (fun i88 hi88 => ?_)
            replace h := h i88 hi88
            obtain ⟨hin, h⟩ := h
            refine s_iast (n := 89) hG dX12_lot_88 (gaM_9 hin) rfl ?_
            refine s_nf (fun f88 hf88 => ?_)
            replace h := h f88 hf88
            refine s_aload_n (n := 90) hG dX12_lot_89 rfl rfl ?_
            refine gtX12_45 (n := 93) hG dX12_lot_90 rfl ?_
            refine s_aload_n (n := 94) hG dX12_lot_93 rfl rfl ?_
            refine gtX12_180 (n := 97) hG dX12_lot_94 rfl ?_
            refine s_iload_n (n := 98) hG dX12_lot_97 rfl rfl ?_
            refine s_topi2 (fun i98 hi98 => ?_)
            replace h := h i98 hi98
            obtain ⟨hin, h⟩ := h
            refine s_iast (n := 99) hG dX12_lot_98 (gaM_10 hin) rfl ?_
            refine s_nf (fun f98 hf98 => ?_)
            replace h := h f98 hf98
            refine s_aload_n (n := 100) hG dX12_lot_99 rfl rfl ?_
            refine gtX12_48 (n := 103) hG dX12_lot_100 rfl ?_
            refine s_aload_n (n := 104) hG dX12_lot_103 rfl rfl ?_
            refine gtX12_180 (n := 107) hG dX12_lot_104 rfl ?_
            refine s_iload_n (n := 108) hG dX12_lot_107 rfl rfl ?_
            refine s_topi2 (fun i108 hi108 => ?_)
            replace h := h i108 hi108
            obtain ⟨hin, h⟩ := h
            refine s_iast (n := 109) hG dX12_lot_108 (gaM_11 hin) rfl ?_
            refine s_nf (fun f108 hf108 => ?_)
            replace h := h f108 hf108
            refine s_aload_n (n := 110) hG dX12_lot_109 rfl rfl ?_
            refine gtX12_51 (n := 113) hG dX12_lot_110 rfl ?_
            refine s_aload_n (n := 114) hG dX12_lot_113 rfl rfl ?_
            refine gtX12_180 (n := 117) hG dX12_lot_114 rfl ?_
            refine s_iload (n := 119) hG dX12_lot_117 rfl rfl ?_
            refine s_topi2 (fun i119 hi119 => ?_)
            replace h := h i119 hi119
            obtain ⟨hin, h⟩ := h
            refine s_iast (n := 120) hG dX12_lot_119 (gaM_12 hin) rfl ?_
            refine s_nf (fun f119 hf119 => ?_)
            replace h := h f119 hf119
            refine s_aload_n (n := 121) hG dX12_lot_120 rfl rfl ?_
            refine s_dup (n := 122) hG dX12_lot_121 rfl rfl ?_
            refine gtX12_180 (n := 125) hG dX12_lot_122 rfl ?_
            refine s_iconst (n := 126) hG dX12_lot_125 ki_1 rfl ?_
            refine s_iadd (n := 127) hG dX12_lot_126 rfl ?_
            refine s_topi (fun y127 hy127 => ?_)
            replace h := h y127 hy127
            refine ptX12_180 (n := 130) hG dX12_lot_127 rfl ?_
            refine s_ng (fun g127 hg127 => ?_)
            replace h := h g127 hg127
            refine s_aload_n (n := 131) hG dX12_lot_130 rfl rfl ?_
            refine s_aload_n (n := 132) hG dX12_lot_131 rfl rfl ?_
            refine gtX12_180 (n := 135) hG dX12_lot_132 rfl ?_
            refine s_iconst (n := 136) hG dX12_lot_135 ki_1 rfl ?_
            refine s_isub (n := 137) hG dX12_lot_136 rfl ?_
            refine s_callV (n := 140) (st := []) hG (mX12_told hE h) ceX12_told lmX12_113 ⟨by decide, rfl, rfl⟩ rfl ⟨rfl, Nat.le_of_ble_eq_true rfl, by decide⟩ dX12_lot_137 rfl ?_
            rintro _ _ ⟨r137, g137, f137, w137, rfl, rfl, h⟩
            exact s_iret hG dX12_lot_140 (hQ _ _ ⟨_, _, _, _, rfl, rfl, h⟩)
          · replace h := h.2 c
            refine s_aload_n (n := 73) hG dX12_lot_72 rfl rfl ?_
            refine s_bipush (n := 75) hG dX12_lot_73 kb_m5 rfl ?_
            refine s_callV (n := 78) (st := []) hG (mX12_told hE h) ceX12_told lmX12_113 ⟨by decide, rfl, rfl⟩ rfl ⟨rfl, Nat.le_of_ble_eq_true rfl, by decide⟩ dX12_lot_75 rfl ?_
            rintro _ _ ⟨r75, g75, f75, w75, rfl, rfl, h⟩
            exact s_iret hG dX12_lot_78 (hQ _ _ ⟨_, _, _, _, rfl, rfl, h⟩)
        · replace h := h.2 c
          exact s_wk hG (sX12_lot_j57 hE hG hQ  h) ⟨rfl, trivial⟩
def wX12_priceOf_l15 (N : Nat) (v1 : Int32) (v2 : Int32) (v3 : Int32) (v4 : Int32)  (Q : Int32 → gFG → gFF → Int64 → Prop) : Nat → Int32 → Int32 → Int32 → Int32 → Int32 → gFG → gFF → Int64 → Prop
  | 0, _, _, _, _, _, _, _, _ => False
  | n + 1, v5, v6, v7, v8, v9, g, f, w => (((g 15) ≤ v9) → ((¬ v5 = v1) → Q (-1) g f w) ∧ ((v5 = v1) → ((v6 < (v2 * v1)) → Q (-1) g f w) ∧ ((¬ v6 < (v2 * v1)) → (((v3 * v1) < v6) → Q (-1) g f w) ∧ ((¬ (v3 * v1) < v6) → (((v4 * v1) < v7) → Q (-1) g f w) ∧ ((¬ (v4 * v1) < v7) → Q v8 g f w))))) ∧ ((¬ (g 15) ≤ v9) → (vp_in v9 7) ∧ (∀ x5_34 : Int32, x5_34 = (v5 + (f 14 v9.toNatClampNeg)) → (vp_in v9 7) ∧ ((vp_in v9 6) ∧ (∀ x6_54 : Int32, x6_54 = (v6 + ((f 14 v9.toNatClampNeg) * (f 9 v9.toNatClampNeg))) → (vp_in v9 7) ∧ ((vp_in v9 6) ∧ (∀ x7_74 : Int32, x7_74 = (v7 + ((f 14 v9.toNatClampNeg) * (f 10 v9.toNatClampNeg))) → (vp_in v9 7) ∧ ((vp_in v9 6) ∧ (∀ x8_94 : Int32, x8_94 = (v8 + ((f 14 v9.toNatClampNeg) * (f 11 v9.toNatClampNeg))) → ∀ x9_96 : Int32, x9_96 = (v9 + 1) → wX12_priceOf_l15 N v1 v2 v3 v4  Q n x5_34 x6_54 x7_74 x8_94 x9_96 g f w))))))))
theorem sX12_priceOf_l15 {G : gG} {Rt : Option Value → gSt → Prop} (hE : gInj layM ad ∧ gZok (gA layM ad) Z) (hG : gSim l D cs layM ad Z 1 RX12 cX12_priceOf 10 (some .int) G Rt) {Q : Int32 → gFG → gFF → Int64 → Prop} (hQ : ∀ v S, gMi Q v S → Rt v S) {N : Nat} {v1 : Int32} {v2 : Int32} {v3 : Int32} {v4 : Int32}    : ∀ (n : Nat) (v5 : Int32) (v6 : Int32) (v7 : Int32) (v8 : Int32) (v9 : Int32) (g : gFG) (f : gFF) (w : Int64), wX12_priceOf_l15 N v1 v2 v3 v4  Q n v5 v6 v7 v8 v9 g f w → G 15 [some (.ref (ad 0)), some (.int v1), some (.int v2), some (.int v3), some (.int v4), some (.int v5), some (.int v6), some (.int v7), some (.int v8), some (.int v9)] [] (g, f, w) := by
  intro n
  induction n with
  | zero => intro _ _ _ _ _ _ _ _ h; unfold wX12_priceOf_l15 at h; exact h.elim
  | succ n ih =>
    intro v5 v6 v7 v8 v9 g f w h
    unfold wX12_priceOf_l15 at h
    refine s_iload (n := 17) hG dX12_priceOf_15 rfl rfl ?_
    refine s_aload_n (n := 18) hG dX12_priceOf_17 rfl rfl ?_
    refine gtX12_180 (n := 21) hG dX12_priceOf_18 rfl ?_
    refine s_icmp_ge (n := 24) (tgt := 102) hG dX12_priceOf_21 rfl rfl (fun c => ?_) (fun c => ?_)
    · replace h := h.1 c
      refine s_iload (n := 104) hG dX12_priceOf_102 rfl rfl ?_
      refine s_iload_n (n := 105) hG dX12_priceOf_104 rfl rfl ?_
      refine s_icmp_ne (n := 108) (tgt := 138) hG dX12_priceOf_105 rfl rfl (fun c => ?_) (fun c => ?_)
      · replace h := h.1 c
        refine s_iconst (n := 139) hG dX12_priceOf_138 ki_m1 rfl ?_
        exact s_iret hG dX12_priceOf_139 (hQ _ _ ⟨_, _, _, _, rfl, rfl, h⟩)
      · replace h := h.2 c
        refine s_iload (n := 110) hG dX12_priceOf_108 rfl rfl ?_
        refine s_iload_n (n := 111) hG dX12_priceOf_110 rfl rfl ?_
        refine s_iload_n (n := 112) hG dX12_priceOf_111 rfl rfl ?_
        refine s_imul (n := 113) hG dX12_priceOf_112 rfl ?_
        refine s_icmp_lt (n := 116) (tgt := 138) hG dX12_priceOf_113 rfl rfl (fun c => ?_) (fun c => ?_)
        · replace h := h.1 c
          refine s_iconst (n := 139) hG dX12_priceOf_138 ki_m1 rfl ?_
          exact s_iret hG dX12_priceOf_139 (hQ _ _ ⟨_, _, _, _, rfl, rfl, h⟩)
        · replace h := h.2 c
          refine s_iload (n := 118) hG dX12_priceOf_116 rfl rfl ?_
          refine s_iload_n (n := 119) hG dX12_priceOf_118 rfl rfl ?_
          refine s_iload_n (n := 120) hG dX12_priceOf_119 rfl rfl ?_
          refine s_imul (n := 121) hG dX12_priceOf_120 rfl ?_
          refine s_icmp_gt (n := 124) (tgt := 138) hG dX12_priceOf_121 rfl rfl (fun c => ?_) (fun c => ?_)
          · replace h := h.1 c
            refine s_iconst (n := 139) hG dX12_priceOf_138 ki_m1 rfl ?_
            exact s_iret hG dX12_priceOf_139 (hQ _ _ ⟨_, _, _, _, rfl, rfl, h⟩)
          · replace h := h.2 c
            refine s_iload (n := 126) hG dX12_priceOf_124 rfl rfl ?_
            refine s_iload (n := 128) hG dX12_priceOf_126 rfl rfl ?_
            refine s_iload_n (n := 129) hG dX12_priceOf_128 rfl rfl ?_
            refine s_imul (n := 130) hG dX12_priceOf_129 rfl ?_
            refine s_icmp_gt (n := 133) (tgt := 138) hG dX12_priceOf_130 rfl rfl (fun c => ?_) (fun c => ?_)
            · replace h := h.1 c
              refine s_iconst (n := 139) hG dX12_priceOf_138 ki_m1 rfl ?_
              exact s_iret hG dX12_priceOf_139 (hQ _ _ ⟨_, _, _, _, rfl, rfl, h⟩)
            · replace h := h.2 c
              refine s_iload (n := 135) hG dX12_priceOf_133 rfl rfl ?_
              refine s_goto (tgt := 139) hG dX12_priceOf_135 rfl ?_
              exact s_iret hG dX12_priceOf_139 (hQ _ _ ⟨_, _, _, _, rfl, rfl, h⟩)
    · replace h := h.2 c
      refine s_iload (n := 26) hG dX12_priceOf_24 rfl rfl ?_
      refine s_aload_n (n := 27) hG dX12_priceOf_26 rfl rfl ?_
      refine gtX12_60 (n := 30) hG dX12_priceOf_27 rfl ?_
      refine s_iload (n := 32) hG dX12_priceOf_30 rfl rfl ?_
      obtain ⟨hin, h⟩ := h
      refine s_iald (n := 33) hG dX12_priceOf_32 (gaM_14 hin) rfl ?_
      refine s_iadd (n := 34) hG dX12_priceOf_33 rfl ?_
      refine s_topi (fun x5_34 hx5_34 => ?_)
      replace h := h x5_34 hx5_34
      refine s_istore (n := 36) (lv2 := [some (.ref (ad 0)), some (.int v1), some (.int v2), some (.int v3), some (.int v4), some (.int x5_34), some (.int v6), some (.int v7), some (.int v8), some (.int v9)]) hG dX12_priceOf_34 rfl rfl rfl ?_
      refine s_iload (n := 38) hG dX12_priceOf_36 rfl rfl ?_
      refine s_aload_n (n := 39) hG dX12_priceOf_38 rfl rfl ?_
      refine gtX12_60 (n := 42) hG dX12_priceOf_39 rfl ?_
      refine s_iload (n := 44) hG dX12_priceOf_42 rfl rfl ?_
      obtain ⟨hin, h⟩ := h
      refine s_iald (n := 45) hG dX12_priceOf_44 (gaM_14 hin) rfl ?_
      refine s_aload_n (n := 46) hG dX12_priceOf_45 rfl rfl ?_
      refine gtX12_42 (n := 49) hG dX12_priceOf_46 rfl ?_
      refine s_iload (n := 51) hG dX12_priceOf_49 rfl rfl ?_
      obtain ⟨hin, h⟩ := h
      refine s_iald (n := 52) hG dX12_priceOf_51 (gaM_9 hin) rfl ?_
      refine s_imul (n := 53) hG dX12_priceOf_52 rfl ?_
      refine s_iadd (n := 54) hG dX12_priceOf_53 rfl ?_
      refine s_topi (fun x6_54 hx6_54 => ?_)
      replace h := h x6_54 hx6_54
      refine s_istore (n := 56) (lv2 := [some (.ref (ad 0)), some (.int v1), some (.int v2), some (.int v3), some (.int v4), some (.int x5_34), some (.int x6_54), some (.int v7), some (.int v8), some (.int v9)]) hG dX12_priceOf_54 rfl rfl rfl ?_
      refine s_iload (n := 58) hG dX12_priceOf_56 rfl rfl ?_
      refine s_aload_n (n := 59) hG dX12_priceOf_58 rfl rfl ?_
      refine gtX12_60 (n := 62) hG dX12_priceOf_59 rfl ?_
      refine s_iload (n := 64) hG dX12_priceOf_62 rfl rfl ?_
      obtain ⟨hin, h⟩ := h
      refine s_iald (n := 65) hG dX12_priceOf_64 (gaM_14 hin) rfl ?_
      refine s_aload_n (n := 66) hG dX12_priceOf_65 rfl rfl ?_
      refine gtX12_45 (n := 69) hG dX12_priceOf_66 rfl ?_
      refine s_iload (n := 71) hG dX12_priceOf_69 rfl rfl ?_
      obtain ⟨hin, h⟩ := h
      refine s_iald (n := 72) hG dX12_priceOf_71 (gaM_10 hin) rfl ?_
      refine s_imul (n := 73) hG dX12_priceOf_72 rfl ?_
      refine s_iadd (n := 74) hG dX12_priceOf_73 rfl ?_
      refine s_topi (fun x7_74 hx7_74 => ?_)
      replace h := h x7_74 hx7_74
      refine s_istore (n := 76) (lv2 := [some (.ref (ad 0)), some (.int v1), some (.int v2), some (.int v3), some (.int v4), some (.int x5_34), some (.int x6_54), some (.int x7_74), some (.int v8), some (.int v9)]) hG dX12_priceOf_74 rfl rfl rfl ?_
      refine s_iload (n := 78) hG dX12_priceOf_76 rfl rfl ?_
      refine s_aload_n (n := 79) hG dX12_priceOf_78 rfl rfl ?_
      refine gtX12_60 (n := 82) hG dX12_priceOf_79 rfl ?_
      refine s_iload (n := 84) hG dX12_priceOf_82 rfl rfl ?_
      obtain ⟨hin, h⟩ := h
      refine s_iald (n := 85) hG dX12_priceOf_84 (gaM_14 hin) rfl ?_
      refine s_aload_n (n := 86) hG dX12_priceOf_85 rfl rfl ?_
      refine gtX12_48 (n := 89) hG dX12_priceOf_86 rfl ?_
      refine s_iload (n := 91) hG dX12_priceOf_89 rfl rfl ?_
      obtain ⟨hin, h⟩ := h
      refine s_iald (n := 92) hG dX12_priceOf_91 (gaM_11 hin) rfl ?_
      refine s_imul (n := 93) hG dX12_priceOf_92 rfl ?_
      refine s_iadd (n := 94) hG dX12_priceOf_93 rfl ?_
      refine s_topi (fun x8_94 hx8_94 => ?_)
      replace h := h x8_94 hx8_94
      refine s_istore (n := 96) (lv2 := [some (.ref (ad 0)), some (.int v1), some (.int v2), some (.int v3), some (.int v4), some (.int x5_34), some (.int x6_54), some (.int x7_74), some (.int x8_94), some (.int v9)]) hG dX12_priceOf_94 rfl rfl rfl ?_
      obtain ⟨x9_96, hx9_96⟩ : ∃ z : Int32, z = (v9 + 1) := ⟨_, rfl⟩
      replace h := h x9_96 hx9_96
      refine s_iinc (n := 99) (v := x9_96) (lv2 := [some (.ref (ad 0)), some (.int v1), some (.int v2), some (.int v3), some (.int v4), some (.int x5_34), some (.int x6_54), some (.int x7_74), some (.int x8_94), some (.int x9_96)]) hG dX12_priceOf_96 ki_1 rfl hx9_96 rfl rfl rfl ?_
      refine s_goto (tgt := 15) hG dX12_priceOf_99 rfl ?_
      exact s_wk hG (ih _ _ _ _ _ _ _ _ h) ⟨rfl, rfl, rfl, rfl, rfl, rfl, rfl, rfl, rfl, rfl, trivial⟩
def wX12_priceOf (N : Nat) (a1 : Int32) (a2 : Int32) (a3 : Int32) (a4 : Int32) (g : gFG) (f : gFF) (w : Int64) (Q : Int32 → gFG → gFF → Int64 → Prop) : Prop := wX12_priceOf_l15 N a1 a2 a3 a4 Q N 0 0 0 0 0 g f w
theorem mX12_priceOf (hE : gInj layM ad ∧ gZok (gA layM ad) Z) {N : Nat} {a1 : Int32} {a2 : Int32} {a3 : Int32} {a4 : Int32} {g : gFG} {f : gFF} {w : Int64} {Q : Int32 → gFG → gFF → Int64 → Prop} (h : wX12_priceOf N a1 a2 a3 a4 g f w Q) : gCT l D cs layM ad Z 1 yX12_priceOf cX12_priceOf 10 (some .int) [.ref (ad 0), .int a1, .int a2, .int a3, .int a4] (g, f, w) (gMi Q) := by
  refine met_walk (lv0 := [some (.ref (ad 0)), some (.int a1), some (.int a2), some (.int a3), some (.int a4), none, none, none, none, none]) hE (by decide) (Nat.le_of_ble_eq_true rfl) rfl (fun G Rt hG hQ => ?_)
  replace hG : gSim l D cs layM ad Z 1 RX12 cX12_priceOf 10 (some .int) G Rt := hG
  unfold wX12_priceOf at h
  refine s_iconst (n := 1) hG dX12_priceOf_0 ki_0 rfl ?_
  refine s_istore (n := 3) (lv2 := [some (.ref (ad 0)), some (.int a1), some (.int a2), some (.int a3), some (.int a4), some (.int 0), none, none, none, none]) hG dX12_priceOf_1 rfl rfl rfl ?_
  refine s_iconst (n := 4) hG dX12_priceOf_3 ki_0 rfl ?_
  refine s_istore (n := 6) (lv2 := [some (.ref (ad 0)), some (.int a1), some (.int a2), some (.int a3), some (.int a4), some (.int 0), some (.int 0), none, none, none]) hG dX12_priceOf_4 rfl rfl rfl ?_
  refine s_iconst (n := 7) hG dX12_priceOf_6 ki_0 rfl ?_
  refine s_istore (n := 9) (lv2 := [some (.ref (ad 0)), some (.int a1), some (.int a2), some (.int a3), some (.int a4), some (.int 0), some (.int 0), some (.int 0), none, none]) hG dX12_priceOf_7 rfl rfl rfl ?_
  refine s_iconst (n := 10) hG dX12_priceOf_9 ki_0 rfl ?_
  refine s_istore (n := 12) (lv2 := [some (.ref (ad 0)), some (.int a1), some (.int a2), some (.int a3), some (.int a4), some (.int 0), some (.int 0), some (.int 0), some (.int 0), none]) hG dX12_priceOf_10 rfl rfl rfl ?_
  refine s_iconst (n := 13) hG dX12_priceOf_12 ki_0 rfl ?_
  refine s_istore (n := 15) (lv2 := [some (.ref (ad 0)), some (.int a1), some (.int a2), some (.int a3), some (.int a4), some (.int 0), some (.int 0), some (.int 0), some (.int 0), some (.int 0)]) hG dX12_priceOf_13 rfl rfl rfl ?_
  exact s_wk hG (sX12_priceOf_l15 hE hG hQ  N _ _ _ _ _ _ _ _ h) ⟨rfl, rfl, rfl, rfl, rfl, rfl, rfl, rfl, rfl, rfl, trivial⟩
def wX12_mix_j55 (N : Nat)  (Q : Int32 → gFG → gFF → Int64 → Prop)  (g : gFG) (f : gFF) (w : Int64) : Prop := wX12_told N (-1) g f w (fun r57 g57 f57 w57 => Q r57 g57 f57 w57)
theorem sX12_mix_j55 {G : gG} {Rt : Option Value → gSt → Prop} (hE : gInj layM ad ∧ gZok (gA layM ad) Z) (hG : gSim l D cs layM ad Z 2 RX12 cX12_mix 11 (some .int) G Rt) {Q : Int32 → gFG → gFF → Int64 → Prop} (hQ : ∀ v S, gMi Q v S → Rt v S) {N : Nat}    {g : gFG} {f : gFF} {w : Int64}  (h : wX12_mix_j55 N  Q  g f w) : G 55 [some (.ref (ad 0)), none, none, none, none, none, none, none, none, none, none] [] (g, f, w) := by
  unfold wX12_mix_j55 at h
  refine s_aload_n (n := 56) hG dX12_mix_55 rfl rfl ?_
  refine s_iconst (n := 57) hG dX12_mix_56 ki_m1 rfl ?_
  refine s_callV (n := 60) (st := []) hG (mX12_told hE h) ceX12_told lmX12_113 ⟨by decide, rfl, rfl⟩ rfl ⟨rfl, Nat.le_of_ble_eq_true rfl, by decide⟩ dX12_mix_57 rfl ?_
  rintro _ _ ⟨r57, g57, f57, w57, rfl, rfl, h⟩
  exact s_iret hG dX12_mix_60 (hQ _ _ ⟨_, _, _, _, rfl, rfl, h⟩)
def wX12_mix_j391 (N : Nat) (K358 : Int32 → gFG → gFF → Int64 → Prop) (Q : Int32 → gFG → gFF → Int64 → Prop) (v1 : Int32) (v5 : Int32) (v7 : Int32) (t0 : Int32) (t1 : Int32) (g : gFG) (f : gFF) (w : Int64) : Prop := (vp_in t1 6) ∧ (∀ f391 : gFF, f391 = (va_up f 13 (upd (f 13) t1.toNatClampNeg t0)) → ∀ x7_392 : Int32, x7_392 = (v7 + 1) → K358 x7_392 g f391 w)
theorem sX12_mix_j391 {G : gG} {Rt : Option Value → gSt → Prop} (hE : gInj layM ad ∧ gZok (gA layM ad) Z) (hG : gSim l D cs layM ad Z 2 RX12 cX12_mix 11 (some .int) G Rt) {Q : Int32 → gFG → gFF → Int64 → Prop} (hQ : ∀ v S, gMi Q v S → Rt v S) {N : Nat} {K358 : Int32 → gFG → gFF → Int64 → Prop}  {v1 : Int32} {v5 : Int32} {v7 : Int32} {t0 : Int32} {t1 : Int32} {g : gFG} {f : gFF} {w : Int64} (hK358 : ∀ (uv7 : Int32) (ug : gFG) (uf : gFF) (uw : Int64), K358 uv7 ug uf uw → G 358 [some (.ref (ad 0)), some (.int v1), none, none, none, some (.int v5), none, some (.int uv7), none, none, none] [] (ug, uf, uw)) (h : wX12_mix_j391 N K358 Q v1 v5 v7 t0 t1 g f w) : G 391 [some (.ref (ad 0)), some (.int v1), none, none, none, some (.int v5), none, some (.int v7), none, none, none] [.int t0, .int t1, .ref (ad 13)] (g, f, w) := by
  unfold wX12_mix_j391 at h
  obtain ⟨hin, h⟩ := h
  refine s_iast (n := 392) hG dX12_mix_391 (gaM_13 hin) rfl ?_
  refine s_nf (fun f391 hf391 => ?_)
  replace h := h f391 hf391
  obtain ⟨x7_392, hx7_392⟩ : ∃ z : Int32, z = (v7 + 1) := ⟨_, rfl⟩
  replace h := h x7_392 hx7_392
  refine s_iinc (n := 395) (v := x7_392) (lv2 := [some (.ref (ad 0)), some (.int v1), none, none, none, some (.int v5), none, some (.int x7_392), none, none, none]) hG dX12_mix_392 ki_1 rfl hx7_392 rfl rfl rfl ?_
  refine s_goto (tgt := 358) hG dX12_mix_395 rfl ?_
  exact s_wk hG (hK358 _ _ _ _ h) ⟨rfl, rfl, rfl, rfl, trivial⟩
def wX12_mix_l358 (N : Nat) (v1 : Int32) (v5 : Int32)  (Q : Int32 → gFG → gFF → Int64 → Prop) : Nat → Int32 → gFG → gFF → Int64 → Prop
  | 0, _, _, _, _ => False
  | n + 1, v7, g, f, w => ((6 ≤ v7) → ∀ g400 : gFG, g400 = (va_up g 21 v1) → wX12_told N v5 g400 f w (fun r406 g406 f406 w406 => Q r406 g406 f406 w406)) ∧ ((¬ 6 ≤ v7) → (((g 15) ≤ v7) → wX12_mix_j391 N (wX12_mix_l358 N v1 v5  Q n) Q v1 v5 v7 0 v7 g f w) ∧ ((¬ (g 15) ≤ v7) → (vp_in v7 6) ∧ (wX12_mix_j391 N (wX12_mix_l358 N v1 v5  Q n) Q v1 v5 v7 (f 15 v7.toNatClampNeg) v7 g f w)))
theorem sX12_mix_l358 {G : gG} {Rt : Option Value → gSt → Prop} (hE : gInj layM ad ∧ gZok (gA layM ad) Z) (hG : gSim l D cs layM ad Z 2 RX12 cX12_mix 11 (some .int) G Rt) {Q : Int32 → gFG → gFF → Int64 → Prop} (hQ : ∀ v S, gMi Q v S → Rt v S) {N : Nat} {v1 : Int32} {v5 : Int32}    : ∀ (n : Nat) (v7 : Int32) (g : gFG) (f : gFF) (w : Int64), wX12_mix_l358 N v1 v5  Q n v7 g f w → G 358 [some (.ref (ad 0)), some (.int v1), none, none, none, some (.int v5), none, some (.int v7), none, none, none] [] (g, f, w) := by
  intro n
  induction n with
  | zero => intro _ _ _ _ h; unfold wX12_mix_l358 at h; exact h.elim
  | succ n ih =>
    intro v7 g f w h
    unfold wX12_mix_l358 at h
    refine s_iload (n := 360) hG dX12_mix_358 rfl rfl ?_
    refine s_bipush (n := 362) hG dX12_mix_360 kb_6 rfl ?_
    refine s_icmp_ge (n := 365) (tgt := 398) hG dX12_mix_362 rfl rfl (fun c => ?_) (fun c => ?_)
    · replace h := h.1 c
      refine s_aload_n (n := 399) hG dX12_mix_398 rfl rfl ?_
      refine s_iload_n (n := 400) hG dX12_mix_399 rfl rfl ?_
      refine ptX12_57 (n := 403) hG dX12_mix_400 rfl ?_
      refine s_ng (fun g400 hg400 => ?_)
      replace h := h g400 hg400
      refine s_aload_n (n := 404) hG dX12_mix_403 rfl rfl ?_
      refine s_iload (n := 406) hG dX12_mix_404 rfl rfl ?_
      refine s_callV (n := 409) (st := []) hG (mX12_told hE h) ceX12_told lmX12_113 ⟨by decide, rfl, rfl⟩ rfl ⟨rfl, Nat.le_of_ble_eq_true rfl, by decide⟩ dX12_mix_406 rfl ?_
      rintro _ _ ⟨r406, g406, f406, w406, rfl, rfl, h⟩
      exact s_iret hG dX12_mix_409 (hQ _ _ ⟨_, _, _, _, rfl, rfl, h⟩)
    · replace h := h.2 c
      refine s_aload_n (n := 366) hG dX12_mix_365 rfl rfl ?_
      refine gtX12_54 (n := 369) hG dX12_mix_366 rfl ?_
      refine s_iload (n := 371) hG dX12_mix_369 rfl rfl ?_
      refine s_iload (n := 373) hG dX12_mix_371 rfl rfl ?_
      refine s_aload_n (n := 374) hG dX12_mix_373 rfl rfl ?_
      refine gtX12_180 (n := 377) hG dX12_mix_374 rfl ?_
      refine s_icmp_ge (n := 380) (tgt := 390) hG dX12_mix_377 rfl rfl (fun c => ?_) (fun c => ?_)
      · replace h := h.1 c
        refine s_iconst (n := 391) hG dX12_mix_390 ki_0 rfl ?_
        exact s_wk hG (sX12_mix_j391 hE hG hQ ih h) ⟨rfl, rfl, rfl, rfl, trivial⟩
      · replace h := h.2 c
        refine s_aload_n (n := 381) hG dX12_mix_380 rfl rfl ?_
        refine gtX12_63 (n := 384) hG dX12_mix_381 rfl ?_
        refine s_iload (n := 386) hG dX12_mix_384 rfl rfl ?_
        obtain ⟨hin, h⟩ := h
        refine s_iald (n := 387) hG dX12_mix_386 (gaM_15 hin) rfl ?_
        refine s_goto (tgt := 391) hG dX12_mix_387 rfl ?_
        exact s_wk hG (sX12_mix_j391 hE hG hQ ih h) ⟨rfl, rfl, rfl, rfl, trivial⟩
def wX12_mix_j340 (N : Nat) (K102 : Int32 → Int32 → gFG → gFF → Int64 → Prop) (Q : Int32 → gFG → gFF → Int64 → Prop) (v1 : Int32) (v2 : Int32) (v3 : Int32) (v4 : Int32) (v5 : Int32) (v6 : Int32) (g : gFG) (f : gFF) (w : Int64) : Prop := K102 v5 v6 g f w
theorem sX12_mix_j340 {G : gG} {Rt : Option Value → gSt → Prop} (hE : gInj layM ad ∧ gZok (gA layM ad) Z) (hG : gSim l D cs layM ad Z 2 RX12 cX12_mix 11 (some .int) G Rt) {Q : Int32 → gFG → gFF → Int64 → Prop} (hQ : ∀ v S, gMi Q v S → Rt v S) {N : Nat} {K102 : Int32 → Int32 → gFG → gFF → Int64 → Prop}  {v1 : Int32} {v2 : Int32} {v3 : Int32} {v4 : Int32} {v5 : Int32} {v6 : Int32} {g : gFG} {f : gFF} {w : Int64} (hK102 : ∀ (uv5 : Int32) (uv6 : Int32) (ug : gFG) (uf : gFF) (uw : Int64), K102 uv5 uv6 ug uf uw → G 102 [some (.ref (ad 0)), some (.int v1), some (.int v2), some (.int v3), some (.int v4), some (.int uv5), some (.int uv6), none, none, none, none] [] (ug, uf, uw)) (h : wX12_mix_j340 N K102 Q v1 v2 v3 v4 v5 v6 g f w) : G 340 [some (.ref (ad 0)), some (.int v1), some (.int v2), some (.int v3), some (.int v4), some (.int v5), some (.int v6), none, none, none, none] [] (g, f, w) := by
  unfold wX12_mix_j340 at h
  refine s_goto (tgt := 102) hG dX12_mix_340 rfl ?_
  exact s_wk hG (hK102 _ _ _ _ _ h) ⟨rfl, rfl, rfl, rfl, rfl, rfl, rfl, trivial⟩
def wX12_mix_j322 (N : Nat) (K102 : Int32 → Int32 → gFG → gFF → Int64 → Prop) (Q : Int32 → gFG → gFF → Int64 → Prop) (v1 : Int32) (v2 : Int32) (v3 : Int32) (v4 : Int32) (v5 : Int32) (v9 : Int32) (t0 : Int32) (g : gFG) (f : gFF) (w : Int64) : Prop := ((t0 = 0) → wX12_mix_j340 N (K102) Q v1 v2 v3 v4 v5 t0 g f w) ∧ ((¬ t0 = 0) → (vp_in v9 7) ∧ (∀ y339 : Int32, y339 = ((f 14 v9.toNatClampNeg) + 1) → (vp_in v9 7) ∧ (∀ f339 : gFF, f339 = (va_up f 14 (upd (f 14) v9.toNatClampNeg y339)) → wX12_mix_j340 N (K102) Q v1 v2 v3 v4 v5 t0 g f339 w)))
theorem sX12_mix_j322 {G : gG} {Rt : Option Value → gSt → Prop} (hE : gInj layM ad ∧ gZok (gA layM ad) Z) (hG : gSim l D cs layM ad Z 2 RX12 cX12_mix 11 (some .int) G Rt) {Q : Int32 → gFG → gFF → Int64 → Prop} (hQ : ∀ v S, gMi Q v S → Rt v S) {N : Nat} {K102 : Int32 → Int32 → gFG → gFF → Int64 → Prop}  {v1 : Int32} {v2 : Int32} {v3 : Int32} {v4 : Int32} {v5 : Int32} {v9 : Int32} {t0 : Int32} {g : gFG} {f : gFF} {w : Int64} (hK102 : ∀ (uv5 : Int32) (uv6 : Int32) (ug : gFG) (uf : gFF) (uw : Int64), K102 uv5 uv6 ug uf uw → G 102 [some (.ref (ad 0)), some (.int v1), some (.int v2), some (.int v3), some (.int v4), some (.int uv5), some (.int uv6), none, none, none, none] [] (ug, uf, uw)) (h : wX12_mix_j322 N K102 Q v1 v2 v3 v4 v5 v9 t0 g f w) : G 322 [some (.ref (ad 0)), some (.int v1), some (.int v2), some (.int v3), some (.int v4), some (.int v5), none, none, none, some (.int v9), none] [.int t0] (g, f, w) := by
  unfold wX12_mix_j322 at h
  refine s_istore (n := 324) (lv2 := [some (.ref (ad 0)), some (.int v1), some (.int v2), some (.int v3), some (.int v4), some (.int v5), some (.int t0), none, none, some (.int v9), none]) hG dX12_mix_322 rfl rfl rfl ?_
  refine s_iload (n := 326) hG dX12_mix_324 rfl rfl ?_
  refine s_if_eq (n := 329) (tgt := 340) hG dX12_mix_326 rfl rfl (fun c => ?_) (fun c => ?_)
  · replace h := h.1 c
    exact s_wk hG (sX12_mix_j340 hE hG hQ hK102 h) ⟨rfl, rfl, rfl, rfl, rfl, rfl, rfl, trivial⟩
  · replace h := h.2 c
    refine s_aload_n (n := 330) hG dX12_mix_329 rfl rfl ?_
    refine gtX12_60 (n := 333) hG dX12_mix_330 rfl ?_
    refine s_iload (n := 335) hG dX12_mix_333 rfl rfl ?_
    refine s_dup2 (n := 336) hG dX12_mix_335 rfl rfl rfl ?_
    obtain ⟨hin, h⟩ := h
    refine s_iald (n := 337) hG dX12_mix_336 (gaM_14 hin) rfl ?_
    refine s_iconst (n := 338) hG dX12_mix_337 ki_1 rfl ?_
    refine s_iadd (n := 339) hG dX12_mix_338 rfl ?_
    refine s_topi (fun y339 hy339 => ?_)
    replace h := h y339 hy339
    obtain ⟨hin, h⟩ := h
    refine s_iast (n := 340) hG dX12_mix_339 (gaM_14 hin) rfl ?_
    refine s_nf (fun f339 hf339 => ?_)
    replace h := h f339 hf339
    exact s_wk hG (sX12_mix_j340 hE hG hQ hK102 h) ⟨rfl, rfl, rfl, rfl, rfl, rfl, rfl, trivial⟩
def wX12_mix_j312 (N : Nat) (K102 : Int32 → Int32 → gFG → gFF → Int64 → Prop) (Q : Int32 → gFG → gFF → Int64 → Prop) (v1 : Int32) (v2 : Int32) (v3 : Int32) (v4 : Int32) (v5 : Int32) (v9 : Int32) (g : gFG) (f : gFF) (w : Int64) : Prop := ((v9 < 0) → wX12_mix_j322 N (K102) Q v1 v2 v3 v4 v5 v9 0 g f w) ∧ ((¬ v9 < 0) → wX12_mix_j322 N (K102) Q v1 v2 v3 v4 v5 v9 1 g f w)
theorem sX12_mix_j312 {G : gG} {Rt : Option Value → gSt → Prop} (hE : gInj layM ad ∧ gZok (gA layM ad) Z) (hG : gSim l D cs layM ad Z 2 RX12 cX12_mix 11 (some .int) G Rt) {Q : Int32 → gFG → gFF → Int64 → Prop} (hQ : ∀ v S, gMi Q v S → Rt v S) {N : Nat} {K102 : Int32 → Int32 → gFG → gFF → Int64 → Prop}  {v1 : Int32} {v2 : Int32} {v3 : Int32} {v4 : Int32} {v5 : Int32} {v9 : Int32} {g : gFG} {f : gFF} {w : Int64} (hK102 : ∀ (uv5 : Int32) (uv6 : Int32) (ug : gFG) (uf : gFF) (uw : Int64), K102 uv5 uv6 ug uf uw → G 102 [some (.ref (ad 0)), some (.int v1), some (.int v2), some (.int v3), some (.int v4), some (.int uv5), some (.int uv6), none, none, none, none] [] (ug, uf, uw)) (h : wX12_mix_j312 N K102 Q v1 v2 v3 v4 v5 v9 g f w) : G 312 [some (.ref (ad 0)), some (.int v1), some (.int v2), some (.int v3), some (.int v4), some (.int v5), none, none, none, some (.int v9), none] [] (g, f, w) := by
  unfold wX12_mix_j312 at h
  refine s_iload (n := 314) hG dX12_mix_312 rfl rfl ?_
  refine s_if_lt (n := 317) (tgt := 321) hG dX12_mix_314 rfl rfl (fun c => ?_) (fun c => ?_)
  · replace h := h.1 c
    refine s_iconst (n := 322) hG dX12_mix_321 ki_0 rfl ?_
    exact s_wk hG (sX12_mix_j322 hE hG hQ hK102 h) ⟨rfl, rfl, rfl, rfl, rfl, rfl, rfl, trivial⟩
  · replace h := h.2 c
    refine s_iconst (n := 318) hG dX12_mix_317 ki_1 rfl ?_
    refine s_goto (tgt := 322) hG dX12_mix_318 rfl ?_
    exact s_wk hG (sX12_mix_j322 hE hG hQ hK102 h) ⟨rfl, rfl, rfl, rfl, rfl, rfl, rfl, trivial⟩
def wX12_mix_j286 (N : Nat) (K102 : Int32 → Int32 → gFG → gFF → Int64 → Prop) (K258 : Int32 → Int32 → gFG → gFF → Int64 → Prop) (Q : Int32 → gFG → gFF → Int64 → Prop) (v1 : Int32) (v2 : Int32) (v3 : Int32) (v4 : Int32) (v5 : Int32) (v9 : Int32) (v10 : Int32) (g : gFG) (f : gFF) (w : Int64) : Prop := (vp_in v9 7) ∧ (∀ x10_296 : Int32, x10_296 = (v10 - (f 14 v9.toNatClampNeg)) → (vp_in v9 7) ∧ (∀ f305 : gFF, f305 = (va_up f 14 (upd (f 14) v9.toNatClampNeg 0)) → ∀ x9_306 : Int32, x9_306 = (v9 + (-1)) → K258 x9_306 x10_296 g f305 w))
theorem sX12_mix_j286 {G : gG} {Rt : Option Value → gSt → Prop} (hE : gInj layM ad ∧ gZok (gA layM ad) Z) (hG : gSim l D cs layM ad Z 2 RX12 cX12_mix 11 (some .int) G Rt) {Q : Int32 → gFG → gFF → Int64 → Prop} (hQ : ∀ v S, gMi Q v S → Rt v S) {N : Nat} {K102 : Int32 → Int32 → gFG → gFF → Int64 → Prop} {K258 : Int32 → Int32 → gFG → gFF → Int64 → Prop}  {v1 : Int32} {v2 : Int32} {v3 : Int32} {v4 : Int32} {v5 : Int32} {v9 : Int32} {v10 : Int32} {g : gFG} {f : gFF} {w : Int64} (hK102 : ∀ (uv5 : Int32) (uv6 : Int32) (ug : gFG) (uf : gFF) (uw : Int64), K102 uv5 uv6 ug uf uw → G 102 [some (.ref (ad 0)), some (.int v1), some (.int v2), some (.int v3), some (.int v4), some (.int uv5), some (.int uv6), none, none, none, none] [] (ug, uf, uw)) (hK258 : ∀ (uv9 : Int32) (uv10 : Int32) (ug : gFG) (uf : gFF) (uw : Int64), K258 uv9 uv10 ug uf uw → G 258 [some (.ref (ad 0)), some (.int v1), some (.int v2), some (.int v3), some (.int v4), some (.int v5), none, none, none, some (.int uv9), some (.int uv10)] [] (ug, uf, uw)) (h : wX12_mix_j286 N K102 K258 Q v1 v2 v3 v4 v5 v9 v10 g f w) : G 286 [some (.ref (ad 0)), some (.int v1), some (.int v2), some (.int v3), some (.int v4), some (.int v5), none, none, none, some (.int v9), some (.int v10)] [] (g, f, w) := by
  unfold wX12_mix_j286 at h
  refine s_iload (n := 288) hG dX12_mix_286 rfl rfl ?_
  refine s_aload_n (n := 289) hG dX12_mix_288 rfl rfl ?_
  refine gtX12_60 (n := 292) hG dX12_mix_289 rfl ?_
  refine s_iload (n := 294) hG dX12_mix_292 rfl rfl ?_
  obtain ⟨hin, h⟩ := h
  refine s_iald (n := 295) hG dX12_mix_294 (gaM_14 hin) rfl ?_
  refine s_isub (n := 296) hG dX12_mix_295 rfl ?_
  refine s_topi (fun x10_296 hx10_296 => ?_)
  replace h := h x10_296 hx10_296
  refine s_istore (n := 298) (lv2 := [some (.ref (ad 0)), some (.int v1), some (.int v2), some (.int v3), some (.int v4), some (.int v5), none, none, none, some (.int v9), some (.int x10_296)]) hG dX12_mix_296 rfl rfl rfl ?_
  refine s_aload_n (n := 299) hG dX12_mix_298 rfl rfl ?_
  refine gtX12_60 (n := 302) hG dX12_mix_299 rfl ?_
  refine s_iload (n := 304) hG dX12_mix_302 rfl rfl ?_
  refine s_iconst (n := 305) hG dX12_mix_304 ki_0 rfl ?_
  obtain ⟨hin, h⟩ := h
  refine s_iast (n := 306) hG dX12_mix_305 (gaM_14 hin) rfl ?_
  refine s_nf (fun f305 hf305 => ?_)
  replace h := h f305 hf305
  obtain ⟨x9_306, hx9_306⟩ : ∃ z : Int32, z = (v9 + (-1)) := ⟨_, rfl⟩
  replace h := h x9_306 hx9_306
  refine s_iinc (n := 309) (v := x9_306) (lv2 := [some (.ref (ad 0)), some (.int v1), some (.int v2), some (.int v3), some (.int v4), some (.int v5), none, none, none, some (.int x9_306), some (.int x10_296)]) hG dX12_mix_306 ki_m1 rfl hx9_306 rfl rfl rfl ?_
  refine s_goto (tgt := 258) hG dX12_mix_309 rfl ?_
  exact s_wk hG (hK258 _ _ _ _ _ h) ⟨rfl, rfl, rfl, rfl, rfl, rfl, rfl, rfl, trivial⟩
def wX12_mix_l258 (N : Nat) (v1 : Int32) (v2 : Int32) (v3 : Int32) (v4 : Int32) (v5 : Int32) (K102 : Int32 → Int32 → gFG → gFF → Int64 → Prop) (Q : Int32 → gFG → gFF → Int64 → Prop) : Nat → Int32 → Int32 → gFG → gFF → Int64 → Prop
  | 0, _, _, _, _, _ => False
  | n + 1, v9, v10, g, f, w => ((v9 < 0) → wX12_mix_j312 N (K102) Q v1 v2 v3 v4 v5 v9 g f w) ∧ ((¬ v9 < 0) → (vp_in v9 7) ∧ ((vp_in v9 6) ∧ ((((f 14 v9.toNatClampNeg) = (f 12 v9.toNatClampNeg)) → wX12_mix_j286 N (K102) (wX12_mix_l258 N v1 v2 v3 v4 v5 K102 Q n) Q v1 v2 v3 v4 v5 v9 v10 g f w) ∧ ((¬ (f 14 v9.toNatClampNeg) = (f 12 v9.toNatClampNeg)) → ((v10 < v1) → wX12_mix_j312 N (K102) Q v1 v2 v3 v4 v5 v9 g f w) ∧ ((¬ v10 < v1) → wX12_mix_j286 N (K102) (wX12_mix_l258 N v1 v2 v3 v4 v5 K102 Q n) Q v1 v2 v3 v4 v5 v9 v10 g f w)))))
theorem sX12_mix_l258 {G : gG} {Rt : Option Value → gSt → Prop} (hE : gInj layM ad ∧ gZok (gA layM ad) Z) (hG : gSim l D cs layM ad Z 2 RX12 cX12_mix 11 (some .int) G Rt) {Q : Int32 → gFG → gFF → Int64 → Prop} (hQ : ∀ v S, gMi Q v S → Rt v S) {N : Nat} {v1 : Int32} {v2 : Int32} {v3 : Int32} {v4 : Int32} {v5 : Int32} {K102 : Int32 → Int32 → gFG → gFF → Int64 → Prop}  (hK102 : ∀ (uv5 : Int32) (uv6 : Int32) (ug : gFG) (uf : gFF) (uw : Int64), K102 uv5 uv6 ug uf uw → G 102 [some (.ref (ad 0)), some (.int v1), some (.int v2), some (.int v3), some (.int v4), some (.int uv5), some (.int uv6), none, none, none, none] [] (ug, uf, uw)) : ∀ (n : Nat) (v9 : Int32) (v10 : Int32) (g : gFG) (f : gFF) (w : Int64), wX12_mix_l258 N v1 v2 v3 v4 v5 K102 Q n v9 v10 g f w → G 258 [some (.ref (ad 0)), some (.int v1), some (.int v2), some (.int v3), some (.int v4), some (.int v5), none, none, none, some (.int v9), some (.int v10)] [] (g, f, w) := by
  intro n
  induction n with
  | zero => intro _ _ _ _ _ h; unfold wX12_mix_l258 at h; exact h.elim
  | succ n ih =>
    intro v9 v10 g f w h
    unfold wX12_mix_l258 at h
    refine s_iload (n := 260) hG dX12_mix_258 rfl rfl ?_
    refine s_if_lt (n := 263) (tgt := 312) hG dX12_mix_260 rfl rfl (fun c => ?_) (fun c => ?_)
    · replace h := h.1 c
      exact s_wk hG (sX12_mix_j312 hE hG hQ hK102 h) ⟨rfl, rfl, rfl, rfl, rfl, rfl, rfl, trivial⟩
    · replace h := h.2 c
      refine s_aload_n (n := 264) hG dX12_mix_263 rfl rfl ?_
      refine gtX12_60 (n := 267) hG dX12_mix_264 rfl ?_
      refine s_iload (n := 269) hG dX12_mix_267 rfl rfl ?_
      obtain ⟨hin, h⟩ := h
      refine s_iald (n := 270) hG dX12_mix_269 (gaM_14 hin) rfl ?_
      refine s_aload_n (n := 271) hG dX12_mix_270 rfl rfl ?_
      refine gtX12_51 (n := 274) hG dX12_mix_271 rfl ?_
      refine s_iload (n := 276) hG dX12_mix_274 rfl rfl ?_
      obtain ⟨hin, h⟩ := h
      refine s_iald (n := 277) hG dX12_mix_276 (gaM_12 hin) rfl ?_
      refine s_icmp_eq (n := 280) (tgt := 286) hG dX12_mix_277 rfl rfl (fun c => ?_) (fun c => ?_)
      · replace h := h.1 c
        exact s_wk hG (sX12_mix_j286 hE hG hQ hK102 ih h) ⟨rfl, rfl, rfl, rfl, rfl, rfl, rfl, rfl, trivial⟩
      · replace h := h.2 c
        refine s_iload (n := 282) hG dX12_mix_280 rfl rfl ?_
        refine s_iload_n (n := 283) hG dX12_mix_282 rfl rfl ?_
        refine s_icmp_lt (n := 286) (tgt := 312) hG dX12_mix_283 rfl rfl (fun c => ?_) (fun c => ?_)
        · replace h := h.1 c
          exact s_wk hG (sX12_mix_j312 hE hG hQ hK102 h) ⟨rfl, rfl, rfl, rfl, rfl, rfl, rfl, trivial⟩
        · replace h := h.2 c
          exact s_wk hG (sX12_mix_j286 hE hG hQ hK102 ih h) ⟨rfl, rfl, rfl, rfl, rfl, rfl, rfl, rfl, trivial⟩
def wX12_mix_j244 (N : Nat) (K102 : Int32 → Int32 → gFG → gFF → Int64 → Prop) (Q : Int32 → gFG → gFF → Int64 → Prop) (v1 : Int32) (v2 : Int32) (v3 : Int32) (v4 : Int32) (v5 : Int32) (v7 : Int32) (g : gFG) (f : gFF) (w : Int64) : Prop := ∀ x9_250 : Int32, x9_250 = ((g 15) - 2) → ∀ x10_256 : Int32, x10_256 = (v1 - v7) → wX12_mix_l258 N v1 v2 v3 v4 v5 (K102) Q N x9_250 x10_256 g f w
theorem sX12_mix_j244 {G : gG} {Rt : Option Value → gSt → Prop} (hE : gInj layM ad ∧ gZok (gA layM ad) Z) (hG : gSim l D cs layM ad Z 2 RX12 cX12_mix 11 (some .int) G Rt) {Q : Int32 → gFG → gFF → Int64 → Prop} (hQ : ∀ v S, gMi Q v S → Rt v S) {N : Nat} {K102 : Int32 → Int32 → gFG → gFF → Int64 → Prop}  {v1 : Int32} {v2 : Int32} {v3 : Int32} {v4 : Int32} {v5 : Int32} {v7 : Int32} {g : gFG} {f : gFF} {w : Int64} (hK102 : ∀ (uv5 : Int32) (uv6 : Int32) (ug : gFG) (uf : gFF) (uw : Int64), K102 uv5 uv6 ug uf uw → G 102 [some (.ref (ad 0)), some (.int v1), some (.int v2), some (.int v3), some (.int v4), some (.int uv5), some (.int uv6), none, none, none, none] [] (ug, uf, uw)) (h : wX12_mix_j244 N K102 Q v1 v2 v3 v4 v5 v7 g f w) : G 244 [some (.ref (ad 0)), some (.int v1), some (.int v2), some (.int v3), some (.int v4), some (.int v5), none, some (.int v7), none, none, none] [] (g, f, w) := by
  unfold wX12_mix_j244 at h
  refine s_aload_n (n := 245) hG dX12_mix_244 rfl rfl ?_
  refine gtX12_180 (n := 248) hG dX12_mix_245 rfl ?_
  refine s_iconst (n := 249) hG dX12_mix_248 ki_2 rfl ?_
  refine s_isub (n := 250) hG dX12_mix_249 rfl ?_
  refine s_topi (fun x9_250 hx9_250 => ?_)
  replace h := h x9_250 hx9_250
  refine s_istore (n := 252) (lv2 := [some (.ref (ad 0)), some (.int v1), some (.int v2), some (.int v3), some (.int v4), some (.int v5), none, some (.int v7), none, some (.int x9_250), none]) hG dX12_mix_250 rfl rfl rfl ?_
  refine s_iload_n (n := 253) hG dX12_mix_252 rfl rfl ?_
  refine s_iload (n := 255) hG dX12_mix_253 rfl rfl ?_
  refine s_isub (n := 256) hG dX12_mix_255 rfl ?_
  refine s_topi (fun x10_256 hx10_256 => ?_)
  replace h := h x10_256 hx10_256
  refine s_istore (n := 258) (lv2 := [some (.ref (ad 0)), some (.int v1), some (.int v2), some (.int v3), some (.int v4), some (.int v5), none, some (.int v7), none, some (.int x9_250), some (.int x10_256)]) hG dX12_mix_256 rfl rfl rfl ?_
  exact s_wk hG (sX12_mix_l258 hE hG hQ hK102 N _ _ _ _ _ h) ⟨rfl, rfl, rfl, rfl, rfl, rfl, rfl, rfl, trivial⟩
def wX12_mix_l215 (N : Nat) (v1 : Int32) (v2 : Int32) (v3 : Int32) (v4 : Int32) (v5 : Int32) (v7 : Int32) (K102 : Int32 → Int32 → gFG → gFF → Int64 → Prop) (Q : Int32 → gFG → gFF → Int64 → Prop) : Nat → Int32 → gFG → gFF → Int64 → Prop
  | 0, _, _, _, _ => False
  | n + 1, v9, g, f, w => (((g 15) ≤ v9) → wX12_mix_j244 N (K102) Q v1 v2 v3 v4 v5 v7 g f w) ∧ ((¬ (g 15) ≤ v9) → (vp_in v9 7) ∧ (∀ y237 : Int32, y237 = (f 14 v9.toNatClampNeg) → (vp_in v9 6) ∧ (∀ f237 : gFF, f237 = (va_up f 15 (upd (f 15) v9.toNatClampNeg y237)) → ∀ x9_238 : Int32, x9_238 = (v9 + 1) → wX12_mix_l215 N v1 v2 v3 v4 v5 v7 K102 Q n x9_238 g f237 w)))
theorem sX12_mix_l215 {G : gG} {Rt : Option Value → gSt → Prop} (hE : gInj layM ad ∧ gZok (gA layM ad) Z) (hG : gSim l D cs layM ad Z 2 RX12 cX12_mix 11 (some .int) G Rt) {Q : Int32 → gFG → gFF → Int64 → Prop} (hQ : ∀ v S, gMi Q v S → Rt v S) {N : Nat} {v1 : Int32} {v2 : Int32} {v3 : Int32} {v4 : Int32} {v5 : Int32} {v7 : Int32} {K102 : Int32 → Int32 → gFG → gFF → Int64 → Prop}  (hK102 : ∀ (uv5 : Int32) (uv6 : Int32) (ug : gFG) (uf : gFF) (uw : Int64), K102 uv5 uv6 ug uf uw → G 102 [some (.ref (ad 0)), some (.int v1), some (.int v2), some (.int v3), some (.int v4), some (.int uv5), some (.int uv6), none, none, none, none] [] (ug, uf, uw)) : ∀ (n : Nat) (v9 : Int32) (g : gFG) (f : gFF) (w : Int64), wX12_mix_l215 N v1 v2 v3 v4 v5 v7 K102 Q n v9 g f w → G 215 [some (.ref (ad 0)), some (.int v1), some (.int v2), some (.int v3), some (.int v4), some (.int v5), none, some (.int v7), none, some (.int v9), none] [] (g, f, w) := by
  intro n
  induction n with
  | zero => intro _ _ _ _ h; unfold wX12_mix_l215 at h; exact h.elim
  | succ n ih =>
    intro v9 g f w h
    unfold wX12_mix_l215 at h
    refine s_iload (n := 217) hG dX12_mix_215 rfl rfl ?_
    refine s_aload_n (n := 218) hG dX12_mix_217 rfl rfl ?_
    refine gtX12_180 (n := 221) hG dX12_mix_218 rfl ?_
    refine s_icmp_ge (n := 224) (tgt := 244) hG dX12_mix_221 rfl rfl (fun c => ?_) (fun c => ?_)
    · replace h := h.1 c
      exact s_wk hG (sX12_mix_j244 hE hG hQ hK102 h) ⟨rfl, rfl, rfl, rfl, rfl, rfl, rfl, trivial⟩
    · replace h := h.2 c
      refine s_aload_n (n := 225) hG dX12_mix_224 rfl rfl ?_
      refine gtX12_63 (n := 228) hG dX12_mix_225 rfl ?_
      refine s_iload (n := 230) hG dX12_mix_228 rfl rfl ?_
      refine s_aload_n (n := 231) hG dX12_mix_230 rfl rfl ?_
      refine gtX12_60 (n := 234) hG dX12_mix_231 rfl ?_
      refine s_iload (n := 236) hG dX12_mix_234 rfl rfl ?_
      obtain ⟨hin, h⟩ := h
      refine s_iald (n := 237) hG dX12_mix_236 (gaM_14 hin) rfl ?_
      refine s_topi (fun y237 hy237 => ?_)
      replace h := h y237 hy237
      obtain ⟨hin, h⟩ := h
      refine s_iast (n := 238) hG dX12_mix_237 (gaM_15 hin) rfl ?_
      refine s_nf (fun f237 hf237 => ?_)
      replace h := h f237 hf237
      obtain ⟨x9_238, hx9_238⟩ : ∃ z : Int32, z = (v9 + 1) := ⟨_, rfl⟩
      replace h := h x9_238 hx9_238
      refine s_iinc (n := 241) (v := x9_238) (lv2 := [some (.ref (ad 0)), some (.int v1), some (.int v2), some (.int v3), some (.int v4), some (.int v5), none, some (.int v7), none, some (.int x9_238), none]) hG dX12_mix_238 ki_1 rfl hx9_238 rfl rfl rfl ?_
      refine s_goto (tgt := 215) hG dX12_mix_241 rfl ?_
      exact s_wk hG (ih _ _ _ _ h) ⟨rfl, rfl, rfl, rfl, rfl, rfl, rfl, rfl, trivial⟩
def wX12_mix_j208 (N : Nat) (K102 : Int32 → Int32 → gFG → gFF → Int64 → Prop) (Q : Int32 → gFG → gFF → Int64 → Prop) (v1 : Int32) (v2 : Int32) (v3 : Int32) (v4 : Int32) (v7 : Int32) (v8 : Int32) (g : gFG) (f : gFF) (w : Int64) : Prop := wX12_mix_l215 N v1 v2 v3 v4 v8 v7 (K102) Q N 0 g f w
theorem sX12_mix_j208 {G : gG} {Rt : Option Value → gSt → Prop} (hE : gInj layM ad ∧ gZok (gA layM ad) Z) (hG : gSim l D cs layM ad Z 2 RX12 cX12_mix 11 (some .int) G Rt) {Q : Int32 → gFG → gFF → Int64 → Prop} (hQ : ∀ v S, gMi Q v S → Rt v S) {N : Nat} {K102 : Int32 → Int32 → gFG → gFF → Int64 → Prop}  {v1 : Int32} {v2 : Int32} {v3 : Int32} {v4 : Int32} {v7 : Int32} {v8 : Int32} {g : gFG} {f : gFF} {w : Int64} (hK102 : ∀ (uv5 : Int32) (uv6 : Int32) (ug : gFG) (uf : gFF) (uw : Int64), K102 uv5 uv6 ug uf uw → G 102 [some (.ref (ad 0)), some (.int v1), some (.int v2), some (.int v3), some (.int v4), some (.int uv5), some (.int uv6), none, none, none, none] [] (ug, uf, uw)) (h : wX12_mix_j208 N K102 Q v1 v2 v3 v4 v7 v8 g f w) : G 208 [some (.ref (ad 0)), some (.int v1), some (.int v2), some (.int v3), some (.int v4), none, none, some (.int v7), some (.int v8), none, none] [] (g, f, w) := by
  unfold wX12_mix_j208 at h
  refine s_iload (n := 210) hG dX12_mix_208 rfl rfl ?_
  refine s_istore (n := 212) (lv2 := [some (.ref (ad 0)), some (.int v1), some (.int v2), some (.int v3), some (.int v4), some (.int v8), none, some (.int v7), some (.int v8), none, none]) hG dX12_mix_210 rfl rfl rfl ?_
  refine s_iconst (n := 213) hG dX12_mix_212 ki_0 rfl ?_
  refine s_istore (n := 215) (lv2 := [some (.ref (ad 0)), some (.int v1), some (.int v2), some (.int v3), some (.int v4), some (.int v8), none, some (.int v7), some (.int v8), some (.int 0), none]) hG dX12_mix_213 rfl rfl rfl ?_
  exact s_wk hG (sX12_mix_l215 hE hG hQ hK102 N _ _ _ _ h) ⟨rfl, rfl, rfl, rfl, rfl, rfl, rfl, rfl, trivial⟩
def wX12_mix_j189 (N : Nat) (K102 : Int32 → Int32 → gFG → gFF → Int64 → Prop) (Q : Int32 → gFG → gFF → Int64 → Prop) (v1 : Int32) (v2 : Int32) (v3 : Int32) (v4 : Int32) (v5 : Int32) (v7 : Int32) (t0 : Int32) (g : gFG) (f : gFF) (w : Int64) : Prop := ((t0 < 0) → wX12_mix_j244 N (K102) Q v1 v2 v3 v4 v5 v7 g f w) ∧ ((¬ t0 < 0) → ((v5 < 0) → wX12_mix_j208 N (K102) Q v1 v2 v3 v4 v7 t0 g f w) ∧ ((¬ v5 < 0) → ((v5 ≤ t0) → wX12_mix_j244 N (K102) Q v1 v2 v3 v4 v5 v7 g f w) ∧ ((¬ v5 ≤ t0) → wX12_mix_j208 N (K102) Q v1 v2 v3 v4 v7 t0 g f w)))
theorem sX12_mix_j189 {G : gG} {Rt : Option Value → gSt → Prop} (hE : gInj layM ad ∧ gZok (gA layM ad) Z) (hG : gSim l D cs layM ad Z 2 RX12 cX12_mix 11 (some .int) G Rt) {Q : Int32 → gFG → gFF → Int64 → Prop} (hQ : ∀ v S, gMi Q v S → Rt v S) {N : Nat} {K102 : Int32 → Int32 → gFG → gFF → Int64 → Prop}  {v1 : Int32} {v2 : Int32} {v3 : Int32} {v4 : Int32} {v5 : Int32} {v7 : Int32} {t0 : Int32} {g : gFG} {f : gFF} {w : Int64} (hK102 : ∀ (uv5 : Int32) (uv6 : Int32) (ug : gFG) (uf : gFF) (uw : Int64), K102 uv5 uv6 ug uf uw → G 102 [some (.ref (ad 0)), some (.int v1), some (.int v2), some (.int v3), some (.int v4), some (.int uv5), some (.int uv6), none, none, none, none] [] (ug, uf, uw)) (h : wX12_mix_j189 N K102 Q v1 v2 v3 v4 v5 v7 t0 g f w) : G 189 [some (.ref (ad 0)), some (.int v1), some (.int v2), some (.int v3), some (.int v4), some (.int v5), none, some (.int v7), none, none, none] [.int t0] (g, f, w) := by
  unfold wX12_mix_j189 at h
  refine s_istore (n := 191) (lv2 := [some (.ref (ad 0)), some (.int v1), some (.int v2), some (.int v3), some (.int v4), some (.int v5), none, some (.int v7), some (.int t0), none, none]) hG dX12_mix_189 rfl rfl rfl ?_
  refine s_iload (n := 193) hG dX12_mix_191 rfl rfl ?_
  refine s_if_lt (n := 196) (tgt := 244) hG dX12_mix_193 rfl rfl (fun c => ?_) (fun c => ?_)
  · replace h := h.1 c
    exact s_wk hG (sX12_mix_j244 hE hG hQ hK102 h) ⟨rfl, rfl, rfl, rfl, rfl, rfl, rfl, trivial⟩
  · replace h := h.2 c
    refine s_iload (n := 198) hG dX12_mix_196 rfl rfl ?_
    refine s_if_lt (n := 201) (tgt := 208) hG dX12_mix_198 rfl rfl (fun c => ?_) (fun c => ?_)
    · replace h := h.1 c
      exact s_wk hG (sX12_mix_j208 hE hG hQ hK102 h) ⟨rfl, rfl, rfl, rfl, rfl, rfl, rfl, trivial⟩
    · replace h := h.2 c
      refine s_iload (n := 203) hG dX12_mix_201 rfl rfl ?_
      refine s_iload (n := 205) hG dX12_mix_203 rfl rfl ?_
      refine s_icmp_ge (n := 208) (tgt := 244) hG dX12_mix_205 rfl rfl (fun c => ?_) (fun c => ?_)
      · replace h := h.1 c
        exact s_wk hG (sX12_mix_j244 hE hG hQ hK102 h) ⟨rfl, rfl, rfl, rfl, rfl, rfl, rfl, trivial⟩
      · replace h := h.2 c
        exact s_wk hG (sX12_mix_j208 hE hG hQ hK102 h) ⟨rfl, rfl, rfl, rfl, rfl, rfl, rfl, trivial⟩
def wX12_mix_j188 (N : Nat) (K102 : Int32 → Int32 → gFG → gFF → Int64 → Prop) (Q : Int32 → gFG → gFF → Int64 → Prop) (v1 : Int32) (v2 : Int32) (v3 : Int32) (v4 : Int32) (v5 : Int32) (v7 : Int32) (g : gFG) (f : gFF) (w : Int64) : Prop := wX12_mix_j189 N (K102) Q v1 v2 v3 v4 v5 v7 (-1) g f w
theorem sX12_mix_j188 {G : gG} {Rt : Option Value → gSt → Prop} (hE : gInj layM ad ∧ gZok (gA layM ad) Z) (hG : gSim l D cs layM ad Z 2 RX12 cX12_mix 11 (some .int) G Rt) {Q : Int32 → gFG → gFF → Int64 → Prop} (hQ : ∀ v S, gMi Q v S → Rt v S) {N : Nat} {K102 : Int32 → Int32 → gFG → gFF → Int64 → Prop}  {v1 : Int32} {v2 : Int32} {v3 : Int32} {v4 : Int32} {v5 : Int32} {v7 : Int32} {g : gFG} {f : gFF} {w : Int64} (hK102 : ∀ (uv5 : Int32) (uv6 : Int32) (ug : gFG) (uf : gFF) (uw : Int64), K102 uv5 uv6 ug uf uw → G 102 [some (.ref (ad 0)), some (.int v1), some (.int v2), some (.int v3), some (.int v4), some (.int uv5), some (.int uv6), none, none, none, none] [] (ug, uf, uw)) (h : wX12_mix_j188 N K102 Q v1 v2 v3 v4 v5 v7 g f w) : G 188 [some (.ref (ad 0)), some (.int v1), some (.int v2), some (.int v3), some (.int v4), some (.int v5), none, some (.int v7), none, none, none] [] (g, f, w) := by
  unfold wX12_mix_j188 at h
  refine s_iconst (n := 189) hG dX12_mix_188 ki_m1 rfl ?_
  exact s_wk hG (sX12_mix_j189 hE hG hQ hK102 h) ⟨rfl, rfl, rfl, rfl, rfl, rfl, rfl, trivial⟩
def wX12_mix_l113 (N : Nat) (v1 : Int32) (v2 : Int32) (v3 : Int32) (v4 : Int32) (v5 : Int32) (K102 : Int32 → Int32 → gFG → gFF → Int64 → Prop) (Q : Int32 → gFG → gFF → Int64 → Prop) : Nat → Int32 → Int32 → gFG → gFF → Int64 → Prop
  | 0, _, _, _, _, _ => False
  | n + 1, v7, v8, g, f, w => (((g 15) ≤ (v8 + 1)) → ∀ i154 : Int32, i154 = ((g 15) - 1) → (vp_in i154 7) ∧ (∀ f154 : gFF, f154 = (va_up f 14 (upd (f 14) i154.toNatClampNeg v7)) → ((v7 < 0) → wX12_mix_j188 N (K102) Q v1 v2 v3 v4 v5 v7 g f154 w) ∧ ((¬ v7 < 0) → ∀ i172 : Int32, i172 = ((g 15) - 1) → (vp_in i172 6) ∧ ((((f154 12 i172.toNatClampNeg) < v7) → wX12_mix_j188 N (K102) Q v1 v2 v3 v4 v5 v7 g f154 w) ∧ ((¬ (f154 12 i172.toNatClampNeg) < v7) → wX12_priceOf N v1 v2 v3 v4 g f154 w (fun r182 g182 f182 w182 => wX12_mix_j189 N (K102) Q v1 v2 v3 v4 v5 v7 r182 g182 f182 w182)))))) ∧ ((¬ (g 15) ≤ (v8 + 1)) → (vp_in v8 7) ∧ (∀ x7_134 : Int32, x7_134 = (v7 - (f 14 v8.toNatClampNeg)) → ∀ x8_136 : Int32, x8_136 = (v8 + 1) → wX12_mix_l113 N v1 v2 v3 v4 v5 K102 Q n x7_134 x8_136 g f w))
theorem sX12_mix_l113 {G : gG} {Rt : Option Value → gSt → Prop} (hE : gInj layM ad ∧ gZok (gA layM ad) Z) (hG : gSim l D cs layM ad Z 2 RX12 cX12_mix 11 (some .int) G Rt) {Q : Int32 → gFG → gFF → Int64 → Prop} (hQ : ∀ v S, gMi Q v S → Rt v S) {N : Nat} {v1 : Int32} {v2 : Int32} {v3 : Int32} {v4 : Int32} {v5 : Int32} {K102 : Int32 → Int32 → gFG → gFF → Int64 → Prop}  (hK102 : ∀ (uv5 : Int32) (uv6 : Int32) (ug : gFG) (uf : gFF) (uw : Int64), K102 uv5 uv6 ug uf uw → G 102 [some (.ref (ad 0)), some (.int v1), some (.int v2), some (.int v3), some (.int v4), some (.int uv5), some (.int uv6), none, none, none, none] [] (ug, uf, uw)) : ∀ (n : Nat) (v7 : Int32) (v8 : Int32) (g : gFG) (f : gFF) (w : Int64), wX12_mix_l113 N v1 v2 v3 v4 v5 K102 Q n v7 v8 g f w → G 113 [some (.ref (ad 0)), some (.int v1), some (.int v2), some (.int v3), some (.int v4), some (.int v5), none, some (.int v7), some (.int v8), none, none] [] (g, f, w) := by
  intro n
  induction n with
  | zero => intro _ _ _ _ _ h; unfold wX12_mix_l113 at h; exact h.elim
  | succ n ih =>
    intro v7 v8 g f w h
    unfold wX12_mix_l113 at h
    refine s_iload (n := 115) hG dX12_mix_113 rfl rfl ?_
    refine s_iconst (n := 116) hG dX12_mix_115 ki_1 rfl ?_
    refine s_iadd (n := 117) hG dX12_mix_116 rfl ?_
    refine s_aload_n (n := 118) hG dX12_mix_117 rfl rfl ?_
    refine gtX12_180 (n := 121) hG dX12_mix_118 rfl ?_
    refine s_icmp_ge (n := 124) (tgt := 142) hG dX12_mix_121 rfl rfl (fun c => ?_) (fun c => ?_)
    · replace h := h.1 c
      refine s_aload_n (n := 143) hG dX12_mix_142 rfl rfl ?_
      refine gtX12_60 (n := 146) hG dX12_mix_143 rfl ?_
      refine s_aload_n (n := 147) hG dX12_mix_146 rfl rfl ?_
      refine gtX12_180 (n := 150) hG dX12_mix_147 rfl ?_
      refine s_iconst (n := 151) hG dX12_mix_150 ki_1 rfl ?_
      refine s_isub (n := 152) hG dX12_mix_151 rfl ?_
      refine s_iload (n := 154) hG dX12_mix_152 rfl rfl ?_
      refine s_topi2 (fun i154 hi154 => ?_)
      replace h := h i154 hi154
      obtain ⟨hin, h⟩ := h
      refine s_iast (n := 155) hG dX12_mix_154 (gaM_14 hin) rfl ?_
      refine s_nf (fun f154 hf154 => ?_)
      replace h := h f154 hf154
      refine s_iload (n := 157) hG dX12_mix_155 rfl rfl ?_
      refine s_if_lt (n := 160) (tgt := 188) hG dX12_mix_157 rfl rfl (fun c => ?_) (fun c => ?_)
      · replace h := h.1 c
        exact s_wk hG (sX12_mix_j188 hE hG hQ hK102 h) ⟨rfl, rfl, rfl, rfl, rfl, rfl, rfl, trivial⟩
      · replace h := h.2 c
        refine s_iload (n := 162) hG dX12_mix_160 rfl rfl ?_
        refine s_aload_n (n := 163) hG dX12_mix_162 rfl rfl ?_
        refine gtX12_51 (n := 166) hG dX12_mix_163 rfl ?_
        refine s_aload_n (n := 167) hG dX12_mix_166 rfl rfl ?_
        refine gtX12_180 (n := 170) hG dX12_mix_167 rfl ?_
        refine s_iconst (n := 171) hG dX12_mix_170 ki_1 rfl ?_
        refine s_isub (n := 172) hG dX12_mix_171 rfl ?_
        refine s_topi (fun i172 hi172 => ?_)
        replace h := h i172 hi172
        obtain ⟨hin, h⟩ := h
        refine s_iald (n := 173) hG dX12_mix_172 (gaM_12 hin) rfl ?_
        refine s_icmp_gt (n := 176) (tgt := 188) hG dX12_mix_173 rfl rfl (fun c => ?_) (fun c => ?_)
        · replace h := h.1 c
          exact s_wk hG (sX12_mix_j188 hE hG hQ hK102 h) ⟨rfl, rfl, rfl, rfl, rfl, rfl, rfl, trivial⟩
        · replace h := h.2 c
          refine s_aload_n (n := 177) hG dX12_mix_176 rfl rfl ?_
          refine s_iload_n (n := 178) hG dX12_mix_177 rfl rfl ?_
          refine s_iload_n (n := 179) hG dX12_mix_178 rfl rfl ?_
          refine s_iload_n (n := 180) hG dX12_mix_179 rfl rfl ?_
          refine s_iload (n := 182) hG dX12_mix_180 rfl rfl ?_
          refine s_callV (n := 185) (st := []) hG (mX12_priceOf hE h) ceX12_priceOf lmX12_183 ⟨by decide, rfl, rfl⟩ rfl ⟨rfl, Nat.le_of_ble_eq_true rfl, by decide⟩ dX12_mix_182 rfl ?_
          rintro _ _ ⟨r182, g182, f182, w182, rfl, rfl, h⟩
          refine s_goto (tgt := 189) hG dX12_mix_185 rfl ?_
          exact s_wk hG (sX12_mix_j189 hE hG hQ hK102 h) ⟨rfl, rfl, rfl, rfl, rfl, rfl, rfl, trivial⟩
    · replace h := h.2 c
      refine s_iload (n := 126) hG dX12_mix_124 rfl rfl ?_
      refine s_aload_n (n := 127) hG dX12_mix_126 rfl rfl ?_
      refine gtX12_60 (n := 130) hG dX12_mix_127 rfl ?_
      refine s_iload (n := 132) hG dX12_mix_130 rfl rfl ?_
      obtain ⟨hin, h⟩ := h
      refine s_iald (n := 133) hG dX12_mix_132 (gaM_14 hin) rfl ?_
      refine s_isub (n := 134) hG dX12_mix_133 rfl ?_
      refine s_topi (fun x7_134 hx7_134 => ?_)
      replace h := h x7_134 hx7_134
      refine s_istore (n := 136) (lv2 := [some (.ref (ad 0)), some (.int v1), some (.int v2), some (.int v3), some (.int v4), some (.int v5), none, some (.int x7_134), some (.int v8), none, none]) hG dX12_mix_134 rfl rfl rfl ?_
      obtain ⟨x8_136, hx8_136⟩ : ∃ z : Int32, z = (v8 + 1) := ⟨_, rfl⟩
      replace h := h x8_136 hx8_136
      refine s_iinc (n := 139) (v := x8_136) (lv2 := [some (.ref (ad 0)), some (.int v1), some (.int v2), some (.int v3), some (.int v4), some (.int v5), none, some (.int x7_134), some (.int x8_136), none, none]) hG dX12_mix_136 ki_1 rfl hx8_136 rfl rfl rfl ?_
      refine s_goto (tgt := 113) hG dX12_mix_139 rfl ?_
      exact s_wk hG (ih _ _ _ _ _ h) ⟨rfl, rfl, rfl, rfl, rfl, rfl, rfl, rfl, trivial⟩
def wX12_mix_l102 (N : Nat) (v1 : Int32) (v2 : Int32) (v3 : Int32) (v4 : Int32)  (Q : Int32 → gFG → gFF → Int64 → Prop) : Nat → Int32 → Int32 → gFG → gFF → Int64 → Prop
  | 0, _, _, _, _, _ => False
  | n + 1, v5, v6, g, f, w => ((v6 = 0) → ((0 ≤ v5) → wX12_mix_l358 N v1 v5 Q N 0 g f w) ∧ ((¬ 0 ≤ v5) → wX12_told N (-6) g f w (fun r351 g351 f351 w351 => Q r351 g351 f351 w351))) ∧ ((¬ v6 = 0) → wX12_mix_l113 N v1 v2 v3 v4 v5 (wX12_mix_l102 N v1 v2 v3 v4  Q n) Q N v1 0 g f w)
theorem sX12_mix_l102 {G : gG} {Rt : Option Value → gSt → Prop} (hE : gInj layM ad ∧ gZok (gA layM ad) Z) (hG : gSim l D cs layM ad Z 2 RX12 cX12_mix 11 (some .int) G Rt) {Q : Int32 → gFG → gFF → Int64 → Prop} (hQ : ∀ v S, gMi Q v S → Rt v S) {N : Nat} {v1 : Int32} {v2 : Int32} {v3 : Int32} {v4 : Int32}    : ∀ (n : Nat) (v5 : Int32) (v6 : Int32) (g : gFG) (f : gFF) (w : Int64), wX12_mix_l102 N v1 v2 v3 v4  Q n v5 v6 g f w → G 102 [some (.ref (ad 0)), some (.int v1), some (.int v2), some (.int v3), some (.int v4), some (.int v5), some (.int v6), none, none, none, none] [] (g, f, w) := by
  intro n
  induction n with
  | zero => intro _ _ _ _ _ h; unfold wX12_mix_l102 at h; exact h.elim
  | succ n ih =>
    intro v5 v6 g f w h
    unfold wX12_mix_l102 at h
    refine s_iload (n := 104) hG dX12_mix_102 rfl rfl ?_
    refine s_if_eq (n := 107) (tgt := 343) hG dX12_mix_104 rfl rfl (fun c => ?_) (fun c => ?_)
    · replace h := h.1 c
      refine s_iload (n := 345) hG dX12_mix_343 rfl rfl ?_
      refine s_if_ge (n := 348) (tgt := 355) hG dX12_mix_345 rfl rfl (fun c => ?_) (fun c => ?_)
      · replace h := h.1 c
        refine s_iconst (n := 356) hG dX12_mix_355 ki_0 rfl ?_
        refine s_istore (n := 358) (lv2 := [some (.ref (ad 0)), some (.int v1), some (.int v2), some (.int v3), some (.int v4), some (.int v5), some (.int v6), some (.int 0), none, none, none]) hG dX12_mix_356 rfl rfl rfl ?_
        exact s_wk hG (sX12_mix_l358 hE hG hQ  N _ _ _ _ h) ⟨rfl, rfl, rfl, rfl, trivial⟩
      · replace h := h.2 c
        refine s_aload_n (n := 349) hG dX12_mix_348 rfl rfl ?_
        refine s_bipush (n := 351) hG dX12_mix_349 kb_m6 rfl ?_
        refine s_callV (n := 354) (st := []) hG (mX12_told hE h) ceX12_told lmX12_113 ⟨by decide, rfl, rfl⟩ rfl ⟨rfl, Nat.le_of_ble_eq_true rfl, by decide⟩ dX12_mix_351 rfl ?_
        rintro _ _ ⟨r351, g351, f351, w351, rfl, rfl, h⟩
        exact s_iret hG dX12_mix_354 (hQ _ _ ⟨_, _, _, _, rfl, rfl, h⟩)
    · replace h := h.2 c
      refine s_iload_n (n := 108) hG dX12_mix_107 rfl rfl ?_
      refine s_istore (n := 110) (lv2 := [some (.ref (ad 0)), some (.int v1), some (.int v2), some (.int v3), some (.int v4), some (.int v5), some (.int v6), some (.int v1), none, none, none]) hG dX12_mix_108 rfl rfl rfl ?_
      refine s_iconst (n := 111) hG dX12_mix_110 ki_0 rfl ?_
      refine s_istore (n := 113) (lv2 := [some (.ref (ad 0)), some (.int v1), some (.int v2), some (.int v3), some (.int v4), some (.int v5), some (.int v6), some (.int v1), some (.int 0), none, none]) hG dX12_mix_111 rfl rfl rfl ?_
      exact s_wk hG (sX12_mix_l113 hE hG hQ ih N _ _ _ _ _ h) ⟨rfl, rfl, rfl, rfl, rfl, rfl, rfl, rfl, trivial⟩
def wX12_mix_j100 (N : Nat)  (Q : Int32 → gFG → gFF → Int64 → Prop) (v1 : Int32) (v2 : Int32) (v3 : Int32) (v4 : Int32) (v5 : Int32) (t0 : Int32) (g : gFG) (f : gFF) (w : Int64) : Prop := wX12_mix_l102 N v1 v2 v3 v4 Q N v5 t0 g f w
theorem sX12_mix_j100 {G : gG} {Rt : Option Value → gSt → Prop} (hE : gInj layM ad ∧ gZok (gA layM ad) Z) (hG : gSim l D cs layM ad Z 2 RX12 cX12_mix 11 (some .int) G Rt) {Q : Int32 → gFG → gFF → Int64 → Prop} (hQ : ∀ v S, gMi Q v S → Rt v S) {N : Nat}   {v1 : Int32} {v2 : Int32} {v3 : Int32} {v4 : Int32} {v5 : Int32} {t0 : Int32} {g : gFG} {f : gFF} {w : Int64}  (h : wX12_mix_j100 N  Q v1 v2 v3 v4 v5 t0 g f w) : G 100 [some (.ref (ad 0)), some (.int v1), some (.int v2), some (.int v3), some (.int v4), some (.int v5), none, none, none, none, none] [.int t0] (g, f, w) := by
  unfold wX12_mix_j100 at h
  refine s_istore (n := 102) (lv2 := [some (.ref (ad 0)), some (.int v1), some (.int v2), some (.int v3), some (.int v4), some (.int v5), some (.int t0), none, none, none, none]) hG dX12_mix_100 rfl rfl rfl ?_
  exact s_wk hG (sX12_mix_l102 hE hG hQ  N _ _ _ _ _ h) ⟨rfl, rfl, rfl, rfl, rfl, rfl, rfl, trivial⟩
def wX12_mix_l67 (N : Nat) (v1 : Int32) (v2 : Int32) (v3 : Int32) (v4 : Int32) (v5 : Int32)  (Q : Int32 → gFG → gFF → Int64 → Prop) : Nat → Int32 → gFG → gFF → Int64 → Prop
  | 0, _, _, _, _ => False
  | n + 1, v6, g, f, w => ((7 ≤ v6) → (((g 15) ≤ 0) → wX12_mix_j100 N  Q v1 v2 v3 v4 v5 0 g f w) ∧ ((¬ (g 15) ≤ 0) → wX12_mix_j100 N  Q v1 v2 v3 v4 v5 1 g f w)) ∧ ((¬ 7 ≤ v6) → (vp_in v6 7) ∧ (∀ f81 : gFF, f81 = (va_up f 14 (upd (f 14) v6.toNatClampNeg 0)) → ∀ x6_82 : Int32, x6_82 = (v6 + 1) → wX12_mix_l67 N v1 v2 v3 v4 v5  Q n x6_82 g f81 w))
theorem sX12_mix_l67 {G : gG} {Rt : Option Value → gSt → Prop} (hE : gInj layM ad ∧ gZok (gA layM ad) Z) (hG : gSim l D cs layM ad Z 2 RX12 cX12_mix 11 (some .int) G Rt) {Q : Int32 → gFG → gFF → Int64 → Prop} (hQ : ∀ v S, gMi Q v S → Rt v S) {N : Nat} {v1 : Int32} {v2 : Int32} {v3 : Int32} {v4 : Int32} {v5 : Int32}    : ∀ (n : Nat) (v6 : Int32) (g : gFG) (f : gFF) (w : Int64), wX12_mix_l67 N v1 v2 v3 v4 v5  Q n v6 g f w → G 67 [some (.ref (ad 0)), some (.int v1), some (.int v2), some (.int v3), some (.int v4), some (.int v5), some (.int v6), none, none, none, none] [] (g, f, w) := by
  intro n
  induction n with
  | zero => intro _ _ _ _ h; unfold wX12_mix_l67 at h; exact h.elim
  | succ n ih =>
    intro v6 g f w h
    unfold wX12_mix_l67 at h
    refine s_iload (n := 69) hG dX12_mix_67 rfl rfl ?_
    refine s_bipush (n := 71) hG dX12_mix_69 kb_7 rfl ?_
    refine s_icmp_ge (n := 74) (tgt := 88) hG dX12_mix_71 rfl rfl (fun c => ?_) (fun c => ?_)
    · replace h := h.1 c
      refine s_aload_n (n := 89) hG dX12_mix_88 rfl rfl ?_
      refine gtX12_180 (n := 92) hG dX12_mix_89 rfl ?_
      refine s_if_le (n := 95) (tgt := 99) hG dX12_mix_92 rfl rfl (fun c => ?_) (fun c => ?_)
      · replace h := h.1 c
        refine s_iconst (n := 100) hG dX12_mix_99 ki_0 rfl ?_
        exact s_wk hG (sX12_mix_j100 hE hG hQ  h) ⟨rfl, rfl, rfl, rfl, rfl, rfl, trivial⟩
      · replace h := h.2 c
        refine s_iconst (n := 96) hG dX12_mix_95 ki_1 rfl ?_
        refine s_goto (tgt := 100) hG dX12_mix_96 rfl ?_
        exact s_wk hG (sX12_mix_j100 hE hG hQ  h) ⟨rfl, rfl, rfl, rfl, rfl, rfl, trivial⟩
    · replace h := h.2 c
      refine s_aload_n (n := 75) hG dX12_mix_74 rfl rfl ?_
      refine gtX12_60 (n := 78) hG dX12_mix_75 rfl ?_
      refine s_iload (n := 80) hG dX12_mix_78 rfl rfl ?_
      refine s_iconst (n := 81) hG dX12_mix_80 ki_0 rfl ?_
      obtain ⟨hin, h⟩ := h
      refine s_iast (n := 82) hG dX12_mix_81 (gaM_14 hin) rfl ?_
      refine s_nf (fun f81 hf81 => ?_)
      replace h := h f81 hf81
      obtain ⟨x6_82, hx6_82⟩ : ∃ z : Int32, z = (v6 + 1) := ⟨_, rfl⟩
      replace h := h x6_82 hx6_82
      refine s_iinc (n := 85) (v := x6_82) (lv2 := [some (.ref (ad 0)), some (.int v1), some (.int v2), some (.int v3), some (.int v4), some (.int v5), some (.int x6_82), none, none, none, none]) hG dX12_mix_82 ki_1 rfl hx6_82 rfl rfl rfl ?_
      refine s_goto (tgt := 67) hG dX12_mix_85 rfl ?_
      exact s_wk hG (ih _ _ _ _ h) ⟨rfl, rfl, rfl, rfl, rfl, rfl, rfl, trivial⟩
def wX12_mix (N : Nat) (a1 : Int32) (a2 : Int32) (a3 : Int32) (a4 : Int32) (g : gFG) (f : gFF) (w : Int64) (Q : Int32 → gFG → gFF → Int64 → Prop) : Prop := ∀ g2 : gFG, g2 = (va_up g 0 0) → wX12_in N a1.toInt64 1 40 g2 f w (fun r11 g11 f11 w11 => ((r11 = 0) → wX12_mix_j55 N  Q g11 f11 w11) ∧ ((¬ r11 = 0) → wX12_in N a2.toInt64 0 1000 g11 f11 w11 (fun r23 g23 f23 w23 => ((r23 = 0) → wX12_mix_j55 N  Q g23 f23 w23) ∧ ((¬ r23 = 0) → wX12_in N a3.toInt64 a2.toInt64 1000 g23 f23 w23 (fun r36 g36 f36 w36 => ((r36 = 0) → wX12_mix_j55 N  Q g36 f36 w36) ∧ ((¬ r36 = 0) → wX12_in N a4.toInt64 0 1000 g36 f36 w36 (fun r49 g49 f49 w49 => ((¬ r49 = 0) → wX12_mix_l67 N a1 a2 a3 a4 (-1) Q N 0 g49 f49 w49) ∧ ((r49 = 0) → wX12_mix_j55 N  Q g49 f49 w49))))))))
theorem mX12_mix (hE : gInj layM ad ∧ gZok (gA layM ad) Z) {N : Nat} {a1 : Int32} {a2 : Int32} {a3 : Int32} {a4 : Int32} {g : gFG} {f : gFF} {w : Int64} {Q : Int32 → gFG → gFF → Int64 → Prop} (h : wX12_mix N a1 a2 a3 a4 g f w Q) : gCT l D cs layM ad Z 2 yX12_mix cX12_mix 11 (some .int) [.ref (ad 0), .int a1, .int a2, .int a3, .int a4] (g, f, w) (gMi Q) := by
  refine met_walk (lv0 := [some (.ref (ad 0)), some (.int a1), some (.int a2), some (.int a3), some (.int a4), none, none, none, none, none, none]) hE (by decide) (Nat.le_of_ble_eq_true rfl) rfl (fun G Rt hG hQ => ?_)
  replace hG : gSim l D cs layM ad Z 2 RX12 cX12_mix 11 (some .int) G Rt := hG
  unfold wX12_mix at h
  refine s_aload_n (n := 1) hG dX12_mix_0 rfl rfl ?_
  refine s_iconst (n := 2) hG dX12_mix_1 ki_0 rfl ?_
  refine ptX12_96 (n := 5) hG dX12_mix_2 rfl ?_
  refine s_ng (fun g2 hg2 => ?_)
  replace h := h g2 hg2
  refine s_iload_n (n := 6) hG dX12_mix_5 rfl rfl ?_
  refine s_i2l (n := 7) hG dX12_mix_6 rfl ?_
  refine s_lconst (n := 8) hG dX12_mix_7 kl_1 rfl ?_
  refine s_ldc2_w (n := 11) hG dX12_mix_8 lcX12_178 rfl ?_
  refine s_callS (n := 14) (st := []) hG (mX12_in hE h) ceX12_in lmX12_102 rfl ⟨rfl, Nat.le_of_ble_eq_true rfl, by decide⟩ dX12_mix_11 rfl ?_
  rintro _ _ ⟨r11, g11, f11, w11, rfl, rfl, h⟩
  refine s_if_eq (n := 17) (tgt := 55) hG dX12_mix_14 rfl rfl (fun c => ?_) (fun c => ?_)
  · replace h := h.1 c
    exact s_wk hG (sX12_mix_j55 hE hG hQ  h) ⟨rfl, trivial⟩
  · replace h := h.2 c
    refine s_iload_n (n := 18) hG dX12_mix_17 rfl rfl ?_
    refine s_i2l (n := 19) hG dX12_mix_18 rfl ?_
    refine s_lconst (n := 20) hG dX12_mix_19 kl_0 rfl ?_
    refine s_ldc2_w (n := 23) hG dX12_mix_20 lcX12_176 rfl ?_
    refine s_callS (n := 26) (st := []) hG (mX12_in hE h) ceX12_in lmX12_102 rfl ⟨rfl, Nat.le_of_ble_eq_true rfl, by decide⟩ dX12_mix_23 rfl ?_
    rintro _ _ ⟨r23, g23, f23, w23, rfl, rfl, h⟩
    refine s_if_eq (n := 29) (tgt := 55) hG dX12_mix_26 rfl rfl (fun c => ?_) (fun c => ?_)
    · replace h := h.1 c
      exact s_wk hG (sX12_mix_j55 hE hG hQ  h) ⟨rfl, trivial⟩
    · replace h := h.2 c
      refine s_iload_n (n := 30) hG dX12_mix_29 rfl rfl ?_
      refine s_i2l (n := 31) hG dX12_mix_30 rfl ?_
      refine s_iload_n (n := 32) hG dX12_mix_31 rfl rfl ?_
      refine s_i2l (n := 33) hG dX12_mix_32 rfl ?_
      refine s_ldc2_w (n := 36) hG dX12_mix_33 lcX12_176 rfl ?_
      refine s_callS (n := 39) (st := []) hG (mX12_in hE h) ceX12_in lmX12_102 rfl ⟨rfl, Nat.le_of_ble_eq_true rfl, by decide⟩ dX12_mix_36 rfl ?_
      rintro _ _ ⟨r36, g36, f36, w36, rfl, rfl, h⟩
      refine s_if_eq (n := 42) (tgt := 55) hG dX12_mix_39 rfl rfl (fun c => ?_) (fun c => ?_)
      · replace h := h.1 c
        exact s_wk hG (sX12_mix_j55 hE hG hQ  h) ⟨rfl, trivial⟩
      · replace h := h.2 c
        refine s_iload (n := 44) hG dX12_mix_42 rfl rfl ?_
        refine s_i2l (n := 45) hG dX12_mix_44 rfl ?_
        refine s_lconst (n := 46) hG dX12_mix_45 kl_0 rfl ?_
        refine s_ldc2_w (n := 49) hG dX12_mix_46 lcX12_176 rfl ?_
        refine s_callS (n := 52) (st := []) hG (mX12_in hE h) ceX12_in lmX12_102 rfl ⟨rfl, Nat.le_of_ble_eq_true rfl, by decide⟩ dX12_mix_49 rfl ?_
        rintro _ _ ⟨r49, g49, f49, w49, rfl, rfl, h⟩
        refine s_if_ne (n := 55) (tgt := 61) hG dX12_mix_52 rfl rfl (fun c => ?_) (fun c => ?_)
        · replace h := h.1 c
          refine s_iconst (n := 62) hG dX12_mix_61 ki_m1 rfl ?_
          refine s_istore (n := 64) (lv2 := [some (.ref (ad 0)), some (.int a1), some (.int a2), some (.int a3), some (.int a4), some (.int (-1)), none, none, none, none, none]) hG dX12_mix_62 rfl rfl rfl ?_
          refine s_iconst (n := 65) hG dX12_mix_64 ki_0 rfl ?_
          refine s_istore (n := 67) (lv2 := [some (.ref (ad 0)), some (.int a1), some (.int a2), some (.int a3), some (.int a4), some (.int (-1)), some (.int 0), none, none, none, none]) hG dX12_mix_65 rfl rfl rfl ?_
          exact s_wk hG (sX12_mix_l67 hE hG hQ  N _ _ _ _ h) ⟨rfl, rfl, rfl, rfl, rfl, rfl, rfl, trivial⟩
        · replace h := h.2 c
          exact s_wk hG (sX12_mix_j55 hE hG hQ  h) ⟨rfl, trivial⟩
def wX12_mixed (N : Nat) (a1 : Int32) (g : gFG) (f : gFF) (w : Int64) (Q : Int32 → gFG → gFF → Int64 → Prop) : Prop := ∀ g2 : gFG, g2 = (va_up g 0 0) → ((0 ≤ (g2 21)) → ((¬ a1 = (-1)) → wX12_in N a1.toInt64 0 ((g2 15).toInt64 - 1) g2 f w (fun r36 g36 f36 w36 => ((r36 = 0) → Q (-1) g36 f36 w36) ∧ ((¬ r36 = 0) → (vp_in a1 6) ∧ (Q (f36 13 a1.toNatClampNeg) g36 f36 w36)))) ∧ ((a1 = (-1)) → Q (g2 21) g2 f w)) ∧ ((¬ 0 ≤ (g2 21)) → Q (-1) g2 f w)
theorem mX12_mixed (hE : gInj layM ad ∧ gZok (gA layM ad) Z) {N : Nat} {a1 : Int32} {g : gFG} {f : gFF} {w : Int64} {Q : Int32 → gFG → gFF → Int64 → Prop} (h : wX12_mixed N a1 g f w Q) : gCT l D cs layM ad Z 2 yX12_mixed cX12_mixed 2 (some .int) [.ref (ad 0), .int a1] (g, f, w) (gMi Q) := by
  refine met_walk (lv0 := [some (.ref (ad 0)), some (.int a1)]) hE (by decide) (Nat.le_of_ble_eq_true rfl) rfl (fun G Rt hG hQ => ?_)
  replace hG : gSim l D cs layM ad Z 2 RX12 cX12_mixed 2 (some .int) G Rt := hG
  unfold wX12_mixed at h
  refine s_aload_n (n := 1) hG dX12_mixed_0 rfl rfl ?_
  refine s_iconst (n := 2) hG dX12_mixed_1 ki_0 rfl ?_
  refine ptX12_96 (n := 5) hG dX12_mixed_2 rfl ?_
  refine s_ng (fun g2 hg2 => ?_)
  replace h := h g2 hg2
  refine s_aload_n (n := 6) hG dX12_mixed_5 rfl rfl ?_
  refine gtX12_57 (n := 9) hG dX12_mixed_6 rfl ?_
  refine s_if_ge (n := 12) (tgt := 14) hG dX12_mixed_9 rfl rfl (fun c => ?_) (fun c => ?_)
  · replace h := h.1 c
    refine s_iload_n (n := 15) hG dX12_mixed_14 rfl rfl ?_
    refine s_iconst (n := 16) hG dX12_mixed_15 ki_m1 rfl ?_
    refine s_icmp_ne (n := 19) (tgt := 26) hG dX12_mixed_16 rfl rfl (fun c => ?_) (fun c => ?_)
    · replace h := h.1 c
      refine s_iload_n (n := 27) hG dX12_mixed_26 rfl rfl ?_
      refine s_i2l (n := 28) hG dX12_mixed_27 rfl ?_
      refine s_lconst (n := 29) hG dX12_mixed_28 kl_0 rfl ?_
      refine s_aload_n (n := 30) hG dX12_mixed_29 rfl rfl ?_
      refine gtX12_180 (n := 33) hG dX12_mixed_30 rfl ?_
      refine s_i2l (n := 34) hG dX12_mixed_33 rfl ?_
      refine s_lconst (n := 35) hG dX12_mixed_34 kl_1 rfl ?_
      refine s_lsub (n := 36) hG dX12_mixed_35 rfl ?_
      refine s_callS (n := 39) (st := []) hG (mX12_in hE h) ceX12_in lmX12_102 rfl ⟨rfl, Nat.le_of_ble_eq_true rfl, by decide⟩ dX12_mixed_36 rfl ?_
      rintro _ _ ⟨r36, g36, f36, w36, rfl, rfl, h⟩
      refine s_if_eq (n := 42) (tgt := 51) hG dX12_mixed_39 rfl rfl (fun c => ?_) (fun c => ?_)
      · replace h := h.1 c
        refine s_iconst (n := 52) hG dX12_mixed_51 ki_m1 rfl ?_
        exact s_iret hG dX12_mixed_52 (hQ _ _ ⟨_, _, _, _, rfl, rfl, h⟩)
      · replace h := h.2 c
        refine s_aload_n (n := 43) hG dX12_mixed_42 rfl rfl ?_
        refine gtX12_54 (n := 46) hG dX12_mixed_43 rfl ?_
        refine s_iload_n (n := 47) hG dX12_mixed_46 rfl rfl ?_
        obtain ⟨hin, h⟩ := h
        refine s_iald (n := 48) hG dX12_mixed_47 (gaM_13 hin) rfl ?_
        refine s_goto (tgt := 52) hG dX12_mixed_48 rfl ?_
        exact s_iret hG dX12_mixed_52 (hQ _ _ ⟨_, _, _, _, rfl, rfl, h⟩)
    · replace h := h.2 c
      refine s_aload_n (n := 20) hG dX12_mixed_19 rfl rfl ?_
      refine gtX12_57 (n := 23) hG dX12_mixed_20 rfl ?_
      refine s_goto (tgt := 52) hG dX12_mixed_23 rfl ?_
      exact s_iret hG dX12_mixed_52 (hQ _ _ ⟨_, _, _, _, rfl, rfl, h⟩)
  · replace h := h.2 c
    refine s_iconst (n := 13) hG dX12_mixed_12 ki_m1 rfl ?_
    exact s_iret hG dX12_mixed_13 (hQ _ _ ⟨_, _, _, _, rfl, rfl, h⟩)
end GWm
