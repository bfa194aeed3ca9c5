section GWn
variable {l : Launch} {D : va_G} {cs : gCs} {ad : Nat → Nat} {Z : State → Prop}
def wX12_pour_l79 (N : Nat) (v1 : Int32)  (Q : Int32 → gFG → gFF → Int64 → Prop) : Nat → Int32 → gFG → gFF → Int64 → Prop
  | 0, _, _, _, _ => False
  | n + 1, v3, g, f, w => (((g 15) ≤ v3) → wX12_told N v1 g f w (fun r110 g110 f110 w110 => Q r110 g110 f110 w110)) ∧ ((¬ (g 15) ≤ v3) → (vp_in v3 6) ∧ ((vp_in v3 6) ∧ (∀ y101 : Int32, y101 = ((f 12 v3.toNatClampNeg) - (f 13 v3.toNatClampNeg)) → (vp_in v3 6) ∧ (∀ f101 : gFF, f101 = (va_up f 12 (upd (f 12) v3.toNatClampNeg y101)) → ∀ x3_102 : Int32, x3_102 = (v3 + 1) → wX12_pour_l79 N v1  Q n x3_102 g f101 w))))
theorem sX12_pour_l79 {G : gG} {Rt : Option Value → gSt → Prop} (hE : gInj layM ad ∧ gZok (gA layM ad) Z) (hG : gSim l D cs layM ad Z 2 RX12 cX12_pour 4 (some .int) G Rt) {Q : Int32 → gFG → gFF → Int64 → Prop} (hQ : ∀ v S, gMi Q v S → Rt v S) {N : Nat} {v1 : Int32}    : ∀ (n : Nat) (v3 : Int32) (g : gFG) (f : gFF) (w : Int64), wX12_pour_l79 N v1  Q n v3 g f w → G 79 [some (.ref (ad 0)), some (.int v1), none, some (.int v3)] [] (g, f, w) := by
  intro n
  induction n with
  | zero => intro _ _ _ _ h; unfold wX12_pour_l79 at h; exact h.elim
  | succ n ih =>
    intro v3 g f w h
    unfold wX12_pour_l79 at h
    refine s_iload_n (n := 80) hG dX12_pour_79 rfl rfl ?_
    refine s_aload_n (n := 81) hG dX12_pour_80 rfl rfl ?_
    refine gtX12_180 (n := 84) hG dX12_pour_81 rfl ?_
    refine s_icmp_ge (n := 87) (tgt := 108) hG dX12_pour_84 rfl rfl (fun c => ?_) (fun c => ?_)
    · replace h := h.1 c
      refine s_aload_n (n := 109) hG dX12_pour_108 rfl rfl ?_
      refine s_iload_n (n := 110) hG dX12_pour_109 rfl rfl ?_
      refine s_callV (n := 113) (st := []) hG (mX12_told hE h) ceX12_told lmX12_113 ⟨by decide, rfl, rfl⟩ rfl ⟨rfl, Nat.le_of_ble_eq_true rfl, by decide⟩ dX12_pour_110 rfl ?_
      rintro _ _ ⟨r110, g110, f110, w110, rfl, rfl, h⟩
      exact s_iret hG dX12_pour_113 (hQ _ _ ⟨_, _, _, _, rfl, rfl, h⟩)
    · replace h := h.2 c
      refine s_aload_n (n := 88) hG dX12_pour_87 rfl rfl ?_
      refine gtX12_51 (n := 91) hG dX12_pour_88 rfl ?_
      refine s_iload_n (n := 92) hG dX12_pour_91 rfl rfl ?_
      refine s_dup2 (n := 93) hG dX12_pour_92 rfl rfl rfl ?_
      obtain ⟨hin, h⟩ := h
      refine s_iald (n := 94) hG dX12_pour_93 (gaM_12 hin) rfl ?_
      refine s_aload_n (n := 95) hG dX12_pour_94 rfl rfl ?_
      refine gtX12_54 (n := 98) hG dX12_pour_95 rfl ?_
      refine s_iload_n (n := 99) hG dX12_pour_98 rfl rfl ?_
      obtain ⟨hin, h⟩ := h
      refine s_iald (n := 100) hG dX12_pour_99 (gaM_13 hin) rfl ?_
      refine s_isub (n := 101) hG dX12_pour_100 rfl ?_
      refine s_topi (fun y101 hy101 => ?_)
      replace h := h y101 hy101
      obtain ⟨hin, h⟩ := h
      refine s_iast (n := 102) hG dX12_pour_101 (gaM_12 hin) rfl ?_
      refine s_nf (fun f101 hf101 => ?_)
      replace h := h f101 hf101
      obtain ⟨x3_102, hx3_102⟩ : ∃ z : Int32, z = (v3 + 1) := ⟨_, rfl⟩
      replace h := h x3_102 hx3_102
      refine s_iinc (n := 105) (v := x3_102) (lv2 := [some (.ref (ad 0)), some (.int v1), none, some (.int x3_102)]) hG dX12_pour_102 ki_1 rfl hx3_102 rfl rfl rfl ?_
      refine s_goto (tgt := 79) hG dX12_pour_105 rfl ?_
      exact s_wk hG (ih _ _ _ _ h) ⟨rfl, rfl, rfl, trivial⟩
def wX12_pour_j54 (N : Nat) (K22 : Int32 → Int32 → gFG → gFF → Int64 → Prop) (Q : Int32 → gFG → gFF → Int64 → Prop) (v1 : Int32) (v3 : Int32) (t0 : Int32) (g : gFG) (f : gFF) (w : Int64) : Prop := ∀ x3_55 : Int32, x3_55 = (v3 + 1) → K22 t0 x3_55 g f w
theorem sX12_pour_j54 {G : gG} {Rt : Option Value → gSt → Prop} (hE : gInj layM ad ∧ gZok (gA layM ad) Z) (hG : gSim l D cs layM ad Z 2 RX12 cX12_pour 4 (some .int) G Rt) {Q : Int32 → gFG → gFF → Int64 → Prop} (hQ : ∀ v S, gMi Q v S → Rt v S) {N : Nat} {K22 : Int32 → Int32 → gFG → gFF → Int64 → Prop}  {v1 : Int32} {v3 : Int32} {t0 : Int32} {g : gFG} {f : gFF} {w : Int64} (hK22 : ∀ (uv2 : Int32) (uv3 : Int32) (ug : gFG) (uf : gFF) (uw : Int64), K22 uv2 uv3 ug uf uw → G 22 [some (.ref (ad 0)), some (.int v1), some (.int uv2), some (.int uv3)] [] (ug, uf, uw)) (h : wX12_pour_j54 N K22 Q v1 v3 t0 g f w) : G 54 [some (.ref (ad 0)), some (.int v1), none, some (.int v3)] [.int t0] (g, f, w) := by
  unfold wX12_pour_j54 at h
  refine s_istore_n (n := 55) (lv2 := [some (.ref (ad 0)), some (.int v1), some (.int t0), some (.int v3)]) hG dX12_pour_54 rfl rfl rfl ?_
  obtain ⟨x3_55, hx3_55⟩ : ∃ z : Int32, z = (v3 + 1) := ⟨_, rfl⟩
  replace h := h x3_55 hx3_55
  refine s_iinc (n := 58) (v := x3_55) (lv2 := [some (.ref (ad 0)), some (.int v1), some (.int t0), some (.int x3_55)]) hG dX12_pour_55 ki_1 rfl hx3_55 rfl rfl rfl ?_
  refine s_goto (tgt := 22) hG dX12_pour_58 rfl ?_
  exact s_wk hG (hK22 _ _ _ _ _ h) ⟨rfl, rfl, rfl, rfl, trivial⟩
def wX12_pour_j53 (N : Nat) (K22 : Int32 → Int32 → gFG → gFF → Int64 → Prop) (Q : Int32 → gFG → gFF → Int64 → Prop) (v1 : Int32) (v3 : Int32) (g : gFG) (f : gFF) (w : Int64) : Prop := wX12_pour_j54 N (K22) Q v1 v3 0 g f w
theorem sX12_pour_j53 {G : gG} {Rt : Option Value → gSt → Prop} (hE : gInj layM ad ∧ gZok (gA layM ad) Z) (hG : gSim l D cs layM ad Z 2 RX12 cX12_pour 4 (some .int) G Rt) {Q : Int32 → gFG → gFF → Int64 → Prop} (hQ : ∀ v S, gMi Q v S → Rt v S) {N : Nat} {K22 : Int32 → Int32 → gFG → gFF → Int64 → Prop}  {v1 : Int32} {v3 : Int32} {g : gFG} {f : gFF} {w : Int64} (hK22 : ∀ (uv2 : Int32) (uv3 : Int32) (ug : gFG) (uf : gFF) (uw : Int64), K22 uv2 uv3 ug uf uw → G 22 [some (.ref (ad 0)), some (.int v1), some (.int uv2), some (.int uv3)] [] (ug, uf, uw)) (h : wX12_pour_j53 N K22 Q v1 v3 g f w) : G 53 [some (.ref (ad 0)), some (.int v1), none, some (.int v3)] [] (g, f, w) := by
  unfold wX12_pour_j53 at h
  refine s_iconst (n := 54) hG dX12_pour_53 ki_0 rfl ?_
  exact s_wk hG (sX12_pour_j54 hE hG hQ hK22 h) ⟨rfl, rfl, rfl, trivial⟩
def wX12_pour_l22 (N : Nat) (v1 : Int32)  (Q : Int32 → gFG → gFF → Int64 → Prop) : Nat → Int32 → Int32 → gFG → gFF → Int64 → Prop
  | 0, _, _, _, _, _ => False
  | n + 1, v2, v3, g, f, w => (((g 15) ≤ v3) → ∀ g63 : gFG, g63 = (va_up g 21 (-1)) → ((¬ v2 = 0) → wX12_pour_l79 N v1 Q N 0 g63 f w) ∧ ((v2 = 0) → wX12_told N (-6) g63 f w (fun r73 g73 f73 w73 => Q r73 g73 f73 w73))) ∧ ((¬ (g 15) ≤ v3) → ((v2 = 0) → wX12_pour_j53 N (wX12_pour_l22 N v1  Q n) Q v1 v3 g f w) ∧ ((¬ v2 = 0) → (vp_in v3 6) ∧ ((vp_in v3 6) ∧ ((((f 12 v3.toNatClampNeg) < (f 13 v3.toNatClampNeg)) → wX12_pour_j53 N (wX12_pour_l22 N v1  Q n) Q v1 v3 g f w) ∧ ((¬ (f 12 v3.toNatClampNeg) < (f 13 v3.toNatClampNeg)) → wX12_pour_j54 N (wX12_pour_l22 N v1  Q n) Q v1 v3 1 g f w)))))
theorem sX12_pour_l22 {G : gG} {Rt : Option Value → gSt → Prop} (hE : gInj layM ad ∧ gZok (gA layM ad) Z) (hG : gSim l D cs layM ad Z 2 RX12 cX12_pour 4 (some .int) G Rt) {Q : Int32 → gFG → gFF → Int64 → Prop} (hQ : ∀ v S, gMi Q v S → Rt v S) {N : Nat} {v1 : Int32}    : ∀ (n : Nat) (v2 : Int32) (v3 : Int32) (g : gFG) (f : gFF) (w : Int64), wX12_pour_l22 N v1  Q n v2 v3 g f w → G 22 [some (.ref (ad 0)), some (.int v1), some (.int v2), some (.int v3)] [] (g, f, w) := by
  intro n
  induction n with
  | zero => intro _ _ _ _ _ h; unfold wX12_pour_l22 at h; exact h.elim
  | succ n ih =>
    intro v2 v3 g f w h
    unfold wX12_pour_l22 at h
    refine s_iload_n (n := 23) hG dX12_pour_22 rfl rfl ?_
    refine s_aload_n (n := 24) hG dX12_pour_23 rfl rfl ?_
    refine gtX12_180 (n := 27) hG dX12_pour_24 rfl ?_
    refine s_icmp_ge (n := 30) (tgt := 61) hG dX12_pour_27 rfl rfl (fun c => ?_) (fun c => ?_)
    · replace h := h.1 c
      refine s_aload_n (n := 62) hG dX12_pour_61 rfl rfl ?_
      refine s_iconst (n := 63) hG dX12_pour_62 ki_m1 rfl ?_
      refine ptX12_57 (n := 66) hG dX12_pour_63 rfl ?_
      refine s_ng (fun g63 hg63 => ?_)
      replace h := h g63 hg63
      refine s_iload_n (n := 67) hG dX12_pour_66 rfl rfl ?_
      refine s_if_ne (n := 70) (tgt := 77) hG dX12_pour_67 rfl rfl (fun c => ?_) (fun c => ?_)
      · replace h := h.1 c
        refine s_iconst (n := 78) hG dX12_pour_77 ki_0 rfl ?_
        refine s_istore_n (n := 79) (lv2 := [some (.ref (ad 0)), some (.int v1), some (.int v2), some (.int 0)]) hG dX12_pour_78 rfl rfl rfl ?_
        exact s_wk hG (sX12_pour_l79 hE hG hQ  N _ _ _ _ h) ⟨rfl, rfl, rfl, trivial⟩
      · replace h := h.2 c
        refine s_aload_n (n := 71) hG dX12_pour_70 rfl rfl ?_
        refine s_bipush (n := 73) hG dX12_pour_71 kb_m6 rfl ?_
        refine s_callV (n := 76) (st := []) hG (mX12_told hE h) ceX12_told lmX12_113 ⟨by decide, rfl, rfl⟩ rfl ⟨rfl, Nat.le_of_ble_eq_true rfl, by decide⟩ dX12_pour_73 rfl ?_
        rintro _ _ ⟨r73, g73, f73, w73, rfl, rfl, h⟩
        exact s_iret hG dX12_pour_76 (hQ _ _ ⟨_, _, _, _, rfl, rfl, h⟩)
    · replace h := h.2 c
      refine s_iload_n (n := 31) hG dX12_pour_30 rfl rfl ?_
      refine s_if_eq (n := 34) (tgt := 53) hG dX12_pour_31 rfl rfl (fun c => ?_) (fun c => ?_)
      · replace h := h.1 c
        exact s_wk hG (sX12_pour_j53 hE hG hQ ih h) ⟨rfl, rfl, rfl, trivial⟩
      · replace h := h.2 c
        refine s_aload_n (n := 35) hG dX12_pour_34 rfl rfl ?_
        refine gtX12_54 (n := 38) hG dX12_pour_35 rfl ?_
        refine s_iload_n (n := 39) hG dX12_pour_38 rfl rfl ?_
        obtain ⟨hin, h⟩ := h
        refine s_iald (n := 40) hG dX12_pour_39 (gaM_13 hin) rfl ?_
        refine s_aload_n (n := 41) hG dX12_pour_40 rfl rfl ?_
        refine gtX12_51 (n := 44) hG dX12_pour_41 rfl ?_
        refine s_iload_n (n := 45) hG dX12_pour_44 rfl rfl ?_
        obtain ⟨hin, h⟩ := h
        refine s_iald (n := 46) hG dX12_pour_45 (gaM_12 hin) rfl ?_
        refine s_icmp_gt (n := 49) (tgt := 53) hG dX12_pour_46 rfl rfl (fun c => ?_) (fun c => ?_)
        · replace h := h.1 c
          exact s_wk hG (sX12_pour_j53 hE hG hQ ih h) ⟨rfl, rfl, rfl, trivial⟩
        · replace h := h.2 c
          refine s_iconst (n := 50) hG dX12_pour_49 ki_1 rfl ?_
          refine s_goto (tgt := 54) hG dX12_pour_50 rfl ?_
          exact s_wk hG (sX12_pour_j54 hE hG hQ ih h) ⟨rfl, rfl, rfl, trivial⟩
def wX12_pour_j19 (N : Nat)  (Q : Int32 → gFG → gFF → Int64 → Prop) (v1 : Int32) (t0 : Int32) (g : gFG) (f : gFF) (w : Int64) : Prop := wX12_pour_l22 N v1 Q N t0 0 g f w
theorem sX12_pour_j19 {G : gG} {Rt : Option Value → gSt → Prop} (hE : gInj layM ad ∧ gZok (gA layM ad) Z) (hG : gSim l D cs layM ad Z 2 RX12 cX12_pour 4 (some .int) G Rt) {Q : Int32 → gFG → gFF → Int64 → Prop} (hQ : ∀ v S, gMi Q v S → Rt v S) {N : Nat}   {v1 : Int32} {t0 : Int32} {g : gFG} {f : gFF} {w : Int64}  (h : wX12_pour_j19 N  Q v1 t0 g f w) : G 19 [some (.ref (ad 0)), some (.int v1), none, none] [.int t0] (g, f, w) := by
  unfold wX12_pour_j19 at h
  refine s_istore_n (n := 20) (lv2 := [some (.ref (ad 0)), some (.int v1), some (.int t0), none]) hG dX12_pour_19 rfl rfl rfl ?_
  refine s_iconst (n := 21) hG dX12_pour_20 ki_0 rfl ?_
  refine s_istore_n (n := 22) (lv2 := [some (.ref (ad 0)), some (.int v1), some (.int t0), some (.int 0)]) hG dX12_pour_21 rfl rfl rfl ?_
  exact s_wk hG (sX12_pour_l22 hE hG hQ  N _ _ _ _ _ h) ⟨rfl, rfl, rfl, rfl, trivial⟩
def wX12_pour (N : Nat)  (g : gFG) (f : gFF) (w : Int64) (Q : Int32 → gFG → gFF → Int64 → Prop) : Prop := ∀ g2 : gFG, g2 = (va_up g 0 0) → ∀ x1_9 : Int32, x1_9 = (g2 21) → ((x1_9 < 0) → wX12_pour_j19 N  Q x1_9 0 g2 f w) ∧ ((¬ x1_9 < 0) → wX12_pour_j19 N  Q x1_9 1 g2 f w)
theorem mX12_pour (hE : gInj layM ad ∧ gZok (gA layM ad) Z) {N : Nat}  {g : gFG} {f : gFF} {w : Int64} {Q : Int32 → gFG → gFF → Int64 → Prop} (h : wX12_pour N  g f w Q) : gCT l D cs layM ad Z 2 yX12_pour cX12_pour 4 (some .int) [.ref (ad 0)] (g, f, w) (gMi Q) := by
  refine met_walk (lv0 := [some (.ref (ad 0)), none, none, none]) hE (by decide) (Nat.le_of_ble_eq_true rfl) rfl (fun G Rt hG hQ => ?_)
  replace hG : gSim l D cs layM ad Z 2 RX12 cX12_pour 4 (some .int) G Rt := hG
  unfold wX12_pour at h
  refine s_aload_n (n := 1) hG dX12_pour_0 rfl rfl ?_
  refine s_iconst (n := 2) hG dX12_pour_1 ki_0 rfl ?_
  refine ptX12_96 (n := 5) hG dX12_pour_2 rfl ?_
  refine s_ng (fun g2 hg2 => ?_)
  replace h := h g2 hg2
  refine s_aload_n (n := 6) hG dX12_pour_5 rfl rfl ?_
  refine gtX12_57 (n := 9) hG dX12_pour_6 rfl ?_
  refine s_topi (fun x1_9 hx1_9 => ?_)
  replace h := h x1_9 hx1_9
  refine s_istore_n (n := 10) (lv2 := [some (.ref (ad 0)), some (.int x1_9), none, none]) hG dX12_pour_9 rfl rfl rfl ?_
  refine s_iload_n (n := 11) hG dX12_pour_10 rfl rfl ?_
  refine s_if_lt (n := 14) (tgt := 18) hG dX12_pour_11 rfl rfl (fun c => ?_) (fun c => ?_)
  · replace h := h.1 c
    refine s_iconst (n := 19) hG dX12_pour_18 ki_0 rfl ?_
    exact s_wk hG (sX12_pour_j19 hE hG hQ  h) ⟨rfl, rfl, trivial⟩
  · replace h := h.2 c
    refine s_iconst (n := 15) hG dX12_pour_14 ki_1 rfl ?_
    refine s_goto (tgt := 19) hG dX12_pour_15 rfl ?_
    exact s_wk hG (sX12_pour_j19 hE hG hQ  h) ⟨rfl, rfl, trivial⟩
def wX12_left (N : Nat) (a1 : Int32) (g : gFG) (f : gFF) (w : Int64) (Q : Int32 → gFG → gFF → Int64 → Prop) : Prop := ∀ g2 : gFG, g2 = (va_up g 0 0) → wX12_in N a1.toInt64 0 ((g2 15).toInt64 - 1) g2 f w (fun r15 g15 f15 w15 => ((r15 = 0) → Q (-1) g15 f15 w15) ∧ ((¬ r15 = 0) → (vp_in a1 6) ∧ (Q (f15 12 a1.toNatClampNeg) g15 f15 w15)))
theorem mX12_left (hE : gInj layM ad ∧ gZok (gA layM ad) Z) {N : Nat} {a1 : Int32} {g : gFG} {f : gFF} {w : Int64} {Q : Int32 → gFG → gFF → Int64 → Prop} (h : wX12_left N a1 g f w Q) : gCT l D cs layM ad Z 2 yX12_left cX12_left 2 (some .int) [.ref (ad 0), .int a1] (g, f, w) (gMi Q) := by
  refine met_walk (lv0 := [some (.ref (ad 0)), some (.int a1)]) hE (by decide) (Nat.le_of_ble_eq_true rfl) rfl (fun G Rt hG hQ => ?_)
  replace hG : gSim l D cs layM ad Z 2 RX12 cX12_left 2 (some .int) G Rt := hG
  unfold wX12_left at h
  refine s_aload_n (n := 1) hG dX12_left_0 rfl rfl ?_
  refine s_iconst (n := 2) hG dX12_left_1 ki_0 rfl ?_
  refine ptX12_96 (n := 5) hG dX12_left_2 rfl ?_
  refine s_ng (fun g2 hg2 => ?_)
  replace h := h g2 hg2
  refine s_iload_n (n := 6) hG dX12_left_5 rfl rfl ?_
  refine s_i2l (n := 7) hG dX12_left_6 rfl ?_
  refine s_lconst (n := 8) hG dX12_left_7 kl_0 rfl ?_
  refine s_aload_n (n := 9) hG dX12_left_8 rfl rfl ?_
  refine gtX12_180 (n := 12) hG dX12_left_9 rfl ?_
  refine s_i2l (n := 13) hG dX12_left_12 rfl ?_
  refine s_lconst (n := 14) hG dX12_left_13 kl_1 rfl ?_
  refine s_lsub (n := 15) hG dX12_left_14 rfl ?_
  refine s_callS (n := 18) (st := []) hG (mX12_in hE h) ceX12_in lmX12_102 rfl ⟨rfl, Nat.le_of_ble_eq_true rfl, by decide⟩ dX12_left_15 rfl ?_
  rintro _ _ ⟨r15, g15, f15, w15, rfl, rfl, h⟩
  refine s_if_eq (n := 21) (tgt := 30) hG dX12_left_18 rfl rfl (fun c => ?_) (fun c => ?_)
  · replace h := h.1 c
    refine s_iconst (n := 31) hG dX12_left_30 ki_m1 rfl ?_
    exact s_iret hG dX12_left_31 (hQ _ _ ⟨_, _, _, _, rfl, rfl, h⟩)
  · replace h := h.2 c
    refine s_aload_n (n := 22) hG dX12_left_21 rfl rfl ?_
    refine gtX12_51 (n := 25) hG dX12_left_22 rfl ?_
    refine s_iload_n (n := 26) hG dX12_left_25 rfl rfl ?_
    obtain ⟨hin, h⟩ := h
    refine s_iald (n := 27) hG dX12_left_26 (gaM_12 hin) rfl ?_
    refine s_goto (tgt := 31) hG dX12_left_27 rfl ?_
    exact s_iret hG dX12_left_31 (hQ _ _ ⟨_, _, _, _, rfl, rfl, h⟩)
def wX12_four_l3 (N : Nat) (v1 : Int32)  (Q : gFG → gFF → Int64 → Prop) : Nat → Int32 → gFG → gFF → Int64 → Prop
  | 0, _, _, _, _ => False
  | n + 1, v2, g, f, w => ((v2 < 0) → Q g f w) ∧ ((¬ v2 < 0) → ∀ y22 : Int32, y22 = ((v1 >>> (v2 &&& 31)) &&& 255) → ∀ i22 : Int32, i22 = (g 31) → (vp_in i22 300) ∧ (∀ f22 : gFF, f22 = (va_up f 20 (upd (f 20) i22.toNatClampNeg y22)) → ∀ y30 : Int32, y30 = ((g 31) + 1) → ∀ g30 : gFG, g30 = (va_up g 31 y30) → ∀ x2_33 : Int32, x2_33 = (v2 + (-8)) → wX12_four_l3 N v1  Q n x2_33 g30 f22 w))
theorem sX12_four_l3 {G : gG} {Rt : Option Value → gSt → Prop} (hE : gInj layM ad ∧ gZok (gA layM ad) Z) (hG : gSim l D cs layM ad Z 1 RX12 cX12_four 3 none G Rt) {Q : gFG → gFF → Int64 → Prop} (hQ : ∀ v S, gMv Q v S → Rt v S) {N : Nat} {v1 : Int32}    : ∀ (n : Nat) (v2 : Int32) (g : gFG) (f : gFF) (w : Int64), wX12_four_l3 N v1  Q n v2 g f w → G 3 [some (.ref (ad 0)), some (.int v1), some (.int v2)] [] (g, f, w) := by
  intro n
  induction n with
  | zero => intro _ _ _ _ h; unfold wX12_four_l3 at h; exact h.elim
  | succ n ih =>
    intro v2 g f w h
    unfold wX12_four_l3 at h
    refine s_iload_n (n := 4) hG dX12_four_3 rfl rfl ?_
    refine s_if_lt (n := 7) (tgt := 39) hG dX12_four_4 rfl rfl (fun c => ?_) (fun c => ?_)
    · replace h := h.1 c
      exact s_vret hG dX12_four_39 (hQ _ _ ⟨_, _, _, rfl, rfl, h⟩)
    · replace h := h.2 c
      refine s_aload_n (n := 8) hG dX12_four_7 rfl rfl ?_
      refine gtX12_78 (n := 11) hG dX12_four_8 rfl ?_
      refine s_aload_n (n := 12) hG dX12_four_11 rfl rfl ?_
      refine gtX12_187 (n := 15) hG dX12_four_12 rfl ?_
      refine s_iload_n (n := 16) hG dX12_four_15 rfl rfl ?_
      refine s_iload_n (n := 17) hG dX12_four_16 rfl rfl ?_
      refine s_ishr (n := 18) hG dX12_four_17 rfl ?_
      refine s_sipush (n := 21) hG dX12_four_18 ks_255 rfl ?_
      refine s_iand (n := 22) hG dX12_four_21 rfl ?_
      refine s_topi (fun y22 hy22 => ?_)
      replace h := h y22 hy22
      refine s_topi2 (fun i22 hi22 => ?_)
      replace h := h i22 hi22
      obtain ⟨hin, h⟩ := h
      refine s_iast (n := 23) hG dX12_four_22 (gaM_20 hin) rfl ?_
      refine s_nf (fun f22 hf22 => ?_)
      replace h := h f22 hf22
      refine s_aload_n (n := 24) hG dX12_four_23 rfl rfl ?_
      refine s_dup (n := 25) hG dX12_four_24 rfl rfl ?_
      refine gtX12_187 (n := 28) hG dX12_four_25 rfl ?_
      refine s_iconst (n := 29) hG dX12_four_28 ki_1 rfl ?_
      refine s_iadd (n := 30) hG dX12_four_29 rfl ?_
      refine s_topi (fun y30 hy30 => ?_)
      replace h := h y30 hy30
      refine ptX12_187 (n := 33) hG dX12_four_30 rfl ?_
      refine s_ng (fun g30 hg30 => ?_)
      replace h := h g30 hg30
      obtain ⟨x2_33, hx2_33⟩ : ∃ z : Int32, z = (v2 + (-8)) := ⟨_, rfl⟩
      replace h := h x2_33 hx2_33
      refine s_iinc (n := 36) (v := x2_33) (lv2 := [some (.ref (ad 0)), some (.int v1), some (.int x2_33)]) hG dX12_four_33 ki_m8 rfl hx2_33 rfl rfl rfl ?_
      refine s_goto (tgt := 3) hG dX12_four_36 rfl ?_
      exact s_wk hG (ih _ _ _ _ h) ⟨rfl, rfl, rfl, trivial⟩
def wX12_four (N : Nat) (a1 : Int32) (g : gFG) (f : gFF) (w : Int64) (Q : gFG → gFF → Int64 → Prop) : Prop := wX12_four_l3 N a1 Q N 24 g f w
theorem mX12_four (hE : gInj layM ad ∧ gZok (gA layM ad) Z) {N : Nat} {a1 : Int32} {g : gFG} {f : gFF} {w : Int64} {Q : gFG → gFF → Int64 → Prop} (h : wX12_four N a1 g f w Q) : gCT l D cs layM ad Z 1 yX12_four cX12_four 3 none [.ref (ad 0), .int a1] (g, f, w) (gMv Q) := by
  refine met_walk (lv0 := [some (.ref (ad 0)), some (.int a1), none]) hE (by decide) (Nat.le_of_ble_eq_true rfl) rfl (fun G Rt hG hQ => ?_)
  replace hG : gSim l D cs layM ad Z 1 RX12 cX12_four 3 none G Rt := hG
  unfold wX12_four at h
  refine s_bipush (n := 2) hG dX12_four_0 kb_24 rfl ?_
  refine s_istore_n (n := 3) (lv2 := [some (.ref (ad 0)), some (.int a1), some (.int 24)]) hG dX12_four_2 rfl rfl rfl ?_
  exact s_wk hG (sX12_four_l3 hE hG hQ  N _ _ _ _ h) ⟨rfl, rfl, rfl, trivial⟩
def wX12_feed (N : Nat) (a1 : Int32) (a2 : Int32) (a3 : Int32) (a4 : Int32) (a5 : Int32) (g : gFG) (f : gFF) (w : Int64) (Q : Int32 → gFG → gFF → Int64 → Prop) : Prop := ∀ g2 : gFG, g2 = (va_up g 0 0) → ((((g2 31) + 20) ≤ 300) → wX12_four N a1 g2 f w (fun g22 f22 w22 => wX12_four N a2 g22 f22 w22 (fun g27 f27 w27 => wX12_four N a3 g27 f27 w27 (fun g32 f32 w32 => wX12_four N a4 g32 f32 w32 (fun g38 f38 w38 => wX12_four N a5 g38 f38 w38 (fun g44 f44 w44 => Q (g44 31) g44 f44 w44)))))) ∧ ((¬ ((g2 31) + 20) ≤ 300) → Q (-1) g2 f w)
theorem mX12_feed (hE : gInj layM ad ∧ gZok (gA layM ad) Z) {N : Nat} {a1 : Int32} {a2 : Int32} {a3 : Int32} {a4 : Int32} {a5 : Int32} {g : gFG} {f : gFF} {w : Int64} {Q : Int32 → gFG → gFF → Int64 → Prop} (h : wX12_feed N a1 a2 a3 a4 a5 g f w Q) : gCT l D cs layM ad Z 2 yX12_feed cX12_feed 6 (some .int) [.ref (ad 0), .int a1, .int a2, .int a3, .int a4, .int a5] (g, f, w) (gMi Q) := by
  refine met_walk (lv0 := [some (.ref (ad 0)), some (.int a1), some (.int a2), some (.int a3), some (.int a4), some (.int a5)]) hE (by decide) (Nat.le_of_ble_eq_true rfl) rfl (fun G Rt hG hQ => ?_)
  replace hG : gSim l D cs layM ad Z 2 RX12 cX12_feed 6 (some .int) G Rt := hG
  unfold wX12_feed at h
  refine s_aload_n (n := 1) hG dX12_feed_0 rfl rfl ?_
  refine s_iconst (n := 2) hG dX12_feed_1 ki_0 rfl ?_
  refine ptX12_96 (n := 5) hG dX12_feed_2 rfl ?_
  refine s_ng (fun g2 hg2 => ?_)
  replace h := h g2 hg2
  refine s_aload_n (n := 6) hG dX12_feed_5 rfl rfl ?_
  refine gtX12_187 (n := 9) hG dX12_feed_6 rfl ?_
  refine s_bipush (n := 11) hG dX12_feed_9 kb_20 rfl ?_
  refine s_iadd (n := 12) hG dX12_feed_11 rfl ?_
  refine s_sipush (n := 15) hG dX12_feed_12 ks_300 rfl ?_
  refine s_icmp_le (n := 18) (tgt := 20) hG dX12_feed_15 rfl rfl (fun c => ?_) (fun c => ?_)
  · replace h := h.1 c
    refine s_aload_n (n := 21) hG dX12_feed_20 rfl rfl ?_
    refine s_iload_n (n := 22) hG dX12_feed_21 rfl rfl ?_
    refine s_callV (n := 25) (st := []) hG (mX12_four hE h) ceX12_four lmX12_190 ⟨by decide, rfl, rfl⟩ rfl ⟨rfl, Nat.le_of_ble_eq_true rfl, by decide⟩ dX12_feed_22 rfl ?_
    rintro _ _ ⟨g22, f22, w22, rfl, rfl, h⟩
    refine s_aload_n (n := 26) hG dX12_feed_25 rfl rfl ?_
    refine s_iload_n (n := 27) hG dX12_feed_26 rfl rfl ?_
    refine s_callV (n := 30) (st := []) hG (mX12_four hE h) ceX12_four lmX12_190 ⟨by decide, rfl, rfl⟩ rfl ⟨rfl, Nat.le_of_ble_eq_true rfl, by decide⟩ dX12_feed_27 rfl ?_
    rintro _ _ ⟨g27, f27, w27, rfl, rfl, h⟩
    refine s_aload_n (n := 31) hG dX12_feed_30 rfl rfl ?_
    refine s_iload_n (n := 32) hG dX12_feed_31 rfl rfl ?_
    refine s_callV (n := 35) (st := []) hG (mX12_four hE h) ceX12_four lmX12_190 ⟨by decide, rfl, rfl⟩ rfl ⟨rfl, Nat.le_of_ble_eq_true rfl, by decide⟩ dX12_feed_32 rfl ?_
    rintro _ _ ⟨g32, f32, w32, rfl, rfl, h⟩
    refine s_aload_n (n := 36) hG dX12_feed_35 rfl rfl ?_
    refine s_iload (n := 38) hG dX12_feed_36 rfl rfl ?_
    refine s_callV (n := 41) (st := []) hG (mX12_four hE h) ceX12_four lmX12_190 ⟨by decide, rfl, rfl⟩ rfl ⟨rfl, Nat.le_of_ble_eq_true rfl, by decide⟩ dX12_feed_38 rfl ?_
    rintro _ _ ⟨g38, f38, w38, rfl, rfl, h⟩
    refine s_aload_n (n := 42) hG dX12_feed_41 rfl rfl ?_
    refine s_iload (n := 44) hG dX12_feed_42 rfl rfl ?_
    refine s_callV (n := 47) (st := []) hG (mX12_four hE h) ceX12_four lmX12_190 ⟨by decide, rfl, rfl⟩ rfl ⟨rfl, Nat.le_of_ble_eq_true rfl, by decide⟩ dX12_feed_44 rfl ?_
    rintro _ _ ⟨g44, f44, w44, rfl, rfl, h⟩
    refine s_aload_n (n := 48) hG dX12_feed_47 rfl rfl ?_
    refine gtX12_187 (n := 51) hG dX12_feed_48 rfl ?_
    exact s_iret hG dX12_feed_51 (hQ _ _ ⟨_, _, _, _, rfl, rfl, h⟩)
  · replace h := h.2 c
    refine s_iconst (n := 19) hG dX12_feed_18 ki_m1 rfl ?_
    exact s_iret hG dX12_feed_19 (hQ _ _ ⟨_, _, _, _, rfl, rfl, h⟩)
def wX12_end (N : Nat) (a1 : Int32) (g : gFG) (f : gFF) (w : Int64) (Q : Int32 → gFG → gFF → Int64 → Prop) : Prop := ∀ g2 : gFG, g2 = (va_up g 0 0) → ((a1 < 0) → Q (-1) g2 f w) ∧ ((¬ a1 < 0) → ((a1 ≤ (g2 31)) → ∀ g21 : gFG, g21 = (va_up g2 31 a1) → Q a1 g21 f w) ∧ ((¬ a1 ≤ (g2 31)) → Q (-1) g2 f w))
theorem mX12_end (hE : gInj layM ad ∧ gZok (gA layM ad) Z) {N : Nat} {a1 : Int32} {g : gFG} {f : gFF} {w : Int64} {Q : Int32 → gFG → gFF → Int64 → Prop} (h : wX12_end N a1 g f w Q) : gCT l D cs layM ad Z 1 yX12_end cX12_end 2 (some .int) [.ref (ad 0), .int a1] (g, f, w) (gMi Q) := by
  refine met_walk (lv0 := [some (.ref (ad 0)), some (.int a1)]) hE (by decide) (Nat.le_of_ble_eq_true rfl) rfl (fun G Rt hG hQ => ?_)
  replace hG : gSim l D cs layM ad Z 1 RX12 cX12_end 2 (some .int) G Rt := hG
  unfold wX12_end at h
  refine s_aload_n (n := 1) hG dX12_end_0 rfl rfl ?_
  refine s_iconst (n := 2) hG dX12_end_1 ki_0 rfl ?_
  refine ptX12_96 (n := 5) hG dX12_end_2 rfl ?_
  refine s_ng (fun g2 hg2 => ?_)
  replace h := h g2 hg2
  refine s_iload_n (n := 6) hG dX12_end_5 rfl rfl ?_
  refine s_if_lt (n := 9) (tgt := 17) hG dX12_end_6 rfl rfl (fun c => ?_) (fun c => ?_)
  · replace h := h.1 c
    refine s_iconst (n := 18) hG dX12_end_17 ki_m1 rfl ?_
    exact s_iret hG dX12_end_18 (hQ _ _ ⟨_, _, _, _, rfl, rfl, h⟩)
  · replace h := h.2 c
    refine s_iload_n (n := 10) hG dX12_end_9 rfl rfl ?_
    refine s_aload_n (n := 11) hG dX12_end_10 rfl rfl ?_
    refine gtX12_187 (n := 14) hG dX12_end_11 rfl ?_
    refine s_icmp_le (n := 17) (tgt := 19) hG dX12_end_14 rfl rfl (fun c => ?_) (fun c => ?_)
    · replace h := h.1 c
      refine s_aload_n (n := 20) hG dX12_end_19 rfl rfl ?_
      refine s_iload_n (n := 21) hG dX12_end_20 rfl rfl ?_
      refine ptX12_187 (n := 24) hG dX12_end_21 rfl ?_
      refine s_ng (fun g21 hg21 => ?_)
      replace h := h g21 hg21
      refine s_iload_n (n := 25) hG dX12_end_24 rfl rfl ?_
      exact s_iret hG dX12_end_25 (hQ _ _ ⟨_, _, _, _, rfl, rfl, h⟩)
    · replace h := h.2 c
      refine s_iconst (n := 18) hG dX12_end_17 ki_m1 rfl ?_
      exact s_iret hG dX12_end_18 (hQ _ _ ⟨_, _, _, _, rfl, rfl, h⟩)
def wX12_isSmall (N : Nat) (a1 : Int32) (g : gFG) (f : gFF) (w : Int64) (Q : Int32 → gFG → gFF → Int64 → Prop) : Prop := ((a1 < 97) → Q 0 g f w) ∧ ((¬ a1 < 97) → ((122 < a1) → Q 0 g f w) ∧ ((¬ 122 < a1) → Q 1 g f w))
theorem mX12_isSmall (hE : gInj layM ad ∧ gZok (gA layM ad) Z) {N : Nat} {a1 : Int32} {g : gFG} {f : gFF} {w : Int64} {Q : Int32 → gFG → gFF → Int64 → Prop} (h : wX12_isSmall N a1 g f w Q) : gCT l D cs layM ad Z 1 yX12_isSmall cX12_isSmall 1 (some .boolean) [.int a1] (g, f, w) (gMi Q) := by
  refine met_walk (lv0 := [some (.int a1)]) hE (by decide) (Nat.le_of_ble_eq_true rfl) rfl (fun G Rt hG hQ => ?_)
  replace hG : gSim l D cs layM ad Z 1 RX12 cX12_isSmall 1 (some .boolean) G Rt := hG
  unfold wX12_isSmall at h
  refine s_iload_n (n := 1) hG dX12_isSmall_0 rfl rfl ?_
  refine s_bipush (n := 3) hG dX12_isSmall_1 kb_97 rfl ?_
  refine s_icmp_lt (n := 6) (tgt := 16) hG dX12_isSmall_3 rfl rfl (fun c => ?_) (fun c => ?_)
  · replace h := h.1 c
    refine s_iconst (n := 17) hG dX12_isSmall_16 ki_0 rfl ?_
    exact s_zret hG dX12_isSmall_17 (gz_n gz_0) (hQ _ _ ⟨_, _, _, _, rfl, rfl, h⟩)
  · replace h := h.2 c
    refine s_iload_n (n := 7) hG dX12_isSmall_6 rfl rfl ?_
    refine s_bipush (n := 9) hG dX12_isSmall_7 kb_122 rfl ?_
    refine s_icmp_gt (n := 12) (tgt := 16) hG dX12_isSmall_9 rfl rfl (fun c => ?_) (fun c => ?_)
    · replace h := h.1 c
      refine s_iconst (n := 17) hG dX12_isSmall_16 ki_0 rfl ?_
      exact s_zret hG dX12_isSmall_17 (gz_n gz_0) (hQ _ _ ⟨_, _, _, _, rfl, rfl, h⟩)
    · replace h := h.2 c
      refine s_iconst (n := 13) hG dX12_isSmall_12 ki_1 rfl ?_
      refine s_goto (tgt := 17) hG dX12_isSmall_13 rfl ?_
      exact s_zret hG dX12_isSmall_17 (gz_n gz_1) (hQ _ _ ⟨_, _, _, _, rfl, rfl, h⟩)
def wX12_isDigit (N : Nat) (a1 : Int32) (g : gFG) (f : gFF) (w : Int64) (Q : Int32 → gFG → gFF → Int64 → Prop) : Prop := ((a1 < 48) → Q 0 g f w) ∧ ((¬ a1 < 48) → ((57 < a1) → Q 0 g f w) ∧ ((¬ 57 < a1) → Q 1 g f w))
theorem mX12_isDigit (hE : gInj layM ad ∧ gZok (gA layM ad) Z) {N : Nat} {a1 : Int32} {g : gFG} {f : gFF} {w : Int64} {Q : Int32 → gFG → gFF → Int64 → Prop} (h : wX12_isDigit N a1 g f w Q) : gCT l D cs layM ad Z 1 yX12_isDigit cX12_isDigit 1 (some .boolean) [.int a1] (g, f, w) (gMi Q) := by
  refine met_walk (lv0 := [some (.int a1)]) hE (by decide) (Nat.le_of_ble_eq_true rfl) rfl (fun G Rt hG hQ => ?_)
  replace hG : gSim l D cs layM ad Z 1 RX12 cX12_isDigit 1 (some .boolean) G Rt := hG
  unfold wX12_isDigit at h
  refine s_iload_n (n := 1) hG dX12_isDigit_0 rfl rfl ?_
  refine s_bipush (n := 3) hG dX12_isDigit_1 kb_48 rfl ?_
  refine s_icmp_lt (n := 6) (tgt := 16) hG dX12_isDigit_3 rfl rfl (fun c => ?_) (fun c => ?_)
  · replace h := h.1 c
    refine s_iconst (n := 17) hG dX12_isDigit_16 ki_0 rfl ?_
    exact s_zret hG dX12_isDigit_17 (gz_n gz_0) (hQ _ _ ⟨_, _, _, _, rfl, rfl, h⟩)
  · replace h := h.2 c
    refine s_iload_n (n := 7) hG dX12_isDigit_6 rfl rfl ?_
    refine s_bipush (n := 9) hG dX12_isDigit_7 kb_57 rfl ?_
    refine s_icmp_gt (n := 12) (tgt := 16) hG dX12_isDigit_9 rfl rfl (fun c => ?_) (fun c => ?_)
    · replace h := h.1 c
      refine s_iconst (n := 17) hG dX12_isDigit_16 ki_0 rfl ?_
      exact s_zret hG dX12_isDigit_17 (gz_n gz_0) (hQ _ _ ⟨_, _, _, _, rfl, rfl, h⟩)
    · replace h := h.2 c
      refine s_iconst (n := 13) hG dX12_isDigit_12 ki_1 rfl ?_
      refine s_goto (tgt := 17) hG dX12_isDigit_13 rfl ?_
      exact s_zret hG dX12_isDigit_17 (gz_n gz_1) (hQ _ _ ⟨_, _, _, _, rfl, rfl, h⟩)
def wX12_next_j319 (N : Nat) (K243 : gFG → gFF → Int64 → Prop) (Q : gFG → gFF → Int64 → Prop) (t0 : Int64) (g : gFG) (f : gFF) (w : Int64) : Prop := ∀ y329 : Int32, y329 = ((g 33) + 1) → ∀ g329 : gFG, g329 = (va_up g 33 y329) → K243 g329 f t0
theorem sX12_next_j319 {G : gG} {Rt : Option Value → gSt → Prop} (hE : gInj layM ad ∧ gZok (gA layM ad) Z) (hG : gSim l D cs layM ad Z 2 RX12 cX12_next 1 none G Rt) {Q : gFG → gFF → Int64 → Prop} (hQ : ∀ v S, gMv Q v S → Rt v S) {N : Nat} {K243 : gFG → gFF → Int64 → Prop}  {t0 : Int64} {g : gFG} {f : gFF} {w : Int64} (hK243 : ∀  (ug : gFG) (uf : gFF) (uw : Int64), K243  ug uf uw → G 243 [some (.ref (ad 0))] [] (ug, uf, uw)) (h : wX12_next_j319 N K243 Q t0 g f w) : G 319 [some (.ref (ad 0))] [.long t0, .ref (ad 0)] (g, f, w) := by
  unfold wX12_next_j319 at h
  refine ptX12_199 (n := 322) hG dX12_next_319 rfl ?_
  refine s_aload_n (n := 323) hG dX12_next_322 rfl rfl ?_
  refine s_dup (n := 324) hG dX12_next_323 rfl rfl ?_
  refine gtX12_193 (n := 327) hG dX12_next_324 rfl ?_
  refine s_iconst (n := 328) hG dX12_next_327 ki_1 rfl ?_
  refine s_iadd (n := 329) hG dX12_next_328 rfl ?_
  refine s_topi (fun y329 hy329 => ?_)
  replace h := h y329 hy329
  refine ptX12_193 (n := 332) hG dX12_next_329 rfl ?_
  refine s_ng (fun g329 hg329 => ?_)
  replace h := h g329 hg329
  refine s_goto (tgt := 243) hG dX12_next_332 rfl ?_
  exact s_wk hG (hK243 _ _ _ h) ⟨rfl, trivial⟩
def wX12_next_l243 (N : Nat)   (Q : gFG → gFF → Int64 → Prop) : Nat → gFG → gFF → Int64 → Prop
  | 0, _, _, _ => False
  | n + 1, g, f, w => ((¬ (g 34) = 2) → Q g f w) ∧ (((g 34) = 2) → (((g 31) ≤ (g 33)) → Q g f w) ∧ ((¬ (g 31) ≤ (g 33)) → ∀ i270 : Int32, i270 = (g 33) → (vp_in i270 300) ∧ (wX12_isDigit N (f 20 i270.toNatClampNeg) g f w (fun r271 g271 f271 w271 => ((r271 = 0) → Q g271 f271 w271) ∧ ((¬ r271 = 0) → (((lg_cmp w271 1000) ≤ 0) → ∀ i312 : Int32, i312 = (g271 33) → (vp_in i312 300) ∧ (wX12_next_j319 N (wX12_next_l243 N   Q n) Q (((w271 * 10) + (f271 20 i312.toNatClampNeg).toInt64) - 48) g271 f271 w271)) ∧ ((¬ (lg_cmp w271 1000) ≤ 0) → wX12_next_j319 N (wX12_next_l243 N   Q n) Q w271 g271 f271 w271))))))
theorem sX12_next_l243 {G : gG} {Rt : Option Value → gSt → Prop} (hE : gInj layM ad ∧ gZok (gA layM ad) Z) (hG : gSim l D cs layM ad Z 2 RX12 cX12_next 1 none G Rt) {Q : gFG → gFF → Int64 → Prop} (hQ : ∀ v S, gMv Q v S → Rt v S) {N : Nat}     : ∀ (n : Nat)  (g : gFG) (f : gFF) (w : Int64), wX12_next_l243 N   Q n  g f w → G 243 [some (.ref (ad 0))] [] (g, f, w) := by
  intro n
  induction n with
  | zero => intro _ _ _ h; unfold wX12_next_l243 at h; exact h.elim
  | succ n ih =>
    intro  g f w h
    unfold wX12_next_l243 at h
    refine s_aload_n (n := 244) hG dX12_next_243 rfl rfl ?_
    refine gtX12_209 (n := 247) hG dX12_next_244 rfl ?_
    refine s_iconst (n := 248) hG dX12_next_247 ki_2 rfl ?_
    refine s_icmp_ne (n := 251) (tgt := 335) hG dX12_next_248 rfl rfl (fun c => ?_) (fun c => ?_)
    · replace h := h.1 c
      exact s_vret hG dX12_next_335 (hQ _ _ ⟨_, _, _, rfl, rfl, h⟩)
    · replace h := h.2 c
      refine s_aload_n (n := 252) hG dX12_next_251 rfl rfl ?_
      refine gtX12_193 (n := 255) hG dX12_next_252 rfl ?_
      refine s_aload_n (n := 256) hG dX12_next_255 rfl rfl ?_
      refine gtX12_187 (n := 259) hG dX12_next_256 rfl ?_
      refine s_icmp_ge (n := 262) (tgt := 335) hG dX12_next_259 rfl rfl (fun c => ?_) (fun c => ?_)
      · replace h := h.1 c
        exact s_vret hG dX12_next_335 (hQ _ _ ⟨_, _, _, rfl, rfl, h⟩)
      · replace h := h.2 c
        refine s_aload_n (n := 263) hG dX12_next_262 rfl rfl ?_
        refine gtX12_78 (n := 266) hG dX12_next_263 rfl ?_
        refine s_aload_n (n := 267) hG dX12_next_266 rfl rfl ?_
        refine gtX12_193 (n := 270) hG dX12_next_267 rfl ?_
        refine s_topi (fun i270 hi270 => ?_)
        replace h := h i270 hi270
        obtain ⟨hin, h⟩ := h
        refine s_iald (n := 271) hG dX12_next_270 (gaM_20 hin) rfl ?_
        refine s_callS (n := 274) (st := []) hG (mX12_isDigit hE h) ceX12_isDigit lmX12_206 rfl ⟨rfl, Nat.le_of_ble_eq_true rfl, by decide⟩ dX12_next_271 rfl ?_
        rintro _ _ ⟨r271, g271, f271, w271, rfl, rfl, h⟩
        refine s_if_eq (n := 277) (tgt := 335) hG dX12_next_274 rfl rfl (fun c => ?_) (fun c => ?_)
        · replace h := h.1 c
          exact s_vret hG dX12_next_335 (hQ _ _ ⟨_, _, _, rfl, rfl, h⟩)
        · replace h := h.2 c
          refine s_aload_n (n := 278) hG dX12_next_277 rfl rfl ?_
          refine s_aload_n (n := 279) hG dX12_next_278 rfl rfl ?_
          refine gtX12_199 (n := 282) hG dX12_next_279 rfl ?_
          refine s_ldc2_w (n := 285) hG dX12_next_282 lcX12_176 rfl ?_
          refine s_lcmp (n := 286) hG dX12_next_285 rfl ?_
          refine s_if_le (n := 289) (tgt := 296) hG dX12_next_286 rfl rfl (fun c => ?_) (fun c => ?_)
          · replace h := h.1 c
            refine s_aload_n (n := 297) hG dX12_next_296 rfl rfl ?_
            refine gtX12_199 (n := 300) hG dX12_next_297 rfl ?_
            refine s_ldc2_w (n := 303) hG dX12_next_300 lcX12_122 rfl ?_
            refine s_lmul (n := 304) hG dX12_next_303 rfl ?_
            refine s_aload_n (n := 305) hG dX12_next_304 rfl rfl ?_
            refine gtX12_78 (n := 308) hG dX12_next_305 rfl ?_
            refine s_aload_n (n := 309) hG dX12_next_308 rfl rfl ?_
            refine gtX12_193 (n := 312) hG dX12_next_309 rfl ?_
            refine s_topi (fun i312 hi312 => ?_)
            replace h := h i312 hi312
            obtain ⟨hin, h⟩ := h
            refine s_iald (n := 313) hG dX12_next_312 (gaM_20 hin) rfl ?_
            refine s_i2l (n := 314) hG dX12_next_313 rfl ?_
            refine s_ladd (n := 315) hG dX12_next_314 rfl ?_
            refine s_ldc2_w (n := 318) hG dX12_next_315 lcX12_218 rfl ?_
            refine s_lsub (n := 319) hG dX12_next_318 rfl ?_
            exact s_wk hG (sX12_next_j319 hE hG hQ ih h) ⟨rfl, trivial⟩
          · replace h := h.2 c
            refine s_aload_n (n := 290) hG dX12_next_289 rfl rfl ?_
            refine gtX12_199 (n := 293) hG dX12_next_290 rfl ?_
            refine s_goto (tgt := 319) hG dX12_next_293 rfl ?_
            exact s_wk hG (sX12_next_j319 hE hG hQ ih h) ⟨rfl, trivial⟩
def wX12_next_j227 (N : Nat) (K149 : gFG → gFF → Int64 → Prop) (Q : gFG → gFF → Int64 → Prop) (t0 : Int64) (g : gFG) (f : gFF) (w : Int64) : Prop := ∀ y237 : Int32, y237 = ((g 33) + 1) → ∀ g237 : gFG, g237 = (va_up g 33 y237) → K149 g237 f t0
theorem sX12_next_j227 {G : gG} {Rt : Option Value → gSt → Prop} (hE : gInj layM ad ∧ gZok (gA layM ad) Z) (hG : gSim l D cs layM ad Z 2 RX12 cX12_next 1 none G Rt) {Q : gFG → gFF → Int64 → Prop} (hQ : ∀ v S, gMv Q v S → Rt v S) {N : Nat} {K149 : gFG → gFF → Int64 → Prop}  {t0 : Int64} {g : gFG} {f : gFF} {w : Int64} (hK149 : ∀  (ug : gFG) (uf : gFF) (uw : Int64), K149  ug uf uw → G 149 [some (.ref (ad 0))] [] (ug, uf, uw)) (h : wX12_next_j227 N K149 Q t0 g f w) : G 227 [some (.ref (ad 0))] [.long t0, .ref (ad 0)] (g, f, w) := by
  unfold wX12_next_j227 at h
  refine ptX12_199 (n := 230) hG dX12_next_227 rfl ?_
  refine s_aload_n (n := 231) hG dX12_next_230 rfl rfl ?_
  refine s_dup (n := 232) hG dX12_next_231 rfl rfl ?_
  refine gtX12_193 (n := 235) hG dX12_next_232 rfl ?_
  refine s_iconst (n := 236) hG dX12_next_235 ki_1 rfl ?_
  refine s_iadd (n := 237) hG dX12_next_236 rfl ?_
  refine s_topi (fun y237 hy237 => ?_)
  replace h := h y237 hy237
  refine ptX12_193 (n := 240) hG dX12_next_237 rfl ?_
  refine s_ng (fun g237 hg237 => ?_)
  replace h := h g237 hg237
  refine s_goto (tgt := 149) hG dX12_next_240 rfl ?_
  exact s_wk hG (hK149 _ _ _ h) ⟨rfl, trivial⟩
def wX12_next_l149 (N : Nat)   (Q : gFG → gFF → Int64 → Prop) : Nat → gFG → gFF → Int64 → Prop
  | 0, _, _, _ => False
  | n + 1, g, f, w => ((¬ (g 34) = 1) → wX12_next_l243 N  Q N g f w) ∧ (((g 34) = 1) → (((g 31) ≤ (g 33)) → wX12_next_l243 N  Q N g f w) ∧ ((¬ (g 31) ≤ (g 33)) → ∀ i176 : Int32, i176 = (g 33) → (vp_in i176 300) ∧ (wX12_isSmall N (f 20 i176.toNatClampNeg) g f w (fun r177 g177 f177 w177 => ((r177 = 0) → wX12_next_l243 N  Q N g177 f177 w177) ∧ ((¬ r177 = 0) → ((8 ≤ ((g177 33) - (g177 32))) → wX12_next_j227 N (wX12_next_l149 N   Q n) Q (-1) g177 f177 w177) ∧ ((¬ 8 ≤ ((g177 33) - (g177 32))) → ∀ i214 : Int32, i214 = (g177 33) → (vp_in i214 300) ∧ (wX12_next_j227 N (wX12_next_l149 N   Q n) Q (((w177 * 32) + (f177 20 i214.toNatClampNeg).toInt64) - 96) g177 f177 w177)))))))
theorem sX12_next_l149 {G : gG} {Rt : Option Value → gSt → Prop} (hE : gInj layM ad ∧ gZok (gA layM ad) Z) (hG : gSim l D cs layM ad Z 2 RX12 cX12_next 1 none G Rt) {Q : gFG → gFF → Int64 → Prop} (hQ : ∀ v S, gMv Q v S → Rt v S) {N : Nat}     : ∀ (n : Nat)  (g : gFG) (f : gFF) (w : Int64), wX12_next_l149 N   Q n  g f w → G 149 [some (.ref (ad 0))] [] (g, f, w) := by
  intro n
  induction n with
  | zero => intro _ _ _ h; unfold wX12_next_l149 at h; exact h.elim
  | succ n ih =>
    intro  g f w h
    unfold wX12_next_l149 at h
    refine s_aload_n (n := 150) hG dX12_next_149 rfl rfl ?_
    refine gtX12_209 (n := 153) hG dX12_next_150 rfl ?_
    refine s_iconst (n := 154) hG dX12_next_153 ki_1 rfl ?_
    refine s_icmp_ne (n := 157) (tgt := 243) hG dX12_next_154 rfl rfl (fun c => ?_) (fun c => ?_)
    · replace h := h.1 c
      exact s_wk hG (sX12_next_l243 hE hG hQ  N _ _ _ h) ⟨rfl, trivial⟩
    · replace h := h.2 c
      refine s_aload_n (n := 158) hG dX12_next_157 rfl rfl ?_
      refine gtX12_193 (n := 161) hG dX12_next_158 rfl ?_
      refine s_aload_n (n := 162) hG dX12_next_161 rfl rfl ?_
      refine gtX12_187 (n := 165) hG dX12_next_162 rfl ?_
      refine s_icmp_ge (n := 168) (tgt := 243) hG dX12_next_165 rfl rfl (fun c => ?_) (fun c => ?_)
      · replace h := h.1 c
        exact s_wk hG (sX12_next_l243 hE hG hQ  N _ _ _ h) ⟨rfl, trivial⟩
      · replace h := h.2 c
        refine s_aload_n (n := 169) hG dX12_next_168 rfl rfl ?_
        refine gtX12_78 (n := 172) hG dX12_next_169 rfl ?_
        refine s_aload_n (n := 173) hG dX12_next_172 rfl rfl ?_
        refine gtX12_193 (n := 176) hG dX12_next_173 rfl ?_
        refine s_topi (fun i176 hi176 => ?_)
        replace h := h i176 hi176
        obtain ⟨hin, h⟩ := h
        refine s_iald (n := 177) hG dX12_next_176 (gaM_20 hin) rfl ?_
        refine s_callS (n := 180) (st := []) hG (mX12_isSmall hE h) ceX12_isSmall lmX12_203 rfl ⟨rfl, Nat.le_of_ble_eq_true rfl, by decide⟩ dX12_next_177 rfl ?_
        rintro _ _ ⟨r177, g177, f177, w177, rfl, rfl, h⟩
        refine s_if_eq (n := 183) (tgt := 243) hG dX12_next_180 rfl rfl (fun c => ?_) (fun c => ?_)
        · replace h := h.1 c
          exact s_wk hG (sX12_next_l243 hE hG hQ  N _ _ _ h) ⟨rfl, trivial⟩
        · replace h := h.2 c
          refine s_aload_n (n := 184) hG dX12_next_183 rfl rfl ?_
          refine s_aload_n (n := 185) hG dX12_next_184 rfl rfl ?_
          refine gtX12_193 (n := 188) hG dX12_next_185 rfl ?_
          refine s_aload_n (n := 189) hG dX12_next_188 rfl rfl ?_
          refine gtX12_196 (n := 192) hG dX12_next_189 rfl ?_
          refine s_isub (n := 193) hG dX12_next_192 rfl ?_
          refine s_bipush (n := 195) hG dX12_next_193 kb_8 rfl ?_
          refine s_icmp_ge (n := 198) (tgt := 224) hG dX12_next_195 rfl rfl (fun c => ?_) (fun c => ?_)
          · replace h := h.1 c
            refine s_ldc2_w (n := 227) hG dX12_next_224 lcX12_216 rfl ?_
            exact s_wk hG (sX12_next_j227 hE hG hQ ih h) ⟨rfl, trivial⟩
          · replace h := h.2 c
            refine s_aload_n (n := 199) hG dX12_next_198 rfl rfl ?_
            refine gtX12_199 (n := 202) hG dX12_next_199 rfl ?_
            refine s_ldc2_w (n := 205) hG dX12_next_202 lcX12_212 rfl ?_
            refine s_lmul (n := 206) hG dX12_next_205 rfl ?_
            refine s_aload_n (n := 207) hG dX12_next_206 rfl rfl ?_
            refine gtX12_78 (n := 210) hG dX12_next_207 rfl ?_
            refine s_aload_n (n := 211) hG dX12_next_210 rfl rfl ?_
            refine gtX12_193 (n := 214) hG dX12_next_211 rfl ?_
            refine s_topi (fun i214 hi214 => ?_)
            replace h := h i214 hi214
            obtain ⟨hin, h⟩ := h
            refine s_iald (n := 215) hG dX12_next_214 (gaM_20 hin) rfl ?_
            refine s_i2l (n := 216) hG dX12_next_215 rfl ?_
            refine s_ladd (n := 217) hG dX12_next_216 rfl ?_
            refine s_ldc2_w (n := 220) hG dX12_next_217 lcX12_214 rfl ?_
            refine s_lsub (n := 221) hG dX12_next_220 rfl ?_
            refine s_goto (tgt := 227) hG dX12_next_221 rfl ?_
            exact s_wk hG (sX12_next_j227 hE hG hQ ih h) ⟨rfl, trivial⟩
def wX12_next_j114 (N : Nat)  (Q : gFG → gFF → Int64 → Prop) (t0 : Int32) (g : gFG) (f : gFF) (w : Int64) : Prop := ∀ g114 : gFG, g114 = (va_up g 34 t0) → ((¬ (g114 34) = 3) → wX12_next_l149 N  Q N g114 f w) ∧ (((g114 34) = 3) → ∀ i134 : Int32, i134 = (g114 32) → (vp_in i134 300) ∧ (∀ y136 : Int64, y136 = (f 20 i134.toNatClampNeg).toInt64 → ∀ y146 : Int32, y146 = ((g114 33) + 1) → ∀ g146 : gFG, g146 = (va_up g114 33 y146) → wX12_next_l149 N  Q N g146 f y136))
theorem sX12_next_j114 {G : gG} {Rt : Option Value → gSt → Prop} (hE : gInj layM ad ∧ gZok (gA layM ad) Z) (hG : gSim l D cs layM ad Z 2 RX12 cX12_next 1 none G Rt) {Q : gFG → gFF → Int64 → Prop} (hQ : ∀ v S, gMv Q v S → Rt v S) {N : Nat}   {t0 : Int32} {g : gFG} {f : gFF} {w : Int64}  (h : wX12_next_j114 N  Q t0 g f w) : G 114 [some (.ref (ad 0))] [.int t0, .ref (ad 0)] (g, f, w) := by
  unfold wX12_next_j114 at h
  refine ptX12_209 (n := 117) hG dX12_next_114 rfl ?_
  refine s_ng (fun g114 hg114 => ?_)
  replace h := h g114 hg114
  refine s_aload_n (n := 118) hG dX12_next_117 rfl rfl ?_
  refine gtX12_209 (n := 121) hG dX12_next_118 rfl ?_
  refine s_iconst (n := 122) hG dX12_next_121 ki_3 rfl ?_
  refine s_icmp_ne (n := 125) (tgt := 149) hG dX12_next_122 rfl rfl (fun c => ?_) (fun c => ?_)
  · replace h := h.1 c
    exact s_wk hG (sX12_next_l149 hE hG hQ  N _ _ _ h) ⟨rfl, trivial⟩
  · replace h := h.2 c
    refine s_aload_n (n := 126) hG dX12_next_125 rfl rfl ?_
    refine s_aload_n (n := 127) hG dX12_next_126 rfl rfl ?_
    refine gtX12_78 (n := 130) hG dX12_next_127 rfl ?_
    refine s_aload_n (n := 131) hG dX12_next_130 rfl rfl ?_
    refine gtX12_196 (n := 134) hG dX12_next_131 rfl ?_
    refine s_topi (fun i134 hi134 => ?_)
    replace h := h i134 hi134
    obtain ⟨hin, h⟩ := h
    refine s_iald (n := 135) hG dX12_next_134 (gaM_20 hin) rfl ?_
    refine s_i2l (n := 136) hG dX12_next_135 rfl ?_
    refine s_topl (fun y136 hy136 => ?_)
    replace h := h y136 hy136
    refine ptX12_199 (n := 139) hG dX12_next_136 rfl ?_
    refine s_aload_n (n := 140) hG dX12_next_139 rfl rfl ?_
    refine s_dup (n := 141) hG dX12_next_140 rfl rfl ?_
    refine gtX12_193 (n := 144) hG dX12_next_141 rfl ?_
    refine s_iconst (n := 145) hG dX12_next_144 ki_1 rfl ?_
    refine s_iadd (n := 146) hG dX12_next_145 rfl ?_
    refine s_topi (fun y146 hy146 => ?_)
    replace h := h y146 hy146
    refine ptX12_193 (n := 149) hG dX12_next_146 rfl ?_
    refine s_ng (fun g146 hg146 => ?_)
    replace h := h g146 hg146
    exact s_wk hG (sX12_next_l149 hE hG hQ  N _ _ _ h) ⟨rfl, trivial⟩
def wX12_next_j46 (N : Nat)  (Q : gFG → gFF → Int64 → Prop)  (g : gFG) (f : gFF) (w : Int64) : Prop := ∀ y51 : Int32, y51 = (g 32) → ∀ g51 : gFG, g51 = (va_up g 33 y51) → ((¬ (g51 32) = (g51 31)) → ∀ i83 : Int32, i83 = (g51 32) → (vp_in i83 300) ∧ (wX12_isSmall N (f 20 i83.toNatClampNeg) g51 f 0 (fun r84 g84 f84 w84 => ((r84 = 0) → ∀ i102 : Int32, i102 = (g84 32) → (vp_in i102 300) ∧ (wX12_isDigit N (f84 20 i102.toNatClampNeg) g84 f84 w84 (fun r103 g103 f103 w103 => ((r103 = 0) → wX12_next_j114 N  Q 3 g103 f103 w103) ∧ ((¬ r103 = 0) → wX12_next_j114 N  Q 2 g103 f103 w103)))) ∧ ((¬ r84 = 0) → wX12_next_j114 N  Q 1 g84 f84 w84)))) ∧ (((g51 32) = (g51 31)) → wX12_next_j114 N  Q 0 g51 f 0)
theorem sX12_next_j46 {G : gG} {Rt : Option Value → gSt → Prop} (hE : gInj layM ad ∧ gZok (gA layM ad) Z) (hG : gSim l D cs layM ad Z 2 RX12 cX12_next 1 none G Rt) {Q : gFG → gFF → Int64 → Prop} (hQ : ∀ v S, gMv Q v S → Rt v S) {N : Nat}    {g : gFG} {f : gFF} {w : Int64}  (h : wX12_next_j46 N  Q  g f w) : G 46 [some (.ref (ad 0))] [] (g, f, w) := by
  unfold wX12_next_j46 at h
  refine s_aload_n (n := 47) hG dX12_next_46 rfl rfl ?_
  refine s_aload_n (n := 48) hG dX12_next_47 rfl rfl ?_
  refine gtX12_196 (n := 51) hG dX12_next_48 rfl ?_
  refine s_topi (fun y51 hy51 => ?_)
  replace h := h y51 hy51
  refine ptX12_193 (n := 54) hG dX12_next_51 rfl ?_
  refine s_ng (fun g51 hg51 => ?_)
  replace h := h g51 hg51
  refine s_aload_n (n := 55) hG dX12_next_54 rfl rfl ?_
  refine s_lconst (n := 56) hG dX12_next_55 kl_0 rfl ?_
  refine ptX12_199 (n := 59) hG dX12_next_56 rfl ?_
  refine s_aload_n (n := 60) hG dX12_next_59 rfl rfl ?_
  refine s_aload_n (n := 61) hG dX12_next_60 rfl rfl ?_
  refine gtX12_196 (n := 64) hG dX12_next_61 rfl ?_
  refine s_aload_n (n := 65) hG dX12_next_64 rfl rfl ?_
  refine gtX12_187 (n := 68) hG dX12_next_65 rfl ?_
  refine s_icmp_ne (n := 71) (tgt := 75) hG dX12_next_68 rfl rfl (fun c => ?_) (fun c => ?_)
  · replace h := h.1 c
    refine s_aload_n (n := 76) hG dX12_next_75 rfl rfl ?_
    refine gtX12_78 (n := 79) hG dX12_next_76 rfl ?_
    refine s_aload_n (n := 80) hG dX12_next_79 rfl rfl ?_
    refine gtX12_196 (n := 83) hG dX12_next_80 rfl ?_
    refine s_topi (fun i83 hi83 => ?_)
    replace h := h i83 hi83
    obtain ⟨hin, h⟩ := h
    refine s_iald (n := 84) hG dX12_next_83 (gaM_20 hin) rfl ?_
    refine s_callS (n := 87) (st := [.ref (ad 0)]) hG (mX12_isSmall hE h) ceX12_isSmall lmX12_203 rfl ⟨rfl, Nat.le_of_ble_eq_true rfl, by decide⟩ dX12_next_84 rfl ?_
    rintro _ _ ⟨r84, g84, f84, w84, rfl, rfl, h⟩
    refine s_if_eq (n := 90) (tgt := 94) hG dX12_next_87 rfl rfl (fun c => ?_) (fun c => ?_)
    · replace h := h.1 c
      refine s_aload_n (n := 95) hG dX12_next_94 rfl rfl ?_
      refine gtX12_78 (n := 98) hG dX12_next_95 rfl ?_
      refine s_aload_n (n := 99) hG dX12_next_98 rfl rfl ?_
      refine gtX12_196 (n := 102) hG dX12_next_99 rfl ?_
      refine s_topi (fun i102 hi102 => ?_)
      replace h := h i102 hi102
      obtain ⟨hin, h⟩ := h
      refine s_iald (n := 103) hG dX12_next_102 (gaM_20 hin) rfl ?_
      refine s_callS (n := 106) (st := [.ref (ad 0)]) hG (mX12_isDigit hE h) ceX12_isDigit lmX12_206 rfl ⟨rfl, Nat.le_of_ble_eq_true rfl, by decide⟩ dX12_next_103 rfl ?_
      rintro _ _ ⟨r103, g103, f103, w103, rfl, rfl, h⟩
      refine s_if_eq (n := 109) (tgt := 113) hG dX12_next_106 rfl rfl (fun c => ?_) (fun c => ?_)
      · replace h := h.1 c
        refine s_iconst (n := 114) hG dX12_next_113 ki_3 rfl ?_
        exact s_wk hG (sX12_next_j114 hE hG hQ  h) ⟨rfl, trivial⟩
      · replace h := h.2 c
        refine s_iconst (n := 110) hG dX12_next_109 ki_2 rfl ?_
        refine s_goto (tgt := 114) hG dX12_next_110 rfl ?_
        exact s_wk hG (sX12_next_j114 hE hG hQ  h) ⟨rfl, trivial⟩
    · replace h := h.2 c
      refine s_iconst (n := 91) hG dX12_next_90 ki_1 rfl ?_
      refine s_goto (tgt := 114) hG dX12_next_91 rfl ?_
      exact s_wk hG (sX12_next_j114 hE hG hQ  h) ⟨rfl, trivial⟩
  · replace h := h.2 c
    refine s_iconst (n := 72) hG dX12_next_71 ki_0 rfl ?_
    refine s_goto (tgt := 114) hG dX12_next_72 rfl ?_
    exact s_wk hG (sX12_next_j114 hE hG hQ  h) ⟨rfl, trivial⟩
def wX12_next_l8 (N : Nat)   (Q : gFG → gFF → Int64 → Prop) : Nat → gFG → gFF → Int64 → Prop
  | 0, _, _, _ => False
  | n + 1, g, f, w => (((g 31) ≤ (g 32)) → wX12_next_j46 N  Q g f w) ∧ ((¬ (g 31) ≤ (g 32)) → ∀ i27 : Int32, i27 = (g 32) → (vp_in i27 300) ∧ (((¬ (f 20 i27.toNatClampNeg) = 32) → wX12_next_j46 N  Q g f w) ∧ (((f 20 i27.toNatClampNeg) = 32) → ∀ y40 : Int32, y40 = ((g 32) + 1) → ∀ g40 : gFG, g40 = (va_up g 32 y40) → wX12_next_l8 N   Q n g40 f w)))
theorem sX12_next_l8 {G : gG} {Rt : Option Value → gSt → Prop} (hE : gInj layM ad ∧ gZok (gA layM ad) Z) (hG : gSim l D cs layM ad Z 2 RX12 cX12_next 1 none G Rt) {Q : gFG → gFF → Int64 → Prop} (hQ : ∀ v S, gMv Q v S → Rt v S) {N : Nat}     : ∀ (n : Nat)  (g : gFG) (f : gFF) (w : Int64), wX12_next_l8 N   Q n  g f w → G 8 [some (.ref (ad 0))] [] (g, f, w) := by
  intro n
  induction n with
  | zero => intro _ _ _ h; unfold wX12_next_l8 at h; exact h.elim
  | succ n ih =>
    intro  g f w h
    unfold wX12_next_l8 at h
    refine s_aload_n (n := 9) hG dX12_next_8 rfl rfl ?_
    refine gtX12_196 (n := 12) hG dX12_next_9 rfl ?_
    refine s_aload_n (n := 13) hG dX12_next_12 rfl rfl ?_
    refine gtX12_187 (n := 16) hG dX12_next_13 rfl ?_
    refine s_icmp_ge (n := 19) (tgt := 46) hG dX12_next_16 rfl rfl (fun c => ?_) (fun c => ?_)
    · replace h := h.1 c
      exact s_wk hG (sX12_next_j46 hE hG hQ  h) ⟨rfl, trivial⟩
    · replace h := h.2 c
      refine s_aload_n (n := 20) hG dX12_next_19 rfl rfl ?_
      refine gtX12_78 (n := 23) hG dX12_next_20 rfl ?_
      refine s_aload_n (n := 24) hG dX12_next_23 rfl rfl ?_
      refine gtX12_196 (n := 27) hG dX12_next_24 rfl ?_
      refine s_topi (fun i27 hi27 => ?_)
      replace h := h i27 hi27
      obtain ⟨hin, h⟩ := h
      refine s_iald (n := 28) hG dX12_next_27 (gaM_20 hin) rfl ?_
      refine s_bipush (n := 30) hG dX12_next_28 kb_32 rfl ?_
      refine s_icmp_ne (n := 33) (tgt := 46) hG dX12_next_30 rfl rfl (fun c => ?_) (fun c => ?_)
      · replace h := h.1 c
        exact s_wk hG (sX12_next_j46 hE hG hQ  h) ⟨rfl, trivial⟩
      · replace h := h.2 c
        refine s_aload_n (n := 34) hG dX12_next_33 rfl rfl ?_
        refine s_dup (n := 35) hG dX12_next_34 rfl rfl ?_
        refine gtX12_196 (n := 38) hG dX12_next_35 rfl ?_
        refine s_iconst (n := 39) hG dX12_next_38 ki_1 rfl ?_
        refine s_iadd (n := 40) hG dX12_next_39 rfl ?_
        refine s_topi (fun y40 hy40 => ?_)
        replace h := h y40 hy40
        refine ptX12_196 (n := 43) hG dX12_next_40 rfl ?_
        refine s_ng (fun g40 hg40 => ?_)
        replace h := h g40 hg40
        refine s_goto (tgt := 8) hG dX12_next_43 rfl ?_
        exact s_wk hG (ih _ _ _ h) ⟨rfl, trivial⟩
def wX12_next (N : Nat)  (g : gFG) (f : gFF) (w : Int64) (Q : gFG → gFF → Int64 → Prop) : Prop := ∀ y5 : Int32, y5 = (g 33) → ∀ g5 : gFG, g5 = (va_up g 32 y5) → wX12_next_l8 N  Q N g5 f w
theorem mX12_next (hE : gInj layM ad ∧ gZok (gA layM ad) Z) {N : Nat}  {g : gFG} {f : gFF} {w : Int64} {Q : gFG → gFF → Int64 → Prop} (h : wX12_next N  g f w Q) : gCT l D cs layM ad Z 2 yX12_next cX12_next 1 none [.ref (ad 0)] (g, f, w) (gMv Q) := by
  refine met_walk (lv0 := [some (.ref (ad 0))]) hE (by decide) (Nat.le_of_ble_eq_true rfl) rfl (fun G Rt hG hQ => ?_)
  replace hG : gSim l D cs layM ad Z 2 RX12 cX12_next 1 none G Rt := hG
  unfold wX12_next at h
  refine s_aload_n (n := 1) hG dX12_next_0 rfl rfl ?_
  refine s_aload_n (n := 2) hG dX12_next_1 rfl rfl ?_
  refine gtX12_193 (n := 5) hG dX12_next_2 rfl ?_
  refine s_topi (fun y5 hy5 => ?_)
  replace h := h y5 hy5
  refine ptX12_196 (n := 8) hG dX12_next_5 rfl ?_
  refine s_ng (fun g5 hg5 => ?_)
  replace h := h g5 hg5
  exact s_wk hG (sX12_next_l8 hE hG hQ  N _ _ _ h) ⟨rfl, trivial⟩
def wX12_isWord_j145 (N : Nat)  (Q : Int32 → gFG → gFF → Int64 → Prop) (t0 : Int64) (g : gFG) (f : gFF) (w : Int64) : Prop := ((¬ (g 34) = 1) → Q 0 g f w) ∧ (((g 34) = 1) → ((¬ (lg_cmp w t0) = 0) → Q 0 g f w) ∧ (((lg_cmp w t0) = 0) → Q 1 g f w))
theorem sX12_isWord_j145 {G : gG} {Rt : Option Value → gSt → Prop} (hE : gInj layM ad ∧ gZok (gA layM ad) Z) (hG : gSim l D cs layM ad Z 1 RX12 cX12_isWord 10 (some .boolean) G Rt) {Q : Int32 → gFG → gFF → Int64 → Prop} (hQ : ∀ v S, gMi Q v S → Rt v S) {N : Nat}   {t0 : Int64} {g : gFG} {f : gFF} {w : Int64}  (h : wX12_isWord_j145 N  Q t0 g f w) : G 145 [some (.ref (ad 0)), none, none, none, none, none, none, none, none, none] [.long t0] (g, f, w) := by
  unfold wX12_isWord_j145 at h
  refine s_lstore (n := 147) (lv2 := [some (.ref (ad 0)), none, none, none, none, none, none, none, some (.long t0), none]) hG dX12_isWord_145 rfl rfl rfl ?_
  refine s_aload_n (n := 148) hG dX12_isWord_147 rfl rfl ?_
  refine gtX12_209 (n := 151) hG dX12_isWord_148 rfl ?_
  refine s_iconst (n := 152) hG dX12_isWord_151 ki_1 rfl ?_
  refine s_icmp_ne (n := 155) (tgt := 169) hG dX12_isWord_152 rfl rfl (fun c => ?_) (fun c => ?_)
  · replace h := h.1 c
    refine s_iconst (n := 170) hG dX12_isWord_169 ki_0 rfl ?_
    exact s_zret hG dX12_isWord_170 (gz_n gz_0) (hQ _ _ ⟨_, _, _, _, rfl, rfl, h⟩)
  · replace h := h.2 c
    refine s_aload_n (n := 156) hG dX12_isWord_155 rfl rfl ?_
    refine gtX12_199 (n := 159) hG dX12_isWord_156 rfl ?_
    refine s_lload (n := 161) hG dX12_isWord_159 rfl rfl ?_
    refine s_lcmp (n := 162) hG dX12_isWord_161 rfl ?_
    refine s_if_ne (n := 165) (tgt := 169) hG dX12_isWord_162 rfl rfl (fun c => ?_) (fun c => ?_)
    · replace h := h.1 c
      refine s_iconst (n := 170) hG dX12_isWord_169 ki_0 rfl ?_
      exact s_zret hG dX12_isWord_170 (gz_n gz_0) (hQ _ _ ⟨_, _, _, _, rfl, rfl, h⟩)
    · replace h := h.2 c
      refine s_iconst (n := 166) hG dX12_isWord_165 ki_1 rfl ?_
      refine s_goto (tgt := 170) hG dX12_isWord_166 rfl ?_
      exact s_zret hG dX12_isWord_170 (gz_n gz_1) (hQ _ _ ⟨_, _, _, _, rfl, rfl, h⟩)
def wX12_isWord_j119 (N : Nat)  (Q : Int32 → gFG → gFF → Int64 → Prop) (v7 : Int32) (t0 : Int64) (g : gFG) (f : gFF) (w : Int64) : Prop := ((¬ v7 = 0) → wX12_isWord_j145 N  Q (((t0 * 32) + v7.toInt64) - 96) g f w) ∧ ((v7 = 0) → wX12_isWord_j145 N  Q t0 g f w)
theorem sX12_isWord_j119 {G : gG} {Rt : Option Value → gSt → Prop} (hE : gInj layM ad ∧ gZok (gA layM ad) Z) (hG : gSim l D cs layM ad Z 1 RX12 cX12_isWord 10 (some .boolean) G Rt) {Q : Int32 → gFG → gFF → Int64 → Prop} (hQ : ∀ v S, gMi Q v S → Rt v S) {N : Nat}   {v7 : Int32} {t0 : Int64} {g : gFG} {f : gFF} {w : Int64}  (h : wX12_isWord_j119 N  Q v7 t0 g f w) : G 119 [some (.ref (ad 0)), none, none, none, none, none, none, some (.int v7), none, none] [.long t0] (g, f, w) := by
  unfold wX12_isWord_j119 at h
  refine s_lstore (n := 121) (lv2 := [some (.ref (ad 0)), none, none, none, none, none, none, some (.int v7), some (.long t0), none]) hG dX12_isWord_119 rfl rfl rfl ?_
  refine s_iload (n := 123) hG dX12_isWord_121 rfl rfl ?_
  refine s_if_ne (n := 126) (tgt := 131) hG dX12_isWord_123 rfl rfl (fun c => ?_) (fun c => ?_)
  · replace h := h.1 c
    refine s_lload (n := 133) hG dX12_isWord_131 rfl rfl ?_
    refine s_ldc2_w (n := 136) hG dX12_isWord_133 lcX12_212 rfl ?_
    refine s_lmul (n := 137) hG dX12_isWord_136 rfl ?_
    refine s_iload (n := 139) hG dX12_isWord_137 rfl rfl ?_
    refine s_i2l (n := 140) hG dX12_isWord_139 rfl ?_
    refine s_ladd (n := 141) hG dX12_isWord_140 rfl ?_
    refine s_ldc2_w (n := 144) hG dX12_isWord_141 lcX12_214 rfl ?_
    refine s_lsub (n := 145) hG dX12_isWord_144 rfl ?_
    exact s_wk hG (sX12_isWord_j145 hE hG hQ  h) ⟨rfl, trivial⟩
  · replace h := h.2 c
    refine s_lload (n := 128) hG dX12_isWord_126 rfl rfl ?_
    refine s_goto (tgt := 145) hG dX12_isWord_128 rfl ?_
    exact s_wk hG (sX12_isWord_j145 hE hG hQ  h) ⟨rfl, trivial⟩
def wX12_isWord_j93 (N : Nat)  (Q : Int32 → gFG → gFF → Int64 → Prop) (v6 : Int32) (v7 : Int32) (t0 : Int64) (g : gFG) (f : gFF) (w : Int64) : Prop := ((¬ v6 = 0) → wX12_isWord_j119 N  Q v7 (((t0 * 32) + v6.toInt64) - 96) g f w) ∧ ((v6 = 0) → wX12_isWord_j119 N  Q v7 t0 g f w)
theorem sX12_isWord_j93 {G : gG} {Rt : Option Value → gSt → Prop} (hE : gInj layM ad ∧ gZok (gA layM ad) Z) (hG : gSim l D cs layM ad Z 1 RX12 cX12_isWord 10 (some .boolean) G Rt) {Q : Int32 → gFG → gFF → Int64 → Prop} (hQ : ∀ v S, gMi Q v S → Rt v S) {N : Nat}   {v6 : Int32} {v7 : Int32} {t0 : Int64} {g : gFG} {f : gFF} {w : Int64}  (h : wX12_isWord_j93 N  Q v6 v7 t0 g f w) : G 93 [some (.ref (ad 0)), none, none, none, none, none, some (.int v6), some (.int v7), none, none] [.long t0] (g, f, w) := by
  unfold wX12_isWord_j93 at h
  refine s_lstore (n := 95) (lv2 := [some (.ref (ad 0)), none, none, none, none, none, some (.int v6), some (.int v7), some (.long t0), none]) hG dX12_isWord_93 rfl rfl rfl ?_
  refine s_iload (n := 97) hG dX12_isWord_95 rfl rfl ?_
  refine s_if_ne (n := 100) (tgt := 105) hG dX12_isWord_97 rfl rfl (fun c => ?_) (fun c => ?_)
  · replace h := h.1 c
    refine s_lload (n := 107) hG dX12_isWord_105 rfl rfl ?_
    refine s_ldc2_w (n := 110) hG dX12_isWord_107 lcX12_212 rfl ?_
    refine s_lmul (n := 111) hG dX12_isWord_110 rfl ?_
    refine s_iload (n := 113) hG dX12_isWord_111 rfl rfl ?_
    refine s_i2l (n := 114) hG dX12_isWord_113 rfl ?_
    refine s_ladd (n := 115) hG dX12_isWord_114 rfl ?_
    refine s_ldc2_w (n := 118) hG dX12_isWord_115 lcX12_214 rfl ?_
    refine s_lsub (n := 119) hG dX12_isWord_118 rfl ?_
    exact s_wk hG (sX12_isWord_j119 hE hG hQ  h) ⟨rfl, rfl, trivial⟩
  · replace h := h.2 c
    refine s_lload (n := 102) hG dX12_isWord_100 rfl rfl ?_
    refine s_goto (tgt := 119) hG dX12_isWord_102 rfl ?_
    exact s_wk hG (sX12_isWord_j119 hE hG hQ  h) ⟨rfl, rfl, trivial⟩
def wX12_isWord_j67 (N : Nat)  (Q : Int32 → gFG → gFF → Int64 → Prop) (v5 : Int32) (v6 : Int32) (v7 : Int32) (t0 : Int64) (g : gFG) (f : gFF) (w : Int64) : Prop := ((¬ v5 = 0) → wX12_isWord_j93 N  Q v6 v7 (((t0 * 32) + v5.toInt64) - 96) g f w) ∧ ((v5 = 0) → wX12_isWord_j93 N  Q v6 v7 t0 g f w)
theorem sX12_isWord_j67 {G : gG} {Rt : Option Value → gSt → Prop} (hE : gInj layM ad ∧ gZok (gA layM ad) Z) (hG : gSim l D cs layM ad Z 1 RX12 cX12_isWord 10 (some .boolean) G Rt) {Q : Int32 → gFG → gFF → Int64 → Prop} (hQ : ∀ v S, gMi Q v S → Rt v S) {N : Nat}   {v5 : Int32} {v6 : Int32} {v7 : Int32} {t0 : Int64} {g : gFG} {f : gFF} {w : Int64}  (h : wX12_isWord_j67 N  Q v5 v6 v7 t0 g f w) : G 67 [some (.ref (ad 0)), none, none, none, none, some (.int v5), some (.int v6), some (.int v7), none, none] [.long t0] (g, f, w) := by
  unfold wX12_isWord_j67 at h
  refine s_lstore (n := 69) (lv2 := [some (.ref (ad 0)), none, none, none, none, some (.int v5), some (.int v6), some (.int v7), some (.long t0), none]) hG dX12_isWord_67 rfl rfl rfl ?_
  refine s_iload (n := 71) hG dX12_isWord_69 rfl rfl ?_
  refine s_if_ne (n := 74) (tgt := 79) hG dX12_isWord_71 rfl rfl (fun c => ?_) (fun c => ?_)
  · replace h := h.1 c
    refine s_lload (n := 81) hG dX12_isWord_79 rfl rfl ?_
    refine s_ldc2_w (n := 84) hG dX12_isWord_81 lcX12_212 rfl ?_
    refine s_lmul (n := 85) hG dX12_isWord_84 rfl ?_
    refine s_iload (n := 87) hG dX12_isWord_85 rfl rfl ?_
    refine s_i2l (n := 88) hG dX12_isWord_87 rfl ?_
    refine s_ladd (n := 89) hG dX12_isWord_88 rfl ?_
    refine s_ldc2_w (n := 92) hG dX12_isWord_89 lcX12_214 rfl ?_
    refine s_lsub (n := 93) hG dX12_isWord_92 rfl ?_
    exact s_wk hG (sX12_isWord_j93 hE hG hQ  h) ⟨rfl, rfl, rfl, trivial⟩
  · replace h := h.2 c
    refine s_lload (n := 76) hG dX12_isWord_74 rfl rfl ?_
    refine s_goto (tgt := 93) hG dX12_isWord_76 rfl ?_
    exact s_wk hG (sX12_isWord_j93 hE hG hQ  h) ⟨rfl, rfl, rfl, trivial⟩
def wX12_isWord_j41 (N : Nat)  (Q : Int32 → gFG → gFF → Int64 → Prop) (v4 : Int32) (v5 : Int32) (v6 : Int32) (v7 : Int32) (t0 : Int64) (g : gFG) (f : gFF) (w : Int64) : Prop := ((¬ v4 = 0) → wX12_isWord_j67 N  Q v5 v6 v7 (((t0 * 32) + v4.toInt64) - 96) g f w) ∧ ((v4 = 0) → wX12_isWord_j67 N  Q v5 v6 v7 t0 g f w)
theorem sX12_isWord_j41 {G : gG} {Rt : Option Value → gSt → Prop} (hE : gInj layM ad ∧ gZok (gA layM ad) Z) (hG : gSim l D cs layM ad Z 1 RX12 cX12_isWord 10 (some .boolean) G Rt) {Q : Int32 → gFG → gFF → Int64 → Prop} (hQ : ∀ v S, gMi Q v S → Rt v S) {N : Nat}   {v4 : Int32} {v5 : Int32} {v6 : Int32} {v7 : Int32} {t0 : Int64} {g : gFG} {f : gFF} {w : Int64}  (h : wX12_isWord_j41 N  Q v4 v5 v6 v7 t0 g f w) : G 41 [some (.ref (ad 0)), none, none, none, some (.int v4), some (.int v5), some (.int v6), some (.int v7), none, none] [.long t0] (g, f, w) := by
  unfold wX12_isWord_j41 at h
  refine s_lstore (n := 43) (lv2 := [some (.ref (ad 0)), none, none, none, some (.int v4), some (.int v5), some (.int v6), some (.int v7), some (.long t0), none]) hG dX12_isWord_41 rfl rfl rfl ?_
  refine s_iload (n := 45) hG dX12_isWord_43 rfl rfl ?_
  refine s_if_ne (n := 48) (tgt := 53) hG dX12_isWord_45 rfl rfl (fun c => ?_) (fun c => ?_)
  · replace h := h.1 c
    refine s_lload (n := 55) hG dX12_isWord_53 rfl rfl ?_
    refine s_ldc2_w (n := 58) hG dX12_isWord_55 lcX12_212 rfl ?_
    refine s_lmul (n := 59) hG dX12_isWord_58 rfl ?_
    refine s_iload (n := 61) hG dX12_isWord_59 rfl rfl ?_
    refine s_i2l (n := 62) hG dX12_isWord_61 rfl ?_
    refine s_ladd (n := 63) hG dX12_isWord_62 rfl ?_
    refine s_ldc2_w (n := 66) hG dX12_isWord_63 lcX12_214 rfl ?_
    refine s_lsub (n := 67) hG dX12_isWord_66 rfl ?_
    exact s_wk hG (sX12_isWord_j67 hE hG hQ  h) ⟨rfl, rfl, rfl, rfl, trivial⟩
  · replace h := h.2 c
    refine s_lload (n := 50) hG dX12_isWord_48 rfl rfl ?_
    refine s_goto (tgt := 67) hG dX12_isWord_50 rfl ?_
    exact s_wk hG (sX12_isWord_j67 hE hG hQ  h) ⟨rfl, rfl, rfl, rfl, trivial⟩
def wX12_isWord (N : Nat) (a1 : Int32) (a2 : Int32) (a3 : Int32) (a4 : Int32) (a5 : Int32) (a6 : Int32) (a7 : Int32) (g : gFG) (f : gFF) (w : Int64) (Q : Int32 → gFG → gFF → Int64 → Prop) : Prop := ∀ x8_17 : Int64, x8_17 = ((((a1.toInt64 - 96) * 32) + a2.toInt64) - 96) → ((¬ a3 = 0) → wX12_isWord_j41 N  Q a4 a5 a6 a7 (((x8_17 * 32) + a3.toInt64) - 96) g f w) ∧ ((a3 = 0) → wX12_isWord_j41 N  Q a4 a5 a6 a7 x8_17 g f w)
theorem mX12_isWord (hE : gInj layM ad ∧ gZok (gA layM ad) Z) {N : Nat} {a1 : Int32} {a2 : Int32} {a3 : Int32} {a4 : Int32} {a5 : Int32} {a6 : Int32} {a7 : Int32} {g : gFG} {f : gFF} {w : Int64} {Q : Int32 → gFG → gFF → Int64 → Prop} (h : wX12_isWord N a1 a2 a3 a4 a5 a6 a7 g f w Q) : gCT l D cs layM ad Z 1 yX12_isWord cX12_isWord 10 (some .boolean) [.ref (ad 0), .int a1, .int a2, .int a3, .int a4, .int a5, .int a6, .int a7] (g, f, w) (gMi Q) := by
  refine met_walk (lv0 := [some (.ref (ad 0)), some (.int a1), some (.int a2), some (.int a3), some (.int a4), some (.int a5), some (.int a6), some (.int a7), none, none]) hE (by decide) (Nat.le_of_ble_eq_true rfl) rfl (fun G Rt hG hQ => ?_)
  replace hG : gSim l D cs layM ad Z 1 RX12 cX12_isWord 10 (some .boolean) G Rt := hG
  unfold wX12_isWord at h
  refine s_iload_n (n := 1) hG dX12_isWord_0 rfl rfl ?_
  refine s_i2l (n := 2) hG dX12_isWord_1 rfl ?_
  refine s_ldc2_w (n := 5) hG dX12_isWord_2 lcX12_214 rfl ?_
  refine s_lsub (n := 6) hG dX12_isWord_5 rfl ?_
  refine s_ldc2_w (n := 9) hG dX12_isWord_6 lcX12_212 rfl ?_
  refine s_lmul (n := 10) hG dX12_isWord_9 rfl ?_
  refine s_iload_n (n := 11) hG dX12_isWord_10 rfl rfl ?_
  refine s_i2l (n := 12) hG dX12_isWord_11 rfl ?_
  refine s_ladd (n := 13) hG dX12_isWord_12 rfl ?_
  refine s_ldc2_w (n := 16) hG dX12_isWord_13 lcX12_214 rfl ?_
  refine s_lsub (n := 17) hG dX12_isWord_16 rfl ?_
  refine s_topl (fun x8_17 hx8_17 => ?_)
  replace h := h x8_17 hx8_17
  refine s_lstore (n := 19) (lv2 := [some (.ref (ad 0)), some (.int a1), some (.int a2), some (.int a3), some (.int a4), some (.int a5), some (.int a6), some (.int a7), some (.long x8_17), none]) hG dX12_isWord_17 rfl rfl rfl ?_
  refine s_iload_n (n := 20) hG dX12_isWord_19 rfl rfl ?_
  refine s_if_ne (n := 23) (tgt := 28) hG dX12_isWord_20 rfl rfl (fun c => ?_) (fun c => ?_)
  · replace h := h.1 c
    refine s_lload (n := 30) hG dX12_isWord_28 rfl rfl ?_
    refine s_ldc2_w (n := 33) hG dX12_isWord_30 lcX12_212 rfl ?_
    refine s_lmul (n := 34) hG dX12_isWord_33 rfl ?_
    refine s_iload_n (n := 35) hG dX12_isWord_34 rfl rfl ?_
    refine s_i2l (n := 36) hG dX12_isWord_35 rfl ?_
    refine s_ladd (n := 37) hG dX12_isWord_36 rfl ?_
    refine s_ldc2_w (n := 40) hG dX12_isWord_37 lcX12_214 rfl ?_
    refine s_lsub (n := 41) hG dX12_isWord_40 rfl ?_
    exact s_wk hG (sX12_isWord_j41 hE hG hQ  h) ⟨rfl, rfl, rfl, rfl, rfl, trivial⟩
  · replace h := h.2 c
    refine s_lload (n := 25) hG dX12_isWord_23 rfl rfl ?_
    refine s_goto (tgt := 41) hG dX12_isWord_25 rfl ?_
    exact s_wk hG (sX12_isWord_j41 hE hG hQ  h) ⟨rfl, rfl, rfl, rfl, rfl, trivial⟩
def wX12_must_j24 (N : Nat)  (Q : gFG → gFF → Int64 → Prop)  (g : gFG) (f : gFF) (w : Int64) : Prop := ((¬ (g 37) = 0) → Q g f w) ∧ (((g 37) = 0) → wX12_next N g f w (fun g32 f32 w32 => Q g32 f32 w32))
theorem sX12_must_j24 {G : gG} {Rt : Option Value → gSt → Prop} (hE : gInj layM ad ∧ gZok (gA layM ad) Z) (hG : gSim l D cs layM ad Z 3 RX12 cX12_must 2 none G Rt) {Q : gFG → gFF → Int64 → Prop} (hQ : ∀ v S, gMv Q v S → Rt v S) {N : Nat}    {g : gFG} {f : gFF} {w : Int64}  (h : wX12_must_j24 N  Q  g f w) : G 24 [some (.ref (ad 0)), none] [] (g, f, w) := by
  unfold wX12_must_j24 at h
  refine s_aload_n (n := 25) hG dX12_must_24 rfl rfl ?_
  refine gtX12_220 (n := 28) hG dX12_must_25 rfl ?_
  refine s_if_ne (n := 31) (tgt := 35) hG dX12_must_28 rfl rfl (fun c => ?_) (fun c => ?_)
  · replace h := h.1 c
    exact s_vret hG dX12_must_35 (hQ _ _ ⟨_, _, _, rfl, rfl, h⟩)
  · replace h := h.2 c
    refine s_aload_n (n := 32) hG dX12_must_31 rfl rfl ?_
    refine s_callV (n := 35) (st := []) hG (mX12_next hE h) ceX12_next lmX12_224 ⟨by decide, rfl, rfl⟩ rfl ⟨rfl, Nat.le_of_ble_eq_true rfl, by decide⟩ dX12_must_32 rfl ?_
    rintro _ _ ⟨g32, f32, w32, rfl, rfl, h⟩
    exact s_vret hG dX12_must_35 (hQ _ _ ⟨_, _, _, rfl, rfl, h⟩)
def wX12_must (N : Nat) (a1 : Int32) (g : gFG) (f : gFF) (w : Int64) (Q : gFG → gFF → Int64 → Prop) : Prop := ((¬ (g 37) = 0) → wX12_must_j24 N  Q g f w) ∧ (((g 37) = 0) → ((¬ a1 = 0) → wX12_must_j24 N  Q g f w) ∧ ((a1 = 0) → ∀ g13 : gFG, g13 = (va_up g 37 1) → ∀ y21 : Int32, y21 = (g13 32) → ∀ g21 : gFG, g21 = (va_up g13 36 y21) → wX12_must_j24 N  Q g21 f w))
theorem mX12_must (hE : gInj layM ad ∧ gZok (gA layM ad) Z) {N : Nat} {a1 : Int32} {g : gFG} {f : gFF} {w : Int64} {Q : gFG → gFF → Int64 → Prop} (h : wX12_must N a1 g f w Q) : gCT l D cs layM ad Z 3 yX12_must cX12_must 2 none [.ref (ad 0), .int a1] (g, f, w) (gMv Q) := by
  refine met_walk (lv0 := [some (.ref (ad 0)), some (.int a1)]) hE (by decide) (Nat.le_of_ble_eq_true rfl) rfl (fun G Rt hG hQ => ?_)
  replace hG : gSim l D cs layM ad Z 3 RX12 cX12_must 2 none G Rt := hG
  unfold wX12_must at h
  refine s_aload_n (n := 1) hG dX12_must_0 rfl rfl ?_
  refine gtX12_220 (n := 4) hG dX12_must_1 rfl ?_
  refine s_if_ne (n := 7) (tgt := 24) hG dX12_must_4 rfl rfl (fun c => ?_) (fun c => ?_)
  · replace h := h.1 c
    exact s_wk hG (sX12_must_j24 hE hG hQ  h) ⟨rfl, trivial⟩
  · replace h := h.2 c
    refine s_iload_n (n := 8) hG dX12_must_7 rfl rfl ?_
    refine s_if_ne (n := 11) (tgt := 24) hG dX12_must_8 rfl rfl (fun c => ?_) (fun c => ?_)
    · replace h := h.1 c
      exact s_wk hG (sX12_must_j24 hE hG hQ  h) ⟨rfl, trivial⟩
    · replace h := h.2 c
      refine s_aload_n (n := 12) hG dX12_must_11 rfl rfl ?_
      refine s_iconst (n := 13) hG dX12_must_12 ki_1 rfl ?_
      refine ptX12_220 (n := 16) hG gz_1 dX12_must_13 rfl ?_
      refine s_ng (fun g13 hg13 => ?_)
      replace h := h g13 hg13
      refine s_aload_n (n := 17) hG dX12_must_16 rfl rfl ?_
      refine s_aload_n (n := 18) hG dX12_must_17 rfl rfl ?_
      refine gtX12_196 (n := 21) hG dX12_must_18 rfl ?_
      refine s_topi (fun y21 hy21 => ?_)
      replace h := h y21 hy21
      refine ptX12_81 (n := 24) hG dX12_must_21 rfl ?_
      refine s_ng (fun g21 hg21 => ?_)
      replace h := h g21 hg21
      exact s_wk hG (sX12_must_j24 hE hG hQ  h) ⟨rfl, trivial⟩
def wX12_number_j34 (N : Nat)  (Q : Int32 → gFG → gFF → Int64 → Prop) (v3 : Int32) (t0 : Int32) (g : gFG) (f : gFF) (w : Int64) : Prop := wX12_must N t0 g f w (fun g34 f34 w34 => Q v3 g34 f34 w34)
theorem sX12_number_j34 {G : gG} {Rt : Option Value → gSt → Prop} (hE : gInj layM ad ∧ gZok (gA layM ad) Z) (hG : gSim l D cs layM ad Z 4 RX12 cX12_number 4 (some .int) G Rt) {Q : Int32 → gFG → gFF → Int64 → Prop} (hQ : ∀ v S, gMi Q v S → Rt v S) {N : Nat}   {v3 : Int32} {t0 : Int32} {g : gFG} {f : gFF} {w : Int64}  (h : wX12_number_j34 N  Q v3 t0 g f w) : G 34 [none, none, none, some (.int v3)] [.int t0, .ref (ad 0)] (g, f, w) := by
  unfold wX12_number_j34 at h
  refine s_callV (n := 37) (st := []) hG (mX12_must hE h) ceX12_must lmX12_227 ⟨by decide, rfl, rfl⟩ rfl ⟨rfl, Nat.le_of_ble_eq_true rfl, by decide⟩ dX12_number_34 rfl ?_
  rintro _ _ ⟨g34, f34, w34, rfl, rfl, h⟩
  refine s_iload_n (n := 38) hG dX12_number_37 rfl rfl ?_
  exact s_iret hG dX12_number_38 (hQ _ _ ⟨_, _, _, _, rfl, rfl, h⟩)
def wX12_number_j33 (N : Nat)  (Q : Int32 → gFG → gFF → Int64 → Prop) (v3 : Int32) (g : gFG) (f : gFF) (w : Int64) : Prop := wX12_number_j34 N  Q v3 0 g f w
theorem sX12_number_j33 {G : gG} {Rt : Option Value → gSt → Prop} (hE : gInj layM ad ∧ gZok (gA layM ad) Z) (hG : gSim l D cs layM ad Z 4 RX12 cX12_number 4 (some .int) G Rt) {Q : Int32 → gFG → gFF → Int64 → Prop} (hQ : ∀ v S, gMi Q v S → Rt v S) {N : Nat}   {v3 : Int32} {g : gFG} {f : gFF} {w : Int64}  (h : wX12_number_j33 N  Q v3 g f w) : G 33 [none, none, none, some (.int v3)] [.ref (ad 0)] (g, f, w) := by
  unfold wX12_number_j33 at h
  refine s_iconst (n := 34) hG dX12_number_33 ki_0 rfl ?_
  exact s_wk hG (sX12_number_j34 hE hG hQ  h) ⟨rfl, trivial⟩
def wX12_number (N : Nat) (a1 : Int64) (g : gFG) (f : gFF) (w : Int64) (Q : Int32 → gFG → gFF → Int64 → Prop) : Prop := ∀ x3_5 : Int32, x3_5 = w.toInt32 → ((¬ (g 34) = 2) → wX12_number_j33 N  Q x3_5 g f w) ∧ (((g 34) = 2) → wX12_in N w a1 1000 g f w (fun r23 g23 f23 w23 => ((r23 = 0) → wX12_number_j33 N  Q x3_5 g23 f23 w23) ∧ ((¬ r23 = 0) → wX12_number_j34 N  Q x3_5 1 g23 f23 w23)))
theorem mX12_number (hE : gInj layM ad ∧ gZok (gA layM ad) Z) {N : Nat} {a1 : Int64} {g : gFG} {f : gFF} {w : Int64} {Q : Int32 → gFG → gFF → Int64 → Prop} (h : wX12_number N a1 g f w Q) : gCT l D cs layM ad Z 4 yX12_number cX12_number 4 (some .int) [.ref (ad 0), .long a1] (g, f, w) (gMi Q) := by
  refine met_walk (lv0 := [some (.ref (ad 0)), some (.long a1), none, none]) hE (by decide) (Nat.le_of_ble_eq_true rfl) rfl (fun G Rt hG hQ => ?_)
  replace hG : gSim l D cs layM ad Z 4 RX12 cX12_number 4 (some .int) G Rt := hG
  unfold wX12_number at h
  refine s_aload_n (n := 1) hG dX12_number_0 rfl rfl ?_
  refine gtX12_199 (n := 4) hG dX12_number_1 rfl ?_
  refine s_l2i (n := 5) hG dX12_number_4 rfl ?_
  refine s_topi (fun x3_5 hx3_5 => ?_)
  replace h := h x3_5 hx3_5
  refine s_istore_n (n := 6) (lv2 := [some (.ref (ad 0)), some (.long a1), none, some (.int x3_5)]) hG dX12_number_5 rfl rfl rfl ?_
  refine s_aload_n (n := 7) hG dX12_number_6 rfl rfl ?_
  refine s_aload_n (n := 8) hG dX12_number_7 rfl rfl ?_
  refine gtX12_209 (n := 11) hG dX12_number_8 rfl ?_
  refine s_iconst (n := 12) hG dX12_number_11 ki_2 rfl ?_
  refine s_icmp_ne (n := 15) (tgt := 33) hG dX12_number_12 rfl rfl (fun c => ?_) (fun c => ?_)
  · replace h := h.1 c
    exact s_wk hG (sX12_number_j33 hE hG hQ  h) ⟨rfl, trivial⟩
  · replace h := h.2 c
    refine s_aload_n (n := 16) hG dX12_number_15 rfl rfl ?_
    refine gtX12_199 (n := 19) hG dX12_number_16 rfl ?_
    refine s_lload_n (n := 20) hG dX12_number_19 rfl rfl ?_
    refine s_ldc2_w (n := 23) hG dX12_number_20 lcX12_176 rfl ?_
    refine s_callS (n := 26) (st := [.ref (ad 0)]) hG (mX12_in hE h) ceX12_in lmX12_102 rfl ⟨rfl, Nat.le_of_ble_eq_true rfl, by decide⟩ dX12_number_23 rfl ?_
    rintro _ _ ⟨r23, g23, f23, w23, rfl, rfl, h⟩
    refine s_if_eq (n := 29) (tgt := 33) hG dX12_number_26 rfl rfl (fun c => ?_) (fun c => ?_)
    · replace h := h.1 c
      exact s_wk hG (sX12_number_j33 hE hG hQ  h) ⟨rfl, trivial⟩
    · replace h := h.2 c
      refine s_iconst (n := 30) hG dX12_number_29 ki_1 rfl ?_
      refine s_goto (tgt := 34) hG dX12_number_30 rfl ?_
      exact s_wk hG (sX12_number_j34 hE hG hQ  h) ⟨rfl, trivial⟩
def wX12_sortAt_j35 (N : Nat)  (Q : Int32 → gFG → gFF → Int64 → Prop)  (g : gFG) (f : gFF) (w : Int64) : Prop := wX12_isWord N 116 105 110 0 0 0 0 g f w (fun r46 g46 f46 w46 => ((r46 = 0) → Q 1 g46 f46 w46) ∧ ((¬ r46 = 0) → Q 0 g46 f46 w46))
theorem sX12_sortAt_j35 {G : gG} {Rt : Option Value → gSt → Prop} (hE : gInj layM ad ∧ gZok (gA layM ad) Z) (hG : gSim l D cs layM ad Z 2 RX12 cX12_sortAt 1 (some .int) G Rt) {Q : Int32 → gFG → gFF → Int64 → Prop} (hQ : ∀ v S, gMi Q v S → Rt v S) {N : Nat}    {g : gFG} {f : gFF} {w : Int64}  (h : wX12_sortAt_j35 N  Q  g f w) : G 35 [some (.ref (ad 0))] [] (g, f, w) := by
  unfold wX12_sortAt_j35 at h
  refine s_aload_n (n := 36) hG dX12_sortAt_35 rfl rfl ?_
  refine s_bipush (n := 38) hG dX12_sortAt_36 kb_116 rfl ?_
  refine s_bipush (n := 40) hG dX12_sortAt_38 kb_105 rfl ?_
  refine s_bipush (n := 42) hG dX12_sortAt_40 kb_110 rfl ?_
  refine s_iconst (n := 43) hG dX12_sortAt_42 ki_0 rfl ?_
  refine s_iconst (n := 44) hG dX12_sortAt_43 ki_0 rfl ?_
  refine s_iconst (n := 45) hG dX12_sortAt_44 ki_0 rfl ?_
  refine s_iconst (n := 46) hG dX12_sortAt_45 ki_0 rfl ?_
  refine s_callV (n := 49) (st := []) hG (mX12_isWord hE h) ceX12_isWord lmX12_231 ⟨by decide, rfl, rfl⟩ rfl ⟨rfl, Nat.le_of_ble_eq_true rfl, by decide⟩ dX12_sortAt_46 rfl ?_
  rintro _ _ ⟨r46, g46, f46, w46, rfl, rfl, h⟩
  refine s_if_eq (n := 52) (tgt := 56) hG dX12_sortAt_49 rfl rfl (fun c => ?_) (fun c => ?_)
  · replace h := h.1 c
    refine s_iconst (n := 57) hG dX12_sortAt_56 ki_1 rfl ?_
    exact s_iret hG dX12_sortAt_57 (hQ _ _ ⟨_, _, _, _, rfl, rfl, h⟩)
  · replace h := h.2 c
    refine s_iconst (n := 53) hG dX12_sortAt_52 ki_0 rfl ?_
    refine s_goto (tgt := 57) hG dX12_sortAt_53 rfl ?_
    exact s_iret hG dX12_sortAt_57 (hQ _ _ ⟨_, _, _, _, rfl, rfl, h⟩)
def wX12_sortAt_j96 (N : Nat)  (Q : Int32 → gFG → gFF → Int64 → Prop)  (g : gFG) (f : gFF) (w : Int64) : Prop := wX12_isWord N 119 97 108 108 0 0 0 g f w (fun r108 g108 f108 w108 => ((r108 = 0) → Q 2 g108 f108 w108) ∧ ((¬ r108 = 0) → Q 3 g108 f108 w108))
theorem sX12_sortAt_j96 {G : gG} {Rt : Option Value → gSt → Prop} (hE : gInj layM ad ∧ gZok (gA layM ad) Z) (hG : gSim l D cs layM ad Z 2 RX12 cX12_sortAt 1 (some .int) G Rt) {Q : Int32 → gFG → gFF → Int64 → Prop} (hQ : ∀ v S, gMi Q v S → Rt v S) {N : Nat}    {g : gFG} {f : gFF} {w : Int64}  (h : wX12_sortAt_j96 N  Q  g f w) : G 96 [some (.ref (ad 0))] [] (g, f, w) := by
  unfold wX12_sortAt_j96 at h
  refine s_aload_n (n := 97) hG dX12_sortAt_96 rfl rfl ?_
  refine s_bipush (n := 99) hG dX12_sortAt_97 kb_119 rfl ?_
  refine s_bipush (n := 101) hG dX12_sortAt_99 kb_97 rfl ?_
  refine s_bipush (n := 103) hG dX12_sortAt_101 kb_108 rfl ?_
  refine s_bipush (n := 105) hG dX12_sortAt_103 kb_108 rfl ?_
  refine s_iconst (n := 106) hG dX12_sortAt_105 ki_0 rfl ?_
  refine s_iconst (n := 107) hG dX12_sortAt_106 ki_0 rfl ?_
  refine s_iconst (n := 108) hG dX12_sortAt_107 ki_0 rfl ?_
  refine s_callV (n := 111) (st := []) hG (mX12_isWord hE h) ceX12_isWord lmX12_231 ⟨by decide, rfl, rfl⟩ rfl ⟨rfl, Nat.le_of_ble_eq_true rfl, by decide⟩ dX12_sortAt_108 rfl ?_
  rintro _ _ ⟨r108, g108, f108, w108, rfl, rfl, h⟩
  refine s_if_eq (n := 114) (tgt := 118) hG dX12_sortAt_111 rfl rfl (fun c => ?_) (fun c => ?_)
  · replace h := h.1 c
    refine s_iconst (n := 119) hG dX12_sortAt_118 ki_2 rfl ?_
    exact s_iret hG dX12_sortAt_119 (hQ _ _ ⟨_, _, _, _, rfl, rfl, h⟩)
  · replace h := h.2 c
    refine s_iconst (n := 115) hG dX12_sortAt_114 ki_3 rfl ?_
    refine s_goto (tgt := 119) hG dX12_sortAt_115 rfl ?_
    exact s_iret hG dX12_sortAt_119 (hQ _ _ ⟨_, _, _, _, rfl, rfl, h⟩)
def wX12_sortAt_j154 (N : Nat)  (Q : Int32 → gFG → gFF → Int64 → Prop)  (g : gFG) (f : gFF) (w : Int64) : Prop := wX12_isWord N 97 105 114 0 0 0 0 g f w (fun r165 g165 f165 w165 => ((r165 = 0) → Q 5 g165 f165 w165) ∧ ((¬ r165 = 0) → Q 4 g165 f165 w165))
theorem sX12_sortAt_j154 {G : gG} {Rt : Option Value → gSt → Prop} (hE : gInj layM ad ∧ gZok (gA layM ad) Z) (hG : gSim l D cs layM ad Z 2 RX12 cX12_sortAt 1 (some .int) G Rt) {Q : Int32 → gFG → gFF → Int64 → Prop} (hQ : ∀ v S, gMi Q v S → Rt v S) {N : Nat}    {g : gFG} {f : gFF} {w : Int64}  (h : wX12_sortAt_j154 N  Q  g f w) : G 154 [some (.ref (ad 0))] [] (g, f, w) := by
  unfold wX12_sortAt_j154 at h
  refine s_aload_n (n := 155) hG dX12_sortAt_154 rfl rfl ?_
  refine s_bipush (n := 157) hG dX12_sortAt_155 kb_97 rfl ?_
  refine s_bipush (n := 159) hG dX12_sortAt_157 kb_105 rfl ?_
  refine s_bipush (n := 161) hG dX12_sortAt_159 kb_114 rfl ?_
  refine s_iconst (n := 162) hG dX12_sortAt_161 ki_0 rfl ?_
  refine s_iconst (n := 163) hG dX12_sortAt_162 ki_0 rfl ?_
  refine s_iconst (n := 164) hG dX12_sortAt_163 ki_0 rfl ?_
  refine s_iconst (n := 165) hG dX12_sortAt_164 ki_0 rfl ?_
  refine s_callV (n := 168) (st := []) hG (mX12_isWord hE h) ceX12_isWord lmX12_231 ⟨by decide, rfl, rfl⟩ rfl ⟨rfl, Nat.le_of_ble_eq_true rfl, by decide⟩ dX12_sortAt_165 rfl ?_
  rintro _ _ ⟨r165, g165, f165, w165, rfl, rfl, h⟩
  refine s_if_eq (n := 171) (tgt := 175) hG dX12_sortAt_168 rfl rfl (fun c => ?_) (fun c => ?_)
  · replace h := h.1 c
    refine s_iconst (n := 176) hG dX12_sortAt_175 ki_5 rfl ?_
    exact s_iret hG dX12_sortAt_176 (hQ _ _ ⟨_, _, _, _, rfl, rfl, h⟩)
  · replace h := h.2 c
    refine s_iconst (n := 172) hG dX12_sortAt_171 ki_4 rfl ?_
    refine s_goto (tgt := 176) hG dX12_sortAt_172 rfl ?_
    exact s_iret hG dX12_sortAt_176 (hQ _ _ ⟨_, _, _, _, rfl, rfl, h⟩)
def wX12_sortAt_j216 (N : Nat)  (Q : Int32 → gFG → gFF → Int64 → Prop)  (g : gFG) (f : gFF) (w : Int64) : Prop := wX12_isWord N 115 116 117 99 107 0 0 g f w (fun r229 g229 f229 w229 => ((r229 = 0) → Q 7 g229 f229 w229) ∧ ((¬ r229 = 0) → Q 6 g229 f229 w229))
theorem sX12_sortAt_j216 {G : gG} {Rt : Option Value → gSt → Prop} (hE : gInj layM ad ∧ gZok (gA layM ad) Z) (hG : gSim l D cs layM ad Z 2 RX12 cX12_sortAt 1 (some .int) G Rt) {Q : Int32 → gFG → gFF → Int64 → Prop} (hQ : ∀ v S, gMi Q v S → Rt v S) {N : Nat}    {g : gFG} {f : gFF} {w : Int64}  (h : wX12_sortAt_j216 N  Q  g f w) : G 216 [some (.ref (ad 0))] [] (g, f, w) := by
  unfold wX12_sortAt_j216 at h
  refine s_aload_n (n := 217) hG dX12_sortAt_216 rfl rfl ?_
  refine s_bipush (n := 219) hG dX12_sortAt_217 kb_115 rfl ?_
  refine s_bipush (n := 221) hG dX12_sortAt_219 kb_116 rfl ?_
  refine s_bipush (n := 223) hG dX12_sortAt_221 kb_117 rfl ?_
  refine s_bipush (n := 225) hG dX12_sortAt_223 kb_99 rfl ?_
  refine s_bipush (n := 227) hG dX12_sortAt_225 kb_107 rfl ?_
  refine s_iconst (n := 228) hG dX12_sortAt_227 ki_0 rfl ?_
  refine s_iconst (n := 229) hG dX12_sortAt_228 ki_0 rfl ?_
  refine s_callV (n := 232) (st := []) hG (mX12_isWord hE h) ceX12_isWord lmX12_231 ⟨by decide, rfl, rfl⟩ rfl ⟨rfl, Nat.le_of_ble_eq_true rfl, by decide⟩ dX12_sortAt_229 rfl ?_
  rintro _ _ ⟨r229, g229, f229, w229, rfl, rfl, h⟩
  refine s_if_eq (n := 235) (tgt := 240) hG dX12_sortAt_232 rfl rfl (fun c => ?_) (fun c => ?_)
  · replace h := h.1 c
    refine s_bipush (n := 242) hG dX12_sortAt_240 kb_7 rfl ?_
    exact s_iret hG dX12_sortAt_242 (hQ _ _ ⟨_, _, _, _, rfl, rfl, h⟩)
  · replace h := h.2 c
    refine s_bipush (n := 237) hG dX12_sortAt_235 kb_6 rfl ?_
    refine s_goto (tgt := 242) hG dX12_sortAt_237 rfl ?_
    exact s_iret hG dX12_sortAt_242 (hQ _ _ ⟨_, _, _, _, rfl, rfl, h⟩)
def wX12_sortAt (N : Nat)  (g : gFG) (f : gFF) (w : Int64) (Q : Int32 → gFG → gFF → Int64 → Prop) : Prop := wX12_isWord N 116 105 110 0 0 0 0 g f w (fun r11 g11 f11 w11 => ((¬ r11 = 0) → wX12_sortAt_j35 N  Q g11 f11 w11) ∧ ((r11 = 0) → wX12_isWord N 108 101 97 100 0 0 0 g11 f11 w11 (fun r29 g29 f29 w29 => ((r29 = 0) → wX12_isWord N 99 111 112 112 101 114 0 g29 f29 w29 (fun r72 g72 f72 w72 => ((¬ r72 = 0) → wX12_sortAt_j96 N  Q g72 f72 w72) ∧ ((r72 = 0) → wX12_isWord N 119 97 108 108 0 0 0 g72 f72 w72 (fun r90 g90 f90 w90 => ((r90 = 0) → wX12_isWord N 97 105 114 0 0 0 0 g90 f90 w90 (fun r131 g131 f131 w131 => ((¬ r131 = 0) → wX12_sortAt_j154 N  Q g131 f131 w131) ∧ ((r131 = 0) → wX12_isWord N 100 114 121 0 0 0 0 g131 f131 w131 (fun r148 g148 f148 w148 => ((r148 = 0) → wX12_isWord N 115 116 117 99 107 0 0 g148 f148 w148 (fun r190 g190 f190 w190 => ((¬ r190 = 0) → wX12_sortAt_j216 N  Q g190 f190 w190) ∧ ((r190 = 0) → wX12_isWord N 112 105 101 99 101 115 0 g190 f190 w190 (fun r210 g210 f210 w210 => ((r210 = 0) → wX12_isWord N 115 112 97 99 101 114 115 g210 f210 w210 (fun r258 g258 f258 w258 => ((r258 = 0) → Q (-1) g258 f258 w258) ∧ ((¬ r258 = 0) → Q 8 g258 f258 w258))) ∧ ((¬ r210 = 0) → wX12_sortAt_j216 N  Q g210 f210 w210))))) ∧ ((¬ r148 = 0) → wX12_sortAt_j154 N  Q g148 f148 w148))))) ∧ ((¬ r90 = 0) → wX12_sortAt_j96 N  Q g90 f90 w90))))) ∧ ((¬ r29 = 0) → wX12_sortAt_j35 N  Q g29 f29 w29))))
theorem mX12_sortAt (hE : gInj layM ad ∧ gZok (gA layM ad) Z) {N : Nat}  {g : gFG} {f : gFF} {w : Int64} {Q : Int32 → gFG → gFF → Int64 → Prop} (h : wX12_sortAt N  g f w Q) : gCT l D cs layM ad Z 2 yX12_sortAt cX12_sortAt 1 (some .int) [.ref (ad 0)] (g, f, w) (gMi Q) := by
  refine met_walk (lv0 := [some (.ref (ad 0))]) hE (by decide) (Nat.le_of_ble_eq_true rfl) rfl (fun G Rt hG hQ => ?_)
  replace hG : gSim l D cs layM ad Z 2 RX12 cX12_sortAt 1 (some .int) G Rt := hG
  unfold wX12_sortAt at h
  refine s_aload_n (n := 1) hG dX12_sortAt_0 rfl rfl ?_
  refine s_bipush (n := 3) hG dX12_sortAt_1 kb_116 rfl ?_
  refine s_bipush (n := 5) hG dX12_sortAt_3 kb_105 rfl ?_
  refine s_bipush (n := 7) hG dX12_sortAt_5 kb_110 rfl ?_
  refine s_iconst (n := 8) hG dX12_sortAt_7 ki_0 rfl ?_
  refine s_iconst (n := 9) hG dX12_sortAt_8 ki_0 rfl ?_
  refine s_iconst (n := 10) hG dX12_sortAt_9 ki_0 rfl ?_
  refine s_iconst (n := 11) hG dX12_sortAt_10 ki_0 rfl ?_
  refine s_callV (n := 14) (st := []) hG (mX12_isWord hE h) ceX12_isWord lmX12_231 ⟨by decide, rfl, rfl⟩ rfl ⟨rfl, Nat.le_of_ble_eq_true rfl, by decide⟩ dX12_sortAt_11 rfl ?_
  rintro _ _ ⟨r11, g11, f11, w11, rfl, rfl, h⟩
  refine s_if_ne (n := 17) (tgt := 35) hG dX12_sortAt_14 rfl rfl (fun c => ?_) (fun c => ?_)
  · replace h := h.1 c
    exact s_wk hG (sX12_sortAt_j35 hE hG hQ  h) ⟨rfl, trivial⟩
  · replace h := h.2 c
    refine s_aload_n (n := 18) hG dX12_sortAt_17 rfl rfl ?_
    refine s_bipush (n := 20) hG dX12_sortAt_18 kb_108 rfl ?_
    refine s_bipush (n := 22) hG dX12_sortAt_20 kb_101 rfl ?_
    refine s_bipush (n := 24) hG dX12_sortAt_22 kb_97 rfl ?_
    refine s_bipush (n := 26) hG dX12_sortAt_24 kb_100 rfl ?_
    refine s_iconst (n := 27) hG dX12_sortAt_26 ki_0 rfl ?_
    refine s_iconst (n := 28) hG dX12_sortAt_27 ki_0 rfl ?_
    refine s_iconst (n := 29) hG dX12_sortAt_28 ki_0 rfl ?_
    refine s_callV (n := 32) (st := []) hG (mX12_isWord hE h) ceX12_isWord lmX12_231 ⟨by decide, rfl, rfl⟩ rfl ⟨rfl, Nat.le_of_ble_eq_true rfl, by decide⟩ dX12_sortAt_29 rfl ?_
    rintro _ _ ⟨r29, g29, f29, w29, rfl, rfl, h⟩
    refine s_if_eq (n := 35) (tgt := 58) hG dX12_sortAt_32 rfl rfl (fun c => ?_) (fun c => ?_)
    · replace h := h.1 c
      refine s_aload_n (n := 59) hG dX12_sortAt_58 rfl rfl ?_
      refine s_bipush (n := 61) hG dX12_sortAt_59 kb_99 rfl ?_
      refine s_bipush (n := 63) hG dX12_sortAt_61 kb_111 rfl ?_
      refine s_bipush (n := 65) hG dX12_sortAt_63 kb_112 rfl ?_
      refine s_bipush (n := 67) hG dX12_sortAt_65 kb_112 rfl ?_
      refine s_bipush (n := 69) hG dX12_sortAt_67 kb_101 rfl ?_
      refine s_bipush (n := 71) hG dX12_sortAt_69 kb_114 rfl ?_
      refine s_iconst (n := 72) hG dX12_sortAt_71 ki_0 rfl ?_
      refine s_callV (n := 75) (st := []) hG (mX12_isWord hE h) ceX12_isWord lmX12_231 ⟨by decide, rfl, rfl⟩ rfl ⟨rfl, Nat.le_of_ble_eq_true rfl, by decide⟩ dX12_sortAt_72 rfl ?_
      rintro _ _ ⟨r72, g72, f72, w72, rfl, rfl, h⟩
      refine s_if_ne (n := 78) (tgt := 96) hG dX12_sortAt_75 rfl rfl (fun c => ?_) (fun c => ?_)
      · replace h := h.1 c
        exact s_wk hG (sX12_sortAt_j96 hE hG hQ  h) ⟨rfl, trivial⟩
      · replace h := h.2 c
        refine s_aload_n (n := 79) hG dX12_sortAt_78 rfl rfl ?_
        refine s_bipush (n := 81) hG dX12_sortAt_79 kb_119 rfl ?_
        refine s_bipush (n := 83) hG dX12_sortAt_81 kb_97 rfl ?_
        refine s_bipush (n := 85) hG dX12_sortAt_83 kb_108 rfl ?_
        refine s_bipush (n := 87) hG dX12_sortAt_85 kb_108 rfl ?_
        refine s_iconst (n := 88) hG dX12_sortAt_87 ki_0 rfl ?_
        refine s_iconst (n := 89) hG dX12_sortAt_88 ki_0 rfl ?_
        refine s_iconst (n := 90) hG dX12_sortAt_89 ki_0 rfl ?_
        refine s_callV (n := 93) (st := []) hG (mX12_isWord hE h) ceX12_isWord lmX12_231 ⟨by decide, rfl, rfl⟩ rfl ⟨rfl, Nat.le_of_ble_eq_true rfl, by decide⟩ dX12_sortAt_90 rfl ?_
        rintro _ _ ⟨r90, g90, f90, w90, rfl, rfl, h⟩
        refine s_if_eq (n := 96) (tgt := 120) hG dX12_sortAt_93 rfl rfl (fun c => ?_) (fun c => ?_)
        · replace h := h.1 c
          refine s_aload_n (n := 121) hG dX12_sortAt_120 rfl rfl ?_
          refine s_bipush (n := 123) hG dX12_sortAt_121 kb_97 rfl ?_
          refine s_bipush (n := 125) hG dX12_sortAt_123 kb_105 rfl ?_
          refine s_bipush (n := 127) hG dX12_sortAt_125 kb_114 rfl ?_
          refine s_iconst (n := 128) hG dX12_sortAt_127 ki_0 rfl ?_
          refine s_iconst (n := 129) hG dX12_sortAt_128 ki_0 rfl ?_
          refine s_iconst (n := 130) hG dX12_sortAt_129 ki_0 rfl ?_
          refine s_iconst (n := 131) hG dX12_sortAt_130 ki_0 rfl ?_
          refine s_callV (n := 134) (st := []) hG (mX12_isWord hE h) ceX12_isWord lmX12_231 ⟨by decide, rfl, rfl⟩ rfl ⟨rfl, Nat.le_of_ble_eq_true rfl, by decide⟩ dX12_sortAt_131 rfl ?_
          rintro _ _ ⟨r131, g131, f131, w131, rfl, rfl, h⟩
          refine s_if_ne (n := 137) (tgt := 154) hG dX12_sortAt_134 rfl rfl (fun c => ?_) (fun c => ?_)
          · replace h := h.1 c
            exact s_wk hG (sX12_sortAt_j154 hE hG hQ  h) ⟨rfl, trivial⟩
          · replace h := h.2 c
            refine s_aload_n (n := 138) hG dX12_sortAt_137 rfl rfl ?_
            refine s_bipush (n := 140) hG dX12_sortAt_138 kb_100 rfl ?_
            refine s_bipush (n := 142) hG dX12_sortAt_140 kb_114 rfl ?_
            refine s_bipush (n := 144) hG dX12_sortAt_142 kb_121 rfl ?_
            refine s_iconst (n := 145) hG dX12_sortAt_144 ki_0 rfl ?_
            refine s_iconst (n := 146) hG dX12_sortAt_145 ki_0 rfl ?_
            refine s_iconst (n := 147) hG dX12_sortAt_146 ki_0 rfl ?_
            refine s_iconst (n := 148) hG dX12_sortAt_147 ki_0 rfl ?_
            refine s_callV (n := 151) (st := []) hG (mX12_isWord hE h) ceX12_isWord lmX12_231 ⟨by decide, rfl, rfl⟩ rfl ⟨rfl, Nat.le_of_ble_eq_true rfl, by decide⟩ dX12_sortAt_148 rfl ?_
            rintro _ _ ⟨r148, g148, f148, w148, rfl, rfl, h⟩
            refine s_if_eq (n := 154) (tgt := 177) hG dX12_sortAt_151 rfl rfl (fun c => ?_) (fun c => ?_)
            · replace h := h.1 c
              refine s_aload_n (n := 178) hG dX12_sortAt_177 rfl rfl ?_
              refine s_bipush (n := 180) hG dX12_sortAt_178 kb_115 rfl ?_
              refine s_bipush (n := 182) hG dX12_sortAt_180 kb_116 rfl ?_
              refine s_bipush (n := 184) hG dX12_sortAt_182 kb_117 rfl ?_
              refine s_bipush (n := 186) hG dX12_sortAt_184 kb_99 rfl ?_
              refine s_bipush (n := 188) hG dX12_sortAt_186 kb_107 rfl ?_
              refine s_iconst (n := 189) hG dX12_sortAt_188 ki_0 rfl ?_
              refine s_iconst (n := 190) hG dX12_sortAt_189 ki_0 rfl ?_
              refine s_callV (n := 193) (st := []) hG (mX12_isWord hE h) ceX12_isWord lmX12_231 ⟨by decide, rfl, rfl⟩ rfl ⟨rfl, Nat.le_of_ble_eq_true rfl, by decide⟩ dX12_sortAt_190 rfl ?_
              rintro _ _ ⟨r190, g190, f190, w190, rfl, rfl, h⟩
              refine s_if_ne (n := 196) (tgt := 216) hG dX12_sortAt_193 rfl rfl (fun c => ?_) (fun c => ?_)
              · replace h := h.1 c
                exact s_wk hG (sX12_sortAt_j216 hE hG hQ  h) ⟨rfl, trivial⟩
              · replace h := h.2 c
                refine s_aload_n (n := 197) hG dX12_sortAt_196 rfl rfl ?_
                refine s_bipush (n := 199) hG dX12_sortAt_197 kb_112 rfl ?_
                refine s_bipush (n := 201) hG dX12_sortAt_199 kb_105 rfl ?_
                refine s_bipush (n := 203) hG dX12_sortAt_201 kb_101 rfl ?_
                refine s_bipush (n := 205) hG dX12_sortAt_203 kb_99 rfl ?_
                refine s_bipush (n := 207) hG dX12_sortAt_205 kb_101 rfl ?_
                refine s_bipush (n := 209) hG dX12_sortAt_207 kb_115 rfl ?_
                refine s_iconst (n := 210) hG dX12_sortAt_209 ki_0 rfl ?_
                refine s_callV (n := 213) (st := []) hG (mX12_isWord hE h) ceX12_isWord lmX12_231 ⟨by decide, rfl, rfl⟩ rfl ⟨rfl, Nat.le_of_ble_eq_true rfl, by decide⟩ dX12_sortAt_210 rfl ?_
                rintro _ _ ⟨r210, g210, f210, w210, rfl, rfl, h⟩
                refine s_if_eq (n := 216) (tgt := 243) hG dX12_sortAt_213 rfl rfl (fun c => ?_) (fun c => ?_)
                · replace h := h.1 c
                  refine s_aload_n (n := 244) hG dX12_sortAt_243 rfl rfl ?_
                  refine s_bipush (n := 246) hG dX12_sortAt_244 kb_115 rfl ?_
                  refine s_bipush (n := 248) hG dX12_sortAt_246 kb_112 rfl ?_
                  refine s_bipush (n := 250) hG dX12_sortAt_248 kb_97 rfl ?_
                  refine s_bipush (n := 252) hG dX12_sortAt_250 kb_99 rfl ?_
                  refine s_bipush (n := 254) hG dX12_sortAt_252 kb_101 rfl ?_
                  refine s_bipush (n := 256) hG dX12_sortAt_254 kb_114 rfl ?_
                  refine s_bipush (n := 258) hG dX12_sortAt_256 kb_115 rfl ?_
                  refine s_callV (n := 261) (st := []) hG (mX12_isWord hE h) ceX12_isWord lmX12_231 ⟨by decide, rfl, rfl⟩ rfl ⟨rfl, Nat.le_of_ble_eq_true rfl, by decide⟩ dX12_sortAt_258 rfl ?_
                  rintro _ _ ⟨r258, g258, f258, w258, rfl, rfl, h⟩
                  refine s_if_eq (n := 264) (tgt := 269) hG dX12_sortAt_261 rfl rfl (fun c => ?_) (fun c => ?_)
                  · replace h := h.1 c
                    refine s_iconst (n := 270) hG dX12_sortAt_269 ki_m1 rfl ?_
                    exact s_iret hG dX12_sortAt_270 (hQ _ _ ⟨_, _, _, _, rfl, rfl, h⟩)
                  · replace h := h.2 c
                    refine s_bipush (n := 266) hG dX12_sortAt_264 kb_8 rfl ?_
                    refine s_goto (tgt := 270) hG dX12_sortAt_266 rfl ?_
                    exact s_iret hG dX12_sortAt_270 (hQ _ _ ⟨_, _, _, _, rfl, rfl, h⟩)
                · replace h := h.2 c
                  exact s_wk hG (sX12_sortAt_j216 hE hG hQ  h) ⟨rfl, trivial⟩
            · replace h := h.2 c
              exact s_wk hG (sX12_sortAt_j154 hE hG hQ  h) ⟨rfl, trivial⟩
        · replace h := h.2 c
          exact s_wk hG (sX12_sortAt_j96 hE hG hQ  h) ⟨rfl, trivial⟩
    · replace h := h.2 c
      exact s_wk hG (sX12_sortAt_j35 hE hG hQ  h) ⟨rfl, trivial⟩
def wX12_readRule_j126 (N : Nat)  (Q : gFG → gFF → Int64 → Prop) (v1 : Int32) (v2 : Int32) (v3 : Int32) (g : gFG) (f : gFF) (w : Int64) : Prop := (((g 37) = 0) → ∀ i145 : Int32, i145 = (3 * (g 29)) → (vp_in i145 60) ∧ (∀ f145 : gFF, f145 = (va_up f 19 (upd (f 19) i145.toNatClampNeg v1)) → ∀ i159 : Int32, i159 = ((3 * (g 29)) + 1) → (vp_in i159 60) ∧ (∀ f159 : gFF, f159 = (va_up f145 19 (upd (f145 19) i159.toNatClampNeg v2)) → ∀ i173 : Int32, i173 = ((3 * (g 29)) + 2) → (vp_in i173 60) ∧ (∀ f173 : gFF, f173 = (va_up f159 19 (upd (f159 19) i173.toNatClampNeg v3)) → ∀ y181 : Int32, y181 = ((g 29) + 1) → ∀ g181 : gFG, g181 = (va_up g 29 y181) → Q g181 f173 w)))) ∧ ((¬ (g 37) = 0) → Q g f w)
theorem sX12_readRule_j126 {G : gG} {Rt : Option Value → gSt → Prop} (hE : gInj layM ad ∧ gZok (gA layM ad) Z) (hG : gSim l D cs layM ad Z 5 RX12 cX12_readRule 4 none G Rt) {Q : gFG → gFF → Int64 → Prop} (hQ : ∀ v S, gMv Q v S → Rt v S) {N : Nat}   {v1 : Int32} {v2 : Int32} {v3 : Int32} {g : gFG} {f : gFF} {w : Int64}  (h : wX12_readRule_j126 N  Q v1 v2 v3 g f w) : G 126 [some (.ref (ad 0)), some (.int v1), some (.int v2), some (.int v3)] [] (g, f, w) := by
  unfold wX12_readRule_j126 at h
  refine s_aload_n (n := 127) hG dX12_readRule_126 rfl rfl ?_
  refine gtX12_220 (n := 130) hG dX12_readRule_127 rfl ?_
  refine s_if_eq (n := 133) (tgt := 134) hG dX12_readRule_130 rfl rfl (fun c => ?_) (fun c => ?_)
  · replace h := h.1 c
    refine s_aload_n (n := 135) hG dX12_readRule_134 rfl rfl ?_
    refine gtX12_75 (n := 138) hG dX12_readRule_135 rfl ?_
    refine s_iconst (n := 139) hG dX12_readRule_138 ki_3 rfl ?_
    refine s_aload_n (n := 140) hG dX12_readRule_139 rfl rfl ?_
    refine gtX12_238 (n := 143) hG dX12_readRule_140 rfl ?_
    refine s_imul (n := 144) hG dX12_readRule_143 rfl ?_
    refine s_iload_n (n := 145) hG dX12_readRule_144 rfl rfl ?_
    refine s_topi2 (fun i145 hi145 => ?_)
    replace h := h i145 hi145
    obtain ⟨hin, h⟩ := h
    refine s_iast (n := 146) hG dX12_readRule_145 (gaM_19 hin) rfl ?_
    refine s_nf (fun f145 hf145 => ?_)
    replace h := h f145 hf145
    refine s_aload_n (n := 147) hG dX12_readRule_146 rfl rfl ?_
    refine gtX12_75 (n := 150) hG dX12_readRule_147 rfl ?_
    refine s_iconst (n := 151) hG dX12_readRule_150 ki_3 rfl ?_
    refine s_aload_n (n := 152) hG dX12_readRule_151 rfl rfl ?_
    refine gtX12_238 (n := 155) hG dX12_readRule_152 rfl ?_
    refine s_imul (n := 156) hG dX12_readRule_155 rfl ?_
    refine s_iconst (n := 157) hG dX12_readRule_156 ki_1 rfl ?_
    refine s_iadd (n := 158) hG dX12_readRule_157 rfl ?_
    refine s_iload_n (n := 159) hG dX12_readRule_158 rfl rfl ?_
    refine s_topi2 (fun i159 hi159 => ?_)
    replace h := h i159 hi159
    obtain ⟨hin, h⟩ := h
    refine s_iast (n := 160) hG dX12_readRule_159 (gaM_19 hin) rfl ?_
    refine s_nf (fun f159 hf159 => ?_)
    replace h := h f159 hf159
    refine s_aload_n (n := 161) hG dX12_readRule_160 rfl rfl ?_
    refine gtX12_75 (n := 164) hG dX12_readRule_161 rfl ?_
    refine s_iconst (n := 165) hG dX12_readRule_164 ki_3 rfl ?_
    refine s_aload_n (n := 166) hG dX12_readRule_165 rfl rfl ?_
    refine gtX12_238 (n := 169) hG dX12_readRule_166 rfl ?_
    refine s_imul (n := 170) hG dX12_readRule_169 rfl ?_
    refine s_iconst (n := 171) hG dX12_readRule_170 ki_2 rfl ?_
    refine s_iadd (n := 172) hG dX12_readRule_171 rfl ?_
    refine s_iload_n (n := 173) hG dX12_readRule_172 rfl rfl ?_
    refine s_topi2 (fun i173 hi173 => ?_)
    replace h := h i173 hi173
    obtain ⟨hin, h⟩ := h
    refine s_iast (n := 174) hG dX12_readRule_173 (gaM_19 hin) rfl ?_
    refine s_nf (fun f173 hf173 => ?_)
    replace h := h f173 hf173
    refine s_aload_n (n := 175) hG dX12_readRule_174 rfl rfl ?_
    refine s_dup (n := 176) hG dX12_readRule_175 rfl rfl ?_
    refine gtX12_238 (n := 179) hG dX12_readRule_176 rfl ?_
    refine s_iconst (n := 180) hG dX12_readRule_179 ki_1 rfl ?_
    refine s_iadd (n := 181) hG dX12_readRule_180 rfl ?_
    refine s_topi (fun y181 hy181 => ?_)
    replace h := h y181 hy181
    refine ptX12_238 (n := 184) hG dX12_readRule_181 rfl ?_
    refine s_ng (fun g181 hg181 => ?_)
    replace h := h g181 hg181
    exact s_vret hG dX12_readRule_184 (hQ _ _ ⟨_, _, _, rfl, rfl, h⟩)
  · replace h := h.2 c
    exact s_vret hG dX12_readRule_133 (hQ _ _ ⟨_, _, _, rfl, rfl, h⟩)
def wX12_readRule_j24 (N : Nat)  (Q : gFG → gFF → Int64 → Prop) (v1 : Int32) (t0 : Int32) (g : gFG) (f : gFF) (w : Int64) : Prop := wX12_must N t0 g f w (fun g24 f24 w24 => ((3 ≤ v1) → wX12_number N 0 g24 f24 w24 (fun r90 g90 f90 w90 => ((¬ v1 = 8) → wX12_readRule_j126 N  Q v1 r90 0 g90 f90 w90) ∧ ((v1 = 8) → wX12_isWord N 101 118 101 114 121 0 0 g90 f90 w90 (fun r114 g114 f114 w114 => wX12_must N r114 g114 f114 w114 (fun g117 f117 w117 => wX12_number N 1 g117 f117 w117 (fun r122 g122 f122 w122 => wX12_readRule_j126 N  Q v1 r90 r122 g122 f122 w122)))))) ∧ ((¬ 3 ≤ v1) → wX12_isWord N 102 114 111 109 0 0 0 g24 f24 w24 (fun r49 g49 f49 w49 => wX12_must N r49 g49 f49 w49 (fun g52 f52 w52 => wX12_number N 0 g52 f52 w52 (fun r57 g57 f57 w57 => wX12_isWord N 116 111 0 0 0 0 0 g57 f57 w57 (fun r72 g72 f72 w72 => wX12_must N r72 g72 f72 w72 (fun g75 f75 w75 => wX12_number N r57.toInt64 g75 f75 w75 (fun r81 g81 f81 w81 => wX12_readRule_j126 N  Q v1 r57 r81 g81 f81 w81))))))))
theorem sX12_readRule_j24 {G : gG} {Rt : Option Value → gSt → Prop} (hE : gInj layM ad ∧ gZok (gA layM ad) Z) (hG : gSim l D cs layM ad Z 5 RX12 cX12_readRule 4 none G Rt) {Q : gFG → gFF → Int64 → Prop} (hQ : ∀ v S, gMv Q v S → Rt v S) {N : Nat}   {v1 : Int32} {t0 : Int32} {g : gFG} {f : gFF} {w : Int64}  (h : wX12_readRule_j24 N  Q v1 t0 g f w) : G 24 [some (.ref (ad 0)), some (.int v1), none, none] [.int t0, .ref (ad 0)] (g, f, w) := by
  unfold wX12_readRule_j24 at h
  refine s_callV (n := 27) (st := []) hG (mX12_must hE h) ceX12_must lmX12_227 ⟨by decide, rfl, rfl⟩ rfl ⟨rfl, Nat.le_of_ble_eq_true rfl, by decide⟩ dX12_readRule_24 rfl ?_
  rintro _ _ ⟨g24, f24, w24, rfl, rfl, h⟩
  refine s_iconst (n := 28) hG dX12_readRule_27 ki_0 rfl ?_
  refine s_istore_n (n := 29) (lv2 := [some (.ref (ad 0)), some (.int v1), some (.int 0), none]) hG dX12_readRule_28 rfl rfl rfl ?_
  refine s_iconst (n := 30) hG dX12_readRule_29 ki_0 rfl ?_
  refine s_istore_n (n := 31) (lv2 := [some (.ref (ad 0)), some (.int v1), some (.int 0), some (.int 0)]) hG dX12_readRule_30 rfl rfl rfl ?_
  refine s_iload_n (n := 32) hG dX12_readRule_31 rfl rfl ?_
  refine s_iconst (n := 33) hG dX12_readRule_32 ki_3 rfl ?_
  refine s_icmp_ge (n := 36) (tgt := 88) hG dX12_readRule_33 rfl rfl (fun c => ?_) (fun c => ?_)
  · replace h := h.1 c
    refine s_aload_n (n := 89) hG dX12_readRule_88 rfl rfl ?_
    refine s_lconst (n := 90) hG dX12_readRule_89 kl_0 rfl ?_
    refine s_callV (n := 93) (st := []) hG (mX12_number hE h) ceX12_number lmX12_241 ⟨by decide, rfl, rfl⟩ rfl ⟨rfl, Nat.le_of_ble_eq_true rfl, by decide⟩ dX12_readRule_90 rfl ?_
    rintro _ _ ⟨r90, g90, f90, w90, rfl, rfl, h⟩
    refine s_istore_n (n := 94) (lv2 := [some (.ref (ad 0)), some (.int v1), some (.int r90), some (.int 0)]) hG dX12_readRule_93 rfl rfl rfl ?_
    refine s_iload_n (n := 95) hG dX12_readRule_94 rfl rfl ?_
    refine s_bipush (n := 97) hG dX12_readRule_95 kb_8 rfl ?_
    refine s_icmp_ne (n := 100) (tgt := 126) hG dX12_readRule_97 rfl rfl (fun c => ?_) (fun c => ?_)
    · replace h := h.1 c
      exact s_wk hG (sX12_readRule_j126 hE hG hQ  h) ⟨rfl, rfl, rfl, rfl, trivial⟩
    · replace h := h.2 c
      refine s_aload_n (n := 101) hG dX12_readRule_100 rfl rfl ?_
      refine s_aload_n (n := 102) hG dX12_readRule_101 rfl rfl ?_
      refine s_bipush (n := 104) hG dX12_readRule_102 kb_101 rfl ?_
      refine s_bipush (n := 106) hG dX12_readRule_104 kb_118 rfl ?_
      refine s_bipush (n := 108) hG dX12_readRule_106 kb_101 rfl ?_
      refine s_bipush (n := 110) hG dX12_readRule_108 kb_114 rfl ?_
      refine s_bipush (n := 112) hG dX12_readRule_110 kb_121 rfl ?_
      refine s_iconst (n := 113) hG dX12_readRule_112 ki_0 rfl ?_
      refine s_iconst (n := 114) hG dX12_readRule_113 ki_0 rfl ?_
      refine s_callV (n := 117) (st := [.ref (ad 0)]) hG (mX12_isWord hE h) ceX12_isWord lmX12_231 ⟨by decide, rfl, rfl⟩ rfl ⟨rfl, Nat.le_of_ble_eq_true rfl, by decide⟩ dX12_readRule_114 rfl ?_
      rintro _ _ ⟨r114, g114, f114, w114, rfl, rfl, h⟩
      refine s_callV (n := 120) (st := []) hG (mX12_must hE h) ceX12_must lmX12_227 ⟨by decide, rfl, rfl⟩ rfl ⟨rfl, Nat.le_of_ble_eq_true rfl, by decide⟩ dX12_readRule_117 rfl ?_
      rintro _ _ ⟨g117, f117, w117, rfl, rfl, h⟩
      refine s_aload_n (n := 121) hG dX12_readRule_120 rfl rfl ?_
      refine s_lconst (n := 122) hG dX12_readRule_121 kl_1 rfl ?_
      refine s_callV (n := 125) (st := []) hG (mX12_number hE h) ceX12_number lmX12_241 ⟨by decide, rfl, rfl⟩ rfl ⟨rfl, Nat.le_of_ble_eq_true rfl, by decide⟩ dX12_readRule_122 rfl ?_
      rintro _ _ ⟨r122, g122, f122, w122, rfl, rfl, h⟩
      refine s_istore_n (n := 126) (lv2 := [some (.ref (ad 0)), some (.int v1), some (.int r90), some (.int r122)]) hG dX12_readRule_125 rfl rfl rfl ?_
      exact s_wk hG (sX12_readRule_j126 hE hG hQ  h) ⟨rfl, rfl, rfl, rfl, trivial⟩
  · replace h := h.2 c
    refine s_aload_n (n := 37) hG dX12_readRule_36 rfl rfl ?_
    refine s_aload_n (n := 38) hG dX12_readRule_37 rfl rfl ?_
    refine s_bipush (n := 40) hG dX12_readRule_38 kb_102 rfl ?_
    refine s_bipush (n := 42) hG dX12_readRule_40 kb_114 rfl ?_
    refine s_bipush (n := 44) hG dX12_readRule_42 kb_111 rfl ?_
    refine s_bipush (n := 46) hG dX12_readRule_44 kb_109 rfl ?_
    refine s_iconst (n := 47) hG dX12_readRule_46 ki_0 rfl ?_
    refine s_iconst (n := 48) hG dX12_readRule_47 ki_0 rfl ?_
    refine s_iconst (n := 49) hG dX12_readRule_48 ki_0 rfl ?_
    refine s_callV (n := 52) (st := [.ref (ad 0)]) hG (mX12_isWord hE h) ceX12_isWord lmX12_231 ⟨by decide, rfl, rfl⟩ rfl ⟨rfl, Nat.le_of_ble_eq_true rfl, by decide⟩ dX12_readRule_49 rfl ?_
    rintro _ _ ⟨r49, g49, f49, w49, rfl, rfl, h⟩
    refine s_callV (n := 55) (st := []) hG (mX12_must hE h) ceX12_must lmX12_227 ⟨by decide, rfl, rfl⟩ rfl ⟨rfl, Nat.le_of_ble_eq_true rfl, by decide⟩ dX12_readRule_52 rfl ?_
    rintro _ _ ⟨g52, f52, w52, rfl, rfl, h⟩
    refine s_aload_n (n := 56) hG dX12_readRule_55 rfl rfl ?_
    refine s_lconst (n := 57) hG dX12_readRule_56 kl_0 rfl ?_
    refine s_callV (n := 60) (st := []) hG (mX12_number hE h) ceX12_number lmX12_241 ⟨by decide, rfl, rfl⟩ rfl ⟨rfl, Nat.le_of_ble_eq_true rfl, by decide⟩ dX12_readRule_57 rfl ?_
    rintro _ _ ⟨r57, g57, f57, w57, rfl, rfl, h⟩
    refine s_istore_n (n := 61) (lv2 := [some (.ref (ad 0)), some (.int v1), some (.int r57), some (.int 0)]) hG dX12_readRule_60 rfl rfl rfl ?_
    refine s_aload_n (n := 62) hG dX12_readRule_61 rfl rfl ?_
    refine s_aload_n (n := 63) hG dX12_readRule_62 rfl rfl ?_
    refine s_bipush (n := 65) hG dX12_readRule_63 kb_116 rfl ?_
    refine s_bipush (n := 67) hG dX12_readRule_65 kb_111 rfl ?_
    refine s_iconst (n := 68) hG dX12_readRule_67 ki_0 rfl ?_
    refine s_iconst (n := 69) hG dX12_readRule_68 ki_0 rfl ?_
    refine s_iconst (n := 70) hG dX12_readRule_69 ki_0 rfl ?_
    refine s_iconst (n := 71) hG dX12_readRule_70 ki_0 rfl ?_
    refine s_iconst (n := 72) hG dX12_readRule_71 ki_0 rfl ?_
    refine s_callV (n := 75) (st := [.ref (ad 0)]) hG (mX12_isWord hE h) ceX12_isWord lmX12_231 ⟨by decide, rfl, rfl⟩ rfl ⟨rfl, Nat.le_of_ble_eq_true rfl, by decide⟩ dX12_readRule_72 rfl ?_
    rintro _ _ ⟨r72, g72, f72, w72, rfl, rfl, h⟩
    refine s_callV (n := 78) (st := []) hG (mX12_must hE h) ceX12_must lmX12_227 ⟨by decide, rfl, rfl⟩ rfl ⟨rfl, Nat.le_of_ble_eq_true rfl, by decide⟩ dX12_readRule_75 rfl ?_
    rintro _ _ ⟨g75, f75, w75, rfl, rfl, h⟩
    refine s_aload_n (n := 79) hG dX12_readRule_78 rfl rfl ?_
    refine s_iload_n (n := 80) hG dX12_readRule_79 rfl rfl ?_
    refine s_i2l (n := 81) hG dX12_readRule_80 rfl ?_
    refine s_callV (n := 84) (st := []) hG (mX12_number hE h) ceX12_number lmX12_241 ⟨by decide, rfl, rfl⟩ rfl ⟨rfl, Nat.le_of_ble_eq_true rfl, by decide⟩ dX12_readRule_81 rfl ?_
    rintro _ _ ⟨r81, g81, f81, w81, rfl, rfl, h⟩
    refine s_istore_n (n := 85) (lv2 := [some (.ref (ad 0)), some (.int v1), some (.int r57), some (.int r81)]) hG dX12_readRule_84 rfl rfl rfl ?_
    refine s_goto (tgt := 126) hG dX12_readRule_85 rfl ?_
    exact s_wk hG (sX12_readRule_j126 hE hG hQ  h) ⟨rfl, rfl, rfl, rfl, trivial⟩
def wX12_readRule_j23 (N : Nat)  (Q : gFG → gFF → Int64 → Prop) (v1 : Int32) (g : gFG) (f : gFF) (w : Int64) : Prop := wX12_readRule_j24 N  Q v1 0 g f w
theorem sX12_readRule_j23 {G : gG} {Rt : Option Value → gSt → Prop} (hE : gInj layM ad ∧ gZok (gA layM ad) Z) (hG : gSim l D cs layM ad Z 5 RX12 cX12_readRule 4 none G Rt) {Q : gFG → gFF → Int64 → Prop} (hQ : ∀ v S, gMv Q v S → Rt v S) {N : Nat}   {v1 : Int32} {g : gFG} {f : gFF} {w : Int64}  (h : wX12_readRule_j23 N  Q v1 g f w) : G 23 [some (.ref (ad 0)), some (.int v1), none, none] [.ref (ad 0)] (g, f, w) := by
  unfold wX12_readRule_j23 at h
  refine s_iconst (n := 24) hG dX12_readRule_23 ki_0 rfl ?_
  exact s_wk hG (sX12_readRule_j24 hE hG hQ  h) ⟨rfl, rfl, trivial⟩
def wX12_readRule (N : Nat)  (g : gFG) (f : gFF) (w : Int64) (Q : gFG → gFF → Int64 → Prop) : Prop := wX12_sortAt N g f w (fun r1 g1 f1 w1 => ((r1 < 0) → wX12_readRule_j23 N  Q r1 g1 f1 w1) ∧ ((¬ r1 < 0) → ((20 ≤ (g1 29)) → wX12_readRule_j23 N  Q r1 g1 f1 w1) ∧ ((¬ 20 ≤ (g1 29)) → wX12_readRule_j24 N  Q r1 1 g1 f1 w1)))
theorem mX12_readRule (hE : gInj layM ad ∧ gZok (gA layM ad) Z) {N : Nat}  {g : gFG} {f : gFF} {w : Int64} {Q : gFG → gFF → Int64 → Prop} (h : wX12_readRule N  g f w Q) : gCT l D cs layM ad Z 5 yX12_readRule cX12_readRule 4 none [.ref (ad 0)] (g, f, w) (gMv Q) := by
  refine met_walk (lv0 := [some (.ref (ad 0)), none, none, none]) hE (by decide) (Nat.le_of_ble_eq_true rfl) rfl (fun G Rt hG hQ => ?_)
  replace hG : gSim l D cs layM ad Z 5 RX12 cX12_readRule 4 none G Rt := hG
  unfold wX12_readRule at h
  refine s_aload_n (n := 1) hG dX12_readRule_0 rfl rfl ?_
  refine s_callV (n := 4) (st := []) hG (mX12_sortAt hE h) ceX12_sortAt lmX12_235 ⟨by decide, rfl, rfl⟩ rfl ⟨rfl, Nat.le_of_ble_eq_true rfl, by decide⟩ dX12_readRule_1 rfl ?_
  rintro _ _ ⟨r1, g1, f1, w1, rfl, rfl, h⟩
  refine s_istore_n (n := 5) (lv2 := [some (.ref (ad 0)), some (.int r1), none, none]) hG dX12_readRule_4 rfl rfl rfl ?_
  refine s_aload_n (n := 6) hG dX12_readRule_5 rfl rfl ?_
  refine s_iload_n (n := 7) hG dX12_readRule_6 rfl rfl ?_
  refine s_if_lt (n := 10) (tgt := 23) hG dX12_readRule_7 rfl rfl (fun c => ?_) (fun c => ?_)
  · replace h := h.1 c
    exact s_wk hG (sX12_readRule_j23 hE hG hQ  h) ⟨rfl, rfl, trivial⟩
  · replace h := h.2 c
    refine s_aload_n (n := 11) hG dX12_readRule_10 rfl rfl ?_
    refine gtX12_238 (n := 14) hG dX12_readRule_11 rfl ?_
    refine s_bipush (n := 16) hG dX12_readRule_14 kb_20 rfl ?_
    refine s_icmp_ge (n := 19) (tgt := 23) hG dX12_readRule_16 rfl rfl (fun c => ?_) (fun c => ?_)
    · replace h := h.1 c
      exact s_wk hG (sX12_readRule_j23 hE hG hQ  h) ⟨rfl, rfl, trivial⟩
    · replace h := h.2 c
      refine s_iconst (n := 20) hG dX12_readRule_19 ki_1 rfl ?_
      refine s_goto (tgt := 24) hG dX12_readRule_20 rfl ?_
      exact s_wk hG (sX12_readRule_j24 hE hG hQ  h) ⟨rfl, rfl, trivial⟩
def wX12_rules_l125 (N : Nat)   (Q : Int32 → gFG → gFF → Int64 → Prop) : Nat → Int32 → gFG → gFF → Int64 → Prop
  | 0, _, _, _, _ => False
  | n + 1, v1, g, f, w => (((g 24) ≤ v1) → wX12_told N (g 24) g f w (fun r190 g190 f190 w190 => Q r190 g190 f190 w190)) ∧ ((¬ (g 24) ≤ v1) → ∀ i145 : Int32, i145 = (3 * v1) → (vp_in i145 60) ∧ (∀ y146 : Int32, y146 = (f 19 i145.toNatClampNeg) → (vp_in v1 20) ∧ (∀ f146 : gFF, f146 = (va_up f 16 (upd (f 16) v1.toNatClampNeg y146)) → ∀ i161 : Int32, i161 = ((3 * v1) + 1) → (vp_in i161 60) ∧ (∀ y162 : Int32, y162 = (f146 19 i161.toNatClampNeg) → (vp_in v1 20) ∧ (∀ f162 : gFF, f162 = (va_up f146 17 (upd (f146 17) v1.toNatClampNeg y162)) → ∀ i177 : Int32, i177 = ((3 * v1) + 2) → (vp_in i177 60) ∧ (∀ y178 : Int32, y178 = (f162 19 i177.toNatClampNeg) → (vp_in v1 20) ∧ (∀ f178 : gFF, f178 = (va_up f162 18 (upd (f162 18) v1.toNatClampNeg y178)) → ∀ x1_179 : Int32, x1_179 = (v1 + 1) → wX12_rules_l125 N   Q n x1_179 g f178 w)))))))
theorem sX12_rules_l125 {G : gG} {Rt : Option Value → gSt → Prop} (hE : gInj layM ad ∧ gZok (gA layM ad) Z) (hG : gSim l D cs layM ad Z 6 RX12 cX12_rules 2 (some .int) G Rt) {Q : Int32 → gFG → gFF → Int64 → Prop} (hQ : ∀ v S, gMi Q v S → Rt v S) {N : Nat}     : ∀ (n : Nat) (v1 : Int32) (g : gFG) (f : gFF) (w : Int64), wX12_rules_l125 N   Q n v1 g f w → G 125 [some (.ref (ad 0)), some (.int v1)] [] (g, f, w) := by
  intro n
  induction n with
  | zero => intro _ _ _ _ h; unfold wX12_rules_l125 at h; exact h.elim
  | succ n ih =>
    intro v1 g f w h
    unfold wX12_rules_l125 at h
    refine s_iload_n (n := 126) hG dX12_rules_125 rfl rfl ?_
    refine s_aload_n (n := 127) hG dX12_rules_126 rfl rfl ?_
    refine gtX12_250 (n := 130) hG dX12_rules_127 rfl ?_
    refine s_icmp_ge (n := 133) (tgt := 185) hG dX12_rules_130 rfl rfl (fun c => ?_) (fun c => ?_)
    · replace h := h.1 c
      refine s_aload_n (n := 186) hG dX12_rules_185 rfl rfl ?_
      refine s_aload_n (n := 187) hG dX12_rules_186 rfl rfl ?_
      refine gtX12_250 (n := 190) hG dX12_rules_187 rfl ?_
      refine s_callV (n := 193) (st := []) hG (mX12_told hE h) ceX12_told lmX12_113 ⟨by decide, rfl, rfl⟩ rfl ⟨rfl, Nat.le_of_ble_eq_true rfl, by decide⟩ dX12_rules_190 rfl ?_
      rintro _ _ ⟨r190, g190, f190, w190, rfl, rfl, h⟩
      exact s_iret hG dX12_rules_193 (hQ _ _ ⟨_, _, _, _, rfl, rfl, h⟩)
    · replace h := h.2 c
      refine s_aload_n (n := 134) hG dX12_rules_133 rfl rfl ?_
      refine gtX12_66 (n := 137) hG dX12_rules_134 rfl ?_
      refine s_iload_n (n := 138) hG dX12_rules_137 rfl rfl ?_
      refine s_aload_n (n := 139) hG dX12_rules_138 rfl rfl ?_
      refine gtX12_75 (n := 142) hG dX12_rules_139 rfl ?_
      refine s_iconst (n := 143) hG dX12_rules_142 ki_3 rfl ?_
      refine s_iload_n (n := 144) hG dX12_rules_143 rfl rfl ?_
      refine s_imul (n := 145) hG dX12_rules_144 rfl ?_
      refine s_topi (fun i145 hi145 => ?_)
      replace h := h i145 hi145
      obtain ⟨hin, h⟩ := h
      refine s_iald (n := 146) hG dX12_rules_145 (gaM_19 hin) rfl ?_
      refine s_topi (fun y146 hy146 => ?_)
      replace h := h y146 hy146
      obtain ⟨hin, h⟩ := h
      refine s_iast (n := 147) hG dX12_rules_146 (gaM_16 hin) rfl ?_
      refine s_nf (fun f146 hf146 => ?_)
      replace h := h f146 hf146
      refine s_aload_n (n := 148) hG dX12_rules_147 rfl rfl ?_
      refine gtX12_69 (n := 151) hG dX12_rules_148 rfl ?_
      refine s_iload_n (n := 152) hG dX12_rules_151 rfl rfl ?_
      refine s_aload_n (n := 153) hG dX12_rules_152 rfl rfl ?_
      refine gtX12_75 (n := 156) hG dX12_rules_153 rfl ?_
      refine s_iconst (n := 157) hG dX12_rules_156 ki_3 rfl ?_
      refine s_iload_n (n := 158) hG dX12_rules_157 rfl rfl ?_
      refine s_imul (n := 159) hG dX12_rules_158 rfl ?_
      refine s_iconst (n := 160) hG dX12_rules_159 ki_1 rfl ?_
      refine s_iadd (n := 161) hG dX12_rules_160 rfl ?_
      refine s_topi (fun i161 hi161 => ?_)
      replace h := h i161 hi161
      obtain ⟨hin, h⟩ := h
      refine s_iald (n := 162) hG dX12_rules_161 (gaM_19 hin) rfl ?_
      refine s_topi (fun y162 hy162 => ?_)
      replace h := h y162 hy162
      obtain ⟨hin, h⟩ := h
      refine s_iast (n := 163) hG dX12_rules_162 (gaM_17 hin) rfl ?_
      refine s_nf (fun f162 hf162 => ?_)
      replace h := h f162 hf162
      refine s_aload_n (n := 164) hG dX12_rules_163 rfl rfl ?_
      refine gtX12_72 (n := 167) hG dX12_rules_164 rfl ?_
      refine s_iload_n (n := 168) hG dX12_rules_167 rfl rfl ?_
      refine s_aload_n (n := 169) hG dX12_rules_168 rfl rfl ?_
      refine gtX12_75 (n := 172) hG dX12_rules_169 rfl ?_
      refine s_iconst (n := 173) hG dX12_rules_172 ki_3 rfl ?_
      refine s_iload_n (n := 174) hG dX12_rules_173 rfl rfl ?_
      refine s_imul (n := 175) hG dX12_rules_174 rfl ?_
      refine s_iconst (n := 176) hG dX12_rules_175 ki_2 rfl ?_
      refine s_iadd (n := 177) hG dX12_rules_176 rfl ?_
      refine s_topi (fun i177 hi177 => ?_)
      replace h := h i177 hi177
      obtain ⟨hin, h⟩ := h
      refine s_iald (n := 178) hG dX12_rules_177 (gaM_19 hin) rfl ?_
      refine s_topi (fun y178 hy178 => ?_)
      replace h := h y178 hy178
      obtain ⟨hin, h⟩ := h
      refine s_iast (n := 179) hG dX12_rules_178 (gaM_18 hin) rfl ?_
      refine s_nf (fun f178 hf178 => ?_)
      replace h := h f178 hf178
      obtain ⟨x1_179, hx1_179⟩ : ∃ z : Int32, z = (v1 + 1) := ⟨_, rfl⟩
      replace h := h x1_179 hx1_179
      refine s_iinc (n := 182) (v := x1_179) (lv2 := [some (.ref (ad 0)), some (.int x1_179)]) hG dX12_rules_179 ki_1 rfl hx1_179 rfl rfl rfl ?_
      refine s_goto (tgt := 125) hG dX12_rules_182 rfl ?_
      exact s_wk hG (ih _ _ _ _ h) ⟨rfl, rfl, trivial⟩
def wX12_rules_j96 (N : Nat)  (Q : Int32 → gFG → gFF → Int64 → Prop)  (g : gFG) (f : gFF) (w : Int64) : Prop := ∀ g98 : gFG, g98 = (va_up g 31 0) → (((g98 37) = 0) → ∀ y120 : Int32, y120 = (g98 29) → ∀ g120 : gFG, g120 = (va_up g98 24 y120) → wX12_rules_l125 N  Q N 0 g120 f w) ∧ ((¬ (g98 37) = 0) → wX12_told N (-6) g98 f w (fun r111 g111 f111 w111 => Q r111 g111 f111 w111))
theorem sX12_rules_j96 {G : gG} {Rt : Option Value → gSt → Prop} (hE : gInj layM ad ∧ gZok (gA layM ad) Z) (hG : gSim l D cs layM ad Z 6 RX12 cX12_rules 2 (some .int) G Rt) {Q : Int32 → gFG → gFF → Int64 → Prop} (hQ : ∀ v S, gMi Q v S → Rt v S) {N : Nat}    {g : gFG} {f : gFF} {w : Int64}  (h : wX12_rules_j96 N  Q  g f w) : G 96 [some (.ref (ad 0)), none] [] (g, f, w) := by
  unfold wX12_rules_j96 at h
  refine s_aload_n (n := 97) hG dX12_rules_96 rfl rfl ?_
  refine s_iconst (n := 98) hG dX12_rules_97 ki_0 rfl ?_
  refine ptX12_187 (n := 101) hG dX12_rules_98 rfl ?_
  refine s_ng (fun g98 hg98 => ?_)
  replace h := h g98 hg98
  refine s_aload_n (n := 102) hG dX12_rules_101 rfl rfl ?_
  refine gtX12_220 (n := 105) hG dX12_rules_102 rfl ?_
  refine s_if_eq (n := 108) (tgt := 115) hG dX12_rules_105 rfl rfl (fun c => ?_) (fun c => ?_)
  · replace h := h.1 c
    refine s_aload_n (n := 116) hG dX12_rules_115 rfl rfl ?_
    refine s_aload_n (n := 117) hG dX12_rules_116 rfl rfl ?_
    refine gtX12_238 (n := 120) hG dX12_rules_117 rfl ?_
    refine s_topi (fun y120 hy120 => ?_)
    replace h := h y120 hy120
    refine ptX12_250 (n := 123) hG dX12_rules_120 rfl ?_
    refine s_ng (fun g120 hg120 => ?_)
    replace h := h g120 hg120
    refine s_iconst (n := 124) hG dX12_rules_123 ki_0 rfl ?_
    refine s_istore_n (n := 125) (lv2 := [some (.ref (ad 0)), some (.int 0)]) hG dX12_rules_124 rfl rfl rfl ?_
    exact s_wk hG (sX12_rules_l125 hE hG hQ  N _ _ _ _ h) ⟨rfl, rfl, trivial⟩
  · replace h := h.2 c
    refine s_aload_n (n := 109) hG dX12_rules_108 rfl rfl ?_
    refine s_bipush (n := 111) hG dX12_rules_109 kb_m6 rfl ?_
    refine s_callV (n := 114) (st := []) hG (mX12_told hE h) ceX12_told lmX12_113 ⟨by decide, rfl, rfl⟩ rfl ⟨rfl, Nat.le_of_ble_eq_true rfl, by decide⟩ dX12_rules_111 rfl ?_
    rintro _ _ ⟨r111, g111, f111, w111, rfl, rfl, h⟩
    exact s_iret hG dX12_rules_114 (hQ _ _ ⟨_, _, _, _, rfl, rfl, h⟩)
def wX12_rules_j77 (N : Nat)  (Q : Int32 → gFG → gFF → Int64 → Prop)  (g : gFG) (f : gFF) (w : Int64) : Prop := ((¬ (g 37) = 0) → wX12_rules_j96 N  Q g f w) ∧ (((g 37) = 0) → (((g 34) = 0) → wX12_rules_j96 N  Q g f w) ∧ ((¬ (g 34) = 0) → wX12_must N 0 g f w (fun g93 f93 w93 => wX12_rules_j96 N  Q g93 f93 w93)))
theorem sX12_rules_j77 {G : gG} {Rt : Option Value → gSt → Prop} (hE : gInj layM ad ∧ gZok (gA layM ad) Z) (hG : gSim l D cs layM ad Z 6 RX12 cX12_rules 2 (some .int) G Rt) {Q : Int32 → gFG → gFF → Int64 → Prop} (hQ : ∀ v S, gMi Q v S → Rt v S) {N : Nat}    {g : gFG} {f : gFF} {w : Int64}  (h : wX12_rules_j77 N  Q  g f w) : G 77 [some (.ref (ad 0)), none] [] (g, f, w) := by
  unfold wX12_rules_j77 at h
  refine s_aload_n (n := 78) hG dX12_rules_77 rfl rfl ?_
  refine gtX12_220 (n := 81) hG dX12_rules_78 rfl ?_
  refine s_if_ne (n := 84) (tgt := 96) hG dX12_rules_81 rfl rfl (fun c => ?_) (fun c => ?_)
  · replace h := h.1 c
    exact s_wk hG (sX12_rules_j96 hE hG hQ  h) ⟨rfl, trivial⟩
  · replace h := h.2 c
    refine s_aload_n (n := 85) hG dX12_rules_84 rfl rfl ?_
    refine gtX12_209 (n := 88) hG dX12_rules_85 rfl ?_
    refine s_if_eq (n := 91) (tgt := 96) hG dX12_rules_88 rfl rfl (fun c => ?_) (fun c => ?_)
    · replace h := h.1 c
      exact s_wk hG (sX12_rules_j96 hE hG hQ  h) ⟨rfl, trivial⟩
    · replace h := h.2 c
      refine s_aload_n (n := 92) hG dX12_rules_91 rfl rfl ?_
      refine s_iconst (n := 93) hG dX12_rules_92 ki_0 rfl ?_
      refine s_callV (n := 96) (st := []) hG (mX12_must hE h) ceX12_must lmX12_227 ⟨by decide, rfl, rfl⟩ rfl ⟨rfl, Nat.le_of_ble_eq_true rfl, by decide⟩ dX12_rules_93 rfl ?_
      rintro _ _ ⟨g93, f93, w93, rfl, rfl, h⟩
      exact s_wk hG (sX12_rules_j96 hE hG hQ  h) ⟨rfl, trivial⟩
def wX12_rules_l40 (N : Nat)   (Q : Int32 → gFG → gFF → Int64 → Prop) : Nat → gFG → gFF → Int64 → Prop
  | 0, _, _, _ => False
  | n + 1, g, f, w => ((¬ (g 37) = 0) → wX12_rules_j77 N  Q g f w) ∧ (((g 37) = 0) → ((¬ (g 34) = 3) → wX12_rules_j77 N  Q g f w) ∧ (((g 34) = 3) → ((¬ (lg_cmp w 59) = 0) → wX12_rules_j77 N  Q g f w) ∧ (((lg_cmp w 59) = 0) → wX12_next N g f w (fun g67 f67 w67 => wX12_readRule N g67 f67 w67 (fun g71 f71 w71 => wX12_rules_l40 N   Q n g71 f71 w71)))))
theorem sX12_rules_l40 {G : gG} {Rt : Option Value → gSt → Prop} (hE : gInj layM ad ∧ gZok (gA layM ad) Z) (hG : gSim l D cs layM ad Z 6 RX12 cX12_rules 2 (some .int) G Rt) {Q : Int32 → gFG → gFF → Int64 → Prop} (hQ : ∀ v S, gMi Q v S → Rt v S) {N : Nat}     : ∀ (n : Nat)  (g : gFG) (f : gFF) (w : Int64), wX12_rules_l40 N   Q n  g f w → G 40 [some (.ref (ad 0)), none] [] (g, f, w) := by
  intro n
  induction n with
  | zero => intro _ _ _ h; unfold wX12_rules_l40 at h; exact h.elim
  | succ n ih =>
    intro  g f w h
    unfold wX12_rules_l40 at h
    refine s_aload_n (n := 41) hG dX12_rules_40 rfl rfl ?_
    refine gtX12_220 (n := 44) hG dX12_rules_41 rfl ?_
    refine s_if_ne (n := 47) (tgt := 77) hG dX12_rules_44 rfl rfl (fun c => ?_) (fun c => ?_)
    · replace h := h.1 c
      exact s_wk hG (sX12_rules_j77 hE hG hQ  h) ⟨rfl, trivial⟩
    · replace h := h.2 c
      refine s_aload_n (n := 48) hG dX12_rules_47 rfl rfl ?_
      refine gtX12_209 (n := 51) hG dX12_rules_48 rfl ?_
      refine s_iconst (n := 52) hG dX12_rules_51 ki_3 rfl ?_
      refine s_icmp_ne (n := 55) (tgt := 77) hG dX12_rules_52 rfl rfl (fun c => ?_) (fun c => ?_)
      · replace h := h.1 c
        exact s_wk hG (sX12_rules_j77 hE hG hQ  h) ⟨rfl, trivial⟩
      · replace h := h.2 c
        refine s_aload_n (n := 56) hG dX12_rules_55 rfl rfl ?_
        refine gtX12_199 (n := 59) hG dX12_rules_56 rfl ?_
        refine s_ldc2_w (n := 62) hG dX12_rules_59 lcX12_248 rfl ?_
        refine s_lcmp (n := 63) hG dX12_rules_62 rfl ?_
        refine s_if_ne (n := 66) (tgt := 77) hG dX12_rules_63 rfl rfl (fun c => ?_) (fun c => ?_)
        · replace h := h.1 c
          exact s_wk hG (sX12_rules_j77 hE hG hQ  h) ⟨rfl, trivial⟩
        · replace h := h.2 c
          refine s_aload_n (n := 67) hG dX12_rules_66 rfl rfl ?_
          refine s_callV (n := 70) (st := []) hG (mX12_next hE h) ceX12_next lmX12_224 ⟨by decide, rfl, rfl⟩ rfl ⟨rfl, Nat.le_of_ble_eq_true rfl, by decide⟩ dX12_rules_67 rfl ?_
          rintro _ _ ⟨g67, f67, w67, rfl, rfl, h⟩
          refine s_aload_n (n := 71) hG dX12_rules_70 rfl rfl ?_
          refine s_callV (n := 74) (st := []) hG (mX12_readRule hE h) ceX12_readRule lmX12_245 ⟨by decide, rfl, rfl⟩ rfl ⟨rfl, Nat.le_of_ble_eq_true rfl, by decide⟩ dX12_rules_71 rfl ?_
          rintro _ _ ⟨g71, f71, w71, rfl, rfl, h⟩
          refine s_goto (tgt := 40) hG dX12_rules_74 rfl ?_
          exact s_wk hG (ih _ _ _ h) ⟨rfl, trivial⟩
def wX12_rules (N : Nat)  (g : gFG) (f : gFF) (w : Int64) (Q : Int32 → gFG → gFF → Int64 → Prop) : Prop := ∀ g2 : gFG, g2 = (va_up g 0 0) → ∀ g7 : gFG, g7 = (va_up g2 33 0) → ∀ g12 : gFG, g12 = (va_up g7 37 0) → ∀ g17 : gFG, g17 = (va_up g12 36 (-1)) → ∀ g22 : gFG, g22 = (va_up g17 29 0) → wX12_next N g22 f w (fun g26 f26 w26 => (((g26 34) = 0) → wX12_rules_j96 N  Q g26 f26 w26) ∧ ((¬ (g26 34) = 0) → wX12_readRule N g26 f26 w26 (fun g37 f37 w37 => wX12_rules_l40 N  Q N g37 f37 w37)))
theorem mX12_rules (hE : gInj layM ad ∧ gZok (gA layM ad) Z) {N : Nat}  {g : gFG} {f : gFF} {w : Int64} {Q : Int32 → gFG → gFF → Int64 → Prop} (h : wX12_rules N  g f w Q) : gCT l D cs layM ad Z 6 yX12_rules cX12_rules 2 (some .int) [.ref (ad 0)] (g, f, w) (gMi Q) := by
  refine met_walk (lv0 := [some (.ref (ad 0)), none]) hE (by decide) (Nat.le_of_ble_eq_true rfl) rfl (fun G Rt hG hQ => ?_)
  replace hG : gSim l D cs layM ad Z 6 RX12 cX12_rules 2 (some .int) G Rt := hG
  unfold wX12_rules at h
  refine s_aload_n (n := 1) hG dX12_rules_0 rfl rfl ?_
  refine s_iconst (n := 2) hG dX12_rules_1 ki_0 rfl ?_
  refine ptX12_96 (n := 5) hG dX12_rules_2 rfl ?_
  refine s_ng (fun g2 hg2 => ?_)
  replace h := h g2 hg2
  refine s_aload_n (n := 6) hG dX12_rules_5 rfl rfl ?_
  refine s_iconst (n := 7) hG dX12_rules_6 ki_0 rfl ?_
  refine ptX12_193 (n := 10) hG dX12_rules_7 rfl ?_
  refine s_ng (fun g7 hg7 => ?_)
  replace h := h g7 hg7
  refine s_aload_n (n := 11) hG dX12_rules_10 rfl rfl ?_
  refine s_iconst (n := 12) hG dX12_rules_11 ki_0 rfl ?_
  refine ptX12_220 (n := 15) hG gz_0 dX12_rules_12 rfl ?_
  refine s_ng (fun g12 hg12 => ?_)
  replace h := h g12 hg12
  refine s_aload_n (n := 16) hG dX12_rules_15 rfl rfl ?_
  refine s_iconst (n := 17) hG dX12_rules_16 ki_m1 rfl ?_
  refine ptX12_81 (n := 20) hG dX12_rules_17 rfl ?_
  refine s_ng (fun g17 hg17 => ?_)
  replace h := h g17 hg17
  refine s_aload_n (n := 21) hG dX12_rules_20 rfl rfl ?_
  refine s_iconst (n := 22) hG dX12_rules_21 ki_0 rfl ?_
  refine ptX12_238 (n := 25) hG dX12_rules_22 rfl ?_
  refine s_ng (fun g22 hg22 => ?_)
  replace h := h g22 hg22
  refine s_aload_n (n := 26) hG dX12_rules_25 rfl rfl ?_
  refine s_callV (n := 29) (st := []) hG (mX12_next hE h) ceX12_next lmX12_224 ⟨by decide, rfl, rfl⟩ rfl ⟨rfl, Nat.le_of_ble_eq_true rfl, by decide⟩ dX12_rules_26 rfl ?_
  rintro _ _ ⟨g26, f26, w26, rfl, rfl, h⟩
  refine s_aload_n (n := 30) hG dX12_rules_29 rfl rfl ?_
  refine gtX12_209 (n := 33) hG dX12_rules_30 rfl ?_
  refine s_if_eq (n := 36) (tgt := 96) hG dX12_rules_33 rfl rfl (fun c => ?_) (fun c => ?_)
  · replace h := h.1 c
    exact s_wk hG (sX12_rules_j96 hE hG hQ  h) ⟨rfl, trivial⟩
  · replace h := h.2 c
    refine s_aload_n (n := 37) hG dX12_rules_36 rfl rfl ?_
    refine s_callV (n := 40) (st := []) hG (mX12_readRule hE h) ceX12_readRule lmX12_245 ⟨by decide, rfl, rfl⟩ rfl ⟨rfl, Nat.le_of_ble_eq_true rfl, by decide⟩ dX12_rules_37 rfl ?_
    rintro _ _ ⟨g37, f37, w37, rfl, rfl, h⟩
    exact s_wk hG (sX12_rules_l40 hE hG hQ  N _ _ _ h) ⟨rfl, trivial⟩
def wX12_fault (N : Nat)  (g : gFG) (f : gFF) (w : Int64) (Q : Int32 → gFG → gFF → Int64 → Prop) : Prop := ∀ g2 : gFG, g2 = (va_up g 0 0) → Q (g2 36) g2 f w
theorem mX12_fault (hE : gInj layM ad ∧ gZok (gA layM ad) Z) {N : Nat}  {g : gFG} {f : gFF} {w : Int64} {Q : Int32 → gFG → gFF → Int64 → Prop} (h : wX12_fault N  g f w Q) : gCT l D cs layM ad Z 1 yX12_fault cX12_fault 1 (some .int) [.ref (ad 0)] (g, f, w) (gMi Q) := by
  refine met_walk (lv0 := [some (.ref (ad 0))]) hE (by decide) (Nat.le_of_ble_eq_true rfl) rfl (fun G Rt hG hQ => ?_)
  replace hG : gSim l D cs layM ad Z 1 RX12 cX12_fault 1 (some .int) G Rt := hG
  unfold wX12_fault at h
  refine s_aload_n (n := 1) hG dX12_fault_0 rfl rfl ?_
  refine s_iconst (n := 2) hG dX12_fault_1 ki_0 rfl ?_
  refine ptX12_96 (n := 5) hG dX12_fault_2 rfl ?_
  refine s_ng (fun g2 hg2 => ?_)
  replace h := h g2 hg2
  refine s_aload_n (n := 6) hG dX12_fault_5 rfl rfl ?_
  refine gtX12_81 (n := 9) hG dX12_fault_6 rfl ?_
  exact s_iret hG dX12_fault_9 (hQ _ _ ⟨_, _, _, _, rfl, rfl, h⟩)
def wX12_isBroken_j136 (N : Nat)  (Q : Int32 → gFG → gFF → Int64 → Prop)  (g : gFG) (f : gFF) (w : Int64) : Prop := Q 1 g f w
theorem sX12_isBroken_j136 {G : gG} {Rt : Option Value → gSt → Prop} (hE : gInj layM ad ∧ gZok (gA layM ad) Z) (hG : gSim l D cs layM ad Z 6 RX12 cX12_isBroken 4 (some .boolean) G Rt) {Q : Int32 → gFG → gFF → Int64 → Prop} (hQ : ∀ v S, gMi Q v S → Rt v S) {N : Nat}    {g : gFG} {f : gFF} {w : Int64}  (h : wX12_isBroken_j136 N  Q  g f w) : G 136 [none, none, none, none] [] (g, f, w) := by
  unfold wX12_isBroken_j136 at h
  refine s_iconst (n := 137) hG dX12_isBroken_136 ki_1 rfl ?_
  refine s_goto (tgt := 141) hG dX12_isBroken_137 rfl ?_
  exact s_zret hG dX12_isBroken_141 (gz_n gz_1) (hQ _ _ ⟨_, _, _, _, rfl, rfl, h⟩)
def wX12_isBroken_j99 (N : Nat)  (Q : Int32 → gFG → gFF → Int64 → Prop) (v1 : Int32) (v2 : Int32) (g : gFG) (f : gFF) (w : Int64) : Prop := (((g 21) < 0) → wX12_isBroken_j136 N  Q g f w) ∧ ((¬ (g 21) < 0) → (vp_in v1 20) ∧ (((v2 < ((f 17 v1.toNatClampNeg) * (g 21))) → wX12_isBroken_j136 N  Q g f w) ∧ ((¬ v2 < ((f 17 v1.toNatClampNeg) * (g 21))) → (vp_in v1 20) ∧ (((v2 ≤ ((f 18 v1.toNatClampNeg) * (g 21))) → Q 0 g f w) ∧ ((¬ v2 ≤ ((f 18 v1.toNatClampNeg) * (g 21))) → wX12_isBroken_j136 N  Q g f w)))))
theorem sX12_isBroken_j99 {G : gG} {Rt : Option Value → gSt → Prop} (hE : gInj layM ad ∧ gZok (gA layM ad) Z) (hG : gSim l D cs layM ad Z 6 RX12 cX12_isBroken 4 (some .boolean) G Rt) {Q : Int32 → gFG → gFF → Int64 → Prop} (hQ : ∀ v S, gMi Q v S → Rt v S) {N : Nat}   {v1 : Int32} {v2 : Int32} {g : gFG} {f : gFF} {w : Int64}  (h : wX12_isBroken_j99 N  Q v1 v2 g f w) : G 99 [some (.ref (ad 0)), some (.int v1), some (.int v2), none] [] (g, f, w) := by
  unfold wX12_isBroken_j99 at h
  refine s_aload_n (n := 100) hG dX12_isBroken_99 rfl rfl ?_
  refine gtX12_57 (n := 103) hG dX12_isBroken_100 rfl ?_
  refine s_if_lt (n := 106) (tgt := 136) hG dX12_isBroken_103 rfl rfl (fun c => ?_) (fun c => ?_)
  · replace h := h.1 c
    exact s_wk hG (sX12_isBroken_j136 hE hG hQ  h) trivial
  · replace h := h.2 c
    refine s_iload_n (n := 107) hG dX12_isBroken_106 rfl rfl ?_
    refine s_aload_n (n := 108) hG dX12_isBroken_107 rfl rfl ?_
    refine gtX12_69 (n := 111) hG dX12_isBroken_108 rfl ?_
    refine s_iload_n (n := 112) hG dX12_isBroken_111 rfl rfl ?_
    obtain ⟨hin, h⟩ := h
    refine s_iald (n := 113) hG dX12_isBroken_112 (gaM_17 hin) rfl ?_
    refine s_aload_n (n := 114) hG dX12_isBroken_113 rfl rfl ?_
    refine gtX12_57 (n := 117) hG dX12_isBroken_114 rfl ?_
    refine s_imul (n := 118) hG dX12_isBroken_117 rfl ?_
    refine s_icmp_lt (n := 121) (tgt := 136) hG dX12_isBroken_118 rfl rfl (fun c => ?_) (fun c => ?_)
    · replace h := h.1 c
      exact s_wk hG (sX12_isBroken_j136 hE hG hQ  h) trivial
    · replace h := h.2 c
      refine s_iload_n (n := 122) hG dX12_isBroken_121 rfl rfl ?_
      refine s_aload_n (n := 123) hG dX12_isBroken_122 rfl rfl ?_
      refine gtX12_72 (n := 126) hG dX12_isBroken_123 rfl ?_
      refine s_iload_n (n := 127) hG dX12_isBroken_126 rfl rfl ?_
      obtain ⟨hin, h⟩ := h
      refine s_iald (n := 128) hG dX12_isBroken_127 (gaM_18 hin) rfl ?_
      refine s_aload_n (n := 129) hG dX12_isBroken_128 rfl rfl ?_
      refine gtX12_57 (n := 132) hG dX12_isBroken_129 rfl ?_
      refine s_imul (n := 133) hG dX12_isBroken_132 rfl ?_
      refine s_icmp_le (n := 136) (tgt := 140) hG dX12_isBroken_133 rfl rfl (fun c => ?_) (fun c => ?_)
      · replace h := h.1 c
        refine s_iconst (n := 141) hG dX12_isBroken_140 ki_0 rfl ?_
        exact s_zret hG dX12_isBroken_141 (gz_n gz_0) (hQ _ _ ⟨_, _, _, _, rfl, rfl, h⟩)
      · replace h := h.2 c
        exact s_wk hG (sX12_isBroken_j136 hE hG hQ  h) trivial
def wX12_isBroken_j90 (N : Nat) (K14 : Int32 → Int32 → gFG → gFF → Int64 → Prop) (Q : Int32 → gFG → gFF → Int64 → Prop) (v1 : Int32) (v3 : Int32) (t0 : Int32) (t1 : Int32) (t2 : Int32) (g : gFG) (f : gFF) (w : Int64) : Prop := ∀ x2_92 : Int32, x2_92 = (t2 + (t1 * t0)) → ∀ x3_93 : Int32, x3_93 = (v3 + 1) → K14 x2_92 x3_93 g f w
theorem sX12_isBroken_j90 {G : gG} {Rt : Option Value → gSt → Prop} (hE : gInj layM ad ∧ gZok (gA layM ad) Z) (hG : gSim l D cs layM ad Z 6 RX12 cX12_isBroken 4 (some .boolean) G Rt) {Q : Int32 → gFG → gFF → Int64 → Prop} (hQ : ∀ v S, gMi Q v S → Rt v S) {N : Nat} {K14 : Int32 → Int32 → gFG → gFF → Int64 → Prop}  {v1 : Int32} {v3 : Int32} {t0 : Int32} {t1 : Int32} {t2 : Int32} {g : gFG} {f : gFF} {w : Int64} (hK14 : ∀ (uv2 : Int32) (uv3 : Int32) (ug : gFG) (uf : gFF) (uw : Int64), K14 uv2 uv3 ug uf uw → G 14 [some (.ref (ad 0)), some (.int v1), some (.int uv2), some (.int uv3)] [] (ug, uf, uw)) (h : wX12_isBroken_j90 N K14 Q v1 v3 t0 t1 t2 g f w) : G 90 [some (.ref (ad 0)), some (.int v1), none, some (.int v3)] [.int t0, .int t1, .int t2] (g, f, w) := by
  unfold wX12_isBroken_j90 at h
  refine s_imul (n := 91) hG dX12_isBroken_90 rfl ?_
  refine s_iadd (n := 92) hG dX12_isBroken_91 rfl ?_
  refine s_topi (fun x2_92 hx2_92 => ?_)
  replace h := h x2_92 hx2_92
  refine s_istore_n (n := 93) (lv2 := [some (.ref (ad 0)), some (.int v1), some (.int x2_92), some (.int v3)]) hG dX12_isBroken_92 rfl rfl rfl ?_
  obtain ⟨x3_93, hx3_93⟩ : ∃ z : Int32, z = (v3 + 1) := ⟨_, rfl⟩
  replace h := h x3_93 hx3_93
  refine s_iinc (n := 96) (v := x3_93) (lv2 := [some (.ref (ad 0)), some (.int v1), some (.int x2_92), some (.int x3_93)]) hG dX12_isBroken_93 ki_1 rfl hx3_93 rfl rfl rfl ?_
  refine s_goto (tgt := 14) hG dX12_isBroken_96 rfl ?_
  exact s_wk hG (hK14 _ _ _ _ _ h) ⟨rfl, rfl, rfl, rfl, trivial⟩
def wX12_isBroken_l14 (N : Nat) (v1 : Int32)  (Q : Int32 → gFG → gFF → Int64 → Prop) : Nat → Int32 → Int32 → gFG → gFF → Int64 → Prop
  | 0, _, _, _, _, _ => False
  | n + 1, v2, v3, g, f, w => (((g 15) ≤ v3) → wX12_isBroken_j99 N  Q v1 v2 g f w) ∧ ((¬ (g 15) ≤ v3) → (((g 21) < 0) → wX12_isBroken_j99 N  Q v1 v2 g f w) ∧ ((¬ (g 21) < 0) → (vp_in v3 6) ∧ ((vp_in v1 20) ∧ (((¬ (f 16 v1.toNatClampNeg) = 0) → (vp_in v1 20) ∧ (((¬ (f 16 v1.toNatClampNeg) = 1) → (vp_in v3 6) ∧ ((vp_in v3 6) ∧ (wX12_isBroken_j90 N (wX12_isBroken_l14 N v1  Q n) Q v1 v3 ((1000 - (f 9 v3.toNatClampNeg)) - (f 10 v3.toNatClampNeg)) (f 13 v3.toNatClampNeg) v2 g f w))) ∧ (((f 16 v1.toNatClampNeg) = 1) → (vp_in v3 6) ∧ (wX12_isBroken_j90 N (wX12_isBroken_l14 N v1  Q n) Q v1 v3 (f 10 v3.toNatClampNeg) (f 13 v3.toNatClampNeg) v2 g f w)))) ∧ (((f 16 v1.toNatClampNeg) = 0) → (vp_in v3 6) ∧ (wX12_isBroken_j90 N (wX12_isBroken_l14 N v1  Q n) Q v1 v3 (f 9 v3.toNatClampNeg) (f 13 v3.toNatClampNeg) v2 g f w))))))
theorem sX12_isBroken_l14 {G : gG} {Rt : Option Value → gSt → Prop} (hE : gInj layM ad ∧ gZok (gA layM ad) Z) (hG : gSim l D cs layM ad Z 6 RX12 cX12_isBroken 4 (some .boolean) G Rt) {Q : Int32 → gFG → gFF → Int64 → Prop} (hQ : ∀ v S, gMi Q v S → Rt v S) {N : Nat} {v1 : Int32}    : ∀ (n : Nat) (v2 : Int32) (v3 : Int32) (g : gFG) (f : gFF) (w : Int64), wX12_isBroken_l14 N v1  Q n v2 v3 g f w → G 14 [some (.ref (ad 0)), some (.int v1), some (.int v2), some (.int v3)] [] (g, f, w) := by
  intro n
  induction n with
  | zero => intro _ _ _ _ _ h; unfold wX12_isBroken_l14 at h; exact h.elim
  | succ n ih =>
    intro v2 v3 g f w h
    unfold wX12_isBroken_l14 at h
    refine s_iload_n (n := 15) hG dX12_isBroken_14 rfl rfl ?_
    refine s_aload_n (n := 16) hG dX12_isBroken_15 rfl rfl ?_
    refine gtX12_180 (n := 19) hG dX12_isBroken_16 rfl ?_
    refine s_icmp_ge (n := 22) (tgt := 99) hG dX12_isBroken_19 rfl rfl (fun c => ?_) (fun c => ?_)
    · replace h := h.1 c
      exact s_wk hG (sX12_isBroken_j99 hE hG hQ  h) ⟨rfl, rfl, rfl, trivial⟩
    · replace h := h.2 c
      refine s_aload_n (n := 23) hG dX12_isBroken_22 rfl rfl ?_
      refine gtX12_57 (n := 26) hG dX12_isBroken_23 rfl ?_
      refine s_if_lt (n := 29) (tgt := 99) hG dX12_isBroken_26 rfl rfl (fun c => ?_) (fun c => ?_)
      · replace h := h.1 c
        exact s_wk hG (sX12_isBroken_j99 hE hG hQ  h) ⟨rfl, rfl, rfl, trivial⟩
      · replace h := h.2 c
        refine s_iload_n (n := 30) hG dX12_isBroken_29 rfl rfl ?_
        refine s_aload_n (n := 31) hG dX12_isBroken_30 rfl rfl ?_
        refine gtX12_54 (n := 34) hG dX12_isBroken_31 rfl ?_
        refine s_iload_n (n := 35) hG dX12_isBroken_34 rfl rfl ?_
        obtain ⟨hin, h⟩ := h
        refine s_iald (n := 36) hG dX12_isBroken_35 (gaM_13 hin) rfl ?_
        refine s_aload_n (n := 37) hG dX12_isBroken_36 rfl rfl ?_
        refine gtX12_66 (n := 40) hG dX12_isBroken_37 rfl ?_
        refine s_iload_n (n := 41) hG dX12_isBroken_40 rfl rfl ?_
        obtain ⟨hin, h⟩ := h
        refine s_iald (n := 42) hG dX12_isBroken_41 (gaM_16 hin) rfl ?_
        refine s_if_ne (n := 45) (tgt := 54) hG dX12_isBroken_42 rfl rfl (fun c => ?_) (fun c => ?_)
        · replace h := h.1 c
          refine s_aload_n (n := 55) hG dX12_isBroken_54 rfl rfl ?_
          refine gtX12_66 (n := 58) hG dX12_isBroken_55 rfl ?_
          refine s_iload_n (n := 59) hG dX12_isBroken_58 rfl rfl ?_
          obtain ⟨hin, h⟩ := h
          refine s_iald (n := 60) hG dX12_isBroken_59 (gaM_16 hin) rfl ?_
          refine s_iconst (n := 61) hG dX12_isBroken_60 ki_1 rfl ?_
          refine s_icmp_ne (n := 64) (tgt := 73) hG dX12_isBroken_61 rfl rfl (fun c => ?_) (fun c => ?_)
          · replace h := h.1 c
            refine s_sipush (n := 76) hG dX12_isBroken_73 ks_1000 rfl ?_
            refine s_aload_n (n := 77) hG dX12_isBroken_76 rfl rfl ?_
            refine gtX12_42 (n := 80) hG dX12_isBroken_77 rfl ?_
            refine s_iload_n (n := 81) hG dX12_isBroken_80 rfl rfl ?_
            obtain ⟨hin, h⟩ := h
            refine s_iald (n := 82) hG dX12_isBroken_81 (gaM_9 hin) rfl ?_
            refine s_isub (n := 83) hG dX12_isBroken_82 rfl ?_
            refine s_aload_n (n := 84) hG dX12_isBroken_83 rfl rfl ?_
            refine gtX12_45 (n := 87) hG dX12_isBroken_84 rfl ?_
            refine s_iload_n (n := 88) hG dX12_isBroken_87 rfl rfl ?_
            obtain ⟨hin, h⟩ := h
            refine s_iald (n := 89) hG dX12_isBroken_88 (gaM_10 hin) rfl ?_
            refine s_isub (n := 90) hG dX12_isBroken_89 rfl ?_
            exact s_wk hG (sX12_isBroken_j90 hE hG hQ ih h) ⟨rfl, rfl, rfl, trivial⟩
          · replace h := h.2 c
            refine s_aload_n (n := 65) hG dX12_isBroken_64 rfl rfl ?_
            refine gtX12_45 (n := 68) hG dX12_isBroken_65 rfl ?_
            refine s_iload_n (n := 69) hG dX12_isBroken_68 rfl rfl ?_
            obtain ⟨hin, h⟩ := h
            refine s_iald (n := 70) hG dX12_isBroken_69 (gaM_10 hin) rfl ?_
            refine s_goto (tgt := 90) hG dX12_isBroken_70 rfl ?_
            exact s_wk hG (sX12_isBroken_j90 hE hG hQ ih h) ⟨rfl, rfl, rfl, trivial⟩
        · replace h := h.2 c
          refine s_aload_n (n := 46) hG dX12_isBroken_45 rfl rfl ?_
          refine gtX12_42 (n := 49) hG dX12_isBroken_46 rfl ?_
          refine s_iload_n (n := 50) hG dX12_isBroken_49 rfl rfl ?_
          obtain ⟨hin, h⟩ := h
          refine s_iald (n := 51) hG dX12_isBroken_50 (gaM_9 hin) rfl ?_
          refine s_goto (tgt := 90) hG dX12_isBroken_51 rfl ?_
          exact s_wk hG (sX12_isBroken_j90 hE hG hQ ih h) ⟨rfl, rfl, rfl, trivial⟩
def wX12_isBroken (N : Nat) (a1 : Int32) (g : gFG) (f : gFF) (w : Int64) (Q : Int32 → gFG → gFF → Int64 → Prop) : Prop := (vp_in a1 20) ∧ (((3 ≤ (f 16 a1.toNatClampNeg)) → (vp_in a1 20) ∧ ((((f 16 a1.toNatClampNeg) = 3) → wX12_wallOf N g f w (fun r185 g185 f185 w185 => (vp_in a1 20) ∧ ((((f185 17 a1.toNatClampNeg) ≤ r185) → Q 0 g185 f185 w185) ∧ ((¬ (f185 17 a1.toNatClampNeg) ≤ r185) → Q 1 g185 f185 w185)))) ∧ ((¬ (f 16 a1.toNatClampNeg) = 3) → (((f 16 a1.toNatClampNeg) = 4) → wX12_cellsOf N 2 g f w (fun r205 g205 f205 w205 => (vp_in a1 20) ∧ (((r205 ≤ (f205 17 a1.toNatClampNeg)) → Q 0 g205 f205 w205) ∧ ((¬ r205 ≤ (f205 17 a1.toNatClampNeg)) → Q 1 g205 f205 w205)))) ∧ ((¬ (f 16 a1.toNatClampNeg) = 4) → (((f 16 a1.toNatClampNeg) = 5) → wX12_cellsOf N 1 g f w (fun r225 g225 f225 w225 => (vp_in a1 20) ∧ (((r225 ≤ (f225 17 a1.toNatClampNeg)) → Q 0 g225 f225 w225) ∧ ((¬ r225 ≤ (f225 17 a1.toNatClampNeg)) → Q 1 g225 f225 w225)))) ∧ ((¬ (f 16 a1.toNatClampNeg) = 5) → (((f 16 a1.toNatClampNeg) = 6) → (vp_in a1 20) ∧ (((((g 14) - (g 13)) ≤ (f 17 a1.toNatClampNeg)) → Q 0 g f w) ∧ ((¬ ((g 14) - (g 13)) ≤ (f 17 a1.toNatClampNeg)) → Q 1 g f w))) ∧ ((¬ (f 16 a1.toNatClampNeg) = 6) → (((f 16 a1.toNatClampNeg) = 7) → (vp_in a1 20) ∧ ((((g 14) ≤ (f 17 a1.toNatClampNeg)) → Q 0 g f w) ∧ ((¬ (g 14) ≤ (f 17 a1.toNatClampNeg)) → Q 1 g f w))) ∧ ((¬ (f 16 a1.toNatClampNeg) = 7) → wX12_cellsOf N 4 g f w (fun r288 g288 f288 w288 => (vp_in a1 20) ∧ ((vp_in a1 20) ∧ (wX12_cellsOf N 3 g288 f288 w288 (fun r306 g306 f306 w306 => ((((f288 17 a1.toNatClampNeg) * r306) ≤ (r288 * (f288 18 a1.toNatClampNeg))) → Q 0 g306 f306 w306) ∧ ((¬ ((f288 17 a1.toNatClampNeg) * r306) ≤ (r288 * (f288 18 a1.toNatClampNeg))) → Q 1 g306 f306 w306)))))))))))) ∧ ((¬ 3 ≤ (f 16 a1.toNatClampNeg)) → wX12_isBroken_l14 N a1 Q N 0 0 g f w))
theorem mX12_isBroken (hE : gInj layM ad ∧ gZok (gA layM ad) Z) {N : Nat} {a1 : Int32} {g : gFG} {f : gFF} {w : Int64} {Q : Int32 → gFG → gFF → Int64 → Prop} (h : wX12_isBroken N a1 g f w Q) : gCT l D cs layM ad Z 6 yX12_isBroken cX12_isBroken 4 (some .boolean) [.ref (ad 0), .int a1] (g, f, w) (gMi Q) := by
  refine met_walk (lv0 := [some (.ref (ad 0)), some (.int a1), none, none]) hE (by decide) (Nat.le_of_ble_eq_true rfl) rfl (fun G Rt hG hQ => ?_)
  replace hG : gSim l D cs layM ad Z 6 RX12 cX12_isBroken 4 (some .boolean) G Rt := hG
  unfold wX12_isBroken at h
  refine s_aload_n (n := 1) hG dX12_isBroken_0 rfl rfl ?_
  refine gtX12_66 (n := 4) hG dX12_isBroken_1 rfl ?_
  refine s_iload_n (n := 5) hG dX12_isBroken_4 rfl rfl ?_
  obtain ⟨hin, h⟩ := h
  refine s_iald (n := 6) hG dX12_isBroken_5 (gaM_16 hin) rfl ?_
  refine s_iconst (n := 7) hG dX12_isBroken_6 ki_3 rfl ?_
  refine s_icmp_ge (n := 10) (tgt := 142) hG dX12_isBroken_7 rfl rfl (fun c => ?_) (fun c => ?_)
  · replace h := h.1 c
    refine s_aload_n (n := 143) hG dX12_isBroken_142 rfl rfl ?_
    refine gtX12_66 (n := 146) hG dX12_isBroken_143 rfl ?_
    refine s_iload_n (n := 147) hG dX12_isBroken_146 rfl rfl ?_
    obtain ⟨hin, h⟩ := h
    refine s_iald (n := 148) hG dX12_isBroken_147 (gaM_16 hin) rfl ?_
    by_cases c0 : (f 16 a1.toNatClampNeg) = 3
    · replace h := h.1 c0
      refine s_tabIn (v := 3) (tgt := 184) (off := 36) hG dX12_isBroken_148 c0 (by decide) ?_
      refine s_aload_n (n := 185) hG dX12_isBroken_184 rfl rfl ?_
      refine s_callV (n := 188) (st := []) hG (mX12_wallOf hE h) ceX12_wallOf lmX12_155 ⟨by decide, rfl, rfl⟩ rfl ⟨rfl, Nat.le_of_ble_eq_true rfl, by decide⟩ dX12_isBroken_185 rfl ?_
      rintro _ _ ⟨r185, g185, f185, w185, rfl, rfl, h⟩
      refine s_aload_n (n := 189) hG dX12_isBroken_188 rfl rfl ?_
      refine gtX12_69 (n := 192) hG dX12_isBroken_189 rfl ?_
      refine s_iload_n (n := 193) hG dX12_isBroken_192 rfl rfl ?_
      obtain ⟨hin, h⟩ := h
      refine s_iald (n := 194) hG dX12_isBroken_193 (gaM_17 hin) rfl ?_
      refine s_icmp_ge (n := 197) (tgt := 201) hG dX12_isBroken_194 rfl rfl (fun c => ?_) (fun c => ?_)
      · replace h := h.1 c
        refine s_iconst (n := 202) hG dX12_isBroken_201 ki_0 rfl ?_
        exact s_zret hG dX12_isBroken_202 (gz_n gz_0) (hQ _ _ ⟨_, _, _, _, rfl, rfl, h⟩)
      · replace h := h.2 c
        refine s_iconst (n := 198) hG dX12_isBroken_197 ki_1 rfl ?_
        refine s_goto (tgt := 202) hG dX12_isBroken_198 rfl ?_
        exact s_zret hG dX12_isBroken_202 (gz_n gz_1) (hQ _ _ ⟨_, _, _, _, rfl, rfl, h⟩)
    · replace h := h.2 c0
      by_cases c1 : (f 16 a1.toNatClampNeg) = 4
      · replace h := h.1 c1
        refine s_tabIn (v := 4) (tgt := 203) (off := 55) hG dX12_isBroken_148 c1 (by decide) ?_
        refine s_aload_n (n := 204) hG dX12_isBroken_203 rfl rfl ?_
        refine s_iconst (n := 205) hG dX12_isBroken_204 ki_2 rfl ?_
        refine s_callV (n := 208) (st := []) hG (mX12_cellsOf hE h) ceX12_cellsOf lmX12_161 ⟨by decide, rfl, rfl⟩ rfl ⟨rfl, Nat.le_of_ble_eq_true rfl, by decide⟩ dX12_isBroken_205 rfl ?_
        rintro _ _ ⟨r205, g205, f205, w205, rfl, rfl, h⟩
        refine s_aload_n (n := 209) hG dX12_isBroken_208 rfl rfl ?_
        refine gtX12_69 (n := 212) hG dX12_isBroken_209 rfl ?_
        refine s_iload_n (n := 213) hG dX12_isBroken_212 rfl rfl ?_
        obtain ⟨hin, h⟩ := h
        refine s_iald (n := 214) hG dX12_isBroken_213 (gaM_17 hin) rfl ?_
        refine s_icmp_le (n := 217) (tgt := 221) hG dX12_isBroken_214 rfl rfl (fun c => ?_) (fun c => ?_)
        · replace h := h.1 c
          refine s_iconst (n := 222) hG dX12_isBroken_221 ki_0 rfl ?_
          exact s_zret hG dX12_isBroken_222 (gz_n gz_0) (hQ _ _ ⟨_, _, _, _, rfl, rfl, h⟩)
        · replace h := h.2 c
          refine s_iconst (n := 218) hG dX12_isBroken_217 ki_1 rfl ?_
          refine s_goto (tgt := 222) hG dX12_isBroken_218 rfl ?_
          exact s_zret hG dX12_isBroken_222 (gz_n gz_1) (hQ _ _ ⟨_, _, _, _, rfl, rfl, h⟩)
      · replace h := h.2 c1
        by_cases c2 : (f 16 a1.toNatClampNeg) = 5
        · replace h := h.1 c2
          refine s_tabIn (v := 5) (tgt := 223) (off := 75) hG dX12_isBroken_148 c2 (by decide) ?_
          refine s_aload_n (n := 224) hG dX12_isBroken_223 rfl rfl ?_
          refine s_iconst (n := 225) hG dX12_isBroken_224 ki_1 rfl ?_
          refine s_callV (n := 228) (st := []) hG (mX12_cellsOf hE h) ceX12_cellsOf lmX12_161 ⟨by decide, rfl, rfl⟩ rfl ⟨rfl, Nat.le_of_ble_eq_true rfl, by decide⟩ dX12_isBroken_225 rfl ?_
          rintro _ _ ⟨r225, g225, f225, w225, rfl, rfl, h⟩
          refine s_aload_n (n := 229) hG dX12_isBroken_228 rfl rfl ?_
          refine gtX12_69 (n := 232) hG dX12_isBroken_229 rfl ?_
          refine s_iload_n (n := 233) hG dX12_isBroken_232 rfl rfl ?_
          obtain ⟨hin, h⟩ := h
          refine s_iald (n := 234) hG dX12_isBroken_233 (gaM_17 hin) rfl ?_
          refine s_icmp_le (n := 237) (tgt := 241) hG dX12_isBroken_234 rfl rfl (fun c => ?_) (fun c => ?_)
          · replace h := h.1 c
            refine s_iconst (n := 242) hG dX12_isBroken_241 ki_0 rfl ?_
            exact s_zret hG dX12_isBroken_242 (gz_n gz_0) (hQ _ _ ⟨_, _, _, _, rfl, rfl, h⟩)
          · replace h := h.2 c
            refine s_iconst (n := 238) hG dX12_isBroken_237 ki_1 rfl ?_
            refine s_goto (tgt := 242) hG dX12_isBroken_238 rfl ?_
            exact s_zret hG dX12_isBroken_242 (gz_n gz_1) (hQ _ _ ⟨_, _, _, _, rfl, rfl, h⟩)
        · replace h := h.2 c2
          by_cases c3 : (f 16 a1.toNatClampNeg) = 6
          · replace h := h.1 c3
            refine s_tabIn (v := 6) (tgt := 243) (off := 95) hG dX12_isBroken_148 c3 (by decide) ?_
            refine s_aload_n (n := 244) hG dX12_isBroken_243 rfl rfl ?_
            refine gtX12_164 (n := 247) hG dX12_isBroken_244 rfl ?_
            refine s_aload_n (n := 248) hG dX12_isBroken_247 rfl rfl ?_
            refine gtX12_167 (n := 251) hG dX12_isBroken_248 rfl ?_
            refine s_isub (n := 252) hG dX12_isBroken_251 rfl ?_
            refine s_aload_n (n := 253) hG dX12_isBroken_252 rfl rfl ?_
            refine gtX12_69 (n := 256) hG dX12_isBroken_253 rfl ?_
            refine s_iload_n (n := 257) hG dX12_isBroken_256 rfl rfl ?_
            obtain ⟨hin, h⟩ := h
            refine s_iald (n := 258) hG dX12_isBroken_257 (gaM_17 hin) rfl ?_
            refine s_icmp_le (n := 261) (tgt := 265) hG dX12_isBroken_258 rfl rfl (fun c => ?_) (fun c => ?_)
            · replace h := h.1 c
              refine s_iconst (n := 266) hG dX12_isBroken_265 ki_0 rfl ?_
              exact s_zret hG dX12_isBroken_266 (gz_n gz_0) (hQ _ _ ⟨_, _, _, _, rfl, rfl, h⟩)
            · replace h := h.2 c
              refine s_iconst (n := 262) hG dX12_isBroken_261 ki_1 rfl ?_
              refine s_goto (tgt := 266) hG dX12_isBroken_262 rfl ?_
              exact s_zret hG dX12_isBroken_266 (gz_n gz_1) (hQ _ _ ⟨_, _, _, _, rfl, rfl, h⟩)
          · replace h := h.2 c3
            by_cases c4 : (f 16 a1.toNatClampNeg) = 7
            · replace h := h.1 c4
              refine s_tabIn (v := 7) (tgt := 267) (off := 119) hG dX12_isBroken_148 c4 (by decide) ?_
              refine s_aload_n (n := 268) hG dX12_isBroken_267 rfl rfl ?_
              refine gtX12_164 (n := 271) hG dX12_isBroken_268 rfl ?_
              refine s_aload_n (n := 272) hG dX12_isBroken_271 rfl rfl ?_
              refine gtX12_69 (n := 275) hG dX12_isBroken_272 rfl ?_
              refine s_iload_n (n := 276) hG dX12_isBroken_275 rfl rfl ?_
              obtain ⟨hin, h⟩ := h
              refine s_iald (n := 277) hG dX12_isBroken_276 (gaM_17 hin) rfl ?_
              refine s_icmp_le (n := 280) (tgt := 284) hG dX12_isBroken_277 rfl rfl (fun c => ?_) (fun c => ?_)
              · replace h := h.1 c
                refine s_iconst (n := 285) hG dX12_isBroken_284 ki_0 rfl ?_
                exact s_zret hG dX12_isBroken_285 (gz_n gz_0) (hQ _ _ ⟨_, _, _, _, rfl, rfl, h⟩)
              · replace h := h.2 c
                refine s_iconst (n := 281) hG dX12_isBroken_280 ki_1 rfl ?_
                refine s_goto (tgt := 285) hG dX12_isBroken_281 rfl ?_
                exact s_zret hG dX12_isBroken_285 (gz_n gz_1) (hQ _ _ ⟨_, _, _, _, rfl, rfl, h⟩)
            · replace h := h.2 c4
              refine s_tabOut (tgt := 286) hG dX12_isBroken_148 (by have hh := And.intro trivial trivial; have q0 := lv_neT c0 (show (3 : Int32).toInt = 3 from by decide); have q1 := lv_neT c1 (show (4 : Int32).toInt = 4 from by decide); have q2 := lv_neT c2 (show (5 : Int32).toInt = 5 from by decide); have q3 := lv_neT c3 (show (6 : Int32).toInt = 6 from by decide); have q4 := lv_neT c4 (show (7 : Int32).toInt = 7 from by decide);  omega) rfl ?_
              refine s_aload_n (n := 287) hG dX12_isBroken_286 rfl rfl ?_
              refine s_iconst (n := 288) hG dX12_isBroken_287 ki_4 rfl ?_
              refine s_callV (n := 291) (st := []) hG (mX12_cellsOf hE h) ceX12_cellsOf lmX12_161 ⟨by decide, rfl, rfl⟩ rfl ⟨rfl, Nat.le_of_ble_eq_true rfl, by decide⟩ dX12_isBroken_288 rfl ?_
              rintro _ _ ⟨r288, g288, f288, w288, rfl, rfl, h⟩
              refine s_aload_n (n := 292) hG dX12_isBroken_291 rfl rfl ?_
              refine gtX12_72 (n := 295) hG dX12_isBroken_292 rfl ?_
              refine s_iload_n (n := 296) hG dX12_isBroken_295 rfl rfl ?_
              obtain ⟨hin, h⟩ := h
              refine s_iald (n := 297) hG dX12_isBroken_296 (gaM_18 hin) rfl ?_
              refine s_imul (n := 298) hG dX12_isBroken_297 rfl ?_
              refine s_aload_n (n := 299) hG dX12_isBroken_298 rfl rfl ?_
              refine gtX12_69 (n := 302) hG dX12_isBroken_299 rfl ?_
              refine s_iload_n (n := 303) hG dX12_isBroken_302 rfl rfl ?_
              obtain ⟨hin, h⟩ := h
              refine s_iald (n := 304) hG dX12_isBroken_303 (gaM_17 hin) rfl ?_
              refine s_aload_n (n := 305) hG dX12_isBroken_304 rfl rfl ?_
              refine s_iconst (n := 306) hG dX12_isBroken_305 ki_3 rfl ?_
              refine s_callV (n := 309) (st := [.int (f288 17 a1.toNatClampNeg), .int (r288 * (f288 18 a1.toNatClampNeg))]) hG (mX12_cellsOf hE h) ceX12_cellsOf lmX12_161 ⟨by decide, rfl, rfl⟩ rfl ⟨rfl, Nat.le_of_ble_eq_true rfl, by decide⟩ dX12_isBroken_306 rfl ?_
              rintro _ _ ⟨r306, g306, f306, w306, rfl, rfl, h⟩
              refine s_imul (n := 310) hG dX12_isBroken_309 rfl ?_
              refine s_icmp_ge (n := 313) (tgt := 317) hG dX12_isBroken_310 rfl rfl (fun c => ?_) (fun c => ?_)
              · replace h := h.1 c
                refine s_iconst (n := 318) hG dX12_isBroken_317 ki_0 rfl ?_
                exact s_zret hG dX12_isBroken_318 (gz_n gz_0) (hQ _ _ ⟨_, _, _, _, rfl, rfl, h⟩)
              · replace h := h.2 c
                refine s_iconst (n := 314) hG dX12_isBroken_313 ki_1 rfl ?_
                refine s_goto (tgt := 318) hG dX12_isBroken_314 rfl ?_
                exact s_zret hG dX12_isBroken_318 (gz_n gz_1) (hQ _ _ ⟨_, _, _, _, rfl, rfl, h⟩)
  · replace h := h.2 c
    refine s_iconst (n := 11) hG dX12_isBroken_10 ki_0 rfl ?_
    refine s_istore_n (n := 12) (lv2 := [some (.ref (ad 0)), some (.int a1), some (.int 0), none]) hG dX12_isBroken_11 rfl rfl rfl ?_
    refine s_iconst (n := 13) hG dX12_isBroken_12 ki_0 rfl ?_
    refine s_istore_n (n := 14) (lv2 := [some (.ref (ad 0)), some (.int a1), some (.int 0), some (.int 0)]) hG dX12_isBroken_13 rfl rfl rfl ?_
    exact s_wk hG (sX12_isBroken_l14 hE hG hQ  N _ _ _ _ _ h) ⟨rfl, rfl, rfl, rfl, trivial⟩
def wX12_broken_l21 (N : Nat)   (Q : Int32 → gFG → gFF → Int64 → Prop) : Nat → Int32 → gFG → gFF → Int64 → Prop
  | 0, _, _, _, _ => False
  | n + 1, v2, g, f, w => (((g 24) ≤ v2) → Q (-1) g f w) ∧ ((¬ (g 24) ≤ v2) → wX12_isBroken N v2 g f w (fun r31 g31 f31 w31 => ((r31 = 0) → ∀ x2_39 : Int32, x2_39 = (v2 + 1) → wX12_broken_l21 N   Q n x2_39 g31 f31 w31) ∧ ((¬ r31 = 0) → Q v2 g31 f31 w31)))
theorem sX12_broken_l21 {G : gG} {Rt : Option Value → gSt → Prop} (hE : gInj layM ad ∧ gZok (gA layM ad) Z) (hG : gSim l D cs layM ad Z 7 RX12 cX12_broken 3 (some .int) G Rt) {Q : Int32 → gFG → gFF → Int64 → Prop} (hQ : ∀ v S, gMi Q v S → Rt v S) {N : Nat}     : ∀ (n : Nat) (v2 : Int32) (g : gFG) (f : gFF) (w : Int64), wX12_broken_l21 N   Q n v2 g f w → G 21 [some (.ref (ad 0)), none, some (.int v2)] [] (g, f, w) := by
  intro n
  induction n with
  | zero => intro _ _ _ _ h; unfold wX12_broken_l21 at h; exact h.elim
  | succ n ih =>
    intro v2 g f w h
    unfold wX12_broken_l21 at h
    refine s_iload_n (n := 22) hG dX12_broken_21 rfl rfl ?_
    refine s_aload_n (n := 23) hG dX12_broken_22 rfl rfl ?_
    refine gtX12_250 (n := 26) hG dX12_broken_23 rfl ?_
    refine s_icmp_ge (n := 29) (tgt := 45) hG dX12_broken_26 rfl rfl (fun c => ?_) (fun c => ?_)
    · replace h := h.1 c
      refine s_iconst (n := 46) hG dX12_broken_45 ki_m1 rfl ?_
      exact s_iret hG dX12_broken_46 (hQ _ _ ⟨_, _, _, _, rfl, rfl, h⟩)
    · replace h := h.2 c
      refine s_aload_n (n := 30) hG dX12_broken_29 rfl rfl ?_
      refine s_iload_n (n := 31) hG dX12_broken_30 rfl rfl ?_
      refine s_callV (n := 34) (st := []) hG (mX12_isBroken hE h) ceX12_isBroken lmX12_253 ⟨by decide, rfl, rfl⟩ rfl ⟨rfl, Nat.le_of_ble_eq_true rfl, by decide⟩ dX12_broken_31 rfl ?_
      rintro _ _ ⟨r31, g31, f31, w31, rfl, rfl, h⟩
      refine s_if_eq (n := 37) (tgt := 39) hG dX12_broken_34 rfl rfl (fun c => ?_) (fun c => ?_)
      · replace h := h.1 c
        obtain ⟨x2_39, hx2_39⟩ : ∃ z : Int32, z = (v2 + 1) := ⟨_, rfl⟩
        replace h := h x2_39 hx2_39
        refine s_iinc (n := 42) (v := x2_39) (lv2 := [some (.ref (ad 0)), none, some (.int x2_39)]) hG dX12_broken_39 ki_1 rfl hx2_39 rfl rfl rfl ?_
        refine s_goto (tgt := 21) hG dX12_broken_42 rfl ?_
        exact s_wk hG (ih _ _ _ _ h) ⟨rfl, rfl, trivial⟩
      · replace h := h.2 c
        refine s_iload_n (n := 38) hG dX12_broken_37 rfl rfl ?_
        exact s_iret hG dX12_broken_38 (hQ _ _ ⟨_, _, _, _, rfl, rfl, h⟩)
def wX12_broken (N : Nat) (a1 : Int32) (g : gFG) (f : gFF) (w : Int64) (Q : Int32 → gFG → gFF → Int64 → Prop) : Prop := ∀ g2 : gFG, g2 = (va_up g 0 0) → ((0 ≤ a1) → wX12_pourMould N g2 f w (fun g12 f12 w12 => wX12_drawOff N g12 f12 w12 (fun g16 f16 w16 => wX12_broken_l21 N  Q N a1 g16 f16 w16))) ∧ ((¬ 0 ≤ a1) → Q (-1) g2 f w)
theorem mX12_broken (hE : gInj layM ad ∧ gZok (gA layM ad) Z) {N : Nat} {a1 : Int32} {g : gFG} {f : gFF} {w : Int64} {Q : Int32 → gFG → gFF → Int64 → Prop} (h : wX12_broken N a1 g f w Q) : gCT l D cs layM ad Z 7 yX12_broken cX12_broken 3 (some .int) [.ref (ad 0), .int a1] (g, f, w) (gMi Q) := by
  refine met_walk (lv0 := [some (.ref (ad 0)), some (.int a1), none]) hE (by decide) (Nat.le_of_ble_eq_true rfl) rfl (fun G Rt hG hQ => ?_)
  replace hG : gSim l D cs layM ad Z 7 RX12 cX12_broken 3 (some .int) G Rt := hG
  unfold wX12_broken at h
  refine s_aload_n (n := 1) hG dX12_broken_0 rfl rfl ?_
  refine s_iconst (n := 2) hG dX12_broken_1 ki_0 rfl ?_
  refine ptX12_96 (n := 5) hG dX12_broken_2 rfl ?_
  refine s_ng (fun g2 hg2 => ?_)
  replace h := h g2 hg2
  refine s_iload_n (n := 6) hG dX12_broken_5 rfl rfl ?_
  refine s_if_ge (n := 9) (tgt := 11) hG dX12_broken_6 rfl rfl (fun c => ?_) (fun c => ?_)
  · replace h := h.1 c
    refine s_aload_n (n := 12) hG dX12_broken_11 rfl rfl ?_
    refine s_callV (n := 15) (st := []) hG (mX12_pourMould hE h) ceX12_pourMould lmX12_145 ⟨by decide, rfl, rfl⟩ rfl ⟨rfl, Nat.le_of_ble_eq_true rfl, by decide⟩ dX12_broken_12 rfl ?_
    rintro _ _ ⟨g12, f12, w12, rfl, rfl, h⟩
    refine s_aload_n (n := 16) hG dX12_broken_15 rfl rfl ?_
    refine s_callV (n := 19) (st := []) hG (mX12_drawOff hE h) ceX12_drawOff lmX12_173 ⟨by decide, rfl, rfl⟩ rfl ⟨rfl, Nat.le_of_ble_eq_true rfl, by decide⟩ dX12_broken_16 rfl ?_
    rintro _ _ ⟨g16, f16, w16, rfl, rfl, h⟩
    refine s_iload_n (n := 20) hG dX12_broken_19 rfl rfl ?_
    refine s_istore_n (n := 21) (lv2 := [some (.ref (ad 0)), some (.int a1), some (.int a1)]) hG dX12_broken_20 rfl rfl rfl ?_
    exact s_wk hG (sX12_broken_l21 hE hG hQ  N _ _ _ _ h) ⟨rfl, rfl, trivial⟩
  · replace h := h.2 c
    refine s_iconst (n := 10) hG dX12_broken_9 ki_m1 rfl ?_
    exact s_iret hG dX12_broken_10 (hQ _ _ ⟨_, _, _, _, rfl, rfl, h⟩)
def wX12_isVessel (N : Nat) (a1 : Int32) (g : gFG) (f : gFF) (w : Int64) (Q : Int32 → gFG → gFF → Int64 → Prop) : Prop := wX12_in N a1.toInt64 0 ((g 38).toInt64 - 1) g f w (fun r10 g10 f10 w10 => (gz r10) ∧ Q r10 g10 f10 w10)
theorem mX12_isVessel (hE : gInj layM ad ∧ gZok (gA layM ad) Z) {N : Nat} {a1 : Int32} {g : gFG} {f : gFF} {w : Int64} {Q : Int32 → gFG → gFF → Int64 → Prop} (h : wX12_isVessel N a1 g f w Q) : gCT l D cs layM ad Z 2 yX12_isVessel cX12_isVessel 2 (some .boolean) [.ref (ad 0), .int a1] (g, f, w) (gMi Q) := by
  refine met_walk (lv0 := [some (.ref (ad 0)), some (.int a1)]) hE (by decide) (Nat.le_of_ble_eq_true rfl) rfl (fun G Rt hG hQ => ?_)
  replace hG : gSim l D cs layM ad Z 2 RX12 cX12_isVessel 2 (some .boolean) G Rt := hG
  unfold wX12_isVessel at h
  refine s_iload_n (n := 1) hG dX12_isVessel_0 rfl rfl ?_
  refine s_i2l (n := 2) hG dX12_isVessel_1 rfl ?_
  refine s_lconst (n := 3) hG dX12_isVessel_2 kl_0 rfl ?_
  refine s_aload_n (n := 4) hG dX12_isVessel_3 rfl rfl ?_
  refine gtX12_256 (n := 7) hG dX12_isVessel_4 rfl ?_
  refine s_i2l (n := 8) hG dX12_isVessel_7 rfl ?_
  refine s_lconst (n := 9) hG dX12_isVessel_8 kl_1 rfl ?_
  refine s_lsub (n := 10) hG dX12_isVessel_9 rfl ?_
  refine s_callS (n := 13) (st := []) hG (mX12_in hE h) ceX12_in lmX12_102 rfl ⟨rfl, Nat.le_of_ble_eq_true rfl, by decide⟩ dX12_isVessel_10 rfl ?_
  rintro _ _ ⟨r10, g10, f10, w10, rfl, rfl, h⟩
  obtain ⟨hz, h⟩ := h
  exact s_zret hG dX12_isVessel_13 (gz_n hz) (hQ _ _ ⟨_, _, _, _, rfl, rfl, h⟩)
def wX12_vessel_l43 (N : Nat)   (Q : Int32 → gFG → gFF → Int64 → Prop) : Nat → Int32 → Int32 → gFG → gFF → Int64 → Prop
  | 0, _, _, _, _, _ => False
  | n + 1, v2, v3, g, f, w => ((8 ≤ v3) → ∀ y85 : Int32, y85 = ((g 38) + 1) → ∀ g85 : gFG, g85 = (va_up g 38 y85) → wX12_told N ((g85 38) - 1) g85 f w (fun r95 g95 f95 w95 => Q r95 g95 f95 w95)) ∧ ((¬ 8 ≤ v3) → ∀ y66 : Int32, y66 = (v2 - v2 / 10 * 10) → ∀ i66 : Int32, i66 = ((8 * (g 38)) + v3) → (vp_in i66 320) ∧ (∀ f66 : gFF, f66 = (va_up f 21 (upd (f 21) i66.toNatClampNeg y66)) → ∀ x2_71 : Int32, x2_71 = (v2 / 10) → ∀ x3_72 : Int32, x3_72 = (v3 + 1) → wX12_vessel_l43 N   Q n x2_71 x3_72 g f66 w))
theorem sX12_vessel_l43 {G : gG} {Rt : Option Value → gSt → Prop} (hE : gInj layM ad ∧ gZok (gA layM ad) Z) (hG : gSim l D cs layM ad Z 2 RX12 cX12_vessel 4 (some .int) G Rt) {Q : Int32 → gFG → gFF → Int64 → Prop} (hQ : ∀ v S, gMi Q v S → Rt v S) {N : Nat}     : ∀ (n : Nat) (v2 : Int32) (v3 : Int32) (g : gFG) (f : gFF) (w : Int64), wX12_vessel_l43 N   Q n v2 v3 g f w → G 43 [some (.ref (ad 0)), none, some (.int v2), some (.int v3)] [] (g, f, w) := by
  intro n
  induction n with
  | zero => intro _ _ _ _ _ h; unfold wX12_vessel_l43 at h; exact h.elim
  | succ n ih =>
    intro v2 v3 g f w h
    unfold wX12_vessel_l43 at h
    refine s_iload_n (n := 44) hG dX12_vessel_43 rfl rfl ?_
    refine s_bipush (n := 46) hG dX12_vessel_44 kb_8 rfl ?_
    refine s_icmp_ge (n := 49) (tgt := 78) hG dX12_vessel_46 rfl rfl (fun c => ?_) (fun c => ?_)
    · replace h := h.1 c
      refine s_aload_n (n := 79) hG dX12_vessel_78 rfl rfl ?_
      refine s_dup (n := 80) hG dX12_vessel_79 rfl rfl ?_
      refine gtX12_256 (n := 83) hG dX12_vessel_80 rfl ?_
      refine s_iconst (n := 84) hG dX12_vessel_83 ki_1 rfl ?_
      refine s_iadd (n := 85) hG dX12_vessel_84 rfl ?_
      refine s_topi (fun y85 hy85 => ?_)
      replace h := h y85 hy85
      refine ptX12_256 (n := 88) hG dX12_vessel_85 rfl ?_
      refine s_ng (fun g85 hg85 => ?_)
      replace h := h g85 hg85
      refine s_aload_n (n := 89) hG dX12_vessel_88 rfl rfl ?_
      refine s_aload_n (n := 90) hG dX12_vessel_89 rfl rfl ?_
      refine gtX12_256 (n := 93) hG dX12_vessel_90 rfl ?_
      refine s_iconst (n := 94) hG dX12_vessel_93 ki_1 rfl ?_
      refine s_isub (n := 95) hG dX12_vessel_94 rfl ?_
      refine s_callV (n := 98) (st := []) hG (mX12_told hE h) ceX12_told lmX12_113 ⟨by decide, rfl, rfl⟩ rfl ⟨rfl, Nat.le_of_ble_eq_true rfl, by decide⟩ dX12_vessel_95 rfl ?_
      rintro _ _ ⟨r95, g95, f95, w95, rfl, rfl, h⟩
      exact s_iret hG dX12_vessel_98 (hQ _ _ ⟨_, _, _, _, rfl, rfl, h⟩)
    · replace h := h.2 c
      refine s_aload_n (n := 50) hG dX12_vessel_49 rfl rfl ?_
      refine gtX12_84 (n := 53) hG dX12_vessel_50 rfl ?_
      refine s_bipush (n := 55) hG dX12_vessel_53 kb_8 rfl ?_
      refine s_aload_n (n := 56) hG dX12_vessel_55 rfl rfl ?_
      refine gtX12_256 (n := 59) hG dX12_vessel_56 rfl ?_
      refine s_imul (n := 60) hG dX12_vessel_59 rfl ?_
      refine s_iload_n (n := 61) hG dX12_vessel_60 rfl rfl ?_
      refine s_iadd (n := 62) hG dX12_vessel_61 rfl ?_
      refine s_iload_n (n := 63) hG dX12_vessel_62 rfl rfl ?_
      refine s_bipush (n := 65) hG dX12_vessel_63 kb_10 rfl ?_
      refine s_irem (n := 66) hG dX12_vessel_65 (by decide) rfl ?_
      refine s_topi (fun y66 hy66 => ?_)
      replace h := h y66 hy66
      refine s_topi2 (fun i66 hi66 => ?_)
      replace h := h i66 hi66
      obtain ⟨hin, h⟩ := h
      refine s_iast (n := 67) hG dX12_vessel_66 (gaM_21 hin) rfl ?_
      refine s_nf (fun f66 hf66 => ?_)
      replace h := h f66 hf66
      refine s_iload_n (n := 68) hG dX12_vessel_67 rfl rfl ?_
      refine s_bipush (n := 70) hG dX12_vessel_68 kb_10 rfl ?_
      refine s_idiv (n := 71) hG dX12_vessel_70 (by decide) rfl ?_
      refine s_topi (fun x2_71 hx2_71 => ?_)
      replace h := h x2_71 hx2_71
      refine s_istore_n (n := 72) (lv2 := [some (.ref (ad 0)), none, some (.int x2_71), some (.int v3)]) hG dX12_vessel_71 rfl rfl rfl ?_
      obtain ⟨x3_72, hx3_72⟩ : ∃ z : Int32, z = (v3 + 1) := ⟨_, rfl⟩
      replace h := h x3_72 hx3_72
      refine s_iinc (n := 75) (v := x3_72) (lv2 := [some (.ref (ad 0)), none, some (.int x2_71), some (.int x3_72)]) hG dX12_vessel_72 ki_1 rfl hx3_72 rfl rfl rfl ?_
      refine s_goto (tgt := 43) hG dX12_vessel_75 rfl ?_
      exact s_wk hG (ih _ _ _ _ _ h) ⟨rfl, rfl, rfl, trivial⟩
def wX12_vessel (N : Nat) (a1 : Int32) (g : gFG) (f : gFF) (w : Int64) (Q : Int32 → gFG → gFF → Int64 → Prop) : Prop := ∀ g2 : gFG, g2 = (va_up g 0 0) → wX12_in N a1.toInt64 0 99999999 g2 f w (fun r11 g11 f11 w11 => ((¬ r11 = 0) → ((¬ (g11 38) = 40) → wX12_vessel_l43 N  Q N a1 0 g11 f11 w11) ∧ (((g11 38) = 40) → wX12_told N (-5) g11 f11 w11 (fun r35 g35 f35 w35 => Q r35 g35 f35 w35))) ∧ ((r11 = 0) → wX12_told N (-1) g11 f11 w11 (fun r19 g19 f19 w19 => Q r19 g19 f19 w19)))
theorem mX12_vessel (hE : gInj layM ad ∧ gZok (gA layM ad) Z) {N : Nat} {a1 : Int32} {g : gFG} {f : gFF} {w : Int64} {Q : Int32 → gFG → gFF → Int64 → Prop} (h : wX12_vessel N a1 g f w Q) : gCT l D cs layM ad Z 2 yX12_vessel cX12_vessel 4 (some .int) [.ref (ad 0), .int a1] (g, f, w) (gMi Q) := by
  refine met_walk (lv0 := [some (.ref (ad 0)), some (.int a1), none, none]) hE (by decide) (Nat.le_of_ble_eq_true rfl) rfl (fun G Rt hG hQ => ?_)
  replace hG : gSim l D cs layM ad Z 2 RX12 cX12_vessel 4 (some .int) G Rt := hG
  unfold wX12_vessel at h
  refine s_aload_n (n := 1) hG dX12_vessel_0 rfl rfl ?_
  refine s_iconst (n := 2) hG dX12_vessel_1 ki_0 rfl ?_
  refine ptX12_96 (n := 5) hG dX12_vessel_2 rfl ?_
  refine s_ng (fun g2 hg2 => ?_)
  replace h := h g2 hg2
  refine s_iload_n (n := 6) hG dX12_vessel_5 rfl rfl ?_
  refine s_i2l (n := 7) hG dX12_vessel_6 rfl ?_
  refine s_lconst (n := 8) hG dX12_vessel_7 kl_0 rfl ?_
  refine s_ldc2_w (n := 11) hG dX12_vessel_8 lcX12_259 rfl ?_
  refine s_callS (n := 14) (st := []) hG (mX12_in hE h) ceX12_in lmX12_102 rfl ⟨rfl, Nat.le_of_ble_eq_true rfl, by decide⟩ dX12_vessel_11 rfl ?_
  rintro _ _ ⟨r11, g11, f11, w11, rfl, rfl, h⟩
  refine s_if_ne (n := 17) (tgt := 23) hG dX12_vessel_14 rfl rfl (fun c => ?_) (fun c => ?_)
  · replace h := h.1 c
    refine s_aload_n (n := 24) hG dX12_vessel_23 rfl rfl ?_
    refine gtX12_256 (n := 27) hG dX12_vessel_24 rfl ?_
    refine s_bipush (n := 29) hG dX12_vessel_27 kb_40 rfl ?_
    refine s_icmp_ne (n := 32) (tgt := 39) hG dX12_vessel_29 rfl rfl (fun c => ?_) (fun c => ?_)
    · replace h := h.1 c
      refine s_iload_n (n := 40) hG dX12_vessel_39 rfl rfl ?_
      refine s_istore_n (n := 41) (lv2 := [some (.ref (ad 0)), some (.int a1), some (.int a1), none]) hG dX12_vessel_40 rfl rfl rfl ?_
      refine s_iconst (n := 42) hG dX12_vessel_41 ki_0 rfl ?_
      refine s_istore_n (n := 43) (lv2 := [some (.ref (ad 0)), some (.int a1), some (.int a1), some (.int 0)]) hG dX12_vessel_42 rfl rfl rfl ?_
      exact s_wk hG (sX12_vessel_l43 hE hG hQ  N _ _ _ _ _ h) ⟨rfl, rfl, rfl, trivial⟩
    · replace h := h.2 c
      refine s_aload_n (n := 33) hG dX12_vessel_32 rfl rfl ?_
      refine s_bipush (n := 35) hG dX12_vessel_33 kb_m5 rfl ?_
      refine s_callV (n := 38) (st := []) hG (mX12_told hE h) ceX12_told lmX12_113 ⟨by decide, rfl, rfl⟩ rfl ⟨rfl, Nat.le_of_ble_eq_true rfl, by decide⟩ dX12_vessel_35 rfl ?_
      rintro _ _ ⟨r35, g35, f35, w35, rfl, rfl, h⟩
      exact s_iret hG dX12_vessel_38 (hQ _ _ ⟨_, _, _, _, rfl, rfl, h⟩)
  · replace h := h.2 c
    refine s_aload_n (n := 18) hG dX12_vessel_17 rfl rfl ?_
    refine s_iconst (n := 19) hG dX12_vessel_18 ki_m1 rfl ?_
    refine s_callV (n := 22) (st := []) hG (mX12_told hE h) ceX12_told lmX12_113 ⟨by decide, rfl, rfl⟩ rfl ⟨rfl, Nat.le_of_ble_eq_true rfl, by decide⟩ dX12_vessel_19 rfl ?_
    rintro _ _ ⟨r19, g19, f19, w19, rfl, rfl, h⟩
    exact s_iret hG dX12_vessel_22 (hQ _ _ ⟨_, _, _, _, rfl, rfl, h⟩)
def wX12_likeness_j67 (N : Nat) (K5 : Int32 → Int32 → gFG → gFF → Int64 → Prop) (Q : Int32 → gFG → gFF → Int64 → Prop) (v1 : Int32) (v2 : Int32) (v4 : Int32) (t0 : Int32) (t1 : Int32) (g : gFG) (f : gFF) (w : Int64) : Prop := ∀ x3_68 : Int32, x3_68 = (t1 + t0) → ∀ x4_69 : Int32, x4_69 = (v4 + 1) → K5 x3_68 x4_69 g f w
theorem sX12_likeness_j67 {G : gG} {Rt : Option Value → gSt → Prop} (hE : gInj layM ad ∧ gZok (gA layM ad) Z) (hG : gSim l D cs layM ad Z 1 RX12 cX12_likeness 7 (some .int) G Rt) {Q : Int32 → gFG → gFF → Int64 → Prop} (hQ : ∀ v S, gMi Q v S → Rt v S) {N : Nat} {K5 : Int32 → Int32 → gFG → gFF → Int64 → Prop}  {v1 : Int32} {v2 : Int32} {v4 : Int32} {t0 : Int32} {t1 : Int32} {g : gFG} {f : gFF} {w : Int64} (hK5 : ∀ (uv3 : Int32) (uv4 : Int32) (ug : gFG) (uf : gFF) (uw : Int64), K5 uv3 uv4 ug uf uw → G 5 [some (.ref (ad 0)), some (.int v1), some (.int v2), some (.int uv3), some (.int uv4), none, none] [] (ug, uf, uw)) (h : wX12_likeness_j67 N K5 Q v1 v2 v4 t0 t1 g f w) : G 67 [some (.ref (ad 0)), some (.int v1), some (.int v2), none, some (.int v4), none, none] [.int t0, .int t1] (g, f, w) := by
  unfold wX12_likeness_j67 at h
  refine s_iadd (n := 68) hG dX12_likeness_67 rfl ?_
  refine s_topi (fun x3_68 hx3_68 => ?_)
  replace h := h x3_68 hx3_68
  refine s_istore_n (n := 69) (lv2 := [some (.ref (ad 0)), some (.int v1), some (.int v2), some (.int x3_68), some (.int v4), none, none]) hG dX12_likeness_68 rfl rfl rfl ?_
  obtain ⟨x4_69, hx4_69⟩ : ∃ z : Int32, z = (v4 + 1) := ⟨_, rfl⟩
  replace h := h x4_69 hx4_69
  refine s_iinc (n := 72) (v := x4_69) (lv2 := [some (.ref (ad 0)), some (.int v1), some (.int v2), some (.int x3_68), some (.int x4_69), none, none]) hG dX12_likeness_69 ki_1 rfl hx4_69 rfl rfl rfl ?_
  refine s_goto (tgt := 5) hG dX12_likeness_72 rfl ?_
  exact s_wk hG (hK5 _ _ _ _ _ h) ⟨rfl, rfl, rfl, rfl, rfl, trivial⟩
def wX12_likeness_j51 (N : Nat) (K5 : Int32 → Int32 → gFG → gFF → Int64 → Prop) (Q : Int32 → gFG → gFF → Int64 → Prop) (v1 : Int32) (v2 : Int32) (v4 : Int32) (t0 : Int32) (g : gFG) (f : gFF) (w : Int64) : Prop := wX12_likeness_j67 N (K5) Q v1 v2 v4 0 t0 g f w
theorem sX12_likeness_j51 {G : gG} {Rt : Option Value → gSt → Prop} (hE : gInj layM ad ∧ gZok (gA layM ad) Z) (hG : gSim l D cs layM ad Z 1 RX12 cX12_likeness 7 (some .int) G Rt) {Q : Int32 → gFG → gFF → Int64 → Prop} (hQ : ∀ v S, gMi Q v S → Rt v S) {N : Nat} {K5 : Int32 → Int32 → gFG → gFF → Int64 → Prop}  {v1 : Int32} {v2 : Int32} {v4 : Int32} {t0 : Int32} {g : gFG} {f : gFF} {w : Int64} (hK5 : ∀ (uv3 : Int32) (uv4 : Int32) (ug : gFG) (uf : gFF) (uw : Int64), K5 uv3 uv4 ug uf uw → G 5 [some (.ref (ad 0)), some (.int v1), some (.int v2), some (.int uv3), some (.int uv4), none, none] [] (ug, uf, uw)) (h : wX12_likeness_j51 N K5 Q v1 v2 v4 t0 g f w) : G 51 [some (.ref (ad 0)), some (.int v1), some (.int v2), none, some (.int v4), none, none] [.int t0] (g, f, w) := by
  unfold wX12_likeness_j51 at h
  refine s_iconst (n := 52) hG dX12_likeness_51 ki_0 rfl ?_
  refine s_goto (tgt := 67) hG dX12_likeness_52 rfl ?_
  exact s_wk hG (sX12_likeness_j67 hE hG hQ hK5 h) ⟨rfl, rfl, rfl, rfl, trivial⟩
def wX12_likeness_l5 (N : Nat) (v1 : Int32) (v2 : Int32)  (Q : Int32 → gFG → gFF → Int64 → Prop) : Nat → Int32 → Int32 → gFG → gFF → Int64 → Prop
  | 0, _, _, _, _, _ => False
  | n + 1, v3, v4, g, f, w => ((8 ≤ v4) → Q v3 g f w) ∧ ((¬ 8 ≤ v4) → ∀ i23 : Int32, i23 = ((8 * v1) + v4) → (vp_in i23 320) ∧ (∀ x5_24 : Int32, x5_24 = (f 21 i23.toNatClampNeg) → ∀ i37 : Int32, i37 = ((8 * v2) + v4) → (vp_in i37 320) ∧ (∀ x6_38 : Int32, x6_38 = (f 21 i37.toNatClampNeg) → ((x5_24 = 0) → wX12_likeness_j51 N (wX12_likeness_l5 N v1 v2  Q n) Q v1 v2 v4 v3 g f w) ∧ ((¬ x5_24 = 0) → ((¬ x6_38 = 0) → ((¬ x5_24 = x6_38) → wX12_likeness_j67 N (wX12_likeness_l5 N v1 v2  Q n) Q v1 v2 v4 (-1) v3 g f w) ∧ ((x5_24 = x6_38) → wX12_likeness_j67 N (wX12_likeness_l5 N v1 v2  Q n) Q v1 v2 v4 1 v3 g f w)) ∧ ((x6_38 = 0) → wX12_likeness_j51 N (wX12_likeness_l5 N v1 v2  Q n) Q v1 v2 v4 v3 g f w)))))
theorem sX12_likeness_l5 {G : gG} {Rt : Option Value → gSt → Prop} (hE : gInj layM ad ∧ gZok (gA layM ad) Z) (hG : gSim l D cs layM ad Z 1 RX12 cX12_likeness 7 (some .int) G Rt) {Q : Int32 → gFG → gFF → Int64 → Prop} (hQ : ∀ v S, gMi Q v S → Rt v S) {N : Nat} {v1 : Int32} {v2 : Int32}    : ∀ (n : Nat) (v3 : Int32) (v4 : Int32) (g : gFG) (f : gFF) (w : Int64), wX12_likeness_l5 N v1 v2  Q n v3 v4 g f w → G 5 [some (.ref (ad 0)), some (.int v1), some (.int v2), some (.int v3), some (.int v4), none, none] [] (g, f, w) := by
  intro n
  induction n with
  | zero => intro _ _ _ _ _ h; unfold wX12_likeness_l5 at h; exact h.elim
  | succ n ih =>
    intro v3 v4 g f w h
    unfold wX12_likeness_l5 at h
    refine s_iload (n := 7) hG dX12_likeness_5 rfl rfl ?_
    refine s_bipush (n := 9) hG dX12_likeness_7 kb_8 rfl ?_
    refine s_icmp_ge (n := 12) (tgt := 75) hG dX12_likeness_9 rfl rfl (fun c => ?_) (fun c => ?_)
    · replace h := h.1 c
      refine s_iload_n (n := 76) hG dX12_likeness_75 rfl rfl ?_
      exact s_iret hG dX12_likeness_76 (hQ _ _ ⟨_, _, _, _, rfl, rfl, h⟩)
    · replace h := h.2 c
      refine s_aload_n (n := 13) hG dX12_likeness_12 rfl rfl ?_
      refine gtX12_84 (n := 16) hG dX12_likeness_13 rfl ?_
      refine s_bipush (n := 18) hG dX12_likeness_16 kb_8 rfl ?_
      refine s_iload_n (n := 19) hG dX12_likeness_18 rfl rfl ?_
      refine s_imul (n := 20) hG dX12_likeness_19 rfl ?_
      refine s_iload (n := 22) hG dX12_likeness_20 rfl rfl ?_
      refine s_iadd (n := 23) hG dX12_likeness_22 rfl ?_
      refine s_topi (fun i23 hi23 => ?_)
      replace h := h i23 hi23
      obtain ⟨hin, h⟩ := h
      refine s_iald (n := 24) hG dX12_likeness_23 (gaM_21 hin) rfl ?_
      refine s_topi (fun x5_24 hx5_24 => ?_)
      replace h := h x5_24 hx5_24
      refine s_istore (n := 26) (lv2 := [some (.ref (ad 0)), some (.int v1), some (.int v2), some (.int v3), some (.int v4), some (.int x5_24), none]) hG dX12_likeness_24 rfl rfl rfl ?_
      refine s_aload_n (n := 27) hG dX12_likeness_26 rfl rfl ?_
      refine gtX12_84 (n := 30) hG dX12_likeness_27 rfl ?_
      refine s_bipush (n := 32) hG dX12_likeness_30 kb_8 rfl ?_
      refine s_iload_n (n := 33) hG dX12_likeness_32 rfl rfl ?_
      refine s_imul (n := 34) hG dX12_likeness_33 rfl ?_
      refine s_iload (n := 36) hG dX12_likeness_34 rfl rfl ?_
      refine s_iadd (n := 37) hG dX12_likeness_36 rfl ?_
      refine s_topi (fun i37 hi37 => ?_)
      replace h := h i37 hi37
      obtain ⟨hin, h⟩ := h
      refine s_iald (n := 38) hG dX12_likeness_37 (gaM_21 hin) rfl ?_
      refine s_topi (fun x6_38 hx6_38 => ?_)
      replace h := h x6_38 hx6_38
      refine s_istore (n := 40) (lv2 := [some (.ref (ad 0)), some (.int v1), some (.int v2), some (.int v3), some (.int v4), some (.int x5_24), some (.int x6_38)]) hG dX12_likeness_38 rfl rfl rfl ?_
      refine s_iload_n (n := 41) hG dX12_likeness_40 rfl rfl ?_
      refine s_iload (n := 43) hG dX12_likeness_41 rfl rfl ?_
      refine s_if_eq (n := 46) (tgt := 51) hG dX12_likeness_43 rfl rfl (fun c => ?_) (fun c => ?_)
      · replace h := h.1 c
        exact s_wk hG (sX12_likeness_j51 hE hG hQ ih h) ⟨rfl, rfl, rfl, rfl, trivial⟩
      · replace h := h.2 c
        refine s_iload (n := 48) hG dX12_likeness_46 rfl rfl ?_
        refine s_if_ne (n := 51) (tgt := 55) hG dX12_likeness_48 rfl rfl (fun c => ?_) (fun c => ?_)
        · replace h := h.1 c
          refine s_iload (n := 57) hG dX12_likeness_55 rfl rfl ?_
          refine s_iload (n := 59) hG dX12_likeness_57 rfl rfl ?_
          refine s_icmp_ne (n := 62) (tgt := 66) hG dX12_likeness_59 rfl rfl (fun c => ?_) (fun c => ?_)
          · replace h := h.1 c
            refine s_iconst (n := 67) hG dX12_likeness_66 ki_m1 rfl ?_
            exact s_wk hG (sX12_likeness_j67 hE hG hQ ih h) ⟨rfl, rfl, rfl, rfl, trivial⟩
          · replace h := h.2 c
            refine s_iconst (n := 63) hG dX12_likeness_62 ki_1 rfl ?_
            refine s_goto (tgt := 67) hG dX12_likeness_63 rfl ?_
            exact s_wk hG (sX12_likeness_j67 hE hG hQ ih h) ⟨rfl, rfl, rfl, rfl, trivial⟩
        · replace h := h.2 c
          exact s_wk hG (sX12_likeness_j51 hE hG hQ ih h) ⟨rfl, rfl, rfl, rfl, trivial⟩
def wX12_likeness (N : Nat) (a1 : Int32) (a2 : Int32) (g : gFG) (f : gFF) (w : Int64) (Q : Int32 → gFG → gFF → Int64 → Prop) : Prop := wX12_likeness_l5 N a1 a2 Q N 0 0 g f w
theorem mX12_likeness (hE : gInj layM ad ∧ gZok (gA layM ad) Z) {N : Nat} {a1 : Int32} {a2 : Int32} {g : gFG} {f : gFF} {w : Int64} {Q : Int32 → gFG → gFF → Int64 → Prop} (h : wX12_likeness N a1 a2 g f w Q) : gCT l D cs layM ad Z 1 yX12_likeness cX12_likeness 7 (some .int) [.ref (ad 0), .int a1, .int a2] (g, f, w) (gMi Q) := by
  refine met_walk (lv0 := [some (.ref (ad 0)), some (.int a1), some (.int a2), none, none, none, none]) hE (by decide) (Nat.le_of_ble_eq_true rfl) rfl (fun G Rt hG hQ => ?_)
  replace hG : gSim l D cs layM ad Z 1 RX12 cX12_likeness 7 (some .int) G Rt := hG
  unfold wX12_likeness at h
  refine s_iconst (n := 1) hG dX12_likeness_0 ki_0 rfl ?_
  refine s_istore_n (n := 2) (lv2 := [some (.ref (ad 0)), some (.int a1), some (.int a2), some (.int 0), none, none, none]) hG dX12_likeness_1 rfl rfl rfl ?_
  refine s_iconst (n := 3) hG dX12_likeness_2 ki_0 rfl ?_
  refine s_istore (n := 5) (lv2 := [some (.ref (ad 0)), some (.int a1), some (.int a2), some (.int 0), some (.int 0), none, none]) hG dX12_likeness_3 rfl rfl rfl ?_
  exact s_wk hG (sX12_likeness_l5 hE hG hQ  N _ _ _ _ _ h) ⟨rfl, rfl, rfl, rfl, rfl, trivial⟩
def wX12_like (N : Nat) (a1 : Int32) (a2 : Int32) (g : gFG) (f : gFF) (w : Int64) (Q : Int32 → gFG → gFF → Int64 → Prop) : Prop := ∀ g2 : gFG, g2 = (va_up g 0 0) → wX12_isVessel N a1 g2 f w (fun r7 g7 f7 w7 => ((r7 = 0) → Q (-1000) g7 f7 w7) ∧ ((¬ r7 = 0) → wX12_isVessel N a2 g7 f7 w7 (fun r15 g15 f15 w15 => ((r15 = 0) → Q (-1000) g15 f15 w15) ∧ ((¬ r15 = 0) → wX12_likeness N a1 a2 g15 f15 w15 (fun r24 g24 f24 w24 => Q r24 g24 f24 w24)))))
theorem mX12_like (hE : gInj layM ad ∧ gZok (gA layM ad) Z) {N : Nat} {a1 : Int32} {a2 : Int32} {g : gFG} {f : gFF} {w : Int64} {Q : Int32 → gFG → gFF → Int64 → Prop} (h : wX12_like N a1 a2 g f w Q) : gCT l D cs layM ad Z 3 yX12_like cX12_like 3 (some .int) [.ref (ad 0), .int a1, .int a2] (g, f, w) (gMi Q) := by
  refine met_walk (lv0 := [some (.ref (ad 0)), some (.int a1), some (.int a2)]) hE (by decide) (Nat.le_of_ble_eq_true rfl) rfl (fun G Rt hG hQ => ?_)
  replace hG : gSim l D cs layM ad Z 3 RX12 cX12_like 3 (some .int) G Rt := hG
  unfold wX12_like at h
  refine s_aload_n (n := 1) hG dX12_like_0 rfl rfl ?_
  refine s_iconst (n := 2) hG dX12_like_1 ki_0 rfl ?_
  refine ptX12_96 (n := 5) hG dX12_like_2 rfl ?_
  refine s_ng (fun g2 hg2 => ?_)
  replace h := h g2 hg2
  refine s_aload_n (n := 6) hG dX12_like_5 rfl rfl ?_
  refine s_iload_n (n := 7) hG dX12_like_6 rfl rfl ?_
  refine s_callV (n := 10) (st := []) hG (mX12_isVessel hE h) ceX12_isVessel lmX12_261 ⟨by decide, rfl, rfl⟩ rfl ⟨rfl, Nat.le_of_ble_eq_true rfl, by decide⟩ dX12_like_7 rfl ?_
  rintro _ _ ⟨r7, g7, f7, w7, rfl, rfl, h⟩
  refine s_if_eq (n := 13) (tgt := 30) hG dX12_like_10 rfl rfl (fun c => ?_) (fun c => ?_)
  · replace h := h.1 c
    refine s_sipush (n := 33) hG dX12_like_30 ks_m1000 rfl ?_
    exact s_iret hG dX12_like_33 (hQ _ _ ⟨_, _, _, _, rfl, rfl, h⟩)
  · replace h := h.2 c
    refine s_aload_n (n := 14) hG dX12_like_13 rfl rfl ?_
    refine s_iload_n (n := 15) hG dX12_like_14 rfl rfl ?_
    refine s_callV (n := 18) (st := []) hG (mX12_isVessel hE h) ceX12_isVessel lmX12_261 ⟨by decide, rfl, rfl⟩ rfl ⟨rfl, Nat.le_of_ble_eq_true rfl, by decide⟩ dX12_like_15 rfl ?_
    rintro _ _ ⟨r15, g15, f15, w15, rfl, rfl, h⟩
    refine s_if_eq (n := 21) (tgt := 30) hG dX12_like_18 rfl rfl (fun c => ?_) (fun c => ?_)
    · replace h := h.1 c
      refine s_sipush (n := 33) hG dX12_like_30 ks_m1000 rfl ?_
      exact s_iret hG dX12_like_33 (hQ _ _ ⟨_, _, _, _, rfl, rfl, h⟩)
    · replace h := h.2 c
      refine s_aload_n (n := 22) hG dX12_like_21 rfl rfl ?_
      refine s_iload_n (n := 23) hG dX12_like_22 rfl rfl ?_
      refine s_iload_n (n := 24) hG dX12_like_23 rfl rfl ?_
      refine s_callV (n := 27) (st := []) hG (mX12_likeness hE h) ceX12_likeness lmX12_264 ⟨by decide, rfl, rfl⟩ rfl ⟨rfl, Nat.le_of_ble_eq_true rfl, by decide⟩ dX12_like_24 rfl ?_
      rintro _ _ ⟨r24, g24, f24, w24, rfl, rfl, h⟩
      refine s_goto (tgt := 33) hG dX12_like_27 rfl ?_
      exact s_iret hG dX12_like_33 (hQ _ _ ⟨_, _, _, _, rfl, rfl, h⟩)
def wX12_tell_j31 (N : Nat)  (Q : Int32 → gFG → gFF → Int64 → Prop)  (g : gFG) (f : gFF) (w : Int64) : Prop := wX12_told N (-1) g f w (fun r33 g33 f33 w33 => Q r33 g33 f33 w33)
theorem sX12_tell_j31 {G : gG} {Rt : Option Value → gSt → Prop} (hE : gInj layM ad ∧ gZok (gA layM ad) Z) (hG : gSim l D cs layM ad Z 3 RX12 cX12_tell 4 (some .int) G Rt) {Q : Int32 → gFG → gFF → Int64 → Prop} (hQ : ∀ v S, gMi Q v S → Rt v S) {N : Nat}    {g : gFG} {f : gFF} {w : Int64}  (h : wX12_tell_j31 N  Q  g f w) : G 31 [some (.ref (ad 0)), none, none, none] [] (g, f, w) := by
  unfold wX12_tell_j31 at h
  refine s_aload_n (n := 32) hG dX12_tell_31 rfl rfl ?_
  refine s_iconst (n := 33) hG dX12_tell_32 ki_m1 rfl ?_
  refine s_callV (n := 36) (st := []) hG (mX12_told hE h) ceX12_told lmX12_113 ⟨by decide, rfl, rfl⟩ rfl ⟨rfl, Nat.le_of_ble_eq_true rfl, by decide⟩ dX12_tell_33 rfl ?_
  rintro _ _ ⟨r33, g33, f33, w33, rfl, rfl, h⟩
  exact s_iret hG dX12_tell_36 (hQ _ _ ⟨_, _, _, _, rfl, rfl, h⟩)
def wX12_tell (N : Nat) (a1 : Int32) (a2 : Int32) (a3 : Int32) (g : gFG) (f : gFF) (w : Int64) (Q : Int32 → gFG → gFF → Int64 → Prop) : Prop := ∀ g2 : gFG, g2 = (va_up g 0 0) → wX12_in N a2.toInt64 (-1) 7 g2 f w (fun r13 g13 f13 w13 => ((r13 = 0) → wX12_tell_j31 N  Q g13 f13 w13) ∧ ((¬ r13 = 0) → wX12_in N a3.toInt64 0 3000 g13 f13 w13 (fun r25 g25 f25 w25 => ((¬ r25 = 0) → wX12_isVessel N a1 g25 f25 w25 (fun r39 g39 f39 w39 => ((¬ r39 = 0) → ((¬ (g39 40) = 150) → ∀ i78 : Int32, i78 = (g39 40) → (vp_in i78 150) ∧ (∀ f78 : gFF, f78 = (va_up f39 22 (upd (f39 22) i78.toNatClampNeg a1)) → ∀ i88 : Int32, i88 = (g39 40) → (vp_in i88 150) ∧ (∀ f88 : gFF, f88 = (va_up f78 23 (upd (f78 23) i88.toNatClampNeg a2)) → ∀ i98 : Int32, i98 = (g39 40) → (vp_in i98 150) ∧ (∀ f98 : gFF, f98 = (va_up f88 24 (upd (f88 24) i98.toNatClampNeg a3)) → ∀ y106 : Int32, y106 = ((g39 40) + 1) → ∀ g106 : gFG, g106 = (va_up g39 40 y106) → wX12_told N (g106 40) g106 f98 w39 (fun r114 g114 f114 w114 => Q r114 g114 f114 w114))))) ∧ (((g39 40) = 150) → wX12_told N (-5) g39 f39 w39 (fun r65 g65 f65 w65 => Q r65 g65 f65 w65))) ∧ ((r39 = 0) → wX12_told N (-2) g39 f39 w39 (fun r48 g48 f48 w48 => Q r48 g48 f48 w48)))) ∧ ((r25 = 0) → wX12_tell_j31 N  Q g25 f25 w25))))
theorem mX12_tell (hE : gInj layM ad ∧ gZok (gA layM ad) Z) {N : Nat} {a1 : Int32} {a2 : Int32} {a3 : Int32} {g : gFG} {f : gFF} {w : Int64} {Q : Int32 → gFG → gFF → Int64 → Prop} (h : wX12_tell N a1 a2 a3 g f w Q) : gCT l D cs layM ad Z 3 yX12_tell cX12_tell 4 (some .int) [.ref (ad 0), .int a1, .int a2, .int a3] (g, f, w) (gMi Q) := by
  refine met_walk (lv0 := [some (.ref (ad 0)), some (.int a1), some (.int a2), some (.int a3)]) hE (by decide) (Nat.le_of_ble_eq_true rfl) rfl (fun G Rt hG hQ => ?_)
  replace hG : gSim l D cs layM ad Z 3 RX12 cX12_tell 4 (some .int) G Rt := hG
  unfold wX12_tell at h
  refine s_aload_n (n := 1) hG dX12_tell_0 rfl rfl ?_
  refine s_iconst (n := 2) hG dX12_tell_1 ki_0 rfl ?_
  refine ptX12_96 (n := 5) hG dX12_tell_2 rfl ?_
  refine s_ng (fun g2 hg2 => ?_)
  replace h := h g2 hg2
  refine s_iload_n (n := 6) hG dX12_tell_5 rfl rfl ?_
  refine s_i2l (n := 7) hG dX12_tell_6 rfl ?_
  refine s_ldc2_w (n := 10) hG dX12_tell_7 lcX12_216 rfl ?_
  refine s_ldc2_w (n := 13) hG dX12_tell_10 lcX12_267 rfl ?_
  refine s_callS (n := 16) (st := []) hG (mX12_in hE h) ceX12_in lmX12_102 rfl ⟨rfl, Nat.le_of_ble_eq_true rfl, by decide⟩ dX12_tell_13 rfl ?_
  rintro _ _ ⟨r13, g13, f13, w13, rfl, rfl, h⟩
  refine s_if_eq (n := 19) (tgt := 31) hG dX12_tell_16 rfl rfl (fun c => ?_) (fun c => ?_)
  · replace h := h.1 c
    exact s_wk hG (sX12_tell_j31 hE hG hQ  h) ⟨rfl, trivial⟩
  · replace h := h.2 c
    refine s_iload_n (n := 20) hG dX12_tell_19 rfl rfl ?_
    refine s_i2l (n := 21) hG dX12_tell_20 rfl ?_
    refine s_lconst (n := 22) hG dX12_tell_21 kl_0 rfl ?_
    refine s_ldc2_w (n := 25) hG dX12_tell_22 lcX12_269 rfl ?_
    refine s_callS (n := 28) (st := []) hG (mX12_in hE h) ceX12_in lmX12_102 rfl ⟨rfl, Nat.le_of_ble_eq_true rfl, by decide⟩ dX12_tell_25 rfl ?_
    rintro _ _ ⟨r25, g25, f25, w25, rfl, rfl, h⟩
    refine s_if_ne (n := 31) (tgt := 37) hG dX12_tell_28 rfl rfl (fun c => ?_) (fun c => ?_)
    · replace h := h.1 c
      refine s_aload_n (n := 38) hG dX12_tell_37 rfl rfl ?_
      refine s_iload_n (n := 39) hG dX12_tell_38 rfl rfl ?_
      refine s_callV (n := 42) (st := []) hG (mX12_isVessel hE h) ceX12_isVessel lmX12_261 ⟨by decide, rfl, rfl⟩ rfl ⟨rfl, Nat.le_of_ble_eq_true rfl, by decide⟩ dX12_tell_39 rfl ?_
      rintro _ _ ⟨r39, g39, f39, w39, rfl, rfl, h⟩
      refine s_if_ne (n := 45) (tgt := 52) hG dX12_tell_42 rfl rfl (fun c => ?_) (fun c => ?_)
      · replace h := h.1 c
        refine s_aload_n (n := 53) hG dX12_tell_52 rfl rfl ?_
        refine gtX12_271 (n := 56) hG dX12_tell_53 rfl ?_
        refine s_sipush (n := 59) hG dX12_tell_56 ks_150 rfl ?_
        refine s_icmp_ne (n := 62) (tgt := 69) hG dX12_tell_59 rfl rfl (fun c => ?_) (fun c => ?_)
        · replace h := h.1 c
          refine s_aload_n (n := 70) hG dX12_tell_69 rfl rfl ?_
          refine gtX12_87 (n := 73) hG dX12_tell_70 rfl ?_
          refine s_aload_n (n := 74) hG dX12_tell_73 rfl rfl ?_
          refine gtX12_271 (n := 77) hG dX12_tell_74 rfl ?_
          refine s_iload_n (n := 78) hG dX12_tell_77 rfl rfl ?_
          refine s_topi2 (fun i78 hi78 => ?_)
          replace h := h i78 hi78
          obtain ⟨hin, h⟩ := h
          refine s_iast (n := 79) hG dX12_tell_78 (gaM_22 hin) rfl ?_
          refine s_nf (fun f78 hf78 => ?_)
          replace h := h f78 hf78
          refine s_aload_n (n := 80) hG dX12_tell_79 rfl rfl ?_
          refine gtX12_90 (n := 83) hG dX12_tell_80 rfl ?_
          refine s_aload_n (n := 84) hG dX12_tell_83 rfl rfl ?_
          refine gtX12_271 (n := 87) hG dX12_tell_84 rfl ?_
          refine s_iload_n (n := 88) hG dX12_tell_87 rfl rfl ?_
          refine s_topi2 (fun i88 hi88 => ?_)
          replace h := h i88 hi88
          obtain ⟨hin, h⟩ := h
          refine s_iast (n := 89) hG dX12_tell_88 (gaM_23 hin) rfl ?_
          refine s_nf (fun f88 hf88 => ?_)
          replace h := h f88 hf88
          refine s_aload_n (n := 90) hG dX12_tell_89 rfl rfl ?_
          refine gtX12_93 (n := 93) hG dX12_tell_90 rfl ?_
          refine s_aload_n (n := 94) hG dX12_tell_93 rfl rfl ?_
          refine gtX12_271 (n := 97) hG dX12_tell_94 rfl ?_
          refine s_iload_n (n := 98) hG dX12_tell_97 rfl rfl ?_
          refine s_topi2 (fun i98 hi98 => ?_)
          replace h := h i98 hi98
          obtain ⟨hin, h⟩ := h
          refine s_iast (n := 99) hG dX12_tell_98 (gaM_24 hin) rfl ?_
          refine s_nf (fun f98 hf98 => ?_)
          replace h := h f98 hf98
          refine s_aload_n (n := 100) hG dX12_tell_99 rfl rfl ?_
          refine s_dup (n := 101) hG dX12_tell_100 rfl rfl ?_
          refine gtX12_271 (n := 104) hG dX12_tell_101 rfl ?_
          refine s_iconst (n := 105) hG dX12_tell_104 ki_1 rfl ?_
          refine s_iadd (n := 106) hG dX12_tell_105 rfl ?_
          refine s_topi (fun y106 hy106 => ?_)
          replace h := h y106 hy106
          refine ptX12_271 (n := 109) hG dX12_tell_106 rfl ?_
          refine s_ng (fun g106 hg106 => ?_)
          replace h := h g106 hg106
          refine s_aload_n (n := 110) hG dX12_tell_109 rfl rfl ?_
          refine s_aload_n (n := 111) hG dX12_tell_110 rfl rfl ?_
          refine gtX12_271 (n := 114) hG dX12_tell_111 rfl ?_
          refine s_callV (n := 117) (st := []) hG (mX12_told hE h) ceX12_told lmX12_113 ⟨by decide, rfl, rfl⟩ rfl ⟨rfl, Nat.le_of_ble_eq_true rfl, by decide⟩ dX12_tell_114 rfl ?_
          rintro _ _ ⟨r114, g114, f114, w114, rfl, rfl, h⟩
          exact s_iret hG dX12_tell_117 (hQ _ _ ⟨_, _, _, _, rfl, rfl, h⟩)
        · replace h := h.2 c
          refine s_aload_n (n := 63) hG dX12_tell_62 rfl rfl ?_
          refine s_bipush (n := 65) hG dX12_tell_63 kb_m5 rfl ?_
          refine s_callV (n := 68) (st := []) hG (mX12_told hE h) ceX12_told lmX12_113 ⟨by decide, rfl, rfl⟩ rfl ⟨rfl, Nat.le_of_ble_eq_true rfl, by decide⟩ dX12_tell_65 rfl ?_
          rintro _ _ ⟨r65, g65, f65, w65, rfl, rfl, h⟩
          exact s_iret hG dX12_tell_68 (hQ _ _ ⟨_, _, _, _, rfl, rfl, h⟩)
      · replace h := h.2 c
        refine s_aload_n (n := 46) hG dX12_tell_45 rfl rfl ?_
        refine s_bipush (n := 48) hG dX12_tell_46 kb_m2 rfl ?_
        refine s_callV (n := 51) (st := []) hG (mX12_told hE h) ceX12_told lmX12_113 ⟨by decide, rfl, rfl⟩ rfl ⟨rfl, Nat.le_of_ble_eq_true rfl, by decide⟩ dX12_tell_48 rfl ?_
        rintro _ _ ⟨r48, g48, f48, w48, rfl, rfl, h⟩
        exact s_iret hG dX12_tell_51 (hQ _ _ ⟨_, _, _, _, rfl, rfl, h⟩)
    · replace h := h.2 c
      exact s_wk hG (sX12_tell_j31 hE hG hQ  h) ⟨rfl, trivial⟩
def wX12_shopOf_j47 (N : Nat) (K5 : Int32 → Int32 → gFG → gFF → Int64 → Prop) (Q : Int32 → gFG → gFF → Int64 → Prop) (v1 : Int32) (v2 : Int32) (v4 : Int32) (t0 : Int32) (g : gFG) (f : gFF) (w : Int64) : Prop := ∀ x4_48 : Int32, x4_48 = (v4 + 1) → K5 t0 x4_48 g f w
theorem sX12_shopOf_j47 {G : gG} {Rt : Option Value → gSt → Prop} (hE : gInj layM ad ∧ gZok (gA layM ad) Z) (hG : gSim l D cs layM ad Z 1 RX12 cX12_shopOf 5 (some .int) G Rt) {Q : Int32 → gFG → gFF → Int64 → Prop} (hQ : ∀ v S, gMi Q v S → Rt v S) {N : Nat} {K5 : Int32 → Int32 → gFG → gFF → Int64 → Prop}  {v1 : Int32} {v2 : Int32} {v4 : Int32} {t0 : Int32} {g : gFG} {f : gFF} {w : Int64} (hK5 : ∀ (uv3 : Int32) (uv4 : Int32) (ug : gFG) (uf : gFF) (uw : Int64), K5 uv3 uv4 ug uf uw → G 5 [some (.ref (ad 0)), some (.int v1), some (.int v2), some (.int uv3), some (.int uv4)] [] (ug, uf, uw)) (h : wX12_shopOf_j47 N K5 Q v1 v2 v4 t0 g f w) : G 47 [some (.ref (ad 0)), some (.int v1), some (.int v2), none, some (.int v4)] [.int t0] (g, f, w) := by
  unfold wX12_shopOf_j47 at h
  refine s_istore_n (n := 48) (lv2 := [some (.ref (ad 0)), some (.int v1), some (.int v2), some (.int t0), some (.int v4)]) hG dX12_shopOf_47 rfl rfl rfl ?_
  obtain ⟨x4_48, hx4_48⟩ : ∃ z : Int32, z = (v4 + 1) := ⟨_, rfl⟩
  replace h := h x4_48 hx4_48
  refine s_iinc (n := 51) (v := x4_48) (lv2 := [some (.ref (ad 0)), some (.int v1), some (.int v2), some (.int t0), some (.int x4_48)]) hG dX12_shopOf_48 ki_1 rfl hx4_48 rfl rfl rfl ?_
  refine s_goto (tgt := 5) hG dX12_shopOf_51 rfl ?_
  exact s_wk hG (hK5 _ _ _ _ _ h) ⟨rfl, rfl, rfl, rfl, rfl, trivial⟩
def wX12_shopOf_j46 (N : Nat) (K5 : Int32 → Int32 → gFG → gFF → Int64 → Prop) (Q : Int32 → gFG → gFF → Int64 → Prop) (v1 : Int32) (v2 : Int32) (v3 : Int32) (v4 : Int32) (g : gFG) (f : gFF) (w : Int64) : Prop := wX12_shopOf_j47 N (K5) Q v1 v2 v4 v3 g f w
theorem sX12_shopOf_j46 {G : gG} {Rt : Option Value → gSt → Prop} (hE : gInj layM ad ∧ gZok (gA layM ad) Z) (hG : gSim l D cs layM ad Z 1 RX12 cX12_shopOf 5 (some .int) G Rt) {Q : Int32 → gFG → gFF → Int64 → Prop} (hQ : ∀ v S, gMi Q v S → Rt v S) {N : Nat} {K5 : Int32 → Int32 → gFG → gFF → Int64 → Prop}  {v1 : Int32} {v2 : Int32} {v3 : Int32} {v4 : Int32} {g : gFG} {f : gFF} {w : Int64} (hK5 : ∀ (uv3 : Int32) (uv4 : Int32) (ug : gFG) (uf : gFF) (uw : Int64), K5 uv3 uv4 ug uf uw → G 5 [some (.ref (ad 0)), some (.int v1), some (.int v2), some (.int uv3), some (.int uv4)] [] (ug, uf, uw)) (h : wX12_shopOf_j46 N K5 Q v1 v2 v3 v4 g f w) : G 46 [some (.ref (ad 0)), some (.int v1), some (.int v2), some (.int v3), some (.int v4)] [] (g, f, w) := by
  unfold wX12_shopOf_j46 at h
  refine s_iload_n (n := 47) hG dX12_shopOf_46 rfl rfl ?_
  exact s_wk hG (sX12_shopOf_j47 hE hG hQ hK5 h) ⟨rfl, rfl, rfl, rfl, trivial⟩
def wX12_shopOf_l5 (N : Nat) (v1 : Int32) (v2 : Int32)  (Q : Int32 → gFG → gFF → Int64 → Prop) : Nat → Int32 → Int32 → gFG → gFF → Int64 → Prop
  | 0, _, _, _, _, _ => False
  | n + 1, v3, v4, g, f, w => (((g 40) ≤ v4) → Q v3 g f w) ∧ ((¬ (g 40) ≤ v4) → (vp_in v4 150) ∧ (((¬ (f 22 v4.toNatClampNeg) = v1) → wX12_shopOf_j46 N (wX12_shopOf_l5 N v1 v2  Q n) Q v1 v2 v3 v4 g f w) ∧ (((f 22 v4.toNatClampNeg) = v1) → (vp_in v4 150) ∧ (((v2 < (f 24 v4.toNatClampNeg)) → wX12_shopOf_j46 N (wX12_shopOf_l5 N v1 v2  Q n) Q v1 v2 v3 v4 g f w) ∧ ((¬ v2 < (f 24 v4.toNatClampNeg)) → (vp_in v4 150) ∧ (wX12_shopOf_j47 N (wX12_shopOf_l5 N v1 v2  Q n) Q v1 v2 v4 (f 23 v4.toNatClampNeg) g f w))))))
theorem sX12_shopOf_l5 {G : gG} {Rt : Option Value → gSt → Prop} (hE : gInj layM ad ∧ gZok (gA layM ad) Z) (hG : gSim l D cs layM ad Z 1 RX12 cX12_shopOf 5 (some .int) G Rt) {Q : Int32 → gFG → gFF → Int64 → Prop} (hQ : ∀ v S, gMi Q v S → Rt v S) {N : Nat} {v1 : Int32} {v2 : Int32}    : ∀ (n : Nat) (v3 : Int32) (v4 : Int32) (g : gFG) (f : gFF) (w : Int64), wX12_shopOf_l5 N v1 v2  Q n v3 v4 g f w → G 5 [some (.ref (ad 0)), some (.int v1), some (.int v2), some (.int v3), some (.int v4)] [] (g, f, w) := by
  intro n
  induction n with
  | zero => intro _ _ _ _ _ h; unfold wX12_shopOf_l5 at h; exact h.elim
  | succ n ih =>
    intro v3 v4 g f w h
    unfold wX12_shopOf_l5 at h
    refine s_iload (n := 7) hG dX12_shopOf_5 rfl rfl ?_
    refine s_aload_n (n := 8) hG dX12_shopOf_7 rfl rfl ?_
    refine gtX12_271 (n := 11) hG dX12_shopOf_8 rfl ?_
    refine s_icmp_ge (n := 14) (tgt := 54) hG dX12_shopOf_11 rfl rfl (fun c => ?_) (fun c => ?_)
    · replace h := h.1 c
      refine s_iload_n (n := 55) hG dX12_shopOf_54 rfl rfl ?_
      exact s_iret hG dX12_shopOf_55 (hQ _ _ ⟨_, _, _, _, rfl, rfl, h⟩)
    · replace h := h.2 c
      refine s_aload_n (n := 15) hG dX12_shopOf_14 rfl rfl ?_
      refine gtX12_87 (n := 18) hG dX12_shopOf_15 rfl ?_
      refine s_iload (n := 20) hG dX12_shopOf_18 rfl rfl ?_
      obtain ⟨hin, h⟩ := h
      refine s_iald (n := 21) hG dX12_shopOf_20 (gaM_22 hin) rfl ?_
      refine s_iload_n (n := 22) hG dX12_shopOf_21 rfl rfl ?_
      refine s_icmp_ne (n := 25) (tgt := 46) hG dX12_shopOf_22 rfl rfl (fun c => ?_) (fun c => ?_)
      · replace h := h.1 c
        exact s_wk hG (sX12_shopOf_j46 hE hG hQ ih h) ⟨rfl, rfl, rfl, rfl, rfl, trivial⟩
      · replace h := h.2 c
        refine s_aload_n (n := 26) hG dX12_shopOf_25 rfl rfl ?_
        refine gtX12_93 (n := 29) hG dX12_shopOf_26 rfl ?_
        refine s_iload (n := 31) hG dX12_shopOf_29 rfl rfl ?_
        obtain ⟨hin, h⟩ := h
        refine s_iald (n := 32) hG dX12_shopOf_31 (gaM_24 hin) rfl ?_
        refine s_iload_n (n := 33) hG dX12_shopOf_32 rfl rfl ?_
        refine s_icmp_gt (n := 36) (tgt := 46) hG dX12_shopOf_33 rfl rfl (fun c => ?_) (fun c => ?_)
        · replace h := h.1 c
          exact s_wk hG (sX12_shopOf_j46 hE hG hQ ih h) ⟨rfl, rfl, rfl, rfl, rfl, trivial⟩
        · replace h := h.2 c
          refine s_aload_n (n := 37) hG dX12_shopOf_36 rfl rfl ?_
          refine gtX12_90 (n := 40) hG dX12_shopOf_37 rfl ?_
          refine s_iload (n := 42) hG dX12_shopOf_40 rfl rfl ?_
          obtain ⟨hin, h⟩ := h
          refine s_iald (n := 43) hG dX12_shopOf_42 (gaM_23 hin) rfl ?_
          refine s_goto (tgt := 47) hG dX12_shopOf_43 rfl ?_
          exact s_wk hG (sX12_shopOf_j47 hE hG hQ ih h) ⟨rfl, rfl, rfl, rfl, trivial⟩
def wX12_shopOf (N : Nat) (a1 : Int32) (a2 : Int32) (g : gFG) (f : gFF) (w : Int64) (Q : Int32 → gFG → gFF → Int64 → Prop) : Prop := wX12_shopOf_l5 N a1 a2 Q N (-1) 0 g f w
theorem mX12_shopOf (hE : gInj layM ad ∧ gZok (gA layM ad) Z) {N : Nat} {a1 : Int32} {a2 : Int32} {g : gFG} {f : gFF} {w : Int64} {Q : Int32 → gFG → gFF → Int64 → Prop} (h : wX12_shopOf N a1 a2 g f w Q) : gCT l D cs layM ad Z 1 yX12_shopOf cX12_shopOf 5 (some .int) [.ref (ad 0), .int a1, .int a2] (g, f, w) (gMi Q) := by
  refine met_walk (lv0 := [some (.ref (ad 0)), some (.int a1), some (.int a2), none, none]) hE (by decide) (Nat.le_of_ble_eq_true rfl) rfl (fun G Rt hG hQ => ?_)
  replace hG : gSim l D cs layM ad Z 1 RX12 cX12_shopOf 5 (some .int) G Rt := hG
  unfold wX12_shopOf at h
  refine s_iconst (n := 1) hG dX12_shopOf_0 ki_m1 rfl ?_
  refine s_istore_n (n := 2) (lv2 := [some (.ref (ad 0)), some (.int a1), some (.int a2), some (.int (-1)), none]) hG dX12_shopOf_1 rfl rfl rfl ?_
  refine s_iconst (n := 3) hG dX12_shopOf_2 ki_0 rfl ?_
  refine s_istore (n := 5) (lv2 := [some (.ref (ad 0)), some (.int a1), some (.int a2), some (.int (-1)), some (.int 0)]) hG dX12_shopOf_3 rfl rfl rfl ?_
  exact s_wk hG (sX12_shopOf_l5 hE hG hQ  N _ _ _ _ _ h) ⟨rfl, rfl, rfl, rfl, rfl, trivial⟩
def wX12_of (N : Nat) (a1 : Int32) (a2 : Int32) (g : gFG) (f : gFF) (w : Int64) (Q : Int32 → gFG → gFF → Int64 → Prop) : Prop := ∀ g2 : gFG, g2 = (va_up g 0 0) → wX12_isVessel N a1 g2 f w (fun r7 g7 f7 w7 => ((r7 = 0) → Q (-2) g7 f7 w7) ∧ ((¬ r7 = 0) → wX12_in N a2.toInt64 0 3000 g7 f7 w7 (fun r19 g19 f19 w19 => ((r19 = 0) → Q (-2) g19 f19 w19) ∧ ((¬ r19 = 0) → wX12_shopOf N a1 a2 g19 f19 w19 (fun r28 g28 f28 w28 => Q r28 g28 f28 w28)))))
theorem mX12_of (hE : gInj layM ad ∧ gZok (gA layM ad) Z) {N : Nat} {a1 : Int32} {a2 : Int32} {g : gFG} {f : gFF} {w : Int64} {Q : Int32 → gFG → gFF → Int64 → Prop} (h : wX12_of N a1 a2 g f w Q) : gCT l D cs layM ad Z 3 yX12_of cX12_of 3 (some .int) [.ref (ad 0), .int a1, .int a2] (g, f, w) (gMi Q) := by
  refine met_walk (lv0 := [some (.ref (ad 0)), some (.int a1), some (.int a2)]) hE (by decide) (Nat.le_of_ble_eq_true rfl) rfl (fun G Rt hG hQ => ?_)
  replace hG : gSim l D cs layM ad Z 3 RX12 cX12_of 3 (some .int) G Rt := hG
  unfold wX12_of at h
  refine s_aload_n (n := 1) hG dX12_of_0 rfl rfl ?_
  refine s_iconst (n := 2) hG dX12_of_1 ki_0 rfl ?_
  refine ptX12_96 (n := 5) hG dX12_of_2 rfl ?_
  refine s_ng (fun g2 hg2 => ?_)
  replace h := h g2 hg2
  refine s_aload_n (n := 6) hG dX12_of_5 rfl rfl ?_
  refine s_iload_n (n := 7) hG dX12_of_6 rfl rfl ?_
  refine s_callV (n := 10) (st := []) hG (mX12_isVessel hE h) ceX12_isVessel lmX12_261 ⟨by decide, rfl, rfl⟩ rfl ⟨rfl, Nat.le_of_ble_eq_true rfl, by decide⟩ dX12_of_7 rfl ?_
  rintro _ _ ⟨r7, g7, f7, w7, rfl, rfl, h⟩
  refine s_if_eq (n := 13) (tgt := 34) hG dX12_of_10 rfl rfl (fun c => ?_) (fun c => ?_)
  · replace h := h.1 c
    refine s_bipush (n := 36) hG dX12_of_34 kb_m2 rfl ?_
    exact s_iret hG dX12_of_36 (hQ _ _ ⟨_, _, _, _, rfl, rfl, h⟩)
  · replace h := h.2 c
    refine s_iload_n (n := 14) hG dX12_of_13 rfl rfl ?_
    refine s_i2l (n := 15) hG dX12_of_14 rfl ?_
    refine s_lconst (n := 16) hG dX12_of_15 kl_0 rfl ?_
    refine s_ldc2_w (n := 19) hG dX12_of_16 lcX12_269 rfl ?_
    refine s_callS (n := 22) (st := []) hG (mX12_in hE h) ceX12_in lmX12_102 rfl ⟨rfl, Nat.le_of_ble_eq_true rfl, by decide⟩ dX12_of_19 rfl ?_
    rintro _ _ ⟨r19, g19, f19, w19, rfl, rfl, h⟩
    refine s_if_eq (n := 25) (tgt := 34) hG dX12_of_22 rfl rfl (fun c => ?_) (fun c => ?_)
    · replace h := h.1 c
      refine s_bipush (n := 36) hG dX12_of_34 kb_m2 rfl ?_
      exact s_iret hG dX12_of_36 (hQ _ _ ⟨_, _, _, _, rfl, rfl, h⟩)
    · replace h := h.2 c
      refine s_aload_n (n := 26) hG dX12_of_25 rfl rfl ?_
      refine s_iload_n (n := 27) hG dX12_of_26 rfl rfl ?_
      refine s_iload_n (n := 28) hG dX12_of_27 rfl rfl ?_
      refine s_callV (n := 31) (st := []) hG (mX12_shopOf hE h) ceX12_shopOf lmX12_274 ⟨by decide, rfl, rfl⟩ rfl ⟨rfl, Nat.le_of_ble_eq_true rfl, by decide⟩ dX12_of_28 rfl ?_
      rintro _ _ ⟨r28, g28, f28, w28, rfl, rfl, h⟩
      refine s_goto (tgt := 36) hG dX12_of_31 rfl ?_
      exact s_iret hG dX12_of_36 (hQ _ _ ⟨_, _, _, _, rfl, rfl, h⟩)
def wX12_by_j136 (N : Nat) (K39 : Int32 → Int32 → Int32 → Int32 → gFG → gFF → Int64 → Prop) (Q : Int32 → gFG → gFF → Int64 → Prop) (v1 : Int32) (v2 : Int32) (v3 : Int32) (v4 : Int32) (v5 : Int32) (v6 : Int32) (g : gFG) (f : gFF) (w : Int64) : Prop := ∀ x6_136 : Int32, x6_136 = (v6 + 1) → K39 v3 v4 v5 x6_136 g f w
theorem sX12_by_j136 {G : gG} {Rt : Option Value → gSt → Prop} (hE : gInj layM ad ∧ gZok (gA layM ad) Z) (hG : gSim l D cs layM ad Z 3 RX12 cX12_by 10 (some .int) G Rt) {Q : Int32 → gFG → gFF → Int64 → Prop} (hQ : ∀ v S, gMi Q v S → Rt v S) {N : Nat} {K39 : Int32 → Int32 → Int32 → Int32 → gFG → gFF → Int64 → Prop}  {v1 : Int32} {v2 : Int32} {v3 : Int32} {v4 : Int32} {v5 : Int32} {v6 : Int32} {g : gFG} {f : gFF} {w : Int64} (hK39 : ∀ (uv3 : Int32) (uv4 : Int32) (uv5 : Int32) (uv6 : Int32) (ug : gFG) (uf : gFF) (uw : Int64), K39 uv3 uv4 uv5 uv6 ug uf uw → G 39 [some (.ref (ad 0)), some (.int v1), some (.int v2), some (.int uv3), some (.int uv4), some (.int uv5), some (.int uv6), none, none, none] [] (ug, uf, uw)) (h : wX12_by_j136 N K39 Q v1 v2 v3 v4 v5 v6 g f w) : G 136 [some (.ref (ad 0)), some (.int v1), some (.int v2), some (.int v3), some (.int v4), some (.int v5), some (.int v6), none, none, none] [] (g, f, w) := by
  unfold wX12_by_j136 at h
  obtain ⟨x6_136, hx6_136⟩ : ∃ z : Int32, z = (v6 + 1) := ⟨_, rfl⟩
  replace h := h x6_136 hx6_136
  refine s_iinc (n := 139) (v := x6_136) (lv2 := [some (.ref (ad 0)), some (.int v1), some (.int v2), some (.int v3), some (.int v4), some (.int v5), some (.int x6_136), none, none, none]) hG dX12_by_136 ki_1 rfl hx6_136 rfl rfl rfl ?_
  refine s_goto (tgt := 39) hG dX12_by_139 rfl ?_
  exact s_wk hG (hK39 _ _ _ _ _ _ _ h) ⟨rfl, rfl, rfl, rfl, rfl, rfl, rfl, trivial⟩
def wX12_by_j125 (N : Nat) (K39 : Int32 → Int32 → Int32 → Int32 → gFG → gFF → Int64 → Prop) (Q : Int32 → gFG → gFF → Int64 → Prop) (v1 : Int32) (v2 : Int32) (v6 : Int32) (v7 : Int32) (v8 : Int32) (g : gFG) (f : gFF) (w : Int64) : Prop := wX12_by_j136 N (K39) Q v1 v2 v6 v7 v8 v6 g f w
theorem sX12_by_j125 {G : gG} {Rt : Option Value → gSt → Prop} (hE : gInj layM ad ∧ gZok (gA layM ad) Z) (hG : gSim l D cs layM ad Z 3 RX12 cX12_by 10 (some .int) G Rt) {Q : Int32 → gFG → gFF → Int64 → Prop} (hQ : ∀ v S, gMi Q v S → Rt v S) {N : Nat} {K39 : Int32 → Int32 → Int32 → Int32 → gFG → gFF → Int64 → Prop}  {v1 : Int32} {v2 : Int32} {v6 : Int32} {v7 : Int32} {v8 : Int32} {g : gFG} {f : gFF} {w : Int64} (hK39 : ∀ (uv3 : Int32) (uv4 : Int32) (uv5 : Int32) (uv6 : Int32) (ug : gFG) (uf : gFF) (uw : Int64), K39 uv3 uv4 uv5 uv6 ug uf uw → G 39 [some (.ref (ad 0)), some (.int v1), some (.int v2), some (.int uv3), some (.int uv4), some (.int uv5), some (.int uv6), none, none, none] [] (ug, uf, uw)) (h : wX12_by_j125 N K39 Q v1 v2 v6 v7 v8 g f w) : G 125 [some (.ref (ad 0)), some (.int v1), some (.int v2), none, none, none, some (.int v6), some (.int v7), some (.int v8), none] [] (g, f, w) := by
  unfold wX12_by_j125 at h
  refine s_iload (n := 127) hG dX12_by_125 rfl rfl ?_
  refine s_istore_n (n := 128) (lv2 := [some (.ref (ad 0)), some (.int v1), some (.int v2), some (.int v6), none, none, some (.int v6), some (.int v7), some (.int v8), none]) hG dX12_by_127 rfl rfl rfl ?_
  refine s_iload (n := 130) hG dX12_by_128 rfl rfl ?_
  refine s_istore (n := 132) (lv2 := [some (.ref (ad 0)), some (.int v1), some (.int v2), some (.int v6), some (.int v7), none, some (.int v6), some (.int v7), some (.int v8), none]) hG dX12_by_130 rfl rfl rfl ?_
  refine s_iload (n := 134) hG dX12_by_132 rfl rfl ?_
  refine s_istore (n := 136) (lv2 := [some (.ref (ad 0)), some (.int v1), some (.int v2), some (.int v6), some (.int v7), some (.int v8), some (.int v6), some (.int v7), some (.int v8), none]) hG dX12_by_134 rfl rfl rfl ?_
  exact s_wk hG (sX12_by_j136 hE hG hQ hK39 h) ⟨rfl, rfl, rfl, rfl, rfl, rfl, rfl, trivial⟩
def wX12_by_j97 (N : Nat) (K39 : Int32 → Int32 → Int32 → Int32 → gFG → gFF → Int64 → Prop) (K55 : Int32 → Int32 → Int32 → gFG → gFF → Int64 → Prop) (Q : Int32 → gFG → gFF → Int64 → Prop) (v1 : Int32) (v2 : Int32) (v3 : Int32) (v4 : Int32) (v5 : Int32) (v6 : Int32) (v7 : Int32) (v8 : Int32) (v9 : Int32) (g : gFG) (f : gFF) (w : Int64) : Prop := ∀ x9_97 : Int32, x9_97 = (v9 + 1) → K55 v7 v8 x9_97 g f w
theorem sX12_by_j97 {G : gG} {Rt : Option Value → gSt → Prop} (hE : gInj layM ad ∧ gZok (gA layM ad) Z) (hG : gSim l D cs layM ad Z 3 RX12 cX12_by 10 (some .int) G Rt) {Q : Int32 → gFG → gFF → Int64 → Prop} (hQ : ∀ v S, gMi Q v S → Rt v S) {N : Nat} {K39 : Int32 → Int32 → Int32 → Int32 → gFG → gFF → Int64 → Prop} {K55 : Int32 → Int32 → Int32 → gFG → gFF → Int64 → Prop}  {v1 : Int32} {v2 : Int32} {v3 : Int32} {v4 : Int32} {v5 : Int32} {v6 : Int32} {v7 : Int32} {v8 : Int32} {v9 : Int32} {g : gFG} {f : gFF} {w : Int64} (hK39 : ∀ (uv3 : Int32) (uv4 : Int32) (uv5 : Int32) (uv6 : Int32) (ug : gFG) (uf : gFF) (uw : Int64), K39 uv3 uv4 uv5 uv6 ug uf uw → G 39 [some (.ref (ad 0)), some (.int v1), some (.int v2), some (.int uv3), some (.int uv4), some (.int uv5), some (.int uv6), none, none, none] [] (ug, uf, uw)) (hK55 : ∀ (uv7 : Int32) (uv8 : Int32) (uv9 : Int32) (ug : gFG) (uf : gFF) (uw : Int64), K55 uv7 uv8 uv9 ug uf uw → G 55 [some (.ref (ad 0)), some (.int v1), some (.int v2), some (.int v3), some (.int v4), some (.int v5), some (.int v6), some (.int uv7), some (.int uv8), some (.int uv9)] [] (ug, uf, uw)) (h : wX12_by_j97 N K39 K55 Q v1 v2 v3 v4 v5 v6 v7 v8 v9 g f w) : G 97 [some (.ref (ad 0)), some (.int v1), some (.int v2), some (.int v3), some (.int v4), some (.int v5), some (.int v6), some (.int v7), some (.int v8), some (.int v9)] [] (g, f, w) := by
  unfold wX12_by_j97 at h
  obtain ⟨x9_97, hx9_97⟩ : ∃ z : Int32, z = (v9 + 1) := ⟨_, rfl⟩
  replace h := h x9_97 hx9_97
  refine s_iinc (n := 100) (v := x9_97) (lv2 := [some (.ref (ad 0)), some (.int v1), some (.int v2), some (.int v3), some (.int v4), some (.int v5), some (.int v6), some (.int v7), some (.int v8), some (.int x9_97)]) hG dX12_by_97 ki_1 rfl hx9_97 rfl rfl rfl ?_
  refine s_goto (tgt := 55) hG dX12_by_100 rfl ?_
  exact s_wk hG (hK55 _ _ _ _ _ _ h) ⟨rfl, rfl, rfl, rfl, rfl, rfl, rfl, rfl, rfl, rfl, trivial⟩
def wX12_by_l55 (N : Nat) (v1 : Int32) (v2 : Int32) (v3 : Int32) (v4 : Int32) (v5 : Int32) (v6 : Int32) (K39 : Int32 → Int32 → Int32 → Int32 → gFG → gFF → Int64 → Prop) (Q : Int32 → gFG → gFF → Int64 → Prop) : Nat → Int32 → Int32 → Int32 → gFG → gFF → Int64 → Prop
  | 0, _, _, _, _, _, _ => False
  | n + 1, v7, v8, v9, g, f, w => (((g 38) ≤ v9) → ((v8 ≤ 0) → wX12_by_j136 N (K39) Q v1 v2 v3 v4 v5 v6 g f w) ∧ ((¬ v8 ≤ 0) → ((v3 < 0) → wX12_by_j125 N (K39) Q v1 v2 v6 v7 v8 g f w) ∧ ((¬ v3 < 0) → (((v7 * v5) ≤ (v4 * v8)) → wX12_by_j136 N (K39) Q v1 v2 v3 v4 v5 v6 g f w) ∧ ((¬ (v7 * v5) ≤ (v4 * v8)) → wX12_by_j125 N (K39) Q v1 v2 v6 v7 v8 g f w)))) ∧ ((¬ (g 38) ≤ v9) → ((v9 = v1) → wX12_by_j97 N (K39) (wX12_by_l55 N v1 v2 v3 v4 v5 v6 K39 Q n) Q v1 v2 v3 v4 v5 v6 v7 v8 v9 g f w) ∧ ((¬ v9 = v1) → wX12_shopOf N v9 v2 g f w (fun r74 g74 f74 w74 => ((¬ r74 = v6) → wX12_by_j97 N (K39) (wX12_by_l55 N v1 v2 v3 v4 v5 v6 K39 Q n) Q v1 v2 v3 v4 v5 v6 v7 v8 v9 g74 f74 w74) ∧ ((r74 = v6) → wX12_likeness N v9 v1 g74 f74 w74 (fun r88 g88 f88 w88 => ∀ x7_92 : Int32, x7_92 = (v7 + r88) → ∀ x8_94 : Int32, x8_94 = (v8 + 1) → wX12_by_j97 N (K39) (wX12_by_l55 N v1 v2 v3 v4 v5 v6 K39 Q n) Q v1 v2 v3 v4 v5 v6 x7_92 x8_94 v9 g88 f88 w88)))))
theorem sX12_by_l55 {G : gG} {Rt : Option Value → gSt → Prop} (hE : gInj layM ad ∧ gZok (gA layM ad) Z) (hG : gSim l D cs layM ad Z 3 RX12 cX12_by 10 (some .int) G Rt) {Q : Int32 → gFG → gFF → Int64 → Prop} (hQ : ∀ v S, gMi Q v S → Rt v S) {N : Nat} {v1 : Int32} {v2 : Int32} {v3 : Int32} {v4 : Int32} {v5 : Int32} {v6 : Int32} {K39 : Int32 → Int32 → Int32 → Int32 → gFG → gFF → Int64 → Prop}  (hK39 : ∀ (uv3 : Int32) (uv4 : Int32) (uv5 : Int32) (uv6 : Int32) (ug : gFG) (uf : gFF) (uw : Int64), K39 uv3 uv4 uv5 uv6 ug uf uw → G 39 [some (.ref (ad 0)), some (.int v1), some (.int v2), some (.int uv3), some (.int uv4), some (.int uv5), some (.int uv6), none, none, none] [] (ug, uf, uw)) : ∀ (n : Nat) (v7 : Int32) (v8 : Int32) (v9 : Int32) (g : gFG) (f : gFF) (w : Int64), wX12_by_l55 N v1 v2 v3 v4 v5 v6 K39 Q n v7 v8 v9 g f w → G 55 [some (.ref (ad 0)), some (.int v1), some (.int v2), some (.int v3), some (.int v4), some (.int v5), some (.int v6), some (.int v7), some (.int v8), some (.int v9)] [] (g, f, w) := by
  intro n
  induction n with
  | zero => intro _ _ _ _ _ _ h; unfold wX12_by_l55 at h; exact h.elim
  | succ n ih =>
    intro v7 v8 v9 g f w h
    unfold wX12_by_l55 at h
    refine s_iload (n := 57) hG dX12_by_55 rfl rfl ?_
    refine s_aload_n (n := 58) hG dX12_by_57 rfl rfl ?_
    refine gtX12_256 (n := 61) hG dX12_by_58 rfl ?_
    refine s_icmp_ge (n := 64) (tgt := 103) hG dX12_by_61 rfl rfl (fun c => ?_) (fun c => ?_)
    · replace h := h.1 c
      refine s_iload (n := 105) hG dX12_by_103 rfl rfl ?_
      refine s_if_le (n := 108) (tgt := 136) hG dX12_by_105 rfl rfl (fun c => ?_) (fun c => ?_)
      · replace h := h.1 c
        exact s_wk hG (sX12_by_j136 hE hG hQ hK39 h) ⟨rfl, rfl, rfl, rfl, rfl, rfl, rfl, trivial⟩
      · replace h := h.2 c
        refine s_iload_n (n := 109) hG dX12_by_108 rfl rfl ?_
        refine s_if_lt (n := 112) (tgt := 125) hG dX12_by_109 rfl rfl (fun c => ?_) (fun c => ?_)
        · replace h := h.1 c
          exact s_wk hG (sX12_by_j125 hE hG hQ hK39 h) ⟨rfl, rfl, rfl, rfl, rfl, rfl, trivial⟩
        · replace h := h.2 c
          refine s_iload (n := 114) hG dX12_by_112 rfl rfl ?_
          refine s_iload (n := 116) hG dX12_by_114 rfl rfl ?_
          refine s_imul (n := 117) hG dX12_by_116 rfl ?_
          refine s_iload (n := 119) hG dX12_by_117 rfl rfl ?_
          refine s_iload (n := 121) hG dX12_by_119 rfl rfl ?_
          refine s_imul (n := 122) hG dX12_by_121 rfl ?_
          refine s_icmp_le (n := 125) (tgt := 136) hG dX12_by_122 rfl rfl (fun c => ?_) (fun c => ?_)
          · replace h := h.1 c
            exact s_wk hG (sX12_by_j136 hE hG hQ hK39 h) ⟨rfl, rfl, rfl, rfl, rfl, rfl, rfl, trivial⟩
          · replace h := h.2 c
            exact s_wk hG (sX12_by_j125 hE hG hQ hK39 h) ⟨rfl, rfl, rfl, rfl, rfl, rfl, trivial⟩
    · replace h := h.2 c
      refine s_iload (n := 66) hG dX12_by_64 rfl rfl ?_
      refine s_iload_n (n := 67) hG dX12_by_66 rfl rfl ?_
      refine s_icmp_eq (n := 70) (tgt := 97) hG dX12_by_67 rfl rfl (fun c => ?_) (fun c => ?_)
      · replace h := h.1 c
        exact s_wk hG (sX12_by_j97 hE hG hQ hK39 ih h) ⟨rfl, rfl, rfl, rfl, rfl, rfl, rfl, rfl, rfl, rfl, trivial⟩
      · replace h := h.2 c
        refine s_aload_n (n := 71) hG dX12_by_70 rfl rfl ?_
        refine s_iload (n := 73) hG dX12_by_71 rfl rfl ?_
        refine s_iload_n (n := 74) hG dX12_by_73 rfl rfl ?_
        refine s_callV (n := 77) (st := []) hG (mX12_shopOf hE h) ceX12_shopOf lmX12_274 ⟨by decide, rfl, rfl⟩ rfl ⟨rfl, Nat.le_of_ble_eq_true rfl, by decide⟩ dX12_by_74 rfl ?_
        rintro _ _ ⟨r74, g74, f74, w74, rfl, rfl, h⟩
        refine s_iload (n := 79) hG dX12_by_77 rfl rfl ?_
        refine s_icmp_ne (n := 82) (tgt := 97) hG dX12_by_79 rfl rfl (fun c => ?_) (fun c => ?_)
        · replace h := h.1 c
          exact s_wk hG (sX12_by_j97 hE hG hQ hK39 ih h) ⟨rfl, rfl, rfl, rfl, rfl, rfl, rfl, rfl, rfl, rfl, trivial⟩
        · replace h := h.2 c
          refine s_iload (n := 84) hG dX12_by_82 rfl rfl ?_
          refine s_aload_n (n := 85) hG dX12_by_84 rfl rfl ?_
          refine s_iload (n := 87) hG dX12_by_85 rfl rfl ?_
          refine s_iload_n (n := 88) hG dX12_by_87 rfl rfl ?_
          refine s_callV (n := 91) (st := [.int v7]) hG (mX12_likeness hE h) ceX12_likeness lmX12_264 ⟨by decide, rfl, rfl⟩ rfl ⟨rfl, Nat.le_of_ble_eq_true rfl, by decide⟩ dX12_by_88 rfl ?_
          rintro _ _ ⟨r88, g88, f88, w88, rfl, rfl, h⟩
          refine s_iadd (n := 92) hG dX12_by_91 rfl ?_
          refine s_topi (fun x7_92 hx7_92 => ?_)
          replace h := h x7_92 hx7_92
          refine s_istore (n := 94) (lv2 := [some (.ref (ad 0)), some (.int v1), some (.int v2), some (.int v3), some (.int v4), some (.int v5), some (.int v6), some (.int x7_92), some (.int v8), some (.int v9)]) hG dX12_by_92 rfl rfl rfl ?_
          obtain ⟨x8_94, hx8_94⟩ : ∃ z : Int32, z = (v8 + 1) := ⟨_, rfl⟩
          replace h := h x8_94 hx8_94
          refine s_iinc (n := 97) (v := x8_94) (lv2 := [some (.ref (ad 0)), some (.int v1), some (.int v2), some (.int v3), some (.int v4), some (.int v5), some (.int v6), some (.int x7_92), some (.int x8_94), some (.int v9)]) hG dX12_by_94 ki_1 rfl hx8_94 rfl rfl rfl ?_
          exact s_wk hG (sX12_by_j97 hE hG hQ hK39 ih h) ⟨rfl, rfl, rfl, rfl, rfl, rfl, rfl, rfl, rfl, rfl, trivial⟩
def wX12_by_l39 (N : Nat) (v1 : Int32) (v2 : Int32)  (Q : Int32 → gFG → gFF → Int64 → Prop) : Nat → Int32 → Int32 → Int32 → Int32 → gFG → gFF → Int64 → Prop
  | 0, _, _, _, _, _, _, _ => False
  | n + 1, v3, v4, v5, v6, g, f, w => ((8 ≤ v6) → Q v3 g f w) ∧ ((¬ 8 ≤ v6) → wX12_by_l55 N v1 v2 v3 v4 v5 v6 (wX12_by_l39 N v1 v2  Q n) Q N 0 0 0 g f w)
theorem sX12_by_l39 {G : gG} {Rt : Option Value → gSt → Prop} (hE : gInj layM ad ∧ gZok (gA layM ad) Z) (hG : gSim l D cs layM ad Z 3 RX12 cX12_by 10 (some .int) G Rt) {Q : Int32 → gFG → gFF → Int64 → Prop} (hQ : ∀ v S, gMi Q v S → Rt v S) {N : Nat} {v1 : Int32} {v2 : Int32}    : ∀ (n : Nat) (v3 : Int32) (v4 : Int32) (v5 : Int32) (v6 : Int32) (g : gFG) (f : gFF) (w : Int64), wX12_by_l39 N v1 v2  Q n v3 v4 v5 v6 g f w → G 39 [some (.ref (ad 0)), some (.int v1), some (.int v2), some (.int v3), some (.int v4), some (.int v5), some (.int v6), none, none, none] [] (g, f, w) := by
  intro n
  induction n with
  | zero => intro _ _ _ _ _ _ _ h; unfold wX12_by_l39 at h; exact h.elim
  | succ n ih =>
    intro v3 v4 v5 v6 g f w h
    unfold wX12_by_l39 at h
    refine s_iload (n := 41) hG dX12_by_39 rfl rfl ?_
    refine s_bipush (n := 43) hG dX12_by_41 kb_8 rfl ?_
    refine s_icmp_ge (n := 46) (tgt := 142) hG dX12_by_43 rfl rfl (fun c => ?_) (fun c => ?_)
    · replace h := h.1 c
      refine s_iload_n (n := 143) hG dX12_by_142 rfl rfl ?_
      exact s_iret hG dX12_by_143 (hQ _ _ ⟨_, _, _, _, rfl, rfl, h⟩)
    · replace h := h.2 c
      refine s_iconst (n := 47) hG dX12_by_46 ki_0 rfl ?_
      refine s_istore (n := 49) (lv2 := [some (.ref (ad 0)), some (.int v1), some (.int v2), some (.int v3), some (.int v4), some (.int v5), some (.int v6), some (.int 0), none, none]) hG dX12_by_47 rfl rfl rfl ?_
      refine s_iconst (n := 50) hG dX12_by_49 ki_0 rfl ?_
      refine s_istore (n := 52) (lv2 := [some (.ref (ad 0)), some (.int v1), some (.int v2), some (.int v3), some (.int v4), some (.int v5), some (.int v6), some (.int 0), some (.int 0), none]) hG dX12_by_50 rfl rfl rfl ?_
      refine s_iconst (n := 53) hG dX12_by_52 ki_0 rfl ?_
      refine s_istore (n := 55) (lv2 := [some (.ref (ad 0)), some (.int v1), some (.int v2), some (.int v3), some (.int v4), some (.int v5), some (.int v6), some (.int 0), some (.int 0), some (.int 0)]) hG dX12_by_53 rfl rfl rfl ?_
      exact s_wk hG (sX12_by_l55 hE hG hQ ih N _ _ _ _ _ _ h) ⟨rfl, rfl, rfl, rfl, rfl, rfl, rfl, rfl, rfl, rfl, trivial⟩
def wX12_by (N : Nat) (a1 : Int32) (a2 : Int32) (g : gFG) (f : gFF) (w : Int64) (Q : Int32 → gFG → gFF → Int64 → Prop) : Prop := ∀ g2 : gFG, g2 = (va_up g 0 0) → wX12_isVessel N a1 g2 f w (fun r7 g7 f7 w7 => ((r7 = 0) → Q (-2) g7 f7 w7) ∧ ((¬ r7 = 0) → wX12_in N a2.toInt64 0 3000 g7 f7 w7 (fun r19 g19 f19 w19 => ((¬ r19 = 0) → wX12_by_l39 N a1 a2 Q N (-1) 0 1 0 g19 f19 w19) ∧ ((r19 = 0) → Q (-2) g19 f19 w19))))
theorem mX12_by (hE : gInj layM ad ∧ gZok (gA layM ad) Z) {N : Nat} {a1 : Int32} {a2 : Int32} {g : gFG} {f : gFF} {w : Int64} {Q : Int32 → gFG → gFF → Int64 → Prop} (h : wX12_by N a1 a2 g f w Q) : gCT l D cs layM ad Z 3 yX12_by cX12_by 10 (some .int) [.ref (ad 0), .int a1, .int a2] (g, f, w) (gMi Q) := by
  refine met_walk (lv0 := [some (.ref (ad 0)), some (.int a1), some (.int a2), none, none, none, none, none, none, none]) hE (by decide) (Nat.le_of_ble_eq_true rfl) rfl (fun G Rt hG hQ => ?_)
  replace hG : gSim l D cs layM ad Z 3 RX12 cX12_by 10 (some .int) G Rt := hG
  unfold wX12_by at h
  refine s_aload_n (n := 1) hG dX12_by_0 rfl rfl ?_
  refine s_iconst (n := 2) hG dX12_by_1 ki_0 rfl ?_
  refine ptX12_96 (n := 5) hG dX12_by_2 rfl ?_
  refine s_ng (fun g2 hg2 => ?_)
  replace h := h g2 hg2
  refine s_aload_n (n := 6) hG dX12_by_5 rfl rfl ?_
  refine s_iload_n (n := 7) hG dX12_by_6 rfl rfl ?_
  refine s_callV (n := 10) (st := []) hG (mX12_isVessel hE h) ceX12_isVessel lmX12_261 ⟨by decide, rfl, rfl⟩ rfl ⟨rfl, Nat.le_of_ble_eq_true rfl, by decide⟩ dX12_by_7 rfl ?_
  rintro _ _ ⟨r7, g7, f7, w7, rfl, rfl, h⟩
  refine s_if_eq (n := 13) (tgt := 25) hG dX12_by_10 rfl rfl (fun c => ?_) (fun c => ?_)
  · replace h := h.1 c
    refine s_bipush (n := 27) hG dX12_by_25 kb_m2 rfl ?_
    exact s_iret hG dX12_by_27 (hQ _ _ ⟨_, _, _, _, rfl, rfl, h⟩)
  · replace h := h.2 c
    refine s_iload_n (n := 14) hG dX12_by_13 rfl rfl ?_
    refine s_i2l (n := 15) hG dX12_by_14 rfl ?_
    refine s_lconst (n := 16) hG dX12_by_15 kl_0 rfl ?_
    refine s_ldc2_w (n := 19) hG dX12_by_16 lcX12_269 rfl ?_
    refine s_callS (n := 22) (st := []) hG (mX12_in hE h) ceX12_in lmX12_102 rfl ⟨rfl, Nat.le_of_ble_eq_true rfl, by decide⟩ dX12_by_19 rfl ?_
    rintro _ _ ⟨r19, g19, f19, w19, rfl, rfl, h⟩
    refine s_if_ne (n := 25) (tgt := 28) hG dX12_by_22 rfl rfl (fun c => ?_) (fun c => ?_)
    · replace h := h.1 c
      refine s_iconst (n := 29) hG dX12_by_28 ki_m1 rfl ?_
      refine s_istore_n (n := 30) (lv2 := [some (.ref (ad 0)), some (.int a1), some (.int a2), some (.int (-1)), none, none, none, none, none, none]) hG dX12_by_29 rfl rfl rfl ?_
      refine s_iconst (n := 31) hG dX12_by_30 ki_0 rfl ?_
      refine s_istore (n := 33) (lv2 := [some (.ref (ad 0)), some (.int a1), some (.int a2), some (.int (-1)), some (.int 0), none, none, none, none, none]) hG dX12_by_31 rfl rfl rfl ?_
      refine s_iconst (n := 34) hG dX12_by_33 ki_1 rfl ?_
      refine s_istore (n := 36) (lv2 := [some (.ref (ad 0)), some (.int a1), some (.int a2), some (.int (-1)), some (.int 0), some (.int 1), none, none, none, none]) hG dX12_by_34 rfl rfl rfl ?_
      refine s_iconst (n := 37) hG dX12_by_36 ki_0 rfl ?_
      refine s_istore (n := 39) (lv2 := [some (.ref (ad 0)), some (.int a1), some (.int a2), some (.int (-1)), some (.int 0), some (.int 1), some (.int 0), none, none, none]) hG dX12_by_37 rfl rfl rfl ?_
      exact s_wk hG (sX12_by_l39 hE hG hQ  N _ _ _ _ _ _ _ h) ⟨rfl, rfl, rfl, rfl, rfl, rfl, rfl, trivial⟩
    · replace h := h.2 c
      refine s_bipush (n := 27) hG dX12_by_25 kb_m2 rfl ?_
      exact s_iret hG dX12_by_27 (hQ _ _ ⟨_, _, _, _, rfl, rfl, h⟩)
def wX12_count (N : Nat) (a1 : Int32) (g : gFG) (f : gFF) (w : Int64) (Q : Int32 → gFG → gFF → Int64 → Prop) : Prop := ∀ g2 : gFG, g2 = (va_up g 0 0) → ((a1 = 0) → Q (g2 2) g2 f w) ∧ ((¬ a1 = 0) → ((a1 = 1) → Q (g2 3) g2 f w) ∧ ((¬ a1 = 1) → ((a1 = 2) → Q (g2 15) g2 f w) ∧ ((¬ a1 = 2) → ((a1 = 3) → Q (g2 24) g2 f w) ∧ ((¬ a1 = 3) → ((a1 = 4) → Q (g2 38) g2 f w) ∧ ((¬ a1 = 4) → ((a1 = 5) → Q (g2 40) g2 f w) ∧ ((¬ a1 = 5) → ((a1 = 6) → Q (g2 31) g2 f w) ∧ ((¬ a1 = 6) → Q (-1) g2 f w)))))))
theorem mX12_count (hE : gInj layM ad ∧ gZok (gA layM ad) Z) {N : Nat} {a1 : Int32} {g : gFG} {f : gFF} {w : Int64} {Q : Int32 → gFG → gFF → Int64 → Prop} (h : wX12_count N a1 g f w Q) : gCT l D cs layM ad Z 1 yX12_count cX12_count 2 (some .int) [.ref (ad 0), .int a1] (g, f, w) (gMi Q) := by
  refine met_walk (lv0 := [some (.ref (ad 0)), some (.int a1)]) hE (by decide) (Nat.le_of_ble_eq_true rfl) rfl (fun G Rt hG hQ => ?_)
  replace hG : gSim l D cs layM ad Z 1 RX12 cX12_count 2 (some .int) G Rt := hG
  unfold wX12_count at h
  refine s_aload_n (n := 1) hG dX12_count_0 rfl rfl ?_
  refine s_iconst (n := 2) hG dX12_count_1 ki_0 rfl ?_
  refine ptX12_96 (n := 5) hG dX12_count_2 rfl ?_
  refine s_ng (fun g2 hg2 => ?_)
  replace h := h g2 hg2
  refine s_iload_n (n := 6) hG dX12_count_5 rfl rfl ?_
  by_cases c0 : a1 = 0
  · replace h := h.1 c0
    refine s_tabIn (v := 0) (tgt := 48) (off := 42) hG dX12_count_6 c0 (by decide) ?_
    refine s_aload_n (n := 49) hG dX12_count_48 rfl rfl ?_
    refine gtX12_7 (n := 52) hG dX12_count_49 rfl ?_
    exact s_iret hG dX12_count_52 (hQ _ _ ⟨_, _, _, _, rfl, rfl, h⟩)
  · replace h := h.2 c0
    by_cases c1 : a1 = 1
    · replace h := h.1 c1
      refine s_tabIn (v := 1) (tgt := 53) (off := 47) hG dX12_count_6 c1 (by decide) ?_
      refine s_aload_n (n := 54) hG dX12_count_53 rfl rfl ?_
      refine gtX12_13 (n := 57) hG dX12_count_54 rfl ?_
      exact s_iret hG dX12_count_57 (hQ _ _ ⟨_, _, _, _, rfl, rfl, h⟩)
    · replace h := h.2 c1
      by_cases c2 : a1 = 2
      · replace h := h.1 c2
        refine s_tabIn (v := 2) (tgt := 58) (off := 52) hG dX12_count_6 c2 (by decide) ?_
        refine s_aload_n (n := 59) hG dX12_count_58 rfl rfl ?_
        refine gtX12_180 (n := 62) hG dX12_count_59 rfl ?_
        exact s_iret hG dX12_count_62 (hQ _ _ ⟨_, _, _, _, rfl, rfl, h⟩)
      · replace h := h.2 c2
        by_cases c3 : a1 = 3
        · replace h := h.1 c3
          refine s_tabIn (v := 3) (tgt := 63) (off := 57) hG dX12_count_6 c3 (by decide) ?_
          refine s_aload_n (n := 64) hG dX12_count_63 rfl rfl ?_
          refine gtX12_250 (n := 67) hG dX12_count_64 rfl ?_
          exact s_iret hG dX12_count_67 (hQ _ _ ⟨_, _, _, _, rfl, rfl, h⟩)
        · replace h := h.2 c3
          by_cases c4 : a1 = 4
          · replace h := h.1 c4
            refine s_tabIn (v := 4) (tgt := 68) (off := 62) hG dX12_count_6 c4 (by decide) ?_
            refine s_aload_n (n := 69) hG dX12_count_68 rfl rfl ?_
            refine gtX12_256 (n := 72) hG dX12_count_69 rfl ?_
            exact s_iret hG dX12_count_72 (hQ _ _ ⟨_, _, _, _, rfl, rfl, h⟩)
          · replace h := h.2 c4
            by_cases c5 : a1 = 5
            · replace h := h.1 c5
              refine s_tabIn (v := 5) (tgt := 73) (off := 67) hG dX12_count_6 c5 (by decide) ?_
              refine s_aload_n (n := 74) hG dX12_count_73 rfl rfl ?_
              refine gtX12_271 (n := 77) hG dX12_count_74 rfl ?_
              exact s_iret hG dX12_count_77 (hQ _ _ ⟨_, _, _, _, rfl, rfl, h⟩)
            · replace h := h.2 c5
              by_cases c6 : a1 = 6
              · replace h := h.1 c6
                refine s_tabIn (v := 6) (tgt := 78) (off := 72) hG dX12_count_6 c6 (by decide) ?_
                refine s_aload_n (n := 79) hG dX12_count_78 rfl rfl ?_
                refine gtX12_187 (n := 82) hG dX12_count_79 rfl ?_
                exact s_iret hG dX12_count_82 (hQ _ _ ⟨_, _, _, _, rfl, rfl, h⟩)
              · replace h := h.2 c6
                refine s_tabOut (tgt := 83) hG dX12_count_6 (by have hh := And.intro trivial trivial; have q0 := lv_neT c0 (show (0 : Int32).toInt = 0 from by decide); have q1 := lv_neT c1 (show (1 : Int32).toInt = 1 from by decide); have q2 := lv_neT c2 (show (2 : Int32).toInt = 2 from by decide); have q3 := lv_neT c3 (show (3 : Int32).toInt = 3 from by decide); have q4 := lv_neT c4 (show (4 : Int32).toInt = 4 from by decide); have q5 := lv_neT c5 (show (5 : Int32).toInt = 5 from by decide); have q6 := lv_neT c6 (show (6 : Int32).toInt = 6 from by decide);  omega) rfl ?_
                refine s_iconst (n := 84) hG dX12_count_83 ki_m1 rfl ?_
                exact s_iret hG dX12_count_84 (hQ _ _ ⟨_, _, _, _, rfl, rfl, h⟩)
def wX12_status (N : Nat)  (g : gFG) (f : gFF) (w : Int64) (Q : Int32 → gFG → gFF → Int64 → Prop) : Prop := ∀ g2 : gFG, g2 = (va_up g 0 0) → Q (g2 1) g2 f w
theorem mX12_status (hE : gInj layM ad ∧ gZok (gA layM ad) Z) {N : Nat}  {g : gFG} {f : gFF} {w : Int64} {Q : Int32 → gFG → gFF → Int64 → Prop} (h : wX12_status N  g f w Q) : gCT l D cs layM ad Z 1 yX12_status cX12_status 1 (some .int) [.ref (ad 0)] (g, f, w) (gMi Q) := by
  refine met_walk (lv0 := [some (.ref (ad 0))]) hE (by decide) (Nat.le_of_ble_eq_true rfl) rfl (fun G Rt hG hQ => ?_)
  replace hG : gSim l D cs layM ad Z 1 RX12 cX12_status 1 (some .int) G Rt := hG
  unfold wX12_status at h
  refine s_aload_n (n := 1) hG dX12_status_0 rfl rfl ?_
  refine s_iconst (n := 2) hG dX12_status_1 ki_0 rfl ?_
  refine ptX12_96 (n := 5) hG dX12_status_2 rfl ?_
  refine s_ng (fun g2 hg2 => ?_)
  replace h := h g2 hg2
  refine s_aload_n (n := 6) hG dX12_status_5 rfl rfl ?_
  refine gtX12_99 (n := 9) hG dX12_status_6 rfl ?_
  exact s_iret hG dX12_status_9 (hQ _ _ ⟨_, _, _, _, rfl, rfl, h⟩)
end GWn
