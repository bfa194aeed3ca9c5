section GWf
variable {l : Launch} {D : va_G} {cs : gCs} {ad : Nat → Nat} {tX tY : Nat} {sK sV : Nat → Nat}
def wX11_answered (N : Nat) (a1 : Int32) (g : gFG) (f : gFF) (Q : Int32 → gFG → gFF → Prop) : Prop := wJ9_min_7cf53 N a1 0 g f (fun r3 g3 f3 => ∀ g6 : gFG, g6 = (va_up g3 1 r3) → Q a1 g6 f3)
theorem mX11_answered (hE : gInj layC ad) {N : Nat} {a1 : Int32} {g : gFG} {f : gFF} {Q : Int32 → gFG → gFF → Prop} (h : wX11_answered N a1 g f Q) : gCT l D cs layC ad (gZc ad tX tY sK sV) 2 yX11_answered cX11_answered 2 (some .int) [.ref (ad 0), .int a1] (g, f, 0) (gQi Q) := by
  refine met_walk (lv0 := [some (.ref (ad 0)), some (.int a1)]) ⟨hE, gZc_ok _ _ _ _ _⟩ (by decide) (Nat.le_of_ble_eq_true rfl) rfl (fun G Rt hG hQ => ?_)
  replace hG : gSim l D cs layC ad (gZc ad tX tY sK sV) 2 RX11 cX11_answered 2 (some .int) G Rt := hG
  unfold wX11_answered at h
  refine s_aload_n (n := 1) hG dX11_answered_0 rfl rfl ?_
  refine s_iload_n (n := 2) hG dX11_answered_1 rfl rfl ?_
  refine s_iconst (n := 3) hG dX11_answered_2 ki_0 rfl ?_
  refine s_callS (n := 6) (st := [.ref (ad 0)]) hG (mJ9_min_7cf53 hE h) ceJ9_min_7cf53 lmX11_264 rfl ⟨rfl, Nat.le_of_ble_eq_true rfl, by decide⟩ dX11_answered_3 rfl ?_
  rintro _ _ ⟨r3, g3, f3, rfl, rfl, h⟩
  refine ptX11_101 (n := 9) hG dX11_answered_6 rfl ?_
  refine s_ng (fun g6 hg6 => ?_)
  replace h := h g6 hg6
  refine s_iload_n (n := 10) hG dX11_answered_9 rfl rfl ?_
  exact s_iret hG dX11_answered_10 (hQ _ _ ⟨_, _, _, rfl, rfl, h⟩)
def wX11_size_j22 (N : Nat)  (Q : Int32 → gFG → gFF → Prop)  (g : gFG) (f : gFF) : Prop := wX11_answered N (-1) g f (fun r24 g24 f24 => Q r24 g24 f24)
theorem sX11_size_j22 {G : gG} {Rt : Option Value → gSt → Prop} (hE : gInj layC ad) (hG : gSim l D cs layC ad (gZc ad tX tY sK sV) 3 RX11 cX11_size 3 (some .int) G Rt) {Q : Int32 → gFG → gFF → Prop} (hQ : ∀ v S, gQi Q v S → Rt v S) {N : Nat}    {g : gFG} {f : gFF}  (h : wX11_size_j22 N  Q  g f) : G 22 [some (.ref (ad 0)), none, none] [] (g, f, 0) := by
  unfold wX11_size_j22 at h
  refine s_aload_n (n := 23) hG dX11_size_22 rfl rfl ?_
  refine s_iconst (n := 24) hG dX11_size_23 ki_m1 rfl ?_
  refine s_callV (n := 27) (st := []) hG (mX11_answered hE h) ceX11_answered lmX11_104 ⟨by decide, rfl, rfl⟩ rfl ⟨rfl, Nat.le_of_ble_eq_true rfl, by decide⟩ dX11_size_24 rfl ?_
  rintro _ _ ⟨r24, g24, f24, rfl, rfl, h⟩
  exact s_iret hG dX11_size_27 (hQ _ _ ⟨_, _, _, rfl, rfl, h⟩)
def wX11_size (N : Nat) (a1 : Int32) (a2 : Int32) (g : gFG) (f : gFF) (Q : Int32 → gFG → gFF → Prop) : Prop := ((a1 < 2) → wX11_size_j22 N  Q g f) ∧ ((¬ a1 < 2) → ((12 < a1) → wX11_size_j22 N  Q g f) ∧ ((¬ 12 < a1) → ((a2 < 2) → wX11_size_j22 N  Q g f) ∧ ((¬ a2 < 2) → ((a2 ≤ 12) → wX2_resize N a1 a2 g f (fun g34 f34 => wX11_answered N 0 g34 f34 (fun r39 g39 f39 => Q r39 g39 f39))) ∧ ((¬ a2 ≤ 12) → wX11_size_j22 N  Q g f))))
theorem mX11_size (hE : gInj layC ad) {N : Nat} {a1 : Int32} {a2 : Int32} {g : gFG} {f : gFF} {Q : Int32 → gFG → gFF → Prop} (h : wX11_size N a1 a2 g f Q) : gCT l D cs layC ad (gZc ad tX tY sK sV) 3 yX11_size cX11_size 3 (some .int) [.ref (ad 0), .int a1, .int a2] (g, f, 0) (gQi Q) := by
  refine met_walk (lv0 := [some (.ref (ad 0)), some (.int a1), some (.int a2)]) ⟨hE, gZc_ok _ _ _ _ _⟩ (by decide) (Nat.le_of_ble_eq_true rfl) rfl (fun G Rt hG hQ => ?_)
  replace hG : gSim l D cs layC ad (gZc ad tX tY sK sV) 3 RX11 cX11_size 3 (some .int) G Rt := hG
  unfold wX11_size at h
  refine s_iload_n (n := 1) hG dX11_size_0 rfl rfl ?_
  refine s_iconst (n := 2) hG dX11_size_1 ki_2 rfl ?_
  refine s_icmp_lt (n := 5) (tgt := 22) hG dX11_size_2 rfl rfl (fun c => ?_) (fun c => ?_)
  · replace h := h.1 c
    exact s_wk hG (sX11_size_j22 hE hG hQ  h) ⟨rfl, trivial⟩
  · replace h := h.2 c
    refine s_iload_n (n := 6) hG dX11_size_5 rfl rfl ?_
    refine s_bipush (n := 8) hG dX11_size_6 kb_12 rfl ?_
    refine s_icmp_gt (n := 11) (tgt := 22) hG dX11_size_8 rfl rfl (fun c => ?_) (fun c => ?_)
    · replace h := h.1 c
      exact s_wk hG (sX11_size_j22 hE hG hQ  h) ⟨rfl, trivial⟩
    · replace h := h.2 c
      refine s_iload_n (n := 12) hG dX11_size_11 rfl rfl ?_
      refine s_iconst (n := 13) hG dX11_size_12 ki_2 rfl ?_
      refine s_icmp_lt (n := 16) (tgt := 22) hG dX11_size_13 rfl rfl (fun c => ?_) (fun c => ?_)
      · replace h := h.1 c
        exact s_wk hG (sX11_size_j22 hE hG hQ  h) ⟨rfl, trivial⟩
      · replace h := h.2 c
        refine s_iload_n (n := 17) hG dX11_size_16 rfl rfl ?_
        refine s_bipush (n := 19) hG dX11_size_17 kb_12 rfl ?_
        refine s_icmp_le (n := 22) (tgt := 28) hG dX11_size_19 rfl rfl (fun c => ?_) (fun c => ?_)
        · replace h := h.1 c
          refine s_aload_n (n := 29) hG dX11_size_28 rfl rfl ?_
          refine gtX11_31 (n := 32) hG dX11_size_29 rfl ?_
          refine s_iload_n (n := 33) hG dX11_size_32 rfl rfl ?_
          refine s_iload_n (n := 34) hG dX11_size_33 rfl rfl ?_
          refine s_callV (n := 37) (st := []) hG (mX2_resize hE h) ceX2_resize lmX11_108 ⟨by decide, rfl, rfl⟩ rfl ⟨rfl, Nat.le_of_ble_eq_true rfl, by decide⟩ dX11_size_34 rfl ?_
          rintro _ _ ⟨g34, f34, rfl, rfl, h⟩
          refine s_aload_n (n := 38) hG dX11_size_37 rfl rfl ?_
          refine s_iconst (n := 39) hG dX11_size_38 ki_0 rfl ?_
          refine s_callV (n := 42) (st := []) hG (mX11_answered hE h) ceX11_answered lmX11_104 ⟨by decide, rfl, rfl⟩ rfl ⟨rfl, Nat.le_of_ble_eq_true rfl, by decide⟩ dX11_size_39 rfl ?_
          rintro _ _ ⟨r39, g39, f39, rfl, rfl, h⟩
          exact s_iret hG dX11_size_42 (hQ _ _ ⟨_, _, _, rfl, rfl, h⟩)
        · replace h := h.2 c
          exact s_wk hG (sX11_size_j22 hE hG hQ  h) ⟨rfl, trivial⟩
def wX11_isSort_j16 (N : Nat)  (Q : Int32 → gFG → gFF → Prop)  (g : gFG) (f : gFF) : Prop := Q 1 g f
theorem sX11_isSort_j16 {G : gG} {Rt : Option Value → gSt → Prop} (hE : gInj layC ad) (hG : gSim l D cs layC ad (gZc ad tX tY sK sV) 2 RX11 cX11_isSort 1 (some .boolean) G Rt) {Q : Int32 → gFG → gFF → Prop} (hQ : ∀ v S, gQi Q v S → Rt v S) {N : Nat}    {g : gFG} {f : gFF}  (h : wX11_isSort_j16 N  Q  g f) : G 16 [none] [] (g, f, 0) := by
  unfold wX11_isSort_j16 at h
  refine s_iconst (n := 17) hG dX11_isSort_16 ki_1 rfl ?_
  refine s_goto (tgt := 21) hG dX11_isSort_17 rfl ?_
  exact s_zret hG dX11_isSort_21 (gz_n gz_1) (hQ _ _ ⟨_, _, _, rfl, rfl, h⟩)
def wX11_isSort_j9 (N : Nat)  (Q : Int32 → gFG → gFF → Prop) (v0 : Int32) (g : gFG) (f : gFF) : Prop := wX11_isClay N v0 g f (fun r10 g10 f10 => ((r10 = 0) → Q 0 g10 f10) ∧ ((¬ r10 = 0) → wX11_isSort_j16 N  Q g10 f10))
theorem sX11_isSort_j9 {G : gG} {Rt : Option Value → gSt → Prop} (hE : gInj layC ad) (hG : gSim l D cs layC ad (gZc ad tX tY sK sV) 2 RX11 cX11_isSort 1 (some .boolean) G Rt) {Q : Int32 → gFG → gFF → Prop} (hQ : ∀ v S, gQi Q v S → Rt v S) {N : Nat}   {v0 : Int32} {g : gFG} {f : gFF}  (h : wX11_isSort_j9 N  Q v0 g f) : G 9 [some (.int v0)] [] (g, f, 0) := by
  unfold wX11_isSort_j9 at h
  refine s_iload_n (n := 10) hG dX11_isSort_9 rfl rfl ?_
  refine s_callS (n := 13) (st := []) hG (mX11_isClay hE h) ceX11_isClay lmX11_278 rfl ⟨rfl, Nat.le_of_ble_eq_true rfl, by decide⟩ dX11_isSort_10 rfl ?_
  rintro _ _ ⟨r10, g10, f10, rfl, rfl, h⟩
  refine s_if_eq (n := 16) (tgt := 20) hG dX11_isSort_13 rfl rfl (fun c => ?_) (fun c => ?_)
  · replace h := h.1 c
    refine s_iconst (n := 21) hG dX11_isSort_20 ki_0 rfl ?_
    exact s_zret hG dX11_isSort_21 (gz_n gz_0) (hQ _ _ ⟨_, _, _, rfl, rfl, h⟩)
  · replace h := h.2 c
    exact s_wk hG (sX11_isSort_j16 hE hG hQ  h) trivial
def wX11_isSort (N : Nat) (a1 : Int32) (g : gFG) (f : gFF) (Q : Int32 → gFG → gFF → Prop) : Prop := ((a1 < 0) → wX11_isSort_j9 N  Q a1 g f) ∧ ((¬ a1 < 0) → ((a1 ≤ 4) → wX11_isSort_j16 N  Q g f) ∧ ((¬ a1 ≤ 4) → wX11_isSort_j9 N  Q a1 g f))
theorem mX11_isSort (hE : gInj layC ad) {N : Nat} {a1 : Int32} {g : gFG} {f : gFF} {Q : Int32 → gFG → gFF → Prop} (h : wX11_isSort N a1 g f Q) : gCT l D cs layC ad (gZc ad tX tY sK sV) 2 yX11_isSort cX11_isSort 1 (some .boolean) [.int a1] (g, f, 0) (gQi Q) := by
  refine met_walk (lv0 := [some (.int a1)]) ⟨hE, gZc_ok _ _ _ _ _⟩ (by decide) (Nat.le_of_ble_eq_true rfl) rfl (fun G Rt hG hQ => ?_)
  replace hG : gSim l D cs layC ad (gZc ad tX tY sK sV) 2 RX11 cX11_isSort 1 (some .boolean) G Rt := hG
  unfold wX11_isSort at h
  refine s_iload_n (n := 1) hG dX11_isSort_0 rfl rfl ?_
  refine s_if_lt (n := 4) (tgt := 9) hG dX11_isSort_1 rfl rfl (fun c => ?_) (fun c => ?_)
  · replace h := h.1 c
    exact s_wk hG (sX11_isSort_j9 hE hG hQ  h) ⟨rfl, trivial⟩
  · replace h := h.2 c
    refine s_iload_n (n := 5) hG dX11_isSort_4 rfl rfl ?_
    refine s_iconst (n := 6) hG dX11_isSort_5 ki_4 rfl ?_
    refine s_icmp_le (n := 9) (tgt := 16) hG dX11_isSort_6 rfl rfl (fun c => ?_) (fun c => ?_)
    · replace h := h.1 c
      exact s_wk hG (sX11_isSort_j16 hE hG hQ  h) trivial
    · replace h := h.2 c
      exact s_wk hG (sX11_isSort_j9 hE hG hQ  h) ⟨rfl, trivial⟩
def wX11_draw_j19 (N : Nat)  (Q : Int32 → gFG → gFF → Prop)  (g : gFG) (f : gFF) : Prop := wX11_answered N (-1) g f (fun r21 g21 f21 => Q r21 g21 f21)
theorem sX11_draw_j19 {G : gG} {Rt : Option Value → gSt → Prop} (hE : gInj layC ad) (hG : gSim l D cs layC ad (gZc ad tX tY sK sV) 3 RX11 cX11_draw 6 (some .int) G Rt) {Q : Int32 → gFG → gFF → Prop} (hQ : ∀ v S, gQi Q v S → Rt v S) {N : Nat}    {g : gFG} {f : gFF}  (h : wX11_draw_j19 N  Q  g f) : G 19 [some (.ref (ad 0)), none, none, none, none, none] [] (g, f, 0) := by
  unfold wX11_draw_j19 at h
  refine s_aload_n (n := 20) hG dX11_draw_19 rfl rfl ?_
  refine s_iconst (n := 21) hG dX11_draw_20 ki_m1 rfl ?_
  refine s_callV (n := 24) (st := []) hG (mX11_answered hE h) ceX11_answered lmX11_104 ⟨by decide, rfl, rfl⟩ rfl ⟨rfl, Nat.le_of_ble_eq_true rfl, by decide⟩ dX11_draw_21 rfl ?_
  rintro _ _ ⟨r21, g21, f21, rfl, rfl, h⟩
  exact s_iret hG dX11_draw_24 (hQ _ _ ⟨_, _, _, rfl, rfl, h⟩)
def wX11_draw_j50 (N : Nat)  (Q : Int32 → gFG → gFF → Prop)  (g : gFG) (f : gFF) : Prop := wX11_answered N (-2) g f (fun r53 g53 f53 => Q r53 g53 f53)
theorem sX11_draw_j50 {G : gG} {Rt : Option Value → gSt → Prop} (hE : gInj layC ad) (hG : gSim l D cs layC ad (gZc ad tX tY sK sV) 3 RX11 cX11_draw 6 (some .int) G Rt) {Q : Int32 → gFG → gFF → Prop} (hQ : ∀ v S, gQi Q v S → Rt v S) {N : Nat}    {g : gFG} {f : gFF}  (h : wX11_draw_j50 N  Q  g f) : G 50 [some (.ref (ad 0)), none, none, none, none, none] [] (g, f, 0) := by
  unfold wX11_draw_j50 at h
  refine s_aload_n (n := 51) hG dX11_draw_50 rfl rfl ?_
  refine s_bipush (n := 53) hG dX11_draw_51 kb_m2 rfl ?_
  refine s_callV (n := 56) (st := []) hG (mX11_answered hE h) ceX11_answered lmX11_104 ⟨by decide, rfl, rfl⟩ rfl ⟨rfl, Nat.le_of_ble_eq_true rfl, by decide⟩ dX11_draw_53 rfl ?_
  rintro _ _ ⟨r53, g53, f53, rfl, rfl, h⟩
  exact s_iret hG dX11_draw_56 (hQ _ _ ⟨_, _, _, rfl, rfl, h⟩)
def wX11_draw (N : Nat) (a1 : Int32) (a2 : Int32) (a3 : Int32) (a4 : Int32) (a5 : Int32) (g : gFG) (f : gFF) (Q : Int32 → gFG → gFF → Prop) : Prop := wX11_isSort N a5 g f (fun r2 g2 f2 => ((r2 = 0) → wX11_draw_j19 N  Q g2 f2) ∧ ((¬ r2 = 0) → ((a3 < a1) → wX11_draw_j19 N  Q g2 f2) ∧ ((¬ a3 < a1) → ((a2 ≤ a4) → wX2_has N a1 a2 g2 f2 (fun r31 g31 f31 => ((r31 = 0) → wX11_draw_j50 N  Q g31 f31) ∧ ((¬ r31 = 0) → wX2_has N a3 a4 g31 f31 (fun r44 g44 f44 => ((¬ r44 = 0) → wX2_fill N a1 a2 a3 a4 a5 g44 f44 (fun r69 g69 f69 => wX11_answered N r69 g69 f69 (fun r72 g72 f72 => Q r72 g72 f72))) ∧ ((r44 = 0) → wX11_draw_j50 N  Q g44 f44))))) ∧ ((¬ a2 ≤ a4) → wX11_draw_j19 N  Q g2 f2))))
theorem mX11_draw (hE : gInj layC ad) {N : Nat} {a1 : Int32} {a2 : Int32} {a3 : Int32} {a4 : Int32} {a5 : Int32} {g : gFG} {f : gFF} {Q : Int32 → gFG → gFF → Prop} (h : wX11_draw N a1 a2 a3 a4 a5 g f Q) : gCT l D cs layC ad (gZc ad tX tY sK sV) 3 yX11_draw cX11_draw 6 (some .int) [.ref (ad 0), .int a1, .int a2, .int a3, .int a4, .int a5] (g, f, 0) (gQi Q) := by
  refine met_walk (lv0 := [some (.ref (ad 0)), some (.int a1), some (.int a2), some (.int a3), some (.int a4), some (.int a5)]) ⟨hE, gZc_ok _ _ _ _ _⟩ (by decide) (Nat.le_of_ble_eq_true rfl) rfl (fun G Rt hG hQ => ?_)
  replace hG : gSim l D cs layC ad (gZc ad tX tY sK sV) 3 RX11 cX11_draw 6 (some .int) G Rt := hG
  unfold wX11_draw at h
  refine s_iload (n := 2) hG dX11_draw_0 rfl rfl ?_
  refine s_callS (n := 5) (st := []) hG (mX11_isSort hE h) ceX11_isSort lmX11_112 rfl ⟨rfl, Nat.le_of_ble_eq_true rfl, by decide⟩ dX11_draw_2 rfl ?_
  rintro _ _ ⟨r2, g2, f2, rfl, rfl, h⟩
  refine s_if_eq (n := 8) (tgt := 19) hG dX11_draw_5 rfl rfl (fun c => ?_) (fun c => ?_)
  · replace h := h.1 c
    exact s_wk hG (sX11_draw_j19 hE hG hQ  h) ⟨rfl, trivial⟩
  · replace h := h.2 c
    refine s_iload_n (n := 9) hG dX11_draw_8 rfl rfl ?_
    refine s_iload_n (n := 10) hG dX11_draw_9 rfl rfl ?_
    refine s_icmp_gt (n := 13) (tgt := 19) hG dX11_draw_10 rfl rfl (fun c => ?_) (fun c => ?_)
    · replace h := h.1 c
      exact s_wk hG (sX11_draw_j19 hE hG hQ  h) ⟨rfl, trivial⟩
    · replace h := h.2 c
      refine s_iload_n (n := 14) hG dX11_draw_13 rfl rfl ?_
      refine s_iload (n := 16) hG dX11_draw_14 rfl rfl ?_
      refine s_icmp_le (n := 19) (tgt := 25) hG dX11_draw_16 rfl rfl (fun c => ?_) (fun c => ?_)
      · replace h := h.1 c
        refine s_aload_n (n := 26) hG dX11_draw_25 rfl rfl ?_
        refine gtX11_31 (n := 29) hG dX11_draw_26 rfl ?_
        refine s_iload_n (n := 30) hG dX11_draw_29 rfl rfl ?_
        refine s_iload_n (n := 31) hG dX11_draw_30 rfl rfl ?_
        refine s_callV (n := 34) (st := []) hG (mX2_has hE h) ceX2_has lmX11_116 ⟨by decide, rfl, rfl⟩ rfl ⟨rfl, Nat.le_of_ble_eq_true rfl, by decide⟩ dX11_draw_31 rfl ?_
        rintro _ _ ⟨r31, g31, f31, rfl, rfl, h⟩
        refine s_if_eq (n := 37) (tgt := 50) hG dX11_draw_34 rfl rfl (fun c => ?_) (fun c => ?_)
        · replace h := h.1 c
          exact s_wk hG (sX11_draw_j50 hE hG hQ  h) ⟨rfl, trivial⟩
        · replace h := h.2 c
          refine s_aload_n (n := 38) hG dX11_draw_37 rfl rfl ?_
          refine gtX11_31 (n := 41) hG dX11_draw_38 rfl ?_
          refine s_iload_n (n := 42) hG dX11_draw_41 rfl rfl ?_
          refine s_iload (n := 44) hG dX11_draw_42 rfl rfl ?_
          refine s_callV (n := 47) (st := []) hG (mX2_has hE h) ceX2_has lmX11_116 ⟨by decide, rfl, rfl⟩ rfl ⟨rfl, Nat.le_of_ble_eq_true rfl, by decide⟩ dX11_draw_44 rfl ?_
          rintro _ _ ⟨r44, g44, f44, rfl, rfl, h⟩
          refine s_if_ne (n := 50) (tgt := 57) hG dX11_draw_47 rfl rfl (fun c => ?_) (fun c => ?_)
          · replace h := h.1 c
            refine s_aload_n (n := 58) hG dX11_draw_57 rfl rfl ?_
            refine s_aload_n (n := 59) hG dX11_draw_58 rfl rfl ?_
            refine gtX11_31 (n := 62) hG dX11_draw_59 rfl ?_
            refine s_iload_n (n := 63) hG dX11_draw_62 rfl rfl ?_
            refine s_iload_n (n := 64) hG dX11_draw_63 rfl rfl ?_
            refine s_iload_n (n := 65) hG dX11_draw_64 rfl rfl ?_
            refine s_iload (n := 67) hG dX11_draw_65 rfl rfl ?_
            refine s_iload (n := 69) hG dX11_draw_67 rfl rfl ?_
            refine s_callV (n := 72) (st := [.ref (ad 0)]) hG (mX2_fill hE h) ceX2_fill lmX11_120 ⟨by decide, rfl, rfl⟩ rfl ⟨rfl, Nat.le_of_ble_eq_true rfl, by decide⟩ dX11_draw_69 rfl ?_
            rintro _ _ ⟨r69, g69, f69, rfl, rfl, h⟩
            refine s_callV (n := 75) (st := []) hG (mX11_answered hE h) ceX11_answered lmX11_104 ⟨by decide, rfl, rfl⟩ rfl ⟨rfl, Nat.le_of_ble_eq_true rfl, by decide⟩ dX11_draw_72 rfl ?_
            rintro _ _ ⟨r72, g72, f72, rfl, rfl, h⟩
            exact s_iret hG dX11_draw_75 (hQ _ _ ⟨_, _, _, rfl, rfl, h⟩)
          · replace h := h.2 c
            exact s_wk hG (sX11_draw_j50 hE hG hQ  h) ⟨rfl, trivial⟩
      · replace h := h.2 c
        exact s_wk hG (sX11_draw_j19 hE hG hQ  h) ⟨rfl, trivial⟩
def wX11_cell (N : Nat) (a1 : Int32) (a2 : Int32) (a3 : Int32) (g : gFG) (f : gFF) (Q : Int32 → gFG → gFF → Prop) : Prop := wX2_has N a1 a2 g f (fun r6 g6 f6 => ((¬ r6 = 0) → ((a3 = 0) → wX2_sortAt N a1 a2 g6 f6 (fun r46 g46 f46 => Q r46 g46 f46)) ∧ ((¬ a3 = 0) → ((a3 = 1) → wX1_refresh N g6 f6 (fun g54 f54 => wX1_fateAt N a1 a2 g54 f54 (fun r63 g63 f63 => Q r63 g63 f63))) ∧ ((¬ a3 = 1) → Q (-1) g6 f6))) ∧ ((r6 = 0) → Q (-1) g6 f6))
theorem mX11_cell (hE : gInj layC ad) {N : Nat} {a1 : Int32} {a2 : Int32} {a3 : Int32} {g : gFG} {f : gFF} {Q : Int32 → gFG → gFF → Prop} (h : wX11_cell N a1 a2 a3 g f Q) : gCT l D cs layC ad (gZc ad tX tY sK sV) 7 yX11_cell cX11_cell 4 (some .int) [.ref (ad 0), .int a1, .int a2, .int a3] (g, f, 0) (gQi Q) := by
  refine met_walk (lv0 := [some (.ref (ad 0)), some (.int a1), some (.int a2), some (.int a3)]) ⟨hE, gZc_ok _ _ _ _ _⟩ (by decide) (Nat.le_of_ble_eq_true rfl) rfl (fun G Rt hG hQ => ?_)
  replace hG : gSim l D cs layC ad (gZc ad tX tY sK sV) 7 RX11 cX11_cell 4 (some .int) G Rt := hG
  unfold wX11_cell at h
  refine s_aload_n (n := 1) hG dX11_cell_0 rfl rfl ?_
  refine gtX11_31 (n := 4) hG dX11_cell_1 rfl ?_
  refine s_iload_n (n := 5) hG dX11_cell_4 rfl rfl ?_
  refine s_iload_n (n := 6) hG dX11_cell_5 rfl rfl ?_
  refine s_callV (n := 9) (st := []) hG (mX2_has hE h) ceX2_has lmX11_116 ⟨by decide, rfl, rfl⟩ rfl ⟨rfl, Nat.le_of_ble_eq_true rfl, by decide⟩ dX11_cell_6 rfl ?_
  rintro _ _ ⟨r6, g6, f6, rfl, rfl, h⟩
  refine s_if_ne (n := 12) (tgt := 14) hG dX11_cell_9 rfl rfl (fun c => ?_) (fun c => ?_)
  · replace h := h.1 c
    refine s_iload_n (n := 15) hG dX11_cell_14 rfl rfl ?_
    by_cases c0 : a3 = 0
    · replace h := h.1 c0
      refine s_look (tgt := 40) (off := 25) hG dX11_cell_15 (by decide) (by rw [c0]; try decide) rfl ?_
      refine s_aload_n (n := 41) hG dX11_cell_40 rfl rfl ?_
      refine gtX11_31 (n := 44) hG dX11_cell_41 rfl ?_
      refine s_iload_n (n := 45) hG dX11_cell_44 rfl rfl ?_
      refine s_iload_n (n := 46) hG dX11_cell_45 rfl rfl ?_
      refine s_callV (n := 49) (st := []) hG (mX2_sortAt hE h) ceX2_sortAt lmX11_124 ⟨by decide, rfl, rfl⟩ rfl ⟨rfl, Nat.le_of_ble_eq_true rfl, by decide⟩ dX11_cell_46 rfl ?_
      rintro _ _ ⟨r46, g46, f46, rfl, rfl, h⟩
      exact s_iret hG dX11_cell_49 (hQ _ _ ⟨_, _, _, rfl, rfl, h⟩)
    · replace h := h.2 c0
      by_cases c1 : a3 = 1
      · replace h := h.1 c1
        refine s_look (tgt := 50) (off := 35) hG dX11_cell_15 (by decide) (by rw [c1]; try decide) rfl ?_
        refine s_aload_n (n := 51) hG dX11_cell_50 rfl rfl ?_
        refine gtX11_35 (n := 54) hG dX11_cell_51 rfl ?_
        refine s_callV (n := 57) (st := []) hG (mX1_refresh hE h) ceX1_refresh lmX11_128 ⟨by decide, rfl, rfl⟩ rfl ⟨rfl, Nat.le_of_ble_eq_true rfl, by decide⟩ dX11_cell_54 rfl ?_
        rintro _ _ ⟨g54, f54, rfl, rfl, h⟩
        refine s_aload_n (n := 58) hG dX11_cell_57 rfl rfl ?_
        refine gtX11_35 (n := 61) hG dX11_cell_58 rfl ?_
        refine s_iload_n (n := 62) hG dX11_cell_61 rfl rfl ?_
        refine s_iload_n (n := 63) hG dX11_cell_62 rfl rfl ?_
        refine s_callV (n := 66) (st := []) hG (mX1_fateAt hE h) ceX1_fateAt lmX11_131 ⟨by decide, rfl, rfl⟩ rfl ⟨rfl, Nat.le_of_ble_eq_true rfl, by decide⟩ dX11_cell_63 rfl ?_
        rintro _ _ ⟨r63, g63, f63, rfl, rfl, h⟩
        exact s_iret hG dX11_cell_66 (hQ _ _ ⟨_, _, _, rfl, rfl, h⟩)
      · replace h := h.2 c1
        refine s_look (tgt := 67) (off := 52) hG dX11_cell_15 (by decide) (by rw [lv_osw c0 (show (0 : Int32).toInt = 0 from by decide)]; rw [lv_osw c1 (show (1 : Int32).toInt = 1 from by decide)];  try rfl) rfl ?_
        refine s_iconst (n := 68) hG dX11_cell_67 ki_m1 rfl ?_
        exact s_iret hG dX11_cell_68 (hQ _ _ ⟨_, _, _, rfl, rfl, h⟩)
  · replace h := h.2 c
    refine s_iconst (n := 13) hG dX11_cell_12 ki_m1 rfl ?_
    exact s_iret hG dX11_cell_13 (hQ _ _ ⟨_, _, _, rfl, rfl, h⟩)
def wX11_repair (N : Nat) (a1 : Int32) (a2 : Int32) (g : gFG) (f : gFF) (Q : Int32 → gFG → gFF → Prop) : Prop := wX2_has N a1 a2 g f (fun r6 g6 f6 => ((¬ r6 = 0) → wX1_refresh N g6 f6 (fun g23 f23 => wX1_canMend N a1 a2 g23 f23 (fun r32 g32 f32 => ((¬ r32 = 0) → wX1_mend N a1 a2 g32 f32 (fun r52 g52 f52 => wX11_answered N r52 g52 f52 (fun r55 g55 f55 => Q r55 g55 f55))) ∧ ((r32 = 0) → wX11_answered N (-3) g32 f32 (fun r41 g41 f41 => Q r41 g41 f41))))) ∧ ((r6 = 0) → wX11_answered N (-2) g6 f6 (fun r15 g15 f15 => Q r15 g15 f15)))
theorem mX11_repair (hE : gInj layC ad) {N : Nat} {a1 : Int32} {a2 : Int32} {g : gFG} {f : gFF} {Q : Int32 → gFG → gFF → Prop} (h : wX11_repair N a1 a2 g f Q) : gCT l D cs layC ad (gZc ad tX tY sK sV) 7 yX11_repair cX11_repair 3 (some .int) [.ref (ad 0), .int a1, .int a2] (g, f, 0) (gQi Q) := by
  refine met_walk (lv0 := [some (.ref (ad 0)), some (.int a1), some (.int a2)]) ⟨hE, gZc_ok _ _ _ _ _⟩ (by decide) (Nat.le_of_ble_eq_true rfl) rfl (fun G Rt hG hQ => ?_)
  replace hG : gSim l D cs layC ad (gZc ad tX tY sK sV) 7 RX11 cX11_repair 3 (some .int) G Rt := hG
  unfold wX11_repair at h
  refine s_aload_n (n := 1) hG dX11_repair_0 rfl rfl ?_
  refine gtX11_31 (n := 4) hG dX11_repair_1 rfl ?_
  refine s_iload_n (n := 5) hG dX11_repair_4 rfl rfl ?_
  refine s_iload_n (n := 6) hG dX11_repair_5 rfl rfl ?_
  refine s_callV (n := 9) (st := []) hG (mX2_has hE h) ceX2_has lmX11_116 ⟨by decide, rfl, rfl⟩ rfl ⟨rfl, Nat.le_of_ble_eq_true rfl, by decide⟩ dX11_repair_6 rfl ?_
  rintro _ _ ⟨r6, g6, f6, rfl, rfl, h⟩
  refine s_if_ne (n := 12) (tgt := 19) hG dX11_repair_9 rfl rfl (fun c => ?_) (fun c => ?_)
  · replace h := h.1 c
    refine s_aload_n (n := 20) hG dX11_repair_19 rfl rfl ?_
    refine gtX11_35 (n := 23) hG dX11_repair_20 rfl ?_
    refine s_callV (n := 26) (st := []) hG (mX1_refresh hE h) ceX1_refresh lmX11_128 ⟨by decide, rfl, rfl⟩ rfl ⟨rfl, Nat.le_of_ble_eq_true rfl, by decide⟩ dX11_repair_23 rfl ?_
    rintro _ _ ⟨g23, f23, rfl, rfl, h⟩
    refine s_aload_n (n := 27) hG dX11_repair_26 rfl rfl ?_
    refine gtX11_35 (n := 30) hG dX11_repair_27 rfl ?_
    refine s_iload_n (n := 31) hG dX11_repair_30 rfl rfl ?_
    refine s_iload_n (n := 32) hG dX11_repair_31 rfl rfl ?_
    refine s_callV (n := 35) (st := []) hG (mX1_canMend hE h) ceX1_canMend lmX11_134 ⟨by decide, rfl, rfl⟩ rfl ⟨rfl, Nat.le_of_ble_eq_true rfl, by decide⟩ dX11_repair_32 rfl ?_
    rintro _ _ ⟨r32, g32, f32, rfl, rfl, h⟩
    refine s_if_ne (n := 38) (tgt := 45) hG dX11_repair_35 rfl rfl (fun c => ?_) (fun c => ?_)
    · replace h := h.1 c
      refine s_aload_n (n := 46) hG dX11_repair_45 rfl rfl ?_
      refine s_aload_n (n := 47) hG dX11_repair_46 rfl rfl ?_
      refine gtX11_35 (n := 50) hG dX11_repair_47 rfl ?_
      refine s_iload_n (n := 51) hG dX11_repair_50 rfl rfl ?_
      refine s_iload_n (n := 52) hG dX11_repair_51 rfl rfl ?_
      refine s_callV (n := 55) (st := [.ref (ad 0)]) hG (mX1_mend hE h) ceX1_mend lmX11_137 ⟨by decide, rfl, rfl⟩ rfl ⟨rfl, Nat.le_of_ble_eq_true rfl, by decide⟩ dX11_repair_52 rfl ?_
      rintro _ _ ⟨r52, g52, f52, rfl, rfl, h⟩
      refine s_callV (n := 58) (st := []) hG (mX11_answered hE h) ceX11_answered lmX11_104 ⟨by decide, rfl, rfl⟩ rfl ⟨rfl, Nat.le_of_ble_eq_true rfl, by decide⟩ dX11_repair_55 rfl ?_
      rintro _ _ ⟨r55, g55, f55, rfl, rfl, h⟩
      exact s_iret hG dX11_repair_58 (hQ _ _ ⟨_, _, _, rfl, rfl, h⟩)
    · replace h := h.2 c
      refine s_aload_n (n := 39) hG dX11_repair_38 rfl rfl ?_
      refine s_bipush (n := 41) hG dX11_repair_39 kb_m3 rfl ?_
      refine s_callV (n := 44) (st := []) hG (mX11_answered hE h) ceX11_answered lmX11_104 ⟨by decide, rfl, rfl⟩ rfl ⟨rfl, Nat.le_of_ble_eq_true rfl, by decide⟩ dX11_repair_41 rfl ?_
      rintro _ _ ⟨r41, g41, f41, rfl, rfl, h⟩
      exact s_iret hG dX11_repair_44 (hQ _ _ ⟨_, _, _, rfl, rfl, h⟩)
  · replace h := h.2 c
    refine s_aload_n (n := 13) hG dX11_repair_12 rfl rfl ?_
    refine s_bipush (n := 15) hG dX11_repair_13 kb_m2 rfl ?_
    refine s_callV (n := 18) (st := []) hG (mX11_answered hE h) ceX11_answered lmX11_104 ⟨by decide, rfl, rfl⟩ rfl ⟨rfl, Nat.le_of_ble_eq_true rfl, by decide⟩ dX11_repair_15 rfl ?_
    rintro _ _ ⟨r15, g15, f15, rfl, rfl, h⟩
    exact s_iret hG dX11_repair_18 (hQ _ _ ⟨_, _, _, rfl, rfl, h⟩)
def wX11_wall_j25 (N : Nat)  (Q : Int32 → gFG → gFF → Prop) (v1 : Int32) (v2 : Int32) (g : gFG) (f : gFF) : Prop := wX2_has N v1 v2 g f (fun r31 g31 f31 => ((r31 = 0) → Q (-1) g31 f31) ∧ ((¬ r31 = 0) → wX1_wallAt N v1 v2 g31 f31 (fun r43 g43 f43 => Q r43 g43 f43)))
theorem sX11_wall_j25 {G : gG} {Rt : Option Value → gSt → Prop} (hE : gInj layC ad) (hG : gSim l D cs layC ad (gZc ad tX tY sK sV) 7 RX11 cX11_wall 3 (some .int) G Rt) {Q : Int32 → gFG → gFF → Prop} (hQ : ∀ v S, gQi Q v S → Rt v S) {N : Nat}   {v1 : Int32} {v2 : Int32} {g : gFG} {f : gFF}  (h : wX11_wall_j25 N  Q v1 v2 g f) : G 25 [some (.ref (ad 0)), some (.int v1), some (.int v2)] [] (g, f, 0) := by
  unfold wX11_wall_j25 at h
  refine s_aload_n (n := 26) hG dX11_wall_25 rfl rfl ?_
  refine gtX11_31 (n := 29) hG dX11_wall_26 rfl ?_
  refine s_iload_n (n := 30) hG dX11_wall_29 rfl rfl ?_
  refine s_iload_n (n := 31) hG dX11_wall_30 rfl rfl ?_
  refine s_callV (n := 34) (st := []) hG (mX2_has hE h) ceX2_has lmX11_116 ⟨by decide, rfl, rfl⟩ rfl ⟨rfl, Nat.le_of_ble_eq_true rfl, by decide⟩ dX11_wall_31 rfl ?_
  rintro _ _ ⟨r31, g31, f31, rfl, rfl, h⟩
  refine s_if_eq (n := 37) (tgt := 49) hG dX11_wall_34 rfl rfl (fun c => ?_) (fun c => ?_)
  · replace h := h.1 c
    refine s_iconst (n := 50) hG dX11_wall_49 ki_m1 rfl ?_
    exact s_iret hG dX11_wall_50 (hQ _ _ ⟨_, _, _, rfl, rfl, h⟩)
  · replace h := h.2 c
    refine s_aload_n (n := 38) hG dX11_wall_37 rfl rfl ?_
    refine gtX11_35 (n := 41) hG dX11_wall_38 rfl ?_
    refine s_iload_n (n := 42) hG dX11_wall_41 rfl rfl ?_
    refine s_iload_n (n := 43) hG dX11_wall_42 rfl rfl ?_
    refine s_callV (n := 46) (st := []) hG (mX1_wallAt hE h) ceX1_wallAt lmX11_144 ⟨by decide, rfl, rfl⟩ rfl ⟨rfl, Nat.le_of_ble_eq_true rfl, by decide⟩ dX11_wall_43 rfl ?_
    rintro _ _ ⟨r43, g43, f43, rfl, rfl, h⟩
    refine s_goto (tgt := 50) hG dX11_wall_46 rfl ?_
    exact s_iret hG dX11_wall_50 (hQ _ _ ⟨_, _, _, rfl, rfl, h⟩)
def wX11_wall (N : Nat) (a1 : Int32) (a2 : Int32) (g : gFG) (f : gFF) (Q : Int32 → gFG → gFF → Prop) : Prop := wX1_refresh N g f (fun g4 f4 => ((¬ a1 = (-1)) → wX11_wall_j25 N  Q a1 a2 g4 f4) ∧ ((a1 = (-1)) → ((¬ a2 = (-1)) → wX11_wall_j25 N  Q a1 a2 g4 f4) ∧ ((a2 = (-1)) → wX1_leastWall N g4 f4 (fun r21 g21 f21 => Q r21 g21 f21))))
theorem mX11_wall (hE : gInj layC ad) {N : Nat} {a1 : Int32} {a2 : Int32} {g : gFG} {f : gFF} {Q : Int32 → gFG → gFF → Prop} (h : wX11_wall N a1 a2 g f Q) : gCT l D cs layC ad (gZc ad tX tY sK sV) 7 yX11_wall cX11_wall 3 (some .int) [.ref (ad 0), .int a1, .int a2] (g, f, 0) (gQi Q) := by
  refine met_walk (lv0 := [some (.ref (ad 0)), some (.int a1), some (.int a2)]) ⟨hE, gZc_ok _ _ _ _ _⟩ (by decide) (Nat.le_of_ble_eq_true rfl) rfl (fun G Rt hG hQ => ?_)
  replace hG : gSim l D cs layC ad (gZc ad tX tY sK sV) 7 RX11 cX11_wall 3 (some .int) G Rt := hG
  unfold wX11_wall at h
  refine s_aload_n (n := 1) hG dX11_wall_0 rfl rfl ?_
  refine gtX11_35 (n := 4) hG dX11_wall_1 rfl ?_
  refine s_callV (n := 7) (st := []) hG (mX1_refresh hE h) ceX1_refresh lmX11_128 ⟨by decide, rfl, rfl⟩ rfl ⟨rfl, Nat.le_of_ble_eq_true rfl, by decide⟩ dX11_wall_4 rfl ?_
  rintro _ _ ⟨g4, f4, rfl, rfl, h⟩
  refine s_iload_n (n := 8) hG dX11_wall_7 rfl rfl ?_
  refine s_iconst (n := 9) hG dX11_wall_8 ki_m1 rfl ?_
  refine s_icmp_ne (n := 12) (tgt := 25) hG dX11_wall_9 rfl rfl (fun c => ?_) (fun c => ?_)
  · replace h := h.1 c
    exact s_wk hG (sX11_wall_j25 hE hG hQ  h) ⟨rfl, rfl, rfl, trivial⟩
  · replace h := h.2 c
    refine s_iload_n (n := 13) hG dX11_wall_12 rfl rfl ?_
    refine s_iconst (n := 14) hG dX11_wall_13 ki_m1 rfl ?_
    refine s_icmp_ne (n := 17) (tgt := 25) hG dX11_wall_14 rfl rfl (fun c => ?_) (fun c => ?_)
    · replace h := h.1 c
      exact s_wk hG (sX11_wall_j25 hE hG hQ  h) ⟨rfl, rfl, rfl, trivial⟩
    · replace h := h.2 c
      refine s_aload_n (n := 18) hG dX11_wall_17 rfl rfl ?_
      refine gtX11_35 (n := 21) hG dX11_wall_18 rfl ?_
      refine s_callV (n := 24) (st := []) hG (mX1_leastWall hE h) ceX1_leastWall lmX11_140 ⟨by decide, rfl, rfl⟩ rfl ⟨rfl, Nat.le_of_ble_eq_true rfl, by decide⟩ dX11_wall_21 rfl ?_
      rintro _ _ ⟨r21, g21, f21, rfl, rfl, h⟩
      exact s_iret hG dX11_wall_24 (hQ _ _ ⟨_, _, _, rfl, rfl, h⟩)
def wX11_many (N : Nat) (a1 : Int32) (g : gFG) (f : gFF) (Q : Int32 → gFG → gFF → Prop) : Prop := wX1_refresh N g f (fun g4 f4 => ((a1 = 0) → wX1_howMany N 1 g4 f4 (fun r57 g57 f57 => wX1_howMany N 5 g57 f57 (fun r65 g65 f65 => Q (r57 + r65) g65 f65))) ∧ ((¬ a1 = 0) → ((a1 = 1) → wX1_howMany N 2 g4 f4 (fun r75 g75 f75 => Q r75 g75 f75)) ∧ ((¬ a1 = 1) → ((a1 = 2) → wX1_howMany N 3 g4 f4 (fun r84 g84 f84 => Q r84 g84 f84)) ∧ ((¬ a1 = 2) → ((a1 = 3) → wX2_howMany N 1 1 g4 f4 (fun r94 g94 f94 => Q r94 g94 f94)) ∧ ((¬ a1 = 3) → ((a1 = 4) → wX2_howMany N 2 2 g4 f4 (fun r104 g104 f104 => Q r104 g104 f104)) ∧ ((¬ a1 = 4) → ((a1 = 5) → wX1_howMany N 5 g4 f4 (fun r113 g113 f113 => Q r113 g113 f113)) ∧ ((¬ a1 = 5) → ((a1 = 6) → wX2_howMany N 10 17 g4 f4 (fun r125 g125 f125 => Q r125 g125 f125)) ∧ ((¬ a1 = 6) → Q (-1) g4 f4))))))))
theorem mX11_many (hE : gInj layC ad) {N : Nat} {a1 : Int32} {g : gFG} {f : gFF} {Q : Int32 → gFG → gFF → Prop} (h : wX11_many N a1 g f Q) : gCT l D cs layC ad (gZc ad tX tY sK sV) 7 yX11_many cX11_many 2 (some .int) [.ref (ad 0), .int a1] (g, f, 0) (gQi Q) := by
  refine met_walk (lv0 := [some (.ref (ad 0)), some (.int a1)]) ⟨hE, gZc_ok _ _ _ _ _⟩ (by decide) (Nat.le_of_ble_eq_true rfl) rfl (fun G Rt hG hQ => ?_)
  replace hG : gSim l D cs layC ad (gZc ad tX tY sK sV) 7 RX11 cX11_many 2 (some .int) G Rt := hG
  unfold wX11_many at h
  refine s_aload_n (n := 1) hG dX11_many_0 rfl rfl ?_
  refine gtX11_35 (n := 4) hG dX11_many_1 rfl ?_
  refine s_callV (n := 7) (st := []) hG (mX1_refresh hE h) ceX1_refresh lmX11_128 ⟨by decide, rfl, rfl⟩ rfl ⟨rfl, Nat.le_of_ble_eq_true rfl, by decide⟩ dX11_many_4 rfl ?_
  rintro _ _ ⟨g4, f4, rfl, rfl, h⟩
  refine s_iload_n (n := 8) hG dX11_many_7 rfl rfl ?_
  by_cases c0 : a1 = 0
  · replace h := h.1 c0
    refine s_tabIn (v := 0) (tgt := 52) (off := 44) hG dX11_many_8 c0 (by decide) ?_
    refine s_aload_n (n := 53) hG dX11_many_52 rfl rfl ?_
    refine gtX11_35 (n := 56) hG dX11_many_53 rfl ?_
    refine s_iconst (n := 57) hG dX11_many_56 ki_1 rfl ?_
    refine s_callV (n := 60) (st := []) hG (mX1_howMany hE h) ceX1_howMany lmX11_147 ⟨by decide, rfl, rfl⟩ rfl ⟨rfl, Nat.le_of_ble_eq_true rfl, by decide⟩ dX11_many_57 rfl ?_
    rintro _ _ ⟨r57, g57, f57, rfl, rfl, h⟩
    refine s_aload_n (n := 61) hG dX11_many_60 rfl rfl ?_
    refine gtX11_35 (n := 64) hG dX11_many_61 rfl ?_
    refine s_iconst (n := 65) hG dX11_many_64 ki_5 rfl ?_
    refine s_callV (n := 68) (st := [.int r57]) hG (mX1_howMany hE h) ceX1_howMany lmX11_147 ⟨by decide, rfl, rfl⟩ rfl ⟨rfl, Nat.le_of_ble_eq_true rfl, by decide⟩ dX11_many_65 rfl ?_
    rintro _ _ ⟨r65, g65, f65, rfl, rfl, h⟩
    refine s_iadd (n := 69) hG dX11_many_68 rfl ?_
    exact s_iret hG dX11_many_69 (hQ _ _ ⟨_, _, _, rfl, rfl, h⟩)
  · replace h := h.2 c0
    by_cases c1 : a1 = 1
    · replace h := h.1 c1
      refine s_tabIn (v := 1) (tgt := 70) (off := 62) hG dX11_many_8 c1 (by decide) ?_
      refine s_aload_n (n := 71) hG dX11_many_70 rfl rfl ?_
      refine gtX11_35 (n := 74) hG dX11_many_71 rfl ?_
      refine s_iconst (n := 75) hG dX11_many_74 ki_2 rfl ?_
      refine s_callV (n := 78) (st := []) hG (mX1_howMany hE h) ceX1_howMany lmX11_147 ⟨by decide, rfl, rfl⟩ rfl ⟨rfl, Nat.le_of_ble_eq_true rfl, by decide⟩ dX11_many_75 rfl ?_
      rintro _ _ ⟨r75, g75, f75, rfl, rfl, h⟩
      exact s_iret hG dX11_many_78 (hQ _ _ ⟨_, _, _, rfl, rfl, h⟩)
    · replace h := h.2 c1
      by_cases c2 : a1 = 2
      · replace h := h.1 c2
        refine s_tabIn (v := 2) (tgt := 79) (off := 71) hG dX11_many_8 c2 (by decide) ?_
        refine s_aload_n (n := 80) hG dX11_many_79 rfl rfl ?_
        refine gtX11_35 (n := 83) hG dX11_many_80 rfl ?_
        refine s_iconst (n := 84) hG dX11_many_83 ki_3 rfl ?_
        refine s_callV (n := 87) (st := []) hG (mX1_howMany hE h) ceX1_howMany lmX11_147 ⟨by decide, rfl, rfl⟩ rfl ⟨rfl, Nat.le_of_ble_eq_true rfl, by decide⟩ dX11_many_84 rfl ?_
        rintro _ _ ⟨r84, g84, f84, rfl, rfl, h⟩
        exact s_iret hG dX11_many_87 (hQ _ _ ⟨_, _, _, rfl, rfl, h⟩)
      · replace h := h.2 c2
        by_cases c3 : a1 = 3
        · replace h := h.1 c3
          refine s_tabIn (v := 3) (tgt := 88) (off := 80) hG dX11_many_8 c3 (by decide) ?_
          refine s_aload_n (n := 89) hG dX11_many_88 rfl rfl ?_
          refine gtX11_31 (n := 92) hG dX11_many_89 rfl ?_
          refine s_iconst (n := 93) hG dX11_many_92 ki_1 rfl ?_
          refine s_iconst (n := 94) hG dX11_many_93 ki_1 rfl ?_
          refine s_callV (n := 97) (st := []) hG (mX2_howMany hE h) ceX2_howMany lmX11_150 ⟨by decide, rfl, rfl⟩ rfl ⟨rfl, Nat.le_of_ble_eq_true rfl, by decide⟩ dX11_many_94 rfl ?_
          rintro _ _ ⟨r94, g94, f94, rfl, rfl, h⟩
          exact s_iret hG dX11_many_97 (hQ _ _ ⟨_, _, _, rfl, rfl, h⟩)
        · replace h := h.2 c3
          by_cases c4 : a1 = 4
          · replace h := h.1 c4
            refine s_tabIn (v := 4) (tgt := 98) (off := 90) hG dX11_many_8 c4 (by decide) ?_
            refine s_aload_n (n := 99) hG dX11_many_98 rfl rfl ?_
            refine gtX11_31 (n := 102) hG dX11_many_99 rfl ?_
            refine s_iconst (n := 103) hG dX11_many_102 ki_2 rfl ?_
            refine s_iconst (n := 104) hG dX11_many_103 ki_2 rfl ?_
            refine s_callV (n := 107) (st := []) hG (mX2_howMany hE h) ceX2_howMany lmX11_150 ⟨by decide, rfl, rfl⟩ rfl ⟨rfl, Nat.le_of_ble_eq_true rfl, by decide⟩ dX11_many_104 rfl ?_
            rintro _ _ ⟨r104, g104, f104, rfl, rfl, h⟩
            exact s_iret hG dX11_many_107 (hQ _ _ ⟨_, _, _, rfl, rfl, h⟩)
          · replace h := h.2 c4
            by_cases c5 : a1 = 5
            · replace h := h.1 c5
              refine s_tabIn (v := 5) (tgt := 108) (off := 100) hG dX11_many_8 c5 (by decide) ?_
              refine s_aload_n (n := 109) hG dX11_many_108 rfl rfl ?_
              refine gtX11_35 (n := 112) hG dX11_many_109 rfl ?_
              refine s_iconst (n := 113) hG dX11_many_112 ki_5 rfl ?_
              refine s_callV (n := 116) (st := []) hG (mX1_howMany hE h) ceX1_howMany lmX11_147 ⟨by decide, rfl, rfl⟩ rfl ⟨rfl, Nat.le_of_ble_eq_true rfl, by decide⟩ dX11_many_113 rfl ?_
              rintro _ _ ⟨r113, g113, f113, rfl, rfl, h⟩
              exact s_iret hG dX11_many_116 (hQ _ _ ⟨_, _, _, rfl, rfl, h⟩)
            · replace h := h.2 c5
              by_cases c6 : a1 = 6
              · replace h := h.1 c6
                refine s_tabIn (v := 6) (tgt := 117) (off := 109) hG dX11_many_8 c6 (by decide) ?_
                refine s_aload_n (n := 118) hG dX11_many_117 rfl rfl ?_
                refine gtX11_31 (n := 121) hG dX11_many_118 rfl ?_
                refine s_bipush (n := 123) hG dX11_many_121 kb_10 rfl ?_
                refine s_bipush (n := 125) hG dX11_many_123 kb_17 rfl ?_
                refine s_callV (n := 128) (st := []) hG (mX2_howMany hE h) ceX2_howMany lmX11_150 ⟨by decide, rfl, rfl⟩ rfl ⟨rfl, Nat.le_of_ble_eq_true rfl, by decide⟩ dX11_many_125 rfl ?_
                rintro _ _ ⟨r125, g125, f125, rfl, rfl, h⟩
                exact s_iret hG dX11_many_128 (hQ _ _ ⟨_, _, _, rfl, rfl, h⟩)
              · replace h := h.2 c6
                refine s_tabOut (tgt := 129) hG dX11_many_8 (by have hh := And.intro trivial trivial; have q0 := lv_neT c0 (show (0 : Int32).toInt = 0 from by decide); have q1 := lv_neT c1 (show (1 : Int32).toInt = 1 from by decide); have q2 := lv_neT c2 (show (2 : Int32).toInt = 2 from by decide); have q3 := lv_neT c3 (show (3 : Int32).toInt = 3 from by decide); have q4 := lv_neT c4 (show (4 : Int32).toInt = 4 from by decide); have q5 := lv_neT c5 (show (5 : Int32).toInt = 5 from by decide); have q6 := lv_neT c6 (show (6 : Int32).toInt = 6 from by decide);  omega) rfl ?_
                refine s_iconst (n := 130) hG dX11_many_129 ki_m1 rfl ?_
                exact s_iret hG dX11_many_130 (hQ _ _ ⟨_, _, _, rfl, rfl, h⟩)
def wX11_howManyPieces (N : Nat) (a1 : Int32) (g : gFG) (f : gFF) (Q : Int32 → gFG → gFF → Prop) : Prop := ((a1 = 0) → wX8_goneCount N g f (fun r32 g32 f32 => Q r32 g32 f32)) ∧ ((¬ a1 = 0) → ((a1 = 1) → wX8_stuckCount N g f (fun r40 g40 f40 => Q r40 g40 f40)) ∧ ((¬ a1 = 1) → ((a1 = 2) → wX8_pieceCount N g f (fun r48 g48 f48 => Q r48 g48 f48)) ∧ ((¬ a1 = 2) → Q (-1) g f)))
theorem mX11_howManyPieces (hE : gInj layC ad) {N : Nat} {a1 : Int32} {g : gFG} {f : gFF} {Q : Int32 → gFG → gFF → Prop} (h : wX11_howManyPieces N a1 g f Q) : gCT l D cs layC ad (gZc ad tX tY sK sV) 4 yX11_howManyPieces cX11_howManyPieces 2 (some .int) [.ref (ad 0), .int a1] (g, f, 0) (gQi Q) := by
  refine met_walk (lv0 := [some (.ref (ad 0)), some (.int a1)]) ⟨hE, gZc_ok _ _ _ _ _⟩ (by decide) (Nat.le_of_ble_eq_true rfl) rfl (fun G Rt hG hQ => ?_)
  replace hG : gSim l D cs layC ad (gZc ad tX tY sK sV) 4 RX11 cX11_howManyPieces 2 (some .int) G Rt := hG
  unfold wX11_howManyPieces at h
  refine s_iload_n (n := 1) hG dX11_howManyPieces_0 rfl rfl ?_
  by_cases c0 : a1 = 0
  · replace h := h.1 c0
    refine s_tabIn (v := 0) (tgt := 28) (off := 27) hG dX11_howManyPieces_1 c0 (by decide) ?_
    refine s_aload_n (n := 29) hG dX11_howManyPieces_28 rfl rfl ?_
    refine gtX11_39 (n := 32) hG dX11_howManyPieces_29 rfl ?_
    refine s_callV (n := 35) (st := []) hG (mX8_goneCount hE h) ceX8_goneCount lmX11_269 ⟨by decide, rfl, rfl⟩ rfl ⟨rfl, Nat.le_of_ble_eq_true rfl, by decide⟩ dX11_howManyPieces_32 rfl ?_
    rintro _ _ ⟨r32, g32, f32, rfl, rfl, h⟩
    exact s_iret hG dX11_howManyPieces_35 (hQ _ _ ⟨_, _, _, rfl, rfl, h⟩)
  · replace h := h.2 c0
    by_cases c1 : a1 = 1
    · replace h := h.1 c1
      refine s_tabIn (v := 1) (tgt := 36) (off := 35) hG dX11_howManyPieces_1 c1 (by decide) ?_
      refine s_aload_n (n := 37) hG dX11_howManyPieces_36 rfl rfl ?_
      refine gtX11_39 (n := 40) hG dX11_howManyPieces_37 rfl ?_
      refine s_callV (n := 43) (st := []) hG (mX8_stuckCount hE h) ceX8_stuckCount lmX11_272 ⟨by decide, rfl, rfl⟩ rfl ⟨rfl, Nat.le_of_ble_eq_true rfl, by decide⟩ dX11_howManyPieces_40 rfl ?_
      rintro _ _ ⟨r40, g40, f40, rfl, rfl, h⟩
      exact s_iret hG dX11_howManyPieces_43 (hQ _ _ ⟨_, _, _, rfl, rfl, h⟩)
    · replace h := h.2 c1
      by_cases c2 : a1 = 2
      · replace h := h.1 c2
        refine s_tabIn (v := 2) (tgt := 44) (off := 43) hG dX11_howManyPieces_1 c2 (by decide) ?_
        refine s_aload_n (n := 45) hG dX11_howManyPieces_44 rfl rfl ?_
        refine gtX11_39 (n := 48) hG dX11_howManyPieces_45 rfl ?_
        refine s_callV (n := 51) (st := []) hG (mX8_pieceCount hE h) ceX8_pieceCount lmX11_275 ⟨by decide, rfl, rfl⟩ rfl ⟨rfl, Nat.le_of_ble_eq_true rfl, by decide⟩ dX11_howManyPieces_48 rfl ?_
        rintro _ _ ⟨r48, g48, f48, rfl, rfl, h⟩
        exact s_iret hG dX11_howManyPieces_51 (hQ _ _ ⟨_, _, _, rfl, rfl, h⟩)
      · replace h := h.2 c2
        refine s_tabOut (tgt := 52) hG dX11_howManyPieces_1 (by have hh := And.intro trivial trivial; have q0 := lv_neT c0 (show (0 : Int32).toInt = 0 from by decide); have q1 := lv_neT c1 (show (1 : Int32).toInt = 1 from by decide); have q2 := lv_neT c2 (show (2 : Int32).toInt = 2 from by decide);  omega) rfl ?_
        refine s_iconst (n := 53) hG dX11_howManyPieces_52 ki_m1 rfl ?_
        exact s_iret hG dX11_howManyPieces_53 (hQ _ _ ⟨_, _, _, rfl, rfl, h⟩)
def wX11_off (N : Nat) (a1 : Int32) (a2 : Int32) (g : gFG) (f : gFF) (Q : Int32 → gFG → gFF → Prop) : Prop := wX8_refresh N g f (fun g4 f4 => ((¬ a1 = (-1)) → ((a2 = 0) → wX8_pieceAt N a1 g4 f4 (fun r49 g49 f49 => Q r49 g49 f49)) ∧ ((¬ a2 = 0) → ((a2 = 1) → wX8_wayAt N a1 g4 f4 (fun r58 g58 f58 => Q r58 g58 f58)) ∧ ((¬ a2 = 1) → Q (-1) g4 f4))) ∧ ((a1 = (-1)) → wX11_howManyPieces N a2 g4 f4 (fun r14 g14 f14 => Q r14 g14 f14)))
theorem mX11_off (hE : gInj layC ad) {N : Nat} {a1 : Int32} {a2 : Int32} {g : gFG} {f : gFF} {Q : Int32 → gFG → gFF → Prop} (h : wX11_off N a1 a2 g f Q) : gCT l D cs layC ad (gZc ad tX tY sK sV) 6 yX11_off cX11_off 3 (some .int) [.ref (ad 0), .int a1, .int a2] (g, f, 0) (gQi Q) := by
  refine met_walk (lv0 := [some (.ref (ad 0)), some (.int a1), some (.int a2)]) ⟨hE, gZc_ok _ _ _ _ _⟩ (by decide) (Nat.le_of_ble_eq_true rfl) rfl (fun G Rt hG hQ => ?_)
  replace hG : gSim l D cs layC ad (gZc ad tX tY sK sV) 6 RX11 cX11_off 3 (some .int) G Rt := hG
  unfold wX11_off at h
  refine s_aload_n (n := 1) hG dX11_off_0 rfl rfl ?_
  refine gtX11_39 (n := 4) hG dX11_off_1 rfl ?_
  refine s_callV (n := 7) (st := []) hG (mX8_refresh hE h) ceX8_refresh lmX11_152 ⟨by decide, rfl, rfl⟩ rfl ⟨rfl, Nat.le_of_ble_eq_true rfl, by decide⟩ dX11_off_4 rfl ?_
  rintro _ _ ⟨g4, f4, rfl, rfl, h⟩
  refine s_iload_n (n := 8) hG dX11_off_7 rfl rfl ?_
  refine s_iconst (n := 9) hG dX11_off_8 ki_m1 rfl ?_
  refine s_icmp_ne (n := 12) (tgt := 18) hG dX11_off_9 rfl rfl (fun c => ?_) (fun c => ?_)
  · replace h := h.1 c
    refine s_iload_n (n := 19) hG dX11_off_18 rfl rfl ?_
    by_cases c0 : a2 = 0
    · replace h := h.1 c0
      refine s_look (tgt := 44) (off := 25) hG dX11_off_19 (by decide) (by rw [c0]; try decide) rfl ?_
      refine s_aload_n (n := 45) hG dX11_off_44 rfl rfl ?_
      refine gtX11_39 (n := 48) hG dX11_off_45 rfl ?_
      refine s_iload_n (n := 49) hG dX11_off_48 rfl rfl ?_
      refine s_callV (n := 52) (st := []) hG (mX8_pieceAt hE h) ceX8_pieceAt lmX11_156 ⟨by decide, rfl, rfl⟩ rfl ⟨rfl, Nat.le_of_ble_eq_true rfl, by decide⟩ dX11_off_49 rfl ?_
      rintro _ _ ⟨r49, g49, f49, rfl, rfl, h⟩
      exact s_iret hG dX11_off_52 (hQ _ _ ⟨_, _, _, rfl, rfl, h⟩)
    · replace h := h.2 c0
      by_cases c1 : a2 = 1
      · replace h := h.1 c1
        refine s_look (tgt := 53) (off := 34) hG dX11_off_19 (by decide) (by rw [c1]; try decide) rfl ?_
        refine s_aload_n (n := 54) hG dX11_off_53 rfl rfl ?_
        refine gtX11_39 (n := 57) hG dX11_off_54 rfl ?_
        refine s_iload_n (n := 58) hG dX11_off_57 rfl rfl ?_
        refine s_callV (n := 61) (st := []) hG (mX8_wayAt hE h) ceX8_wayAt lmX11_159 ⟨by decide, rfl, rfl⟩ rfl ⟨rfl, Nat.le_of_ble_eq_true rfl, by decide⟩ dX11_off_58 rfl ?_
        rintro _ _ ⟨r58, g58, f58, rfl, rfl, h⟩
        exact s_iret hG dX11_off_61 (hQ _ _ ⟨_, _, _, rfl, rfl, h⟩)
      · replace h := h.2 c1
        refine s_look (tgt := 62) (off := 43) hG dX11_off_19 (by decide) (by rw [lv_osw c0 (show (0 : Int32).toInt = 0 from by decide)]; rw [lv_osw c1 (show (1 : Int32).toInt = 1 from by decide)];  try rfl) rfl ?_
        refine s_iconst (n := 63) hG dX11_off_62 ki_m1 rfl ?_
        exact s_iret hG dX11_off_63 (hQ _ _ ⟨_, _, _, rfl, rfl, h⟩)
  · replace h := h.2 c
    refine s_aload_n (n := 13) hG dX11_off_12 rfl rfl ?_
    refine s_iload_n (n := 14) hG dX11_off_13 rfl rfl ?_
    refine s_callV (n := 17) (st := []) hG (mX11_howManyPieces hE h) ceX11_howManyPieces lmX11_153 ⟨by decide, rfl, rfl⟩ rfl ⟨rfl, Nat.le_of_ble_eq_true rfl, by decide⟩ dX11_off_14 rfl ?_
    rintro _ _ ⟨r14, g14, f14, rfl, rfl, h⟩
    exact s_iret hG dX11_off_17 (hQ _ _ ⟨_, _, _, rfl, rfl, h⟩)
def wX11_isWithin (N : Nat) (a1 : Int32) (a2 : Int32) (g : gFG) (f : gFF) (Q : Int32 → gFG → gFF → Prop) : Prop := ((a1 < 0) → Q 0 g f) ∧ ((¬ a1 < 0) → ((a2 < a1) → Q 0 g f) ∧ ((¬ a2 < a1) → Q 1 g f))
theorem mX11_isWithin (hE : gInj layC ad) {N : Nat} {a1 : Int32} {a2 : Int32} {g : gFG} {f : gFF} {Q : Int32 → gFG → gFF → Prop} (h : wX11_isWithin N a1 a2 g f Q) : gCT l D cs layC ad (gZc ad tX tY sK sV) 1 yX11_isWithin cX11_isWithin 2 (some .boolean) [.int a1, .int a2] (g, f, 0) (gQi Q) := by
  refine met_walk (lv0 := [some (.int a1), some (.int a2)]) ⟨hE, gZc_ok _ _ _ _ _⟩ (by decide) (Nat.le_of_ble_eq_true rfl) rfl (fun G Rt hG hQ => ?_)
  replace hG : gSim l D cs layC ad (gZc ad tX tY sK sV) 1 RX11 cX11_isWithin 2 (some .boolean) G Rt := hG
  unfold wX11_isWithin at h
  refine s_iload_n (n := 1) hG dX11_isWithin_0 rfl rfl ?_
  refine s_if_lt (n := 4) (tgt := 13) hG dX11_isWithin_1 rfl rfl (fun c => ?_) (fun c => ?_)
  · replace h := h.1 c
    refine s_iconst (n := 14) hG dX11_isWithin_13 ki_0 rfl ?_
    exact s_zret hG dX11_isWithin_14 (gz_n gz_0) (hQ _ _ ⟨_, _, _, rfl, rfl, h⟩)
  · replace h := h.2 c
    refine s_iload_n (n := 5) hG dX11_isWithin_4 rfl rfl ?_
    refine s_iload_n (n := 6) hG dX11_isWithin_5 rfl rfl ?_
    refine s_icmp_gt (n := 9) (tgt := 13) hG dX11_isWithin_6 rfl rfl (fun c => ?_) (fun c => ?_)
    · replace h := h.1 c
      refine s_iconst (n := 14) hG dX11_isWithin_13 ki_0 rfl ?_
      exact s_zret hG dX11_isWithin_14 (gz_n gz_0) (hQ _ _ ⟨_, _, _, rfl, rfl, h⟩)
    · replace h := h.2 c
      refine s_iconst (n := 10) hG dX11_isWithin_9 ki_1 rfl ?_
      refine s_goto (tgt := 14) hG dX11_isWithin_10 rfl ?_
      exact s_zret hG dX11_isWithin_14 (gz_n gz_1) (hQ _ _ ⟨_, _, _, rfl, rfl, h⟩)
def wX11_lot_j49 (N : Nat)  (Q : Int32 → gFG → gFF → Prop)  (g : gFG) (f : gFF) : Prop := wX11_answered N (-1) g f (fun r51 g51 f51 => Q r51 g51 f51)
theorem sX11_lot_j49 {G : gG} {Rt : Option Value → gSt → Prop} (hE : gInj layC ad) (hG : gSim l D cs layC ad (gZc ad tX tY sK sV) 3 RX11 cX11_lot 5 (some .int) G Rt) {Q : Int32 → gFG → gFF → Prop} (hQ : ∀ v S, gQi Q v S → Rt v S) {N : Nat}    {g : gFG} {f : gFF}  (h : wX11_lot_j49 N  Q  g f) : G 49 [some (.ref (ad 0)), none, none, none, none] [] (g, f, 0) := by
  unfold wX11_lot_j49 at h
  refine s_aload_n (n := 50) hG dX11_lot_49 rfl rfl ?_
  refine s_iconst (n := 51) hG dX11_lot_50 ki_m1 rfl ?_
  refine s_callV (n := 54) (st := []) hG (mX11_answered hE h) ceX11_answered lmX11_104 ⟨by decide, rfl, rfl⟩ rfl ⟨rfl, Nat.le_of_ble_eq_true rfl, by decide⟩ dX11_lot_51 rfl ?_
  rintro _ _ ⟨r51, g51, f51, rfl, rfl, h⟩
  exact s_iret hG dX11_lot_54 (hQ _ _ ⟨_, _, _, rfl, rfl, h⟩)
def wX11_lot (N : Nat) (a1 : Int32) (a2 : Int32) (a3 : Int32) (a4 : Int32) (g : gFG) (f : gFF) (Q : Int32 → gFG → gFF → Prop) : Prop := wX11_isWithin N a1 1000 g f (fun r4 g4 f4 => ((r4 = 0) → wX11_lot_j49 N  Q g4 f4) ∧ ((¬ r4 = 0) → wX11_isWithin N a2 1000 g4 f4 (fun r14 g14 f14 => ((r14 = 0) → wX11_lot_j49 N  Q g14 f14) ∧ ((¬ r14 = 0) → ((1000 < (a1 + a2)) → wX11_lot_j49 N  Q g14 f14) ∧ ((¬ 1000 < (a1 + a2)) → wX11_isWithin N a3 1000 g14 f14 (fun r33 g33 f33 => ((r33 = 0) → wX11_lot_j49 N  Q g33 f33) ∧ ((¬ r33 = 0) → wX11_isWithin N a4 40 g33 f33 (fun r43 g43 f43 => ((¬ r43 = 0) → wX4_isFull N g43 f43 (fun r59 g59 f59 => ((r59 = 0) → wX4_add N a1 a2 a3 a4 g59 f59 (fun r82 g82 f82 => wX11_answered N r82 g82 f82 (fun r85 g85 f85 => Q r85 g85 f85))) ∧ ((¬ r59 = 0) → wX11_answered N (-5) g59 f59 (fun r68 g68 f68 => Q r68 g68 f68)))) ∧ ((r43 = 0) → wX11_lot_j49 N  Q g43 f43)))))))))
theorem mX11_lot (hE : gInj layC ad) {N : Nat} {a1 : Int32} {a2 : Int32} {a3 : Int32} {a4 : Int32} {g : gFG} {f : gFF} {Q : Int32 → gFG → gFF → Prop} (h : wX11_lot N a1 a2 a3 a4 g f Q) : gCT l D cs layC ad (gZc ad tX tY sK sV) 3 yX11_lot cX11_lot 5 (some .int) [.ref (ad 0), .int a1, .int a2, .int a3, .int a4] (g, f, 0) (gQi Q) := by
  refine met_walk (lv0 := [some (.ref (ad 0)), some (.int a1), some (.int a2), some (.int a3), some (.int a4)]) ⟨hE, gZc_ok _ _ _ _ _⟩ (by decide) (Nat.le_of_ble_eq_true rfl) rfl (fun G Rt hG hQ => ?_)
  replace hG : gSim l D cs layC ad (gZc ad tX tY sK sV) 3 RX11 cX11_lot 5 (some .int) G Rt := hG
  unfold wX11_lot at h
  refine s_iload_n (n := 1) hG dX11_lot_0 rfl rfl ?_
  refine s_sipush (n := 4) hG dX11_lot_1 ks_1000 rfl ?_
  refine s_callS (n := 7) (st := []) hG (mX11_isWithin hE h) ceX11_isWithin lmX11_162 rfl ⟨rfl, Nat.le_of_ble_eq_true rfl, by decide⟩ dX11_lot_4 rfl ?_
  rintro _ _ ⟨r4, g4, f4, rfl, rfl, h⟩
  refine s_if_eq (n := 10) (tgt := 49) hG dX11_lot_7 rfl rfl (fun c => ?_) (fun c => ?_)
  · replace h := h.1 c
    exact s_wk hG (sX11_lot_j49 hE hG hQ  h) ⟨rfl, trivial⟩
  · replace h := h.2 c
    refine s_iload_n (n := 11) hG dX11_lot_10 rfl rfl ?_
    refine s_sipush (n := 14) hG dX11_lot_11 ks_1000 rfl ?_
    refine s_callS (n := 17) (st := []) hG (mX11_isWithin hE h) ceX11_isWithin lmX11_162 rfl ⟨rfl, Nat.le_of_ble_eq_true rfl, by decide⟩ dX11_lot_14 rfl ?_
    rintro _ _ ⟨r14, g14, f14, rfl, rfl, h⟩
    refine s_if_eq (n := 20) (tgt := 49) hG dX11_lot_17 rfl rfl (fun c => ?_) (fun c => ?_)
    · replace h := h.1 c
      exact s_wk hG (sX11_lot_j49 hE hG hQ  h) ⟨rfl, trivial⟩
    · replace h := h.2 c
      refine s_iload_n (n := 21) hG dX11_lot_20 rfl rfl ?_
      refine s_iload_n (n := 22) hG dX11_lot_21 rfl rfl ?_
      refine s_iadd (n := 23) hG dX11_lot_22 rfl ?_
      refine s_sipush (n := 26) hG dX11_lot_23 ks_1000 rfl ?_
      refine s_icmp_gt (n := 29) (tgt := 49) hG dX11_lot_26 rfl rfl (fun c => ?_) (fun c => ?_)
      · replace h := h.1 c
        exact s_wk hG (sX11_lot_j49 hE hG hQ  h) ⟨rfl, trivial⟩
      · replace h := h.2 c
        refine s_iload_n (n := 30) hG dX11_lot_29 rfl rfl ?_
        refine s_sipush (n := 33) hG dX11_lot_30 ks_1000 rfl ?_
        refine s_callS (n := 36) (st := []) hG (mX11_isWithin hE h) ceX11_isWithin lmX11_162 rfl ⟨rfl, Nat.le_of_ble_eq_true rfl, by decide⟩ dX11_lot_33 rfl ?_
        rintro _ _ ⟨r33, g33, f33, rfl, rfl, h⟩
        refine s_if_eq (n := 39) (tgt := 49) hG dX11_lot_36 rfl rfl (fun c => ?_) (fun c => ?_)
        · replace h := h.1 c
          exact s_wk hG (sX11_lot_j49 hE hG hQ  h) ⟨rfl, trivial⟩
        · replace h := h.2 c
          refine s_iload (n := 41) hG dX11_lot_39 rfl rfl ?_
          refine s_bipush (n := 43) hG dX11_lot_41 kb_40 rfl ?_
          refine s_callS (n := 46) (st := []) hG (mX11_isWithin hE h) ceX11_isWithin lmX11_162 rfl ⟨rfl, Nat.le_of_ble_eq_true rfl, by decide⟩ dX11_lot_43 rfl ?_
          rintro _ _ ⟨r43, g43, f43, rfl, rfl, h⟩
          refine s_if_ne (n := 49) (tgt := 55) hG dX11_lot_46 rfl rfl (fun c => ?_) (fun c => ?_)
          · replace h := h.1 c
            refine s_aload_n (n := 56) hG dX11_lot_55 rfl rfl ?_
            refine gtX11_43 (n := 59) hG dX11_lot_56 rfl ?_
            refine s_callV (n := 62) (st := []) hG (mX4_isFull hE h) ceX4_isFull lmX11_165 ⟨by decide, rfl, rfl⟩ rfl ⟨rfl, Nat.le_of_ble_eq_true rfl, by decide⟩ dX11_lot_59 rfl ?_
            rintro _ _ ⟨r59, g59, f59, rfl, rfl, h⟩
            refine s_if_eq (n := 65) (tgt := 72) hG dX11_lot_62 rfl rfl (fun c => ?_) (fun c => ?_)
            · replace h := h.1 c
              refine s_aload_n (n := 73) hG dX11_lot_72 rfl rfl ?_
              refine s_aload_n (n := 74) hG dX11_lot_73 rfl rfl ?_
              refine gtX11_43 (n := 77) hG dX11_lot_74 rfl ?_
              refine s_iload_n (n := 78) hG dX11_lot_77 rfl rfl ?_
              refine s_iload_n (n := 79) hG dX11_lot_78 rfl rfl ?_
              refine s_iload_n (n := 80) hG dX11_lot_79 rfl rfl ?_
              refine s_iload (n := 82) hG dX11_lot_80 rfl rfl ?_
              refine s_callV (n := 85) (st := [.ref (ad 0)]) hG (mX4_add hE h) ceX4_add lmX11_169 ⟨by decide, rfl, rfl⟩ rfl ⟨rfl, Nat.le_of_ble_eq_true rfl, by decide⟩ dX11_lot_82 rfl ?_
              rintro _ _ ⟨r82, g82, f82, rfl, rfl, h⟩
              refine s_callV (n := 88) (st := []) hG (mX11_answered hE h) ceX11_answered lmX11_104 ⟨by decide, rfl, rfl⟩ rfl ⟨rfl, Nat.le_of_ble_eq_true rfl, by decide⟩ dX11_lot_85 rfl ?_
              rintro _ _ ⟨r85, g85, f85, rfl, rfl, h⟩
              exact s_iret hG dX11_lot_88 (hQ _ _ ⟨_, _, _, rfl, rfl, h⟩)
            · replace h := h.2 c
              refine s_aload_n (n := 66) hG dX11_lot_65 rfl rfl ?_
              refine s_bipush (n := 68) hG dX11_lot_66 kb_m5 rfl ?_
              refine s_callV (n := 71) (st := []) hG (mX11_answered hE h) ceX11_answered lmX11_104 ⟨by decide, rfl, rfl⟩ rfl ⟨rfl, Nat.le_of_ble_eq_true rfl, by decide⟩ dX11_lot_68 rfl ?_
              rintro _ _ ⟨r68, g68, f68, rfl, rfl, h⟩
              exact s_iret hG dX11_lot_71 (hQ _ _ ⟨_, _, _, rfl, rfl, h⟩)
          · replace h := h.2 c
            exact s_wk hG (sX11_lot_j49 hE hG hQ  h) ⟨rfl, trivial⟩
def wX11_mix_j47 (N : Nat)  (Q : Int32 → gFG → gFF → Prop)  (g : gFG) (f : gFF) : Prop := wX11_answered N (-1) g f (fun r49 g49 f49 => Q r49 g49 f49)
theorem sX11_mix_j47 {G : gG} {Rt : Option Value → gSt → Prop} (hE : gInj layC ad) (hG : gSim l D cs layC ad (gZc ad tX tY sK sV) 20 RX11 cX11_mix 6 (some .int) G Rt) {Q : Int32 → gFG → gFF → Prop} (hQ : ∀ v S, gQi Q v S → Rt v S) {N : Nat}    {g : gFG} {f : gFF}  (h : wX11_mix_j47 N  Q  g f) : G 47 [some (.ref (ad 0)), none, none, none, none, none] [] (g, f, 0) := by
  unfold wX11_mix_j47 at h
  refine s_aload_n (n := 48) hG dX11_mix_47 rfl rfl ?_
  refine s_iconst (n := 49) hG dX11_mix_48 ki_m1 rfl ?_
  refine s_callV (n := 52) (st := []) hG (mX11_answered hE h) ceX11_answered lmX11_104 ⟨by decide, rfl, rfl⟩ rfl ⟨rfl, Nat.le_of_ble_eq_true rfl, by decide⟩ dX11_mix_49 rfl ?_
  rintro _ _ ⟨r49, g49, f49, rfl, rfl, h⟩
  exact s_iret hG dX11_mix_52 (hQ _ _ ⟨_, _, _, rfl, rfl, h⟩)
def wX11_mix_l78 (N : Nat)   (Q : Int32 → gFG → gFF → Prop) : Nat → Int32 → gFG → gFF → Prop
  | 0, _, _, _ => False
  | n + 1, v5, g, f => ((6 ≤ v5) → wX5_price N g f (fun r114 g114 f114 => wX11_answered N r114 g114 f114 (fun r117 g117 f117 => Q r117 g117 f117))) ∧ ((¬ 6 ≤ v5) → wX5_unitsOf N v5 g f (fun r97 g97 f97 => wX0_put N v5 r97 g97 f97 (fun g100 f100 => ∀ x5_103 : Int32, x5_103 = (v5 + 1) → wX11_mix_l78 N   Q n x5_103 g100 f100)))
theorem sX11_mix_l78 {G : gG} {Rt : Option Value → gSt → Prop} (hE : gInj layC ad) (hG : gSim l D cs layC ad (gZc ad tX tY sK sV) 20 RX11 cX11_mix 6 (some .int) G Rt) {Q : Int32 → gFG → gFF → Prop} (hQ : ∀ v S, gQi Q v S → Rt v S) {N : Nat}     : ∀ (n : Nat) (v5 : Int32) (g : gFG) (f : gFF), wX11_mix_l78 N   Q n v5 g f → G 78 [some (.ref (ad 0)), none, none, none, none, some (.int v5)] [] (g, f, 0) := by
  intro n
  induction n with
  | zero => intro _ _ _ h; unfold wX11_mix_l78 at h; exact h.elim
  | succ n ih =>
    intro v5 g f h
    unfold wX11_mix_l78 at h
    refine s_iload (n := 80) hG dX11_mix_78 rfl rfl ?_
    refine s_bipush (n := 82) hG dX11_mix_80 kb_6 rfl ?_
    refine s_icmp_ge (n := 85) (tgt := 109) hG dX11_mix_82 rfl rfl (fun c => ?_) (fun c => ?_)
    · replace h := h.1 c
      refine s_aload_n (n := 110) hG dX11_mix_109 rfl rfl ?_
      refine s_aload_n (n := 111) hG dX11_mix_110 rfl rfl ?_
      refine gtX11_50 (n := 114) hG dX11_mix_111 rfl ?_
      refine s_callV (n := 117) (st := [.ref (ad 0)]) hG (mX5_price hE h) ceX5_price lmX11_183 ⟨by decide, rfl, rfl⟩ rfl ⟨rfl, Nat.le_of_ble_eq_true rfl, by decide⟩ dX11_mix_114 rfl ?_
      rintro _ _ ⟨r114, g114, f114, rfl, rfl, h⟩
      refine s_callV (n := 120) (st := []) hG (mX11_answered hE h) ceX11_answered lmX11_104 ⟨by decide, rfl, rfl⟩ rfl ⟨rfl, Nat.le_of_ble_eq_true rfl, by decide⟩ dX11_mix_117 rfl ?_
      rintro _ _ ⟨r117, g117, f117, rfl, rfl, h⟩
      exact s_iret hG dX11_mix_120 (hQ _ _ ⟨_, _, _, rfl, rfl, h⟩)
    · replace h := h.2 c
      refine s_aload_n (n := 86) hG dX11_mix_85 rfl rfl ?_
      refine gtX11_54 (n := 89) hG dX11_mix_86 rfl ?_
      refine s_iload (n := 91) hG dX11_mix_89 rfl rfl ?_
      refine s_aload_n (n := 92) hG dX11_mix_91 rfl rfl ?_
      refine gtX11_50 (n := 95) hG dX11_mix_92 rfl ?_
      refine s_iload (n := 97) hG dX11_mix_95 rfl rfl ?_
      refine s_callV (n := 100) (st := [.int v5, .ref (ad 6)]) hG (mX5_unitsOf hE h) ceX5_unitsOf lmX11_177 ⟨by decide, rfl, rfl⟩ rfl ⟨rfl, Nat.le_of_ble_eq_true rfl, by decide⟩ dX11_mix_97 rfl ?_
      rintro _ _ ⟨r97, g97, f97, rfl, rfl, h⟩
      refine s_callV (n := 103) (st := []) hG (mX0_put hE h) ceX0_put lmX11_180 ⟨by decide, rfl, rfl⟩ rfl ⟨rfl, Nat.le_of_ble_eq_true rfl, by decide⟩ dX11_mix_100 rfl ?_
      rintro _ _ ⟨g100, f100, rfl, rfl, h⟩
      obtain ⟨x5_103, hx5_103⟩ : ∃ z : Int32, z = (v5 + 1) := ⟨_, rfl⟩
      replace h := h x5_103 hx5_103
      refine s_iinc (n := 106) (v := x5_103) (lv2 := [some (.ref (ad 0)), none, none, none, none, some (.int x5_103)]) hG dX11_mix_103 ki_1 rfl hx5_103 rfl rfl rfl ?_
      refine s_goto (tgt := 78) hG dX11_mix_106 rfl ?_
      exact s_wk hG (ih _ _ _ h) ⟨rfl, rfl, trivial⟩
def wX11_mix (N : Nat) (a1 : Int32) (a2 : Int32) (a3 : Int32) (a4 : Int32) (g : gFG) (f : gFF) (Q : Int32 → gFG → gFF → Prop) : Prop := ((a1 < 1) → wX11_mix_j47 N  Q g f) ∧ ((¬ a1 < 1) → ((40 < a1) → wX11_mix_j47 N  Q g f) ∧ ((¬ 40 < a1) → ((a3 < a2) → wX11_mix_j47 N  Q g f) ∧ ((¬ a3 < a2) → wX11_isWithin N a2 1000 g f (fun r20 g20 f20 => ((r20 = 0) → wX11_mix_j47 N  Q g20 f20) ∧ ((¬ r20 = 0) → wX11_isWithin N a3 1000 g20 f20 (fun r30 g30 f30 => ((r30 = 0) → wX11_mix_j47 N  Q g30 f30) ∧ ((¬ r30 = 0) → wX11_isWithin N a4 1000 g30 f30 (fun r41 g41 f41 => ((¬ r41 = 0) → wX5_find N a1 a2 a3 a4 g41 f41 (fun r62 g62 f62 => ((¬ r62 = 0) → wX11_mix_l78 N  Q N 0 g62 f62) ∧ ((r62 = 0) → wX11_answered N (-6) g62 f62 (fun r71 g71 f71 => Q r71 g71 f71)))) ∧ ((r41 = 0) → wX11_mix_j47 N  Q g41 f41)))))))))
theorem mX11_mix (hE : gInj layC ad) {N : Nat} {a1 : Int32} {a2 : Int32} {a3 : Int32} {a4 : Int32} {g : gFG} {f : gFF} {Q : Int32 → gFG → gFF → Prop} (h : wX11_mix N a1 a2 a3 a4 g f Q) : gCT l D cs layC ad (gZc ad tX tY sK sV) 20 yX11_mix cX11_mix 6 (some .int) [.ref (ad 0), .int a1, .int a2, .int a3, .int a4] (g, f, 0) (gQi Q) := by
  refine met_walk (lv0 := [some (.ref (ad 0)), some (.int a1), some (.int a2), some (.int a3), some (.int a4), none]) ⟨hE, gZc_ok _ _ _ _ _⟩ (by decide) (Nat.le_of_ble_eq_true rfl) rfl (fun G Rt hG hQ => ?_)
  replace hG : gSim l D cs layC ad (gZc ad tX tY sK sV) 20 RX11 cX11_mix 6 (some .int) G Rt := hG
  unfold wX11_mix at h
  refine s_iload_n (n := 1) hG dX11_mix_0 rfl rfl ?_
  refine s_iconst (n := 2) hG dX11_mix_1 ki_1 rfl ?_
  refine s_icmp_lt (n := 5) (tgt := 47) hG dX11_mix_2 rfl rfl (fun c => ?_) (fun c => ?_)
  · replace h := h.1 c
    exact s_wk hG (sX11_mix_j47 hE hG hQ  h) ⟨rfl, trivial⟩
  · replace h := h.2 c
    refine s_iload_n (n := 6) hG dX11_mix_5 rfl rfl ?_
    refine s_bipush (n := 8) hG dX11_mix_6 kb_40 rfl ?_
    refine s_icmp_gt (n := 11) (tgt := 47) hG dX11_mix_8 rfl rfl (fun c => ?_) (fun c => ?_)
    · replace h := h.1 c
      exact s_wk hG (sX11_mix_j47 hE hG hQ  h) ⟨rfl, trivial⟩
    · replace h := h.2 c
      refine s_iload_n (n := 12) hG dX11_mix_11 rfl rfl ?_
      refine s_iload_n (n := 13) hG dX11_mix_12 rfl rfl ?_
      refine s_icmp_gt (n := 16) (tgt := 47) hG dX11_mix_13 rfl rfl (fun c => ?_) (fun c => ?_)
      · replace h := h.1 c
        exact s_wk hG (sX11_mix_j47 hE hG hQ  h) ⟨rfl, trivial⟩
      · replace h := h.2 c
        refine s_iload_n (n := 17) hG dX11_mix_16 rfl rfl ?_
        refine s_sipush (n := 20) hG dX11_mix_17 ks_1000 rfl ?_
        refine s_callS (n := 23) (st := []) hG (mX11_isWithin hE h) ceX11_isWithin lmX11_162 rfl ⟨rfl, Nat.le_of_ble_eq_true rfl, by decide⟩ dX11_mix_20 rfl ?_
        rintro _ _ ⟨r20, g20, f20, rfl, rfl, h⟩
        refine s_if_eq (n := 26) (tgt := 47) hG dX11_mix_23 rfl rfl (fun c => ?_) (fun c => ?_)
        · replace h := h.1 c
          exact s_wk hG (sX11_mix_j47 hE hG hQ  h) ⟨rfl, trivial⟩
        · replace h := h.2 c
          refine s_iload_n (n := 27) hG dX11_mix_26 rfl rfl ?_
          refine s_sipush (n := 30) hG dX11_mix_27 ks_1000 rfl ?_
          refine s_callS (n := 33) (st := []) hG (mX11_isWithin hE h) ceX11_isWithin lmX11_162 rfl ⟨rfl, Nat.le_of_ble_eq_true rfl, by decide⟩ dX11_mix_30 rfl ?_
          rintro _ _ ⟨r30, g30, f30, rfl, rfl, h⟩
          refine s_if_eq (n := 36) (tgt := 47) hG dX11_mix_33 rfl rfl (fun c => ?_) (fun c => ?_)
          · replace h := h.1 c
            exact s_wk hG (sX11_mix_j47 hE hG hQ  h) ⟨rfl, trivial⟩
          · replace h := h.2 c
            refine s_iload (n := 38) hG dX11_mix_36 rfl rfl ?_
            refine s_sipush (n := 41) hG dX11_mix_38 ks_1000 rfl ?_
            refine s_callS (n := 44) (st := []) hG (mX11_isWithin hE h) ceX11_isWithin lmX11_162 rfl ⟨rfl, Nat.le_of_ble_eq_true rfl, by decide⟩ dX11_mix_41 rfl ?_
            rintro _ _ ⟨r41, g41, f41, rfl, rfl, h⟩
            refine s_if_ne (n := 47) (tgt := 53) hG dX11_mix_44 rfl rfl (fun c => ?_) (fun c => ?_)
            · replace h := h.1 c
              refine s_aload_n (n := 54) hG dX11_mix_53 rfl rfl ?_
              refine gtX11_50 (n := 57) hG dX11_mix_54 rfl ?_
              refine s_iload_n (n := 58) hG dX11_mix_57 rfl rfl ?_
              refine s_iload_n (n := 59) hG dX11_mix_58 rfl rfl ?_
              refine s_iload_n (n := 60) hG dX11_mix_59 rfl rfl ?_
              refine s_iload (n := 62) hG dX11_mix_60 rfl rfl ?_
              refine s_callV (n := 65) (st := []) hG (mX5_find hE h) ceX5_find lmX11_173 ⟨by decide, rfl, rfl⟩ rfl ⟨rfl, Nat.le_of_ble_eq_true rfl, by decide⟩ dX11_mix_62 rfl ?_
              rintro _ _ ⟨r62, g62, f62, rfl, rfl, h⟩
              refine s_if_ne (n := 68) (tgt := 75) hG dX11_mix_65 rfl rfl (fun c => ?_) (fun c => ?_)
              · replace h := h.1 c
                refine s_iconst (n := 76) hG dX11_mix_75 ki_0 rfl ?_
                refine s_istore (n := 78) (lv2 := [some (.ref (ad 0)), some (.int a1), some (.int a2), some (.int a3), some (.int a4), some (.int 0)]) hG dX11_mix_76 rfl rfl rfl ?_
                exact s_wk hG (sX11_mix_l78 hE hG hQ  N _ _ _ h) ⟨rfl, rfl, trivial⟩
              · replace h := h.2 c
                refine s_aload_n (n := 69) hG dX11_mix_68 rfl rfl ?_
                refine s_bipush (n := 71) hG dX11_mix_69 kb_m6 rfl ?_
                refine s_callV (n := 74) (st := []) hG (mX11_answered hE h) ceX11_answered lmX11_104 ⟨by decide, rfl, rfl⟩ rfl ⟨rfl, Nat.le_of_ble_eq_true rfl, by decide⟩ dX11_mix_71 rfl ?_
                rintro _ _ ⟨r71, g71, f71, rfl, rfl, h⟩
                exact s_iret hG dX11_mix_74 (hQ _ _ ⟨_, _, _, rfl, rfl, h⟩)
            · replace h := h.2 c
              exact s_wk hG (sX11_mix_j47 hE hG hQ  h) ⟨rfl, trivial⟩
def wX11_mixed (N : Nat) (a1 : Int32) (g : gFG) (f : gFF) (Q : Int32 → gFG → gFF → Prop) : Prop := wX0_isThere N g f (fun r4 g4 f4 => ((¬ r4 = 0) → ((¬ a1 = (-1)) → wX4_has N a1 g4 f4 (fun r30 g30 f30 => ((r30 = 0) → Q (-1) g30 f30) ∧ ((¬ r30 = 0) → wX0_unitsOf N a1 g30 f30 (fun r41 g41 f41 => Q r41 g41 f41)))) ∧ ((a1 = (-1)) → wX0_total N g4 f4 (fun r21 g21 f21 => Q r21 g21 f21))) ∧ ((r4 = 0) → Q (-1) g4 f4))
theorem mX11_mixed (hE : gInj layC ad) {N : Nat} {a1 : Int32} {g : gFG} {f : gFF} {Q : Int32 → gFG → gFF → Prop} (h : wX11_mixed N a1 g f Q) : gCT l D cs layC ad (gZc ad tX tY sK sV) 3 yX11_mixed cX11_mixed 2 (some .int) [.ref (ad 0), .int a1] (g, f, 0) (gQi Q) := by
  refine met_walk (lv0 := [some (.ref (ad 0)), some (.int a1)]) ⟨hE, gZc_ok _ _ _ _ _⟩ (by decide) (Nat.le_of_ble_eq_true rfl) rfl (fun G Rt hG hQ => ?_)
  replace hG : gSim l D cs layC ad (gZc ad tX tY sK sV) 3 RX11 cX11_mixed 2 (some .int) G Rt := hG
  unfold wX11_mixed at h
  refine s_aload_n (n := 1) hG dX11_mixed_0 rfl rfl ?_
  refine gtX11_54 (n := 4) hG dX11_mixed_1 rfl ?_
  refine s_callV (n := 7) (st := []) hG (mX0_isThere hE h) ceX0_isThere lmX11_186 ⟨by decide, rfl, rfl⟩ rfl ⟨rfl, Nat.le_of_ble_eq_true rfl, by decide⟩ dX11_mixed_4 rfl ?_
  rintro _ _ ⟨r4, g4, f4, rfl, rfl, h⟩
  refine s_if_ne (n := 10) (tgt := 12) hG dX11_mixed_7 rfl rfl (fun c => ?_) (fun c => ?_)
  · replace h := h.1 c
    refine s_iload_n (n := 13) hG dX11_mixed_12 rfl rfl ?_
    refine s_iconst (n := 14) hG dX11_mixed_13 ki_m1 rfl ?_
    refine s_icmp_ne (n := 17) (tgt := 25) hG dX11_mixed_14 rfl rfl (fun c => ?_) (fun c => ?_)
    · replace h := h.1 c
      refine s_aload_n (n := 26) hG dX11_mixed_25 rfl rfl ?_
      refine gtX11_43 (n := 29) hG dX11_mixed_26 rfl ?_
      refine s_iload_n (n := 30) hG dX11_mixed_29 rfl rfl ?_
      refine s_callV (n := 33) (st := []) hG (mX4_has hE h) ceX4_has lmX11_192 ⟨by decide, rfl, rfl⟩ rfl ⟨rfl, Nat.le_of_ble_eq_true rfl, by decide⟩ dX11_mixed_30 rfl ?_
      rintro _ _ ⟨r30, g30, f30, rfl, rfl, h⟩
      refine s_if_eq (n := 36) (tgt := 47) hG dX11_mixed_33 rfl rfl (fun c => ?_) (fun c => ?_)
      · replace h := h.1 c
        refine s_iconst (n := 48) hG dX11_mixed_47 ki_m1 rfl ?_
        exact s_iret hG dX11_mixed_48 (hQ _ _ ⟨_, _, _, rfl, rfl, h⟩)
      · replace h := h.2 c
        refine s_aload_n (n := 37) hG dX11_mixed_36 rfl rfl ?_
        refine gtX11_54 (n := 40) hG dX11_mixed_37 rfl ?_
        refine s_iload_n (n := 41) hG dX11_mixed_40 rfl rfl ?_
        refine s_callV (n := 44) (st := []) hG (mX0_unitsOf hE h) ceX0_unitsOf lmX11_194 ⟨by decide, rfl, rfl⟩ rfl ⟨rfl, Nat.le_of_ble_eq_true rfl, by decide⟩ dX11_mixed_41 rfl ?_
        rintro _ _ ⟨r41, g41, f41, rfl, rfl, h⟩
        refine s_goto (tgt := 48) hG dX11_mixed_44 rfl ?_
        exact s_iret hG dX11_mixed_48 (hQ _ _ ⟨_, _, _, rfl, rfl, h⟩)
    · replace h := h.2 c
      refine s_aload_n (n := 18) hG dX11_mixed_17 rfl rfl ?_
      refine gtX11_54 (n := 21) hG dX11_mixed_18 rfl ?_
      refine s_callV (n := 24) (st := []) hG (mX0_total hE h) ceX0_total lmX11_189 ⟨by decide, rfl, rfl⟩ rfl ⟨rfl, Nat.le_of_ble_eq_true rfl, by decide⟩ dX11_mixed_21 rfl ?_
      rintro _ _ ⟨r21, g21, f21, rfl, rfl, h⟩
      exact s_iret hG dX11_mixed_24 (hQ _ _ ⟨_, _, _, rfl, rfl, h⟩)
  · replace h := h.2 c
    refine s_iconst (n := 11) hG dX11_mixed_10 ki_m1 rfl ?_
    exact s_iret hG dX11_mixed_11 (hQ _ _ ⟨_, _, _, rfl, rfl, h⟩)
def wX11_pour_j44 (N : Nat)  (Q : Int32 → gFG → gFF → Prop) (t0 : Int32) (g : gFG) (f : gFF) : Prop := wX11_answered N t0 g f (fun r44 g44 f44 => Q r44 g44 f44)
theorem sX11_pour_j44 {G : gG} {Rt : Option Value → gSt → Prop} (hE : gInj layC ad) (hG : gSim l D cs layC ad (gZc ad tX tY sK sV) 4 RX11 cX11_pour 2 (some .int) G Rt) {Q : Int32 → gFG → gFF → Prop} (hQ : ∀ v S, gQi Q v S → Rt v S) {N : Nat}   {t0 : Int32} {g : gFG} {f : gFF}  (h : wX11_pour_j44 N  Q t0 g f) : G 44 [none, none] [.int t0, .ref (ad 0)] (g, f, 0) := by
  unfold wX11_pour_j44 at h
  refine s_callV (n := 47) (st := []) hG (mX11_answered hE h) ceX11_answered lmX11_104 ⟨by decide, rfl, rfl⟩ rfl ⟨rfl, Nat.le_of_ble_eq_true rfl, by decide⟩ dX11_pour_44 rfl ?_
  rintro _ _ ⟨r44, g44, f44, rfl, rfl, h⟩
  exact s_iret hG dX11_pour_47 (hQ _ _ ⟨_, _, _, rfl, rfl, h⟩)
def wX11_pour (N : Nat)  (g : gFG) (f : gFF) (Q : Int32 → gFG → gFF → Prop) : Prop := wX0_isThere N g f (fun r4 g4 f4 => ((¬ r4 = 0) → wX0_takeFromLots N g4 f4 (fun r21 g21 f21 => wX0_clear N g21 f21 (fun g29 f29 => ((¬ r21 = (-1)) → wX11_pour_j44 N  Q r21 g29 f29) ∧ ((r21 = (-1)) → wX11_pour_j44 N  Q (-6) g29 f29)))) ∧ ((r4 = 0) → wX11_answered N (-6) g4 f4 (fun r13 g13 f13 => Q r13 g13 f13)))
theorem mX11_pour (hE : gInj layC ad) {N : Nat}  {g : gFG} {f : gFF} {Q : Int32 → gFG → gFF → Prop} (h : wX11_pour N  g f Q) : gCT l D cs layC ad (gZc ad tX tY sK sV) 4 yX11_pour cX11_pour 2 (some .int) [.ref (ad 0)] (g, f, 0) (gQi Q) := by
  refine met_walk (lv0 := [some (.ref (ad 0)), none]) ⟨hE, gZc_ok _ _ _ _ _⟩ (by decide) (Nat.le_of_ble_eq_true rfl) rfl (fun G Rt hG hQ => ?_)
  replace hG : gSim l D cs layC ad (gZc ad tX tY sK sV) 4 RX11 cX11_pour 2 (some .int) G Rt := hG
  unfold wX11_pour at h
  refine s_aload_n (n := 1) hG dX11_pour_0 rfl rfl ?_
  refine gtX11_54 (n := 4) hG dX11_pour_1 rfl ?_
  refine s_callV (n := 7) (st := []) hG (mX0_isThere hE h) ceX0_isThere lmX11_186 ⟨by decide, rfl, rfl⟩ rfl ⟨rfl, Nat.le_of_ble_eq_true rfl, by decide⟩ dX11_pour_4 rfl ?_
  rintro _ _ ⟨r4, g4, f4, rfl, rfl, h⟩
  refine s_if_ne (n := 10) (tgt := 17) hG dX11_pour_7 rfl rfl (fun c => ?_) (fun c => ?_)
  · replace h := h.1 c
    refine s_aload_n (n := 18) hG dX11_pour_17 rfl rfl ?_
    refine gtX11_54 (n := 21) hG dX11_pour_18 rfl ?_
    refine s_callV (n := 24) (st := []) hG (mX0_takeFromLots hE h) ceX0_takeFromLots lmX11_195 ⟨by decide, rfl, rfl⟩ rfl ⟨rfl, Nat.le_of_ble_eq_true rfl, by decide⟩ dX11_pour_21 rfl ?_
    rintro _ _ ⟨r21, g21, f21, rfl, rfl, h⟩
    refine s_istore_n (n := 25) (lv2 := [some (.ref (ad 0)), some (.int r21)]) hG dX11_pour_24 rfl rfl rfl ?_
    refine s_aload_n (n := 26) hG dX11_pour_25 rfl rfl ?_
    refine gtX11_54 (n := 29) hG dX11_pour_26 rfl ?_
    refine s_callV (n := 32) (st := []) hG (mX0_clear hE h) ceX0_clear lmX11_198 ⟨by decide, rfl, rfl⟩ rfl ⟨rfl, Nat.le_of_ble_eq_true rfl, by decide⟩ dX11_pour_29 rfl ?_
    rintro _ _ ⟨g29, f29, rfl, rfl, h⟩
    refine s_aload_n (n := 33) hG dX11_pour_32 rfl rfl ?_
    refine s_iload_n (n := 34) hG dX11_pour_33 rfl rfl ?_
    refine s_iconst (n := 35) hG dX11_pour_34 ki_m1 rfl ?_
    refine s_icmp_ne (n := 38) (tgt := 43) hG dX11_pour_35 rfl rfl (fun c => ?_) (fun c => ?_)
    · replace h := h.1 c
      refine s_iload_n (n := 44) hG dX11_pour_43 rfl rfl ?_
      exact s_wk hG (sX11_pour_j44 hE hG hQ  h) trivial
    · replace h := h.2 c
      refine s_bipush (n := 40) hG dX11_pour_38 kb_m6 rfl ?_
      refine s_goto (tgt := 44) hG dX11_pour_40 rfl ?_
      exact s_wk hG (sX11_pour_j44 hE hG hQ  h) trivial
  · replace h := h.2 c
    refine s_aload_n (n := 11) hG dX11_pour_10 rfl rfl ?_
    refine s_bipush (n := 13) hG dX11_pour_11 kb_m6 rfl ?_
    refine s_callV (n := 16) (st := []) hG (mX11_answered hE h) ceX11_answered lmX11_104 ⟨by decide, rfl, rfl⟩ rfl ⟨rfl, Nat.le_of_ble_eq_true rfl, by decide⟩ dX11_pour_13 rfl ?_
    rintro _ _ ⟨r13, g13, f13, rfl, rfl, h⟩
    exact s_iret hG dX11_pour_16 (hQ _ _ ⟨_, _, _, rfl, rfl, h⟩)
def wX11_left (N : Nat) (a1 : Int32) (g : gFG) (f : gFF) (Q : Int32 → gFG → gFF → Prop) : Prop := wX4_has N a1 g f (fun r5 g5 f5 => ((r5 = 0) → Q (-1) g5 f5) ∧ ((¬ r5 = 0) → wX4_unitsAt N a1 g5 f5 (fun r16 g16 f16 => Q r16 g16 f16)))
theorem mX11_left (hE : gInj layC ad) {N : Nat} {a1 : Int32} {g : gFG} {f : gFF} {Q : Int32 → gFG → gFF → Prop} (h : wX11_left N a1 g f Q) : gCT l D cs layC ad (gZc ad tX tY sK sV) 3 yX11_left cX11_left 2 (some .int) [.ref (ad 0), .int a1] (g, f, 0) (gQi Q) := by
  refine met_walk (lv0 := [some (.ref (ad 0)), some (.int a1)]) ⟨hE, gZc_ok _ _ _ _ _⟩ (by decide) (Nat.le_of_ble_eq_true rfl) rfl (fun G Rt hG hQ => ?_)
  replace hG : gSim l D cs layC ad (gZc ad tX tY sK sV) 3 RX11 cX11_left 2 (some .int) G Rt := hG
  unfold wX11_left at h
  refine s_aload_n (n := 1) hG dX11_left_0 rfl rfl ?_
  refine gtX11_43 (n := 4) hG dX11_left_1 rfl ?_
  refine s_iload_n (n := 5) hG dX11_left_4 rfl rfl ?_
  refine s_callV (n := 8) (st := []) hG (mX4_has hE h) ceX4_has lmX11_192 ⟨by decide, rfl, rfl⟩ rfl ⟨rfl, Nat.le_of_ble_eq_true rfl, by decide⟩ dX11_left_5 rfl ?_
  rintro _ _ ⟨r5, g5, f5, rfl, rfl, h⟩
  refine s_if_eq (n := 11) (tgt := 22) hG dX11_left_8 rfl rfl (fun c => ?_) (fun c => ?_)
  · replace h := h.1 c
    refine s_iconst (n := 23) hG dX11_left_22 ki_m1 rfl ?_
    exact s_iret hG dX11_left_23 (hQ _ _ ⟨_, _, _, rfl, rfl, h⟩)
  · replace h := h.2 c
    refine s_aload_n (n := 12) hG dX11_left_11 rfl rfl ?_
    refine gtX11_43 (n := 15) hG dX11_left_12 rfl ?_
    refine s_iload_n (n := 16) hG dX11_left_15 rfl rfl ?_
    refine s_callV (n := 19) (st := []) hG (mX4_unitsAt hE h) ceX4_unitsAt lmX11_201 ⟨by decide, rfl, rfl⟩ rfl ⟨rfl, Nat.le_of_ble_eq_true rfl, by decide⟩ dX11_left_16 rfl ?_
    rintro _ _ ⟨r16, g16, f16, rfl, rfl, h⟩
    refine s_goto (tgt := 23) hG dX11_left_19 rfl ?_
    exact s_iret hG dX11_left_23 (hQ _ _ ⟨_, _, _, rfl, rfl, h⟩)
def wX11_feed (N : Nat) (a1 : Int32) (a2 : Int32) (a3 : Int32) (a4 : Int32) (a5 : Int32) (g : gFG) (f : gFF) (Q : Int32 → gFG → gFF → Prop) : Prop := wX9_length N g f (fun r4 g4 f4 => (((r4 + 20) ≤ 300) → wX9_addNumber N a1 g4 f4 (fun g23 f23 => wX9_addNumber N a2 g23 f23 (fun g31 f31 => wX9_addNumber N a3 g31 f31 (fun g39 f39 => wX9_addNumber N a4 g39 f39 (fun g48 f48 => wX9_addNumber N a5 g48 f48 (fun g57 f57 => wX9_length N g57 f57 (fun r64 g64 f64 => Q r64 g64 f64))))))) ∧ ((¬ (r4 + 20) ≤ 300) → Q (-1) g4 f4))
theorem mX11_feed (hE : gInj layC ad) {N : Nat} {a1 : Int32} {a2 : Int32} {a3 : Int32} {a4 : Int32} {a5 : Int32} {g : gFG} {f : gFF} {Q : Int32 → gFG → gFF → Prop} (h : wX11_feed N a1 a2 a3 a4 a5 g f Q) : gCT l D cs layC ad (gZc ad tX tY sK sV) 2 yX11_feed cX11_feed 6 (some .int) [.ref (ad 0), .int a1, .int a2, .int a3, .int a4, .int a5] (g, f, 0) (gQi Q) := by
  refine met_walk (lv0 := [some (.ref (ad 0)), some (.int a1), some (.int a2), some (.int a3), some (.int a4), some (.int a5)]) ⟨hE, gZc_ok _ _ _ _ _⟩ (by decide) (Nat.le_of_ble_eq_true rfl) rfl (fun G Rt hG hQ => ?_)
  replace hG : gSim l D cs layC ad (gZc ad tX tY sK sV) 2 RX11 cX11_feed 6 (some .int) G Rt := hG
  unfold wX11_feed at h
  refine s_aload_n (n := 1) hG dX11_feed_0 rfl rfl ?_
  refine gtX11_58 (n := 4) hG dX11_feed_1 rfl ?_
  refine s_callV (n := 7) (st := []) hG (mX9_length hE h) ceX9_length lmX11_204 ⟨by decide, rfl, rfl⟩ rfl ⟨rfl, Nat.le_of_ble_eq_true rfl, by decide⟩ dX11_feed_4 rfl ?_
  rintro _ _ ⟨r4, g4, f4, rfl, rfl, h⟩
  refine s_bipush (n := 9) hG dX11_feed_7 kb_20 rfl ?_
  refine s_iadd (n := 10) hG dX11_feed_9 rfl ?_
  refine s_sipush (n := 13) hG dX11_feed_10 ks_300 rfl ?_
  refine s_icmp_le (n := 16) (tgt := 18) hG dX11_feed_13 rfl rfl (fun c => ?_) (fun c => ?_)
  · replace h := h.1 c
    refine s_aload_n (n := 19) hG dX11_feed_18 rfl rfl ?_
    refine gtX11_58 (n := 22) hG dX11_feed_19 rfl ?_
    refine s_iload_n (n := 23) hG dX11_feed_22 rfl rfl ?_
    refine s_callV (n := 26) (st := []) hG (mX9_addNumber hE h) ceX9_addNumber lmX11_207 ⟨by decide, rfl, rfl⟩ rfl ⟨rfl, Nat.le_of_ble_eq_true rfl, by decide⟩ dX11_feed_23 rfl ?_
    rintro _ _ ⟨g23, f23, rfl, rfl, h⟩
    refine s_aload_n (n := 27) hG dX11_feed_26 rfl rfl ?_
    refine gtX11_58 (n := 30) hG dX11_feed_27 rfl ?_
    refine s_iload_n (n := 31) hG dX11_feed_30 rfl rfl ?_
    refine s_callV (n := 34) (st := []) hG (mX9_addNumber hE h) ceX9_addNumber lmX11_207 ⟨by decide, rfl, rfl⟩ rfl ⟨rfl, Nat.le_of_ble_eq_true rfl, by decide⟩ dX11_feed_31 rfl ?_
    rintro _ _ ⟨g31, f31, rfl, rfl, h⟩
    refine s_aload_n (n := 35) hG dX11_feed_34 rfl rfl ?_
    refine gtX11_58 (n := 38) hG dX11_feed_35 rfl ?_
    refine s_iload_n (n := 39) hG dX11_feed_38 rfl rfl ?_
    refine s_callV (n := 42) (st := []) hG (mX9_addNumber hE h) ceX9_addNumber lmX11_207 ⟨by decide, rfl, rfl⟩ rfl ⟨rfl, Nat.le_of_ble_eq_true rfl, by decide⟩ dX11_feed_39 rfl ?_
    rintro _ _ ⟨g39, f39, rfl, rfl, h⟩
    refine s_aload_n (n := 43) hG dX11_feed_42 rfl rfl ?_
    refine gtX11_58 (n := 46) hG dX11_feed_43 rfl ?_
    refine s_iload (n := 48) hG dX11_feed_46 rfl rfl ?_
    refine s_callV (n := 51) (st := []) hG (mX9_addNumber hE h) ceX9_addNumber lmX11_207 ⟨by decide, rfl, rfl⟩ rfl ⟨rfl, Nat.le_of_ble_eq_true rfl, by decide⟩ dX11_feed_48 rfl ?_
    rintro _ _ ⟨g48, f48, rfl, rfl, h⟩
    refine s_aload_n (n := 52) hG dX11_feed_51 rfl rfl ?_
    refine gtX11_58 (n := 55) hG dX11_feed_52 rfl ?_
    refine s_iload (n := 57) hG dX11_feed_55 rfl rfl ?_
    refine s_callV (n := 60) (st := []) hG (mX9_addNumber hE h) ceX9_addNumber lmX11_207 ⟨by decide, rfl, rfl⟩ rfl ⟨rfl, Nat.le_of_ble_eq_true rfl, by decide⟩ dX11_feed_57 rfl ?_
    rintro _ _ ⟨g57, f57, rfl, rfl, h⟩
    refine s_aload_n (n := 61) hG dX11_feed_60 rfl rfl ?_
    refine gtX11_58 (n := 64) hG dX11_feed_61 rfl ?_
    refine s_callV (n := 67) (st := []) hG (mX9_length hE h) ceX9_length lmX11_204 ⟨by decide, rfl, rfl⟩ rfl ⟨rfl, Nat.le_of_ble_eq_true rfl, by decide⟩ dX11_feed_64 rfl ?_
    rintro _ _ ⟨r64, g64, f64, rfl, rfl, h⟩
    exact s_iret hG dX11_feed_67 (hQ _ _ ⟨_, _, _, rfl, rfl, h⟩)
  · replace h := h.2 c
    refine s_iconst (n := 17) hG dX11_feed_16 ki_m1 rfl ?_
    exact s_iret hG dX11_feed_17 (hQ _ _ ⟨_, _, _, rfl, rfl, h⟩)
def wX11_end (N : Nat) (a1 : Int32) (g : gFG) (f : gFF) (Q : Int32 → gFG → gFF → Prop) : Prop := ((a1 < 0) → Q (-1) g f) ∧ ((¬ a1 < 0) → wX9_length N g f (fun r9 g9 f9 => ((a1 ≤ r9) → wX9_cut N a1 g9 f9 (fun g22 f22 => Q a1 g22 f22)) ∧ ((¬ a1 ≤ r9) → Q (-1) g9 f9)))
theorem mX11_end (hE : gInj layC ad) {N : Nat} {a1 : Int32} {g : gFG} {f : gFF} {Q : Int32 → gFG → gFF → Prop} (h : wX11_end N a1 g f Q) : gCT l D cs layC ad (gZc ad tX tY sK sV) 2 yX11_end cX11_end 2 (some .int) [.ref (ad 0), .int a1] (g, f, 0) (gQi Q) := by
  refine met_walk (lv0 := [some (.ref (ad 0)), some (.int a1)]) ⟨hE, gZc_ok _ _ _ _ _⟩ (by decide) (Nat.le_of_ble_eq_true rfl) rfl (fun G Rt hG hQ => ?_)
  replace hG : gSim l D cs layC ad (gZc ad tX tY sK sV) 2 RX11 cX11_end 2 (some .int) G Rt := hG
  unfold wX11_end at h
  refine s_iload_n (n := 1) hG dX11_end_0 rfl rfl ?_
  refine s_if_lt (n := 4) (tgt := 15) hG dX11_end_1 rfl rfl (fun c => ?_) (fun c => ?_)
  · replace h := h.1 c
    refine s_iconst (n := 16) hG dX11_end_15 ki_m1 rfl ?_
    exact s_iret hG dX11_end_16 (hQ _ _ ⟨_, _, _, rfl, rfl, h⟩)
  · replace h := h.2 c
    refine s_iload_n (n := 5) hG dX11_end_4 rfl rfl ?_
    refine s_aload_n (n := 6) hG dX11_end_5 rfl rfl ?_
    refine gtX11_58 (n := 9) hG dX11_end_6 rfl ?_
    refine s_callV (n := 12) (st := [.int a1]) hG (mX9_length hE h) ceX9_length lmX11_204 ⟨by decide, rfl, rfl⟩ rfl ⟨rfl, Nat.le_of_ble_eq_true rfl, by decide⟩ dX11_end_9 rfl ?_
    rintro _ _ ⟨r9, g9, f9, rfl, rfl, h⟩
    refine s_icmp_le (n := 15) (tgt := 17) hG dX11_end_12 rfl rfl (fun c => ?_) (fun c => ?_)
    · replace h := h.1 c
      refine s_aload_n (n := 18) hG dX11_end_17 rfl rfl ?_
      refine gtX11_58 (n := 21) hG dX11_end_18 rfl ?_
      refine s_iload_n (n := 22) hG dX11_end_21 rfl rfl ?_
      refine s_callV (n := 25) (st := []) hG (mX9_cut hE h) ceX9_cut lmX11_211 ⟨by decide, rfl, rfl⟩ rfl ⟨rfl, Nat.le_of_ble_eq_true rfl, by decide⟩ dX11_end_22 rfl ?_
      rintro _ _ ⟨g22, f22, rfl, rfl, h⟩
      refine s_iload_n (n := 26) hG dX11_end_25 rfl rfl ?_
      exact s_iret hG dX11_end_26 (hQ _ _ ⟨_, _, _, rfl, rfl, h⟩)
    · replace h := h.2 c
      refine s_iconst (n := 16) hG dX11_end_15 ki_m1 rfl ?_
      exact s_iret hG dX11_end_16 (hQ _ _ ⟨_, _, _, rfl, rfl, h⟩)
def wX11_rules (N : Nat)  (g : gFG) (f : gFF) (Q : Int32 → gFG → gFF → Prop) : Prop := wX7_read N (g 3) g f (fun r9 g9 f9 => ∀ g12 : gFG, g12 = (va_up g9 0 r9) → wX9_cut N 0 g12 f9 (fun g20 f20 => (((g20 0) = (-1)) → ∀ g48 : gFG, g48 = (va_up g20 2 (g20 3)) → ∀ g53 : gFG, g53 = (va_up g48 3 (g20 2)) → wX6_length N (g53 2) g53 f20 (fun r61 g61 f61 => wX11_answered N r61 g61 f61 (fun r64 g64 f64 => Q r64 g64 f64))) ∧ ((¬ (g20 0) = (-1)) → wX11_answered N (-6) g20 f20 (fun r34 g34 f34 => Q r34 g34 f34))))
theorem mX11_rules (hE : gInj layC ad) {N : Nat}  {g : gFG} {f : gFF} {Q : Int32 → gFG → gFF → Prop} (h : wX11_rules N  g f Q) : gCT l D cs layC ad (gZc ad tX tY sK sV) 10 yX11_rules cX11_rules 2 (some .int) [.ref (ad 0)] (g, f, 0) (gQi Q) := by
  refine met_walk (lv0 := [some (.ref (ad 0)), none]) ⟨hE, gZc_ok _ _ _ _ _⟩ (by decide) (Nat.le_of_ble_eq_true rfl) rfl (fun G Rt hG hQ => ?_)
  replace hG : gSim l D cs layC ad (gZc ad tX tY sK sV) 10 RX11 cX11_rules 2 (some .int) G Rt := hG
  unfold wX11_rules at h
  refine s_aload_n (n := 1) hG dX11_rules_0 rfl rfl ?_
  refine s_aload_n (n := 2) hG dX11_rules_1 rfl rfl ?_
  refine gtX11_67 (n := 5) hG dX11_rules_2 rfl ?_
  refine s_aload_n (n := 6) hG dX11_rules_5 rfl rfl ?_
  refine gtX11_94 (n := 9) hG dX11_rules_6 rfl ?_
  refine s_callV (n := 12) (st := [.ref (ad 0)]) hG (mX7_read hE h) ceX7_read lmX11_214 ⟨by decide, rfl, rfl⟩ rfl ⟨rfl, Nat.le_of_ble_eq_true rfl, by decide⟩ dX11_rules_9 rfl ?_
  rintro _ _ ⟨r9, g9, f9, rfl, rfl, h⟩
  refine ptX11_97 (n := 15) hG dX11_rules_12 rfl ?_
  refine s_ng (fun g12 hg12 => ?_)
  replace h := h g12 hg12
  refine s_aload_n (n := 16) hG dX11_rules_15 rfl rfl ?_
  refine gtX11_58 (n := 19) hG dX11_rules_16 rfl ?_
  refine s_iconst (n := 20) hG dX11_rules_19 ki_0 rfl ?_
  refine s_callV (n := 23) (st := []) hG (mX9_cut hE h) ceX9_cut lmX11_211 ⟨by decide, rfl, rfl⟩ rfl ⟨rfl, Nat.le_of_ble_eq_true rfl, by decide⟩ dX11_rules_20 rfl ?_
  rintro _ _ ⟨g20, f20, rfl, rfl, h⟩
  refine s_aload_n (n := 24) hG dX11_rules_23 rfl rfl ?_
  refine gtX11_97 (n := 27) hG dX11_rules_24 rfl ?_
  refine s_iconst (n := 28) hG dX11_rules_27 ki_m1 rfl ?_
  refine s_icmp_eq (n := 31) (tgt := 38) hG dX11_rules_28 rfl rfl (fun c => ?_) (fun c => ?_)
  · replace h := h.1 c
    refine s_aload_n (n := 39) hG dX11_rules_38 rfl rfl ?_
    refine gtX11_90 (n := 42) hG dX11_rules_39 rfl ?_
    refine s_astore_n (n := 43) (lv2 := [some (.ref (ad 0)), some (.ref (ad (gbk (g20 2))))]) hG dX11_rules_42 rfl rfl rfl ?_
    refine s_aload_n (n := 44) hG dX11_rules_43 rfl rfl ?_
    refine s_aload_n (n := 45) hG dX11_rules_44 rfl rfl ?_
    refine gtX11_94 (n := 48) hG dX11_rules_45 rfl ?_
    refine ptX11_90 (n := 51) hG dX11_rules_48 rfl ?_
    refine s_ng (fun g48 hg48 => ?_)
    replace h := h g48 hg48
    refine s_aload_n (n := 52) hG dX11_rules_51 rfl rfl ?_
    refine s_aload_n (n := 53) hG dX11_rules_52 rfl rfl ?_
    refine ptX11_94 (n := 56) hG dX11_rules_53 rfl ?_
    refine s_ng (fun g53 hg53 => ?_)
    replace h := h g53 hg53
    refine s_aload_n (n := 57) hG dX11_rules_56 rfl rfl ?_
    refine s_aload_n (n := 58) hG dX11_rules_57 rfl rfl ?_
    refine gtX11_90 (n := 61) hG dX11_rules_58 rfl ?_
    refine s_callV (n := 64) (st := [.ref (ad 0)]) hG (mX6_length hE h) ceX6_length lmX11_218 (gbk_o _) rfl ⟨rfl, Nat.le_of_ble_eq_true rfl, by decide⟩ dX11_rules_61 rfl ?_
    rintro _ _ ⟨r61, g61, f61, rfl, rfl, h⟩
    refine s_callV (n := 67) (st := []) hG (mX11_answered hE h) ceX11_answered lmX11_104 ⟨by decide, rfl, rfl⟩ rfl ⟨rfl, Nat.le_of_ble_eq_true rfl, by decide⟩ dX11_rules_64 rfl ?_
    rintro _ _ ⟨r64, g64, f64, rfl, rfl, h⟩
    exact s_iret hG dX11_rules_67 (hQ _ _ ⟨_, _, _, rfl, rfl, h⟩)
  · replace h := h.2 c
    refine s_aload_n (n := 32) hG dX11_rules_31 rfl rfl ?_
    refine s_bipush (n := 34) hG dX11_rules_32 kb_m6 rfl ?_
    refine s_callV (n := 37) (st := []) hG (mX11_answered hE h) ceX11_answered lmX11_104 ⟨by decide, rfl, rfl⟩ rfl ⟨rfl, Nat.le_of_ble_eq_true rfl, by decide⟩ dX11_rules_34 rfl ?_
    rintro _ _ ⟨r34, g34, f34, rfl, rfl, h⟩
    exact s_iret hG dX11_rules_37 (hQ _ _ ⟨_, _, _, rfl, rfl, h⟩)
def wX11_fault (N : Nat)  (g : gFG) (f : gFF) (Q : Int32 → gFG → gFF → Prop) : Prop := Q (g 0) g f
theorem mX11_fault (hE : gInj layC ad) {N : Nat}  {g : gFG} {f : gFF} {Q : Int32 → gFG → gFF → Prop} (h : wX11_fault N  g f Q) : gCT l D cs layC ad (gZc ad tX tY sK sV) 1 yX11_fault cX11_fault 1 (some .int) [.ref (ad 0)] (g, f, 0) (gQi Q) := by
  refine met_walk (lv0 := [some (.ref (ad 0))]) ⟨hE, gZc_ok _ _ _ _ _⟩ (by decide) (Nat.le_of_ble_eq_true rfl) rfl (fun G Rt hG hQ => ?_)
  replace hG : gSim l D cs layC ad (gZc ad tX tY sK sV) 1 RX11 cX11_fault 1 (some .int) G Rt := hG
  unfold wX11_fault at h
  refine s_aload_n (n := 1) hG dX11_fault_0 rfl rfl ?_
  refine gtX11_97 (n := 4) hG dX11_fault_1 rfl ?_
  exact s_iret hG dX11_fault_4 (hQ _ _ ⟨_, _, _, rfl, rfl, h⟩)
def wX11_broken_l22 (N : Nat)   (Q : Int32 → gFG → gFF → Prop) : Nat → Int32 → gFG → gFF → Prop
  | 0, _, _, _ => False
  | n + 1, v2, g, f => wX6_length N (g 2) g f (fun r27 g27 f27 => ((r27 ≤ v2) → Q (-1) g27 f27) ∧ ((¬ r27 ≤ v2) → wX6_kindAt N (g27 2) v2 g27 f27 (fun r42 g42 f42 => wX6_firstAt N (g42 2) v2 g42 f42 (fun r50 g50 f50 => wX6_secondAt N (g50 2) v2 g50 f50 (fun r58 g58 f58 => wX3_isBroken N r42 r50 r58 g58 f58 (fun r61 g61 f61 => ((r61 = 0) → ∀ x2_69 : Int32, x2_69 = (v2 + 1) → wX11_broken_l22 N   Q n x2_69 g61 f61) ∧ ((¬ r61 = 0) → Q v2 g61 f61)))))))
theorem sX11_broken_l22 {G : gG} {Rt : Option Value → gSt → Prop} (hE : gInj layC ad) (hG : gSim l D cs layC ad (gZc ad tX tY sK sV) 7 RX11 cX11_broken 3 (some .int) G Rt) {Q : Int32 → gFG → gFF → Prop} (hQ : ∀ v S, gQi Q v S → Rt v S) {N : Nat}     : ∀ (n : Nat) (v2 : Int32) (g : gFG) (f : gFF), wX11_broken_l22 N   Q n v2 g f → G 22 [some (.ref (ad 0)), none, some (.int v2)] [] (g, f, 0) := by
  intro n
  induction n with
  | zero => intro _ _ _ h; unfold wX11_broken_l22 at h; exact h.elim
  | succ n ih =>
    intro v2 g f h
    unfold wX11_broken_l22 at h
    refine s_iload_n (n := 23) hG dX11_broken_22 rfl rfl ?_
    refine s_aload_n (n := 24) hG dX11_broken_23 rfl rfl ?_
    refine gtX11_90 (n := 27) hG dX11_broken_24 rfl ?_
    refine s_callV (n := 30) (st := [.int v2]) hG (mX6_length hE h) ceX6_length lmX11_218 (gbk_o _) rfl ⟨rfl, Nat.le_of_ble_eq_true rfl, by decide⟩ dX11_broken_27 rfl ?_
    rintro _ _ ⟨r27, g27, f27, rfl, rfl, h⟩
    refine s_icmp_ge (n := 33) (tgt := 75) hG dX11_broken_30 rfl rfl (fun c => ?_) (fun c => ?_)
    · replace h := h.1 c
      refine s_iconst (n := 76) hG dX11_broken_75 ki_m1 rfl ?_
      exact s_iret hG dX11_broken_76 (hQ _ _ ⟨_, _, _, rfl, rfl, h⟩)
    · replace h := h.2 c
      refine s_aload_n (n := 34) hG dX11_broken_33 rfl rfl ?_
      refine gtX11_76 (n := 37) hG dX11_broken_34 rfl ?_
      refine s_aload_n (n := 38) hG dX11_broken_37 rfl rfl ?_
      refine gtX11_90 (n := 41) hG dX11_broken_38 rfl ?_
      refine s_iload_n (n := 42) hG dX11_broken_41 rfl rfl ?_
      refine s_callV (n := 45) (st := [.ref (ad 9)]) hG (mX6_kindAt hE h) ceX6_kindAt lmX11_219 (gbk_o _) rfl ⟨rfl, Nat.le_of_ble_eq_true rfl, by decide⟩ dX11_broken_42 rfl ?_
      rintro _ _ ⟨r42, g42, f42, rfl, rfl, h⟩
      refine s_aload_n (n := 46) hG dX11_broken_45 rfl rfl ?_
      refine gtX11_90 (n := 49) hG dX11_broken_46 rfl ?_
      refine s_iload_n (n := 50) hG dX11_broken_49 rfl rfl ?_
      refine s_callV (n := 53) (st := [.int r42, .ref (ad 9)]) hG (mX6_firstAt hE h) ceX6_firstAt lmX11_222 (gbk_o _) rfl ⟨rfl, Nat.le_of_ble_eq_true rfl, by decide⟩ dX11_broken_50 rfl ?_
      rintro _ _ ⟨r50, g50, f50, rfl, rfl, h⟩
      refine s_aload_n (n := 54) hG dX11_broken_53 rfl rfl ?_
      refine gtX11_90 (n := 57) hG dX11_broken_54 rfl ?_
      refine s_iload_n (n := 58) hG dX11_broken_57 rfl rfl ?_
      refine s_callV (n := 61) (st := [.int r50, .int r42, .ref (ad 9)]) hG (mX6_secondAt hE h) ceX6_secondAt lmX11_225 (gbk_o _) rfl ⟨rfl, Nat.le_of_ble_eq_true rfl, by decide⟩ dX11_broken_58 rfl ?_
      rintro _ _ ⟨r58, g58, f58, rfl, rfl, h⟩
      refine s_callV (n := 64) (st := []) hG (mX3_isBroken hE h) ceX3_isBroken lmX11_228 ⟨by decide, rfl, rfl⟩ rfl ⟨rfl, Nat.le_of_ble_eq_true rfl, by decide⟩ dX11_broken_61 rfl ?_
      rintro _ _ ⟨r61, g61, f61, rfl, rfl, h⟩
      refine s_if_eq (n := 67) (tgt := 69) hG dX11_broken_64 rfl rfl (fun c => ?_) (fun c => ?_)
      · replace h := h.1 c
        obtain ⟨x2_69, hx2_69⟩ : ∃ z : Int32, z = (v2 + 1) := ⟨_, rfl⟩
        replace h := h x2_69 hx2_69
        refine s_iinc (n := 72) (v := x2_69) (lv2 := [some (.ref (ad 0)), none, some (.int x2_69)]) hG dX11_broken_69 ki_1 rfl hx2_69 rfl rfl rfl ?_
        refine s_goto (tgt := 22) hG dX11_broken_72 rfl ?_
        exact s_wk hG (ih _ _ _ h) ⟨rfl, rfl, trivial⟩
      · replace h := h.2 c
        refine s_iload_n (n := 68) hG dX11_broken_67 rfl rfl ?_
        exact s_iret hG dX11_broken_68 (hQ _ _ ⟨_, _, _, rfl, rfl, h⟩)
def wX11_broken (N : Nat) (a1 : Int32) (g : gFG) (f : gFF) (Q : Int32 → gFG → gFF → Prop) : Prop := ((0 ≤ a1) → wX1_refresh N g f (fun g10 f10 => wX8_refresh N g10 f10 (fun g17 f17 => wX11_broken_l22 N  Q N a1 g17 f17))) ∧ ((¬ 0 ≤ a1) → Q (-1) g f)
theorem mX11_broken (hE : gInj layC ad) {N : Nat} {a1 : Int32} {g : gFG} {f : gFF} {Q : Int32 → gFG → gFF → Prop} (h : wX11_broken N a1 g f Q) : gCT l D cs layC ad (gZc ad tX tY sK sV) 7 yX11_broken cX11_broken 3 (some .int) [.ref (ad 0), .int a1] (g, f, 0) (gQi Q) := by
  refine met_walk (lv0 := [some (.ref (ad 0)), some (.int a1), none]) ⟨hE, gZc_ok _ _ _ _ _⟩ (by decide) (Nat.le_of_ble_eq_true rfl) rfl (fun G Rt hG hQ => ?_)
  replace hG : gSim l D cs layC ad (gZc ad tX tY sK sV) 7 RX11 cX11_broken 3 (some .int) G Rt := hG
  unfold wX11_broken at h
  refine s_iload_n (n := 1) hG dX11_broken_0 rfl rfl ?_
  refine s_if_ge (n := 4) (tgt := 6) hG dX11_broken_1 rfl rfl (fun c => ?_) (fun c => ?_)
  · replace h := h.1 c
    refine s_aload_n (n := 7) hG dX11_broken_6 rfl rfl ?_
    refine gtX11_35 (n := 10) hG dX11_broken_7 rfl ?_
    refine s_callV (n := 13) (st := []) hG (mX1_refresh hE h) ceX1_refresh lmX11_128 ⟨by decide, rfl, rfl⟩ rfl ⟨rfl, Nat.le_of_ble_eq_true rfl, by decide⟩ dX11_broken_10 rfl ?_
    rintro _ _ ⟨g10, f10, rfl, rfl, h⟩
    refine s_aload_n (n := 14) hG dX11_broken_13 rfl rfl ?_
    refine gtX11_39 (n := 17) hG dX11_broken_14 rfl ?_
    refine s_callV (n := 20) (st := []) hG (mX8_refresh hE h) ceX8_refresh lmX11_152 ⟨by decide, rfl, rfl⟩ rfl ⟨rfl, Nat.le_of_ble_eq_true rfl, by decide⟩ dX11_broken_17 rfl ?_
    rintro _ _ ⟨g17, f17, rfl, rfl, h⟩
    refine s_iload_n (n := 21) hG dX11_broken_20 rfl rfl ?_
    refine s_istore_n (n := 22) (lv2 := [some (.ref (ad 0)), some (.int a1), some (.int a1)]) hG dX11_broken_21 rfl rfl rfl ?_
    exact s_wk hG (sX11_broken_l22 hE hG hQ  N _ _ _ h) ⟨rfl, rfl, trivial⟩
  · replace h := h.2 c
    refine s_iconst (n := 5) hG dX11_broken_4 ki_m1 rfl ?_
    exact s_iret hG dX11_broken_5 (hQ _ _ ⟨_, _, _, rfl, rfl, h⟩)
def wX11_vessel (N : Nat) (a1 : Int32) (g : gFG) (f : gFF) (Q : Int32 → gFG → gFF → Prop) : Prop := wX11_isWithin N a1 99999999 g f (fun r3 g3 f3 => ((¬ r3 = 0) → wX10_isFull N g3 f3 (fun r19 g19 f19 => ((r19 = 0) → wX10_add N a1 g19 f19 (fun r38 g38 f38 => wX11_answered N r38 g38 f38 (fun r41 g41 f41 => Q r41 g41 f41))) ∧ ((¬ r19 = 0) → wX11_answered N (-5) g19 f19 (fun r28 g28 f28 => Q r28 g28 f28)))) ∧ ((r3 = 0) → wX11_answered N (-1) g3 f3 (fun r11 g11 f11 => Q r11 g11 f11)))
theorem mX11_vessel (hE : gInj layC ad) {N : Nat} {a1 : Int32} {g : gFG} {f : gFF} {Q : Int32 → gFG → gFF → Prop} (h : wX11_vessel N a1 g f Q) : gCT l D cs layC ad (gZc ad tX tY sK sV) 3 yX11_vessel cX11_vessel 2 (some .int) [.ref (ad 0), .int a1] (g, f, 0) (gQi Q) := by
  refine met_walk (lv0 := [some (.ref (ad 0)), some (.int a1)]) ⟨hE, gZc_ok _ _ _ _ _⟩ (by decide) (Nat.le_of_ble_eq_true rfl) rfl (fun G Rt hG hQ => ?_)
  replace hG : gSim l D cs layC ad (gZc ad tX tY sK sV) 3 RX11 cX11_vessel 2 (some .int) G Rt := hG
  unfold wX11_vessel at h
  refine s_iload_n (n := 1) hG dX11_vessel_0 rfl rfl ?_
  refine s_ldc (n := 3) hG dX11_vessel_1 lcX11_232 rfl ?_
  refine s_callS (n := 6) (st := []) hG (mX11_isWithin hE h) ceX11_isWithin lmX11_162 rfl ⟨rfl, Nat.le_of_ble_eq_true rfl, by decide⟩ dX11_vessel_3 rfl ?_
  rintro _ _ ⟨r3, g3, f3, rfl, rfl, h⟩
  refine s_if_ne (n := 9) (tgt := 15) hG dX11_vessel_6 rfl rfl (fun c => ?_) (fun c => ?_)
  · replace h := h.1 c
    refine s_aload_n (n := 16) hG dX11_vessel_15 rfl rfl ?_
    refine gtX11_83 (n := 19) hG dX11_vessel_16 rfl ?_
    refine s_callV (n := 22) (st := []) hG (mX10_isFull hE h) ceX10_isFull lmX11_233 ⟨by decide, rfl, rfl⟩ rfl ⟨rfl, Nat.le_of_ble_eq_true rfl, by decide⟩ dX11_vessel_19 rfl ?_
    rintro _ _ ⟨r19, g19, f19, rfl, rfl, h⟩
    refine s_if_eq (n := 25) (tgt := 32) hG dX11_vessel_22 rfl rfl (fun c => ?_) (fun c => ?_)
    · replace h := h.1 c
      refine s_aload_n (n := 33) hG dX11_vessel_32 rfl rfl ?_
      refine s_aload_n (n := 34) hG dX11_vessel_33 rfl rfl ?_
      refine gtX11_83 (n := 37) hG dX11_vessel_34 rfl ?_
      refine s_iload_n (n := 38) hG dX11_vessel_37 rfl rfl ?_
      refine s_callV (n := 41) (st := [.ref (ad 0)]) hG (mX10_add hE h) ceX10_add lmX11_234 ⟨by decide, rfl, rfl⟩ rfl ⟨rfl, Nat.le_of_ble_eq_true rfl, by decide⟩ dX11_vessel_38 rfl ?_
      rintro _ _ ⟨r38, g38, f38, rfl, rfl, h⟩
      refine s_callV (n := 44) (st := []) hG (mX11_answered hE h) ceX11_answered lmX11_104 ⟨by decide, rfl, rfl⟩ rfl ⟨rfl, Nat.le_of_ble_eq_true rfl, by decide⟩ dX11_vessel_41 rfl ?_
      rintro _ _ ⟨r41, g41, f41, rfl, rfl, h⟩
      exact s_iret hG dX11_vessel_44 (hQ _ _ ⟨_, _, _, rfl, rfl, h⟩)
    · replace h := h.2 c
      refine s_aload_n (n := 26) hG dX11_vessel_25 rfl rfl ?_
      refine s_bipush (n := 28) hG dX11_vessel_26 kb_m5 rfl ?_
      refine s_callV (n := 31) (st := []) hG (mX11_answered hE h) ceX11_answered lmX11_104 ⟨by decide, rfl, rfl⟩ rfl ⟨rfl, Nat.le_of_ble_eq_true rfl, by decide⟩ dX11_vessel_28 rfl ?_
      rintro _ _ ⟨r28, g28, f28, rfl, rfl, h⟩
      exact s_iret hG dX11_vessel_31 (hQ _ _ ⟨_, _, _, rfl, rfl, h⟩)
  · replace h := h.2 c
    refine s_aload_n (n := 10) hG dX11_vessel_9 rfl rfl ?_
    refine s_iconst (n := 11) hG dX11_vessel_10 ki_m1 rfl ?_
    refine s_callV (n := 14) (st := []) hG (mX11_answered hE h) ceX11_answered lmX11_104 ⟨by decide, rfl, rfl⟩ rfl ⟨rfl, Nat.le_of_ble_eq_true rfl, by decide⟩ dX11_vessel_11 rfl ?_
    rintro _ _ ⟨r11, g11, f11, rfl, rfl, h⟩
    exact s_iret hG dX11_vessel_14 (hQ _ _ ⟨_, _, _, rfl, rfl, h⟩)
def wX11_like (N : Nat) (a1 : Int32) (a2 : Int32) (g : gFG) (f : gFF) (Q : Int32 → gFG → gFF → Prop) : Prop := wX10_has N a1 g f (fun r5 g5 f5 => ((r5 = 0) → Q (-1000) g5 f5) ∧ ((¬ r5 = 0) → wX10_has N a2 g5 f5 (fun r16 g16 f16 => ((¬ r16 = 0) → wX10_likeness N a1 a2 g16 f16 (fun r32 g32 f32 => Q r32 g32 f32)) ∧ ((r16 = 0) → Q (-1000) g16 f16))))
theorem mX11_like (hE : gInj layC ad) {N : Nat} {a1 : Int32} {a2 : Int32} {g : gFG} {f : gFF} {Q : Int32 → gFG → gFF → Prop} (h : wX11_like N a1 a2 g f Q) : gCT l D cs layC ad (gZc ad tX tY sK sV) 3 yX11_like cX11_like 3 (some .int) [.ref (ad 0), .int a1, .int a2] (g, f, 0) (gQi Q) := by
  refine met_walk (lv0 := [some (.ref (ad 0)), some (.int a1), some (.int a2)]) ⟨hE, gZc_ok _ _ _ _ _⟩ (by decide) (Nat.le_of_ble_eq_true rfl) rfl (fun G Rt hG hQ => ?_)
  replace hG : gSim l D cs layC ad (gZc ad tX tY sK sV) 3 RX11 cX11_like 3 (some .int) G Rt := hG
  unfold wX11_like at h
  refine s_aload_n (n := 1) hG dX11_like_0 rfl rfl ?_
  refine gtX11_83 (n := 4) hG dX11_like_1 rfl ?_
  refine s_iload_n (n := 5) hG dX11_like_4 rfl rfl ?_
  refine s_callV (n := 8) (st := []) hG (mX10_has hE h) ceX10_has lmX11_236 ⟨by decide, rfl, rfl⟩ rfl ⟨rfl, Nat.le_of_ble_eq_true rfl, by decide⟩ dX11_like_5 rfl ?_
  rintro _ _ ⟨r5, g5, f5, rfl, rfl, h⟩
  refine s_if_eq (n := 11) (tgt := 22) hG dX11_like_8 rfl rfl (fun c => ?_) (fun c => ?_)
  · replace h := h.1 c
    refine s_sipush (n := 25) hG dX11_like_22 ks_m1000 rfl ?_
    exact s_iret hG dX11_like_25 (hQ _ _ ⟨_, _, _, rfl, rfl, h⟩)
  · replace h := h.2 c
    refine s_aload_n (n := 12) hG dX11_like_11 rfl rfl ?_
    refine gtX11_83 (n := 15) hG dX11_like_12 rfl ?_
    refine s_iload_n (n := 16) hG dX11_like_15 rfl rfl ?_
    refine s_callV (n := 19) (st := []) hG (mX10_has hE h) ceX10_has lmX11_236 ⟨by decide, rfl, rfl⟩ rfl ⟨rfl, Nat.le_of_ble_eq_true rfl, by decide⟩ dX11_like_16 rfl ?_
    rintro _ _ ⟨r16, g16, f16, rfl, rfl, h⟩
    refine s_if_ne (n := 22) (tgt := 26) hG dX11_like_19 rfl rfl (fun c => ?_) (fun c => ?_)
    · replace h := h.1 c
      refine s_aload_n (n := 27) hG dX11_like_26 rfl rfl ?_
      refine gtX11_83 (n := 30) hG dX11_like_27 rfl ?_
      refine s_iload_n (n := 31) hG dX11_like_30 rfl rfl ?_
      refine s_iload_n (n := 32) hG dX11_like_31 rfl rfl ?_
      refine s_callV (n := 35) (st := []) hG (mX10_likeness hE h) ceX10_likeness lmX11_237 ⟨by decide, rfl, rfl⟩ rfl ⟨rfl, Nat.le_of_ble_eq_true rfl, by decide⟩ dX11_like_32 rfl ?_
      rintro _ _ ⟨r32, g32, f32, rfl, rfl, h⟩
      exact s_iret hG dX11_like_35 (hQ _ _ ⟨_, _, _, rfl, rfl, h⟩)
    · replace h := h.2 c
      refine s_sipush (n := 25) hG dX11_like_22 ks_m1000 rfl ?_
      exact s_iret hG dX11_like_25 (hQ _ _ ⟨_, _, _, rfl, rfl, h⟩)
def wX11_tell_j21 (N : Nat)  (Q : Int32 → gFG → gFF → Prop)  (g : gFG) (f : gFF) : Prop := wX11_answered N (-1) g f (fun r23 g23 f23 => Q r23 g23 f23)
theorem sX11_tell_j21 {G : gG} {Rt : Option Value → gSt → Prop} (hE : gInj layC ad) (hG : gSim l D cs layC ad (gZc ad tX tY sK sV) 3 RX11 cX11_tell 4 (some .int) G Rt) {Q : Int32 → gFG → gFF → Prop} (hQ : ∀ v S, gQi Q v S → Rt v S) {N : Nat}    {g : gFG} {f : gFF}  (h : wX11_tell_j21 N  Q  g f) : G 21 [some (.ref (ad 0)), none, none, none] [] (g, f, 0) := by
  unfold wX11_tell_j21 at h
  refine s_aload_n (n := 22) hG dX11_tell_21 rfl rfl ?_
  refine s_iconst (n := 23) hG dX11_tell_22 ki_m1 rfl ?_
  refine s_callV (n := 26) (st := []) hG (mX11_answered hE h) ceX11_answered lmX11_104 ⟨by decide, rfl, rfl⟩ rfl ⟨rfl, Nat.le_of_ble_eq_true rfl, by decide⟩ dX11_tell_23 rfl ?_
  rintro _ _ ⟨r23, g23, f23, rfl, rfl, h⟩
  exact s_iret hG dX11_tell_26 (hQ _ _ ⟨_, _, _, rfl, rfl, h⟩)
def wX11_tell (N : Nat) (a1 : Int32) (a2 : Int32) (a3 : Int32) (g : gFG) (f : gFF) (Q : Int32 → gFG → gFF → Prop) : Prop := ((a2 < (-1)) → wX11_tell_j21 N  Q g f) ∧ ((¬ a2 < (-1)) → ((8 ≤ a2) → wX11_tell_j21 N  Q g f) ∧ ((¬ 8 ≤ a2) → wX11_isWithin N a3 3000 g f (fun r15 g15 f15 => ((¬ r15 = 0) → wX10_has N a1 g15 f15 (fun r32 g32 f32 => ((¬ r32 = 0) → wX10_isToldFull N g32 f32 (fun r49 g49 f49 => ((r49 = 0) → wX10_addTold N a1 a2 a3 g49 f49 (fun r70 g70 f70 => wX11_answered N r70 g70 f70 (fun r73 g73 f73 => Q r73 g73 f73))) ∧ ((¬ r49 = 0) → wX11_answered N (-5) g49 f49 (fun r58 g58 f58 => Q r58 g58 f58)))) ∧ ((r32 = 0) → wX11_answered N (-2) g32 f32 (fun r41 g41 f41 => Q r41 g41 f41)))) ∧ ((r15 = 0) → wX11_tell_j21 N  Q g15 f15))))
theorem mX11_tell (hE : gInj layC ad) {N : Nat} {a1 : Int32} {a2 : Int32} {a3 : Int32} {g : gFG} {f : gFF} {Q : Int32 → gFG → gFF → Prop} (h : wX11_tell N a1 a2 a3 g f Q) : gCT l D cs layC ad (gZc ad tX tY sK sV) 3 yX11_tell cX11_tell 4 (some .int) [.ref (ad 0), .int a1, .int a2, .int a3] (g, f, 0) (gQi Q) := by
  refine met_walk (lv0 := [some (.ref (ad 0)), some (.int a1), some (.int a2), some (.int a3)]) ⟨hE, gZc_ok _ _ _ _ _⟩ (by decide) (Nat.le_of_ble_eq_true rfl) rfl (fun G Rt hG hQ => ?_)
  replace hG : gSim l D cs layC ad (gZc ad tX tY sK sV) 3 RX11 cX11_tell 4 (some .int) G Rt := hG
  unfold wX11_tell at h
  refine s_iload_n (n := 1) hG dX11_tell_0 rfl rfl ?_
  refine s_iconst (n := 2) hG dX11_tell_1 ki_m1 rfl ?_
  refine s_icmp_lt (n := 5) (tgt := 21) hG dX11_tell_2 rfl rfl (fun c => ?_) (fun c => ?_)
  · replace h := h.1 c
    exact s_wk hG (sX11_tell_j21 hE hG hQ  h) ⟨rfl, trivial⟩
  · replace h := h.2 c
    refine s_iload_n (n := 6) hG dX11_tell_5 rfl rfl ?_
    refine s_bipush (n := 8) hG dX11_tell_6 kb_8 rfl ?_
    refine s_icmp_ge (n := 11) (tgt := 21) hG dX11_tell_8 rfl rfl (fun c => ?_) (fun c => ?_)
    · replace h := h.1 c
      exact s_wk hG (sX11_tell_j21 hE hG hQ  h) ⟨rfl, trivial⟩
    · replace h := h.2 c
      refine s_iload_n (n := 12) hG dX11_tell_11 rfl rfl ?_
      refine s_sipush (n := 15) hG dX11_tell_12 ks_3000 rfl ?_
      refine s_callS (n := 18) (st := []) hG (mX11_isWithin hE h) ceX11_isWithin lmX11_162 rfl ⟨rfl, Nat.le_of_ble_eq_true rfl, by decide⟩ dX11_tell_15 rfl ?_
      rintro _ _ ⟨r15, g15, f15, rfl, rfl, h⟩
      refine s_if_ne (n := 21) (tgt := 27) hG dX11_tell_18 rfl rfl (fun c => ?_) (fun c => ?_)
      · replace h := h.1 c
        refine s_aload_n (n := 28) hG dX11_tell_27 rfl rfl ?_
        refine gtX11_83 (n := 31) hG dX11_tell_28 rfl ?_
        refine s_iload_n (n := 32) hG dX11_tell_31 rfl rfl ?_
        refine s_callV (n := 35) (st := []) hG (mX10_has hE h) ceX10_has lmX11_236 ⟨by decide, rfl, rfl⟩ rfl ⟨rfl, Nat.le_of_ble_eq_true rfl, by decide⟩ dX11_tell_32 rfl ?_
        rintro _ _ ⟨r32, g32, f32, rfl, rfl, h⟩
        refine s_if_ne (n := 38) (tgt := 45) hG dX11_tell_35 rfl rfl (fun c => ?_) (fun c => ?_)
        · replace h := h.1 c
          refine s_aload_n (n := 46) hG dX11_tell_45 rfl rfl ?_
          refine gtX11_83 (n := 49) hG dX11_tell_46 rfl ?_
          refine s_callV (n := 52) (st := []) hG (mX10_isToldFull hE h) ceX10_isToldFull lmX11_240 ⟨by decide, rfl, rfl⟩ rfl ⟨rfl, Nat.le_of_ble_eq_true rfl, by decide⟩ dX11_tell_49 rfl ?_
          rintro _ _ ⟨r49, g49, f49, rfl, rfl, h⟩
          refine s_if_eq (n := 55) (tgt := 62) hG dX11_tell_52 rfl rfl (fun c => ?_) (fun c => ?_)
          · replace h := h.1 c
            refine s_aload_n (n := 63) hG dX11_tell_62 rfl rfl ?_
            refine s_aload_n (n := 64) hG dX11_tell_63 rfl rfl ?_
            refine gtX11_83 (n := 67) hG dX11_tell_64 rfl ?_
            refine s_iload_n (n := 68) hG dX11_tell_67 rfl rfl ?_
            refine s_iload_n (n := 69) hG dX11_tell_68 rfl rfl ?_
            refine s_iload_n (n := 70) hG dX11_tell_69 rfl rfl ?_
            refine s_callV (n := 73) (st := [.ref (ad 0)]) hG (mX10_addTold hE h) ceX10_addTold lmX11_243 ⟨by decide, rfl, rfl⟩ rfl ⟨rfl, Nat.le_of_ble_eq_true rfl, by decide⟩ dX11_tell_70 rfl ?_
            rintro _ _ ⟨r70, g70, f70, rfl, rfl, h⟩
            refine s_callV (n := 76) (st := []) hG (mX11_answered hE h) ceX11_answered lmX11_104 ⟨by decide, rfl, rfl⟩ rfl ⟨rfl, Nat.le_of_ble_eq_true rfl, by decide⟩ dX11_tell_73 rfl ?_
            rintro _ _ ⟨r73, g73, f73, rfl, rfl, h⟩
            exact s_iret hG dX11_tell_76 (hQ _ _ ⟨_, _, _, rfl, rfl, h⟩)
          · replace h := h.2 c
            refine s_aload_n (n := 56) hG dX11_tell_55 rfl rfl ?_
            refine s_bipush (n := 58) hG dX11_tell_56 kb_m5 rfl ?_
            refine s_callV (n := 61) (st := []) hG (mX11_answered hE h) ceX11_answered lmX11_104 ⟨by decide, rfl, rfl⟩ rfl ⟨rfl, Nat.le_of_ble_eq_true rfl, by decide⟩ dX11_tell_58 rfl ?_
            rintro _ _ ⟨r58, g58, f58, rfl, rfl, h⟩
            exact s_iret hG dX11_tell_61 (hQ _ _ ⟨_, _, _, rfl, rfl, h⟩)
        · replace h := h.2 c
          refine s_aload_n (n := 39) hG dX11_tell_38 rfl rfl ?_
          refine s_bipush (n := 41) hG dX11_tell_39 kb_m2 rfl ?_
          refine s_callV (n := 44) (st := []) hG (mX11_answered hE h) ceX11_answered lmX11_104 ⟨by decide, rfl, rfl⟩ rfl ⟨rfl, Nat.le_of_ble_eq_true rfl, by decide⟩ dX11_tell_41 rfl ?_
          rintro _ _ ⟨r41, g41, f41, rfl, rfl, h⟩
          exact s_iret hG dX11_tell_44 (hQ _ _ ⟨_, _, _, rfl, rfl, h⟩)
      · replace h := h.2 c
        exact s_wk hG (sX11_tell_j21 hE hG hQ  h) ⟨rfl, trivial⟩
def wX11_of (N : Nat) (a1 : Int32) (a2 : Int32) (g : gFG) (f : gFF) (Q : Int32 → gFG → gFF → Prop) : Prop := wX10_has N a1 g f (fun r5 g5 f5 => ((r5 = 0) → Q (-2) g5 f5) ∧ ((¬ r5 = 0) → wX11_isWithin N a2 3000 g5 f5 (fun r15 g15 f15 => ((¬ r15 = 0) → wX10_workshopOf N a1 a2 g15 f15 (fun r30 g30 f30 => Q r30 g30 f30)) ∧ ((r15 = 0) → Q (-2) g15 f15))))
theorem mX11_of (hE : gInj layC ad) {N : Nat} {a1 : Int32} {a2 : Int32} {g : gFG} {f : gFF} {Q : Int32 → gFG → gFF → Prop} (h : wX11_of N a1 a2 g f Q) : gCT l D cs layC ad (gZc ad tX tY sK sV) 2 yX11_of cX11_of 3 (some .int) [.ref (ad 0), .int a1, .int a2] (g, f, 0) (gQi Q) := by
  refine met_walk (lv0 := [some (.ref (ad 0)), some (.int a1), some (.int a2)]) ⟨hE, gZc_ok _ _ _ _ _⟩ (by decide) (Nat.le_of_ble_eq_true rfl) rfl (fun G Rt hG hQ => ?_)
  replace hG : gSim l D cs layC ad (gZc ad tX tY sK sV) 2 RX11 cX11_of 3 (some .int) G Rt := hG
  unfold wX11_of at h
  refine s_aload_n (n := 1) hG dX11_of_0 rfl rfl ?_
  refine gtX11_83 (n := 4) hG dX11_of_1 rfl ?_
  refine s_iload_n (n := 5) hG dX11_of_4 rfl rfl ?_
  refine s_callV (n := 8) (st := []) hG (mX10_has hE h) ceX10_has lmX11_236 ⟨by decide, rfl, rfl⟩ rfl ⟨rfl, Nat.le_of_ble_eq_true rfl, by decide⟩ dX11_of_5 rfl ?_
  rintro _ _ ⟨r5, g5, f5, rfl, rfl, h⟩
  refine s_if_eq (n := 11) (tgt := 21) hG dX11_of_8 rfl rfl (fun c => ?_) (fun c => ?_)
  · replace h := h.1 c
    refine s_bipush (n := 23) hG dX11_of_21 kb_m2 rfl ?_
    exact s_iret hG dX11_of_23 (hQ _ _ ⟨_, _, _, rfl, rfl, h⟩)
  · replace h := h.2 c
    refine s_iload_n (n := 12) hG dX11_of_11 rfl rfl ?_
    refine s_sipush (n := 15) hG dX11_of_12 ks_3000 rfl ?_
    refine s_callS (n := 18) (st := []) hG (mX11_isWithin hE h) ceX11_isWithin lmX11_162 rfl ⟨rfl, Nat.le_of_ble_eq_true rfl, by decide⟩ dX11_of_15 rfl ?_
    rintro _ _ ⟨r15, g15, f15, rfl, rfl, h⟩
    refine s_if_ne (n := 21) (tgt := 24) hG dX11_of_18 rfl rfl (fun c => ?_) (fun c => ?_)
    · replace h := h.1 c
      refine s_aload_n (n := 25) hG dX11_of_24 rfl rfl ?_
      refine gtX11_83 (n := 28) hG dX11_of_25 rfl ?_
      refine s_iload_n (n := 29) hG dX11_of_28 rfl rfl ?_
      refine s_iload_n (n := 30) hG dX11_of_29 rfl rfl ?_
      refine s_callV (n := 33) (st := []) hG (mX10_workshopOf hE h) ceX10_workshopOf lmX11_247 ⟨by decide, rfl, rfl⟩ rfl ⟨rfl, Nat.le_of_ble_eq_true rfl, by decide⟩ dX11_of_30 rfl ?_
      rintro _ _ ⟨r30, g30, f30, rfl, rfl, h⟩
      exact s_iret hG dX11_of_33 (hQ _ _ ⟨_, _, _, rfl, rfl, h⟩)
    · replace h := h.2 c
      refine s_bipush (n := 23) hG dX11_of_21 kb_m2 rfl ?_
      exact s_iret hG dX11_of_23 (hQ _ _ ⟨_, _, _, rfl, rfl, h⟩)
def wX11_by (N : Nat) (a1 : Int32) (a2 : Int32) (g : gFG) (f : gFF) (Q : Int32 → gFG → gFF → Prop) : Prop := wX10_has N a1 g f (fun r5 g5 f5 => ((r5 = 0) → Q (-2) g5 f5) ∧ ((¬ r5 = 0) → wX11_isWithin N a2 3000 g5 f5 (fun r15 g15 f15 => ((¬ r15 = 0) → wX10_workshopByMarks N a1 a2 g15 f15 (fun r30 g30 f30 => Q r30 g30 f30)) ∧ ((r15 = 0) → Q (-2) g15 f15))))
theorem mX11_by (hE : gInj layC ad) {N : Nat} {a1 : Int32} {a2 : Int32} {g : gFG} {f : gFF} {Q : Int32 → gFG → gFF → Prop} (h : wX11_by N a1 a2 g f Q) : gCT l D cs layC ad (gZc ad tX tY sK sV) 5 yX11_by cX11_by 3 (some .int) [.ref (ad 0), .int a1, .int a2] (g, f, 0) (gQi Q) := by
  refine met_walk (lv0 := [some (.ref (ad 0)), some (.int a1), some (.int a2)]) ⟨hE, gZc_ok _ _ _ _ _⟩ (by decide) (Nat.le_of_ble_eq_true rfl) rfl (fun G Rt hG hQ => ?_)
  replace hG : gSim l D cs layC ad (gZc ad tX tY sK sV) 5 RX11 cX11_by 3 (some .int) G Rt := hG
  unfold wX11_by at h
  refine s_aload_n (n := 1) hG dX11_by_0 rfl rfl ?_
  refine gtX11_83 (n := 4) hG dX11_by_1 rfl ?_
  refine s_iload_n (n := 5) hG dX11_by_4 rfl rfl ?_
  refine s_callV (n := 8) (st := []) hG (mX10_has hE h) ceX10_has lmX11_236 ⟨by decide, rfl, rfl⟩ rfl ⟨rfl, Nat.le_of_ble_eq_true rfl, by decide⟩ dX11_by_5 rfl ?_
  rintro _ _ ⟨r5, g5, f5, rfl, rfl, h⟩
  refine s_if_eq (n := 11) (tgt := 21) hG dX11_by_8 rfl rfl (fun c => ?_) (fun c => ?_)
  · replace h := h.1 c
    refine s_bipush (n := 23) hG dX11_by_21 kb_m2 rfl ?_
    exact s_iret hG dX11_by_23 (hQ _ _ ⟨_, _, _, rfl, rfl, h⟩)
  · replace h := h.2 c
    refine s_iload_n (n := 12) hG dX11_by_11 rfl rfl ?_
    refine s_sipush (n := 15) hG dX11_by_12 ks_3000 rfl ?_
    refine s_callS (n := 18) (st := []) hG (mX11_isWithin hE h) ceX11_isWithin lmX11_162 rfl ⟨rfl, Nat.le_of_ble_eq_true rfl, by decide⟩ dX11_by_15 rfl ?_
    rintro _ _ ⟨r15, g15, f15, rfl, rfl, h⟩
    refine s_if_ne (n := 21) (tgt := 24) hG dX11_by_18 rfl rfl (fun c => ?_) (fun c => ?_)
    · replace h := h.1 c
      refine s_aload_n (n := 25) hG dX11_by_24 rfl rfl ?_
      refine gtX11_83 (n := 28) hG dX11_by_25 rfl ?_
      refine s_iload_n (n := 29) hG dX11_by_28 rfl rfl ?_
      refine s_iload_n (n := 30) hG dX11_by_29 rfl rfl ?_
      refine s_callV (n := 33) (st := []) hG (mX10_workshopByMarks hE h) ceX10_workshopByMarks lmX11_250 ⟨by decide, rfl, rfl⟩ rfl ⟨rfl, Nat.le_of_ble_eq_true rfl, by decide⟩ dX11_by_30 rfl ?_
      rintro _ _ ⟨r30, g30, f30, rfl, rfl, h⟩
      exact s_iret hG dX11_by_33 (hQ _ _ ⟨_, _, _, rfl, rfl, h⟩)
    · replace h := h.2 c
      refine s_bipush (n := 23) hG dX11_by_21 kb_m2 rfl ?_
      exact s_iret hG dX11_by_23 (hQ _ _ ⟨_, _, _, rfl, rfl, h⟩)
def wX11_count (N : Nat) (a1 : Int32) (g : gFG) (f : gFF) (Q : Int32 → gFG → gFF → Prop) : Prop := ((a1 = 0) → wX2_width N g f (fun r48 g48 f48 => Q r48 g48 f48)) ∧ ((¬ a1 = 0) → ((a1 = 1) → wX2_height N g f (fun r56 g56 f56 => Q r56 g56 f56)) ∧ ((¬ a1 = 1) → ((a1 = 2) → wX4_length N g f (fun r64 g64 f64 => Q r64 g64 f64)) ∧ ((¬ a1 = 2) → ((a1 = 3) → wX6_length N (g 2) g f (fun r72 g72 f72 => Q r72 g72 f72)) ∧ ((¬ a1 = 3) → ((a1 = 4) → wX10_length N g f (fun r80 g80 f80 => Q r80 g80 f80)) ∧ ((¬ a1 = 4) → ((a1 = 5) → wX10_toldLength N g f (fun r88 g88 f88 => Q r88 g88 f88)) ∧ ((¬ a1 = 5) → ((a1 = 6) → wX9_length N g f (fun r96 g96 f96 => Q r96 g96 f96)) ∧ ((¬ a1 = 6) → Q (-1) g f)))))))
theorem mX11_count (hE : gInj layC ad) {N : Nat} {a1 : Int32} {g : gFG} {f : gFF} {Q : Int32 → gFG → gFF → Prop} (h : wX11_count N a1 g f Q) : gCT l D cs layC ad (gZc ad tX tY sK sV) 2 yX11_count cX11_count 2 (some .int) [.ref (ad 0), .int a1] (g, f, 0) (gQi Q) := by
  refine met_walk (lv0 := [some (.ref (ad 0)), some (.int a1)]) ⟨hE, gZc_ok _ _ _ _ _⟩ (by decide) (Nat.le_of_ble_eq_true rfl) rfl (fun G Rt hG hQ => ?_)
  replace hG : gSim l D cs layC ad (gZc ad tX tY sK sV) 2 RX11 cX11_count 2 (some .int) G Rt := hG
  unfold wX11_count at h
  refine s_iload_n (n := 1) hG dX11_count_0 rfl rfl ?_
  by_cases c0 : a1 = 0
  · replace h := h.1 c0
    refine s_tabIn (v := 0) (tgt := 44) (off := 43) hG dX11_count_1 c0 (by decide) ?_
    refine s_aload_n (n := 45) hG dX11_count_44 rfl rfl ?_
    refine gtX11_31 (n := 48) hG dX11_count_45 rfl ?_
    refine s_callV (n := 51) (st := []) hG (mX2_width hE h) ceX2_width lmX11_253 ⟨by decide, rfl, rfl⟩ rfl ⟨rfl, Nat.le_of_ble_eq_true rfl, by decide⟩ dX11_count_48 rfl ?_
    rintro _ _ ⟨r48, g48, f48, rfl, rfl, h⟩
    exact s_iret hG dX11_count_51 (hQ _ _ ⟨_, _, _, rfl, rfl, h⟩)
  · replace h := h.2 c0
    by_cases c1 : a1 = 1
    · replace h := h.1 c1
      refine s_tabIn (v := 1) (tgt := 52) (off := 51) hG dX11_count_1 c1 (by decide) ?_
      refine s_aload_n (n := 53) hG dX11_count_52 rfl rfl ?_
      refine gtX11_31 (n := 56) hG dX11_count_53 rfl ?_
      refine s_callV (n := 59) (st := []) hG (mX2_height hE h) ceX2_height lmX11_256 ⟨by decide, rfl, rfl⟩ rfl ⟨rfl, Nat.le_of_ble_eq_true rfl, by decide⟩ dX11_count_56 rfl ?_
      rintro _ _ ⟨r56, g56, f56, rfl, rfl, h⟩
      exact s_iret hG dX11_count_59 (hQ _ _ ⟨_, _, _, rfl, rfl, h⟩)
    · replace h := h.2 c1
      by_cases c2 : a1 = 2
      · replace h := h.1 c2
        refine s_tabIn (v := 2) (tgt := 60) (off := 59) hG dX11_count_1 c2 (by decide) ?_
        refine s_aload_n (n := 61) hG dX11_count_60 rfl rfl ?_
        refine gtX11_43 (n := 64) hG dX11_count_61 rfl ?_
        refine s_callV (n := 67) (st := []) hG (mX4_length hE h) ceX4_length lmX11_259 ⟨by decide, rfl, rfl⟩ rfl ⟨rfl, Nat.le_of_ble_eq_true rfl, by decide⟩ dX11_count_64 rfl ?_
        rintro _ _ ⟨r64, g64, f64, rfl, rfl, h⟩
        exact s_iret hG dX11_count_67 (hQ _ _ ⟨_, _, _, rfl, rfl, h⟩)
      · replace h := h.2 c2
        by_cases c3 : a1 = 3
        · replace h := h.1 c3
          refine s_tabIn (v := 3) (tgt := 68) (off := 67) hG dX11_count_1 c3 (by decide) ?_
          refine s_aload_n (n := 69) hG dX11_count_68 rfl rfl ?_
          refine gtX11_90 (n := 72) hG dX11_count_69 rfl ?_
          refine s_callV (n := 75) (st := []) hG (mX6_length hE h) ceX6_length lmX11_218 (gbk_o _) rfl ⟨rfl, Nat.le_of_ble_eq_true rfl, by decide⟩ dX11_count_72 rfl ?_
          rintro _ _ ⟨r72, g72, f72, rfl, rfl, h⟩
          exact s_iret hG dX11_count_75 (hQ _ _ ⟨_, _, _, rfl, rfl, h⟩)
        · replace h := h.2 c3
          by_cases c4 : a1 = 4
          · replace h := h.1 c4
            refine s_tabIn (v := 4) (tgt := 76) (off := 75) hG dX11_count_1 c4 (by decide) ?_
            refine s_aload_n (n := 77) hG dX11_count_76 rfl rfl ?_
            refine gtX11_83 (n := 80) hG dX11_count_77 rfl ?_
            refine s_callV (n := 83) (st := []) hG (mX10_length hE h) ceX10_length lmX11_260 ⟨by decide, rfl, rfl⟩ rfl ⟨rfl, Nat.le_of_ble_eq_true rfl, by decide⟩ dX11_count_80 rfl ?_
            rintro _ _ ⟨r80, g80, f80, rfl, rfl, h⟩
            exact s_iret hG dX11_count_83 (hQ _ _ ⟨_, _, _, rfl, rfl, h⟩)
          · replace h := h.2 c4
            by_cases c5 : a1 = 5
            · replace h := h.1 c5
              refine s_tabIn (v := 5) (tgt := 84) (off := 83) hG dX11_count_1 c5 (by decide) ?_
              refine s_aload_n (n := 85) hG dX11_count_84 rfl rfl ?_
              refine gtX11_83 (n := 88) hG dX11_count_85 rfl ?_
              refine s_callV (n := 91) (st := []) hG (mX10_toldLength hE h) ceX10_toldLength lmX11_261 ⟨by decide, rfl, rfl⟩ rfl ⟨rfl, Nat.le_of_ble_eq_true rfl, by decide⟩ dX11_count_88 rfl ?_
              rintro _ _ ⟨r88, g88, f88, rfl, rfl, h⟩
              exact s_iret hG dX11_count_91 (hQ _ _ ⟨_, _, _, rfl, rfl, h⟩)
            · replace h := h.2 c5
              by_cases c6 : a1 = 6
              · replace h := h.1 c6
                refine s_tabIn (v := 6) (tgt := 92) (off := 91) hG dX11_count_1 c6 (by decide) ?_
                refine s_aload_n (n := 93) hG dX11_count_92 rfl rfl ?_
                refine gtX11_58 (n := 96) hG dX11_count_93 rfl ?_
                refine s_callV (n := 99) (st := []) hG (mX9_length hE h) ceX9_length lmX11_204 ⟨by decide, rfl, rfl⟩ rfl ⟨rfl, Nat.le_of_ble_eq_true rfl, by decide⟩ dX11_count_96 rfl ?_
                rintro _ _ ⟨r96, g96, f96, rfl, rfl, h⟩
                exact s_iret hG dX11_count_99 (hQ _ _ ⟨_, _, _, rfl, rfl, h⟩)
              · replace h := h.2 c6
                refine s_tabOut (tgt := 100) hG dX11_count_1 (by have hh := And.intro trivial trivial; have q0 := lv_neT c0 (show (0 : Int32).toInt = 0 from by decide); have q1 := lv_neT c1 (show (1 : Int32).toInt = 1 from by decide); have q2 := lv_neT c2 (show (2 : Int32).toInt = 2 from by decide); have q3 := lv_neT c3 (show (3 : Int32).toInt = 3 from by decide); have q4 := lv_neT c4 (show (4 : Int32).toInt = 4 from by decide); have q5 := lv_neT c5 (show (5 : Int32).toInt = 5 from by decide); have q6 := lv_neT c6 (show (6 : Int32).toInt = 6 from by decide);  omega) rfl ?_
                refine s_iconst (n := 101) hG dX11_count_100 ki_m1 rfl ?_
                exact s_iret hG dX11_count_101 (hQ _ _ ⟨_, _, _, rfl, rfl, h⟩)
def wX11_status (N : Nat)  (g : gFG) (f : gFF) (Q : Int32 → gFG → gFF → Prop) : Prop := Q (g 1) g f
theorem mX11_status (hE : gInj layC ad) {N : Nat}  {g : gFG} {f : gFF} {Q : Int32 → gFG → gFF → Prop} (h : wX11_status N  g f Q) : gCT l D cs layC ad (gZc ad tX tY sK sV) 1 yX11_status cX11_status 1 (some .int) [.ref (ad 0)] (g, f, 0) (gQi Q) := by
  refine met_walk (lv0 := [some (.ref (ad 0))]) ⟨hE, gZc_ok _ _ _ _ _⟩ (by decide) (Nat.le_of_ble_eq_true rfl) rfl (fun G Rt hG hQ => ?_)
  replace hG : gSim l D cs layC ad (gZc ad tX tY sK sV) 1 RX11 cX11_status 1 (some .int) G Rt := hG
  unfold wX11_status at h
  refine s_aload_n (n := 1) hG dX11_status_0 rfl rfl ?_
  refine gtX11_101 (n := 4) hG dX11_status_1 rfl ?_
  exact s_iret hG dX11_status_4 (hQ _ _ ⟨_, _, _, rfl, rfl, h⟩)
end GWf
