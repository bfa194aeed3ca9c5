section GWe
variable {l : Launch} {D : va_G} {cs : gCs} {ad : Nat → Nat} {tX tY : Nat} {sK sV : Nat → Nat}
def wX5_goOn (N : Nat) (P : Int32 → Int32 → gFG → gFF → (gFG → gFF → Prop) → Prop) (a1 : Int32) (a2 : Int32) (a3 : Int32) (g : gFG) (f : gFF) (Q : gFG → gFF → Prop) : Prop := wX5_staysBelow N a1 a2 a3 g f (fun r4 g4 f4 => ((r4 = 0) → Q g4 f4) ∧ ((¬ r4 = 0) → (vp_in a1 6) ∧ (∀ f16 : gFF, f16 = (va_up f4 29 (upd (f4 29) a1.toNatClampNeg a2)) → P (a1 + 1) a3 g4 f16 (fun g22 f22 => Q g22 f22))))
theorem mX5_goOn (hE : gInj layC ad) {d0 : Nat} (hd0 : 4 ≤ d0) {P : Int32 → Int32 → gFG → gFF → (gFG → gFF → Prop) → Prop} (hP : ∀ (a1 a2 : Int32) (g : gFG) (f : gFF) (Q : gFG → gFF → Prop), P a1 a2 g f Q → gCT l D cs layC ad (gZc ad tX tY sK sV) d0 yX5_search cX5_search 5 none [.ref (ad 5), .int a1, .int a2] (g, f, 0) (gQv Q)) {N : Nat} {a1 : Int32} {a2 : Int32} {a3 : Int32} {g : gFG} {f : gFF} {Q : gFG → gFF → Prop} (h : wX5_goOn N P a1 a2 a3 g f Q) : gCT l D cs layC ad (gZc ad tX tY sK sV) (d0 + 1) yX5_goOn cX5_goOn 4 none [.ref (ad 5), .int a1, .int a2, .int a3] (g, f, 0) (gQv Q) := by
  refine met_walk (lv0 := [some (.ref (ad 5)), some (.int a1), some (.int a2), some (.int a3)]) ⟨hE, gZc_ok _ _ _ _ _⟩ (by decide) (Nat.le_of_ble_eq_true rfl) rfl (fun G Rt hG hQ => ?_)
  replace hG : gSim l D cs layC ad (gZc ad tX tY sK sV) (d0 + 1) RX5 cX5_goOn 4 none G Rt := hG
  unfold wX5_goOn at h
  refine s_aload_n (n := 1) hG dX5_goOn_0 rfl rfl ?_
  refine s_iload_n (n := 2) hG dX5_goOn_1 rfl rfl ?_
  refine s_iload_n (n := 3) hG dX5_goOn_2 rfl rfl ?_
  refine s_iload_n (n := 4) hG dX5_goOn_3 rfl rfl ?_
  refine s_callV (n := 7) (st := []) hG (mX5_staysBelow hE h) ceX5_staysBelow lmX5_105 ⟨by decide, rfl, rfl⟩ rfl ⟨rfl, Nat.le_of_ble_eq_true rfl, by omega⟩ dX5_goOn_4 rfl ?_
  rintro _ _ ⟨r4, g4, f4, rfl, rfl, h⟩
  refine s_if_eq (n := 10) (tgt := 25) hG dX5_goOn_7 rfl rfl (fun c => ?_) (fun c => ?_)
  · replace h := h.1 c
    exact s_vret hG dX5_goOn_25 (hQ _ _ ⟨_, _, rfl, rfl, h⟩)
  · replace h := h.2 c
    refine s_aload_n (n := 11) hG dX5_goOn_10 rfl rfl ?_
    refine gtX5_29 (n := 14) hG dX5_goOn_11 rfl ?_
    refine s_iload_n (n := 15) hG dX5_goOn_14 rfl rfl ?_
    refine s_iload_n (n := 16) hG dX5_goOn_15 rfl rfl ?_
    obtain ⟨hin, h⟩ := h
    refine s_iast (n := 17) hG dX5_goOn_16 (gaC_29 hin) rfl ?_
    refine s_nf (fun f16 hf16 => ?_)
    replace h := h f16 hf16
    refine s_aload_n (n := 18) hG dX5_goOn_17 rfl rfl ?_
    refine s_iload_n (n := 19) hG dX5_goOn_18 rfl rfl ?_
    refine s_iconst (n := 20) hG dX5_goOn_19 ki_1 rfl ?_
    refine s_iadd (n := 21) hG dX5_goOn_20 rfl ?_
    refine s_iload_n (n := 22) hG dX5_goOn_21 rfl rfl ?_
    refine s_callV (n := 25) (st := []) hG (hP _ _ _ _ _ h) ceX5_search lmX5_64 ⟨by decide, rfl, rfl⟩ rfl ⟨rfl, Nat.le_of_ble_eq_true rfl, by omega⟩ dX5_goOn_22 rfl ?_
    rintro _ _ ⟨g22, f22, rfl, rfl, h⟩
    exact s_vret hG dX5_goOn_25 (hQ _ _ ⟨_, _, rfl, rfl, h⟩)
def wX5_searchB_l45 (N : Nat) (P : Int32 → Int32 → gFG → gFF → (gFG → gFF → Prop) → Prop) (v1 : Int32) (v2 : Int32) (v3 : Int32)  (Q : gFG → gFF → Prop) : Nat → Int32 → gFG → gFF → Prop
  | 0, _, _, _ => False
  | n + 1, v4, g, f => ((v3 < v4) → Q g f) ∧ ((¬ v3 < v4) → wX5_goOn N P v1 v4 (v2 - v4) g f (fun g59 f59 => ∀ x4_62 : Int32, x4_62 = (v4 + 1) → wX5_searchB_l45 N P v1 v2 v3  Q n x4_62 g59 f59))
theorem sX5_searchB_l45 {G : gG} {Rt : Option Value → gSt → Prop} (hE : gInj layC ad) {d0 : Nat} (hd0 : 4 ≤ d0) {P : Int32 → Int32 → gFG → gFF → (gFG → gFF → Prop) → Prop} (hP : ∀ (a1 a2 : Int32) (g : gFG) (f : gFF) (Q : gFG → gFF → Prop), P a1 a2 g f Q → gCT l D cs layC ad (gZc ad tX tY sK sV) d0 yX5_search cX5_search 5 none [.ref (ad 5), .int a1, .int a2] (g, f, 0) (gQv Q)) (hG : gSim l D cs layC ad (gZc ad tX tY sK sV) (d0 + 2) RX5 cX5_search 5 none G Rt) {Q : gFG → gFF → Prop} (hQ : ∀ v S, gQv Q v S → Rt v S) {N : Nat} {v1 : Int32} {v2 : Int32} {v3 : Int32}    : ∀ (n : Nat) (v4 : Int32) (g : gFG) (f : gFF), wX5_searchB_l45 N P v1 v2 v3  Q n v4 g f → G 45 [some (.ref (ad 5)), some (.int v1), some (.int v2), some (.int v3), some (.int v4)] [] (g, f, 0) := by
  intro n
  induction n with
  | zero => intro _ _ _ h; unfold wX5_searchB_l45 at h; exact h.elim
  | succ n ih =>
    intro v4 g f h
    unfold wX5_searchB_l45 at h
    refine s_iload (n := 47) hG dX5_search_45 rfl rfl ?_
    refine s_iload_n (n := 48) hG dX5_search_47 rfl rfl ?_
    refine s_icmp_gt (n := 51) (tgt := 68) hG dX5_search_48 rfl rfl (fun c => ?_) (fun c => ?_)
    · replace h := h.1 c
      exact s_vret hG dX5_search_68 (hQ _ _ ⟨_, _, rfl, rfl, h⟩)
    · replace h := h.2 c
      refine s_aload_n (n := 52) hG dX5_search_51 rfl rfl ?_
      refine s_iload_n (n := 53) hG dX5_search_52 rfl rfl ?_
      refine s_iload (n := 55) hG dX5_search_53 rfl rfl ?_
      refine s_iload_n (n := 56) hG dX5_search_55 rfl rfl ?_
      refine s_iload (n := 58) hG dX5_search_56 rfl rfl ?_
      refine s_isub (n := 59) hG dX5_search_58 rfl ?_
      refine s_callV (n := 62) (st := []) hG (mX5_goOn hE hd0 hP h) ceX5_goOn lmX5_102 ⟨by decide, rfl, rfl⟩ rfl ⟨rfl, Nat.le_of_ble_eq_true rfl, by omega⟩ dX5_search_59 rfl ?_
      rintro _ _ ⟨g59, f59, rfl, rfl, h⟩
      obtain ⟨x4_62, hx4_62⟩ : ∃ z : Int32, z = (v4 + 1) := ⟨_, rfl⟩
      replace h := h x4_62 hx4_62
      refine s_iinc (n := 65) (v := x4_62) (lv2 := [some (.ref (ad 5)), some (.int v1), some (.int v2), some (.int v3), some (.int x4_62)]) hG dX5_search_62 ki_1 rfl hx4_62 rfl rfl rfl ?_
      refine s_goto (tgt := 45) hG dX5_search_65 rfl ?_
      exact s_wk hG (ih _ _ _ h) ⟨rfl, rfl, rfl, rfl, rfl, trivial⟩
def wX5_searchB (N : Nat) (P : Int32 → Int32 → gFG → gFF → (gFG → gFF → Prop) → Prop) (a1 : Int32) (a2 : Int32) (g : gFG) (f : gFF) (Q : gFG → gFF → Prop) : Prop := ((a1 < ((g 14) - 1)) → wX4_unitsAt N a1 g f (fun r22 g22 f22 => wJ9_min_7cf53 N a2 r22 g22 f22 (fun r25 g25 f25 => ∀ i38 : Int32, i38 = (a1 + 1) → (vp_in i38 7) ∧ (wJ9_max_7cf53 N 0 (a2 - (f25 28 i38.toNatClampNeg)) g25 f25 (fun r40 g40 f40 => wX5_searchB_l45 N P a1 a2 r25 Q N r40 g40 f40))))) ∧ ((¬ a1 < ((g 14) - 1)) → wX5_shareOut N a2 g f (fun g12 f12 => Q g12 f12))
theorem mX5_searchB (hE : gInj layC ad) {d0 : Nat} (hd0 : 4 ≤ d0) {P : Int32 → Int32 → gFG → gFF → (gFG → gFF → Prop) → Prop} (hP : ∀ (a1 a2 : Int32) (g : gFG) (f : gFF) (Q : gFG → gFF → Prop), P a1 a2 g f Q → gCT l D cs layC ad (gZc ad tX tY sK sV) d0 yX5_search cX5_search 5 none [.ref (ad 5), .int a1, .int a2] (g, f, 0) (gQv Q)) {N : Nat} {a1 : Int32} {a2 : Int32} {g : gFG} {f : gFF} {Q : gFG → gFF → Prop} (h : wX5_searchB N P a1 a2 g f Q) : gCT l D cs layC ad (gZc ad tX tY sK sV) (d0 + 2) yX5_search cX5_search 5 none [.ref (ad 5), .int a1, .int a2] (g, f, 0) (gQv Q) := by
  refine met_walk (lv0 := [some (.ref (ad 5)), some (.int a1), some (.int a2), none, none]) ⟨hE, gZc_ok _ _ _ _ _⟩ (by decide) (Nat.le_of_ble_eq_true rfl) rfl (fun G Rt hG hQ => ?_)
  replace hG : gSim l D cs layC ad (gZc ad tX tY sK sV) (d0 + 2) RX5 cX5_search 5 none G Rt := hG
  unfold wX5_searchB at h
  refine s_iload_n (n := 1) hG dX5_search_0 rfl rfl ?_
  refine s_aload_n (n := 2) hG dX5_search_1 rfl rfl ?_
  refine gtX5_35 (n := 5) hG dX5_search_2 rfl ?_
  refine s_iconst (n := 6) hG dX5_search_5 ki_1 rfl ?_
  refine s_isub (n := 7) hG dX5_search_6 rfl ?_
  refine s_icmp_lt (n := 10) (tgt := 16) hG dX5_search_7 rfl rfl (fun c => ?_) (fun c => ?_)
  · replace h := h.1 c
    refine s_iload_n (n := 17) hG dX5_search_16 rfl rfl ?_
    refine s_aload_n (n := 18) hG dX5_search_17 rfl rfl ?_
    refine gtX5_49 (n := 21) hG dX5_search_18 rfl ?_
    refine s_iload_n (n := 22) hG dX5_search_21 rfl rfl ?_
    refine s_callV (n := 25) (st := [.int a2]) hG (mX4_unitsAt hE h) ceX4_unitsAt lmX5_92 ⟨by decide, rfl, rfl⟩ rfl ⟨rfl, Nat.le_of_ble_eq_true rfl, by omega⟩ dX5_search_22 rfl ?_
    rintro _ _ ⟨r22, g22, f22, rfl, rfl, h⟩
    refine s_callS (n := 28) (st := []) hG (mJ9_min_7cf53 hE h) ceJ9_min_7cf53 lmX5_79 rfl ⟨rfl, Nat.le_of_ble_eq_true rfl, by omega⟩ dX5_search_25 rfl ?_
    rintro _ _ ⟨r25, g25, f25, rfl, rfl, h⟩
    refine s_istore_n (n := 29) (lv2 := [some (.ref (ad 5)), some (.int a1), some (.int a2), some (.int r25), none]) hG dX5_search_28 rfl rfl rfl ?_
    refine s_iconst (n := 30) hG dX5_search_29 ki_0 rfl ?_
    refine s_iload_n (n := 31) hG dX5_search_30 rfl rfl ?_
    refine s_aload_n (n := 32) hG dX5_search_31 rfl rfl ?_
    refine gtX5_26 (n := 35) hG dX5_search_32 rfl ?_
    refine s_iload_n (n := 36) hG dX5_search_35 rfl rfl ?_
    refine s_iconst (n := 37) hG dX5_search_36 ki_1 rfl ?_
    refine s_iadd (n := 38) hG dX5_search_37 rfl ?_
    refine s_topi (fun i38 hi38 => ?_)
    replace h := h i38 hi38
    obtain ⟨hin, h⟩ := h
    refine s_iald (n := 39) hG dX5_search_38 (gaC_28 hin) rfl ?_
    refine s_isub (n := 40) hG dX5_search_39 rfl ?_
    refine s_callS (n := 43) (st := []) hG (mJ9_max_7cf53 hE h) ceJ9_max_7cf53 lmX5_73 rfl ⟨rfl, Nat.le_of_ble_eq_true rfl, by omega⟩ dX5_search_40 rfl ?_
    rintro _ _ ⟨r40, g40, f40, rfl, rfl, h⟩
    refine s_istore (n := 45) (lv2 := [some (.ref (ad 5)), some (.int a1), some (.int a2), some (.int r25), some (.int r40)]) hG dX5_search_43 rfl rfl rfl ?_
    exact s_wk hG (sX5_searchB_l45 hE hd0 hP hG hQ  N _ _ _ h) ⟨rfl, rfl, rfl, rfl, rfl, trivial⟩
  · replace h := h.2 c
    refine s_aload_n (n := 11) hG dX5_search_10 rfl rfl ?_
    refine s_iload_n (n := 12) hG dX5_search_11 rfl rfl ?_
    refine s_callV (n := 15) (st := []) hG (mX5_shareOut hE h) ceX5_shareOut lmX5_99 ⟨by decide, rfl, rfl⟩ rfl ⟨rfl, Nat.le_of_ble_eq_true rfl, by omega⟩ dX5_search_12 rfl ?_
    rintro _ _ ⟨g12, f12, rfl, rfl, h⟩
    exact s_vret hG dX5_search_15 (hQ _ _ ⟨_, _, rfl, rfl, h⟩)
def wX5_search (N : Nat) : Nat → Int32 → Int32 → gFG → gFF → (gFG → gFF → Prop) → Prop
  | 0, _, _, _, _, _ => False
  | k + 1, a1, a2, g, f, Q => wX5_searchB N (wX5_search N k) a1 a2 g f Q
theorem mX5_search (hE : gInj layC ad) {N : Nat} : ∀ (k : Nat) {a1 a2 : Int32} {g : gFG} {f : gFF} {Q : gFG → gFF → Prop}, wX5_search N k a1 a2 g f Q → gCT l D cs layC ad (gZc ad tX tY sK sV) (4 + 2 * k) yX5_search cX5_search 5 none [.ref (ad 5), .int a1, .int a2] (g, f, 0) (gQv Q) := by
  intro k
  induction k with
  | zero => intro a1 a2 g f Q h; unfold wX5_search at h; exact h.elim
  | succ k ih =>
    intro a1 a2 g f Q h
    unfold wX5_search at h
    exact mX5_searchB (d0 := 4 + 2 * k) hE (by omega) (fun _ _ _ _ _ h => ih h) h
def wX5_find (N : Nat) (a1 : Int32) (a2 : Int32) (a3 : Int32) (a4 : Int32) (g : gFG) (f : gFF) (Q : Int32 → gFG → gFF → Prop) : Prop := ∀ g2 : gFG, g2 = (va_up g 17 0) → ∀ y15 : Int32, y15 = (a1 * 1000) → (vp_in 0 4) ∧ (∀ f15 : gFF, f15 = (va_up f 27 (upd (f 27) (0 : Int32).toNatClampNeg y15)) → ∀ y24 : Int32, y24 = (a1 * a3) → (vp_in 1 4) ∧ (∀ f24 : gFF, f24 = (va_up f15 27 (upd (f15 27) (1 : Int32).toNatClampNeg y24)) → ∀ y37 : Int32, y37 = (a1 * (1000 - a2)) → (vp_in 2 4) ∧ (∀ f37 : gFF, f37 = (va_up f24 27 (upd (f24 27) (2 : Int32).toNatClampNeg y37)) → ∀ y47 : Int32, y47 = (a1 * a4) → (vp_in 3 4) ∧ (∀ f47 : gFF, f47 = (va_up f37 27 (upd (f37 27) (3 : Int32).toNatClampNeg y47)) → wX5_lastOfLots N g2 f47 (fun r50 g50 f50 => ∀ g53 : gFG, g53 = (va_up g50 14 r50) → wX5_weigh N g53 f50 (fun g57 f57 => wX5_foresee N a1 g57 f57 (fun g62 f62 => wX5_search N 7 0 a1 g62 f62 (fun g68 f68 => (gz (g68 17)) ∧ Q (g68 17) g68 f68))))))))
theorem mX5_find (hE : gInj layC ad) {N : Nat} {a1 : Int32} {a2 : Int32} {a3 : Int32} {a4 : Int32} {g : gFG} {f : gFF} {Q : Int32 → gFG → gFF → Prop} (h : wX5_find N a1 a2 a3 a4 g f Q) : gCT l D cs layC ad (gZc ad tX tY sK sV) 19 yX5_find cX5_find 5 (some .boolean) [.ref (ad 5), .int a1, .int a2, .int a3, .int a4] (g, f, 0) (gQi Q) := by
  refine met_walk (lv0 := [some (.ref (ad 5)), some (.int a1), some (.int a2), some (.int a3), some (.int a4)]) ⟨hE, gZc_ok _ _ _ _ _⟩ (by decide) (Nat.le_of_ble_eq_true rfl) rfl (fun G Rt hG hQ => ?_)
  replace hG : gSim l D cs layC ad (gZc ad tX tY sK sV) 19 RX5 cX5_find 5 (some .boolean) G Rt := hG
  unfold wX5_find at h
  refine s_aload_n (n := 1) hG dX5_find_0 rfl rfl ?_
  refine s_iconst (n := 2) hG dX5_find_1 ki_0 rfl ?_
  refine ptX5_45 (n := 5) hG gz_0 dX5_find_2 rfl ?_
  refine s_ng (fun g2 hg2 => ?_)
  replace h := h g2 hg2
  refine s_aload_n (n := 6) hG dX5_find_5 rfl rfl ?_
  refine gtX5_22 (n := 9) hG dX5_find_6 rfl ?_
  refine s_iconst (n := 10) hG dX5_find_9 ki_0 rfl ?_
  refine s_iload_n (n := 11) hG dX5_find_10 rfl rfl ?_
  refine s_sipush (n := 14) hG dX5_find_11 ks_1000 rfl ?_
  refine s_imul (n := 15) hG dX5_find_14 rfl ?_
  refine s_topi (fun y15 hy15 => ?_)
  replace h := h y15 hy15
  obtain ⟨hin, h⟩ := h
  refine s_iast (n := 16) hG dX5_find_15 (gaC_27 hin) rfl ?_
  refine s_nf (fun f15 hf15 => ?_)
  replace h := h f15 hf15
  refine s_aload_n (n := 17) hG dX5_find_16 rfl rfl ?_
  refine gtX5_22 (n := 20) hG dX5_find_17 rfl ?_
  refine s_iconst (n := 21) hG dX5_find_20 ki_1 rfl ?_
  refine s_iload_n (n := 22) hG dX5_find_21 rfl rfl ?_
  refine s_iload_n (n := 23) hG dX5_find_22 rfl rfl ?_
  refine s_imul (n := 24) hG dX5_find_23 rfl ?_
  refine s_topi (fun y24 hy24 => ?_)
  replace h := h y24 hy24
  obtain ⟨hin, h⟩ := h
  refine s_iast (n := 25) hG dX5_find_24 (gaC_27 hin) rfl ?_
  refine s_nf (fun f24 hf24 => ?_)
  replace h := h f24 hf24
  refine s_aload_n (n := 26) hG dX5_find_25 rfl rfl ?_
  refine gtX5_22 (n := 29) hG dX5_find_26 rfl ?_
  refine s_iconst (n := 30) hG dX5_find_29 ki_2 rfl ?_
  refine s_iload_n (n := 31) hG dX5_find_30 rfl rfl ?_
  refine s_sipush (n := 34) hG dX5_find_31 ks_1000 rfl ?_
  refine s_iload_n (n := 35) hG dX5_find_34 rfl rfl ?_
  refine s_isub (n := 36) hG dX5_find_35 rfl ?_
  refine s_imul (n := 37) hG dX5_find_36 rfl ?_
  refine s_topi (fun y37 hy37 => ?_)
  replace h := h y37 hy37
  obtain ⟨hin, h⟩ := h
  refine s_iast (n := 38) hG dX5_find_37 (gaC_27 hin) rfl ?_
  refine s_nf (fun f37 hf37 => ?_)
  replace h := h f37 hf37
  refine s_aload_n (n := 39) hG dX5_find_38 rfl rfl ?_
  refine gtX5_22 (n := 42) hG dX5_find_39 rfl ?_
  refine s_iconst (n := 43) hG dX5_find_42 ki_3 rfl ?_
  refine s_iload_n (n := 44) hG dX5_find_43 rfl rfl ?_
  refine s_iload (n := 46) hG dX5_find_44 rfl rfl ?_
  refine s_imul (n := 47) hG dX5_find_46 rfl ?_
  refine s_topi (fun y47 hy47 => ?_)
  replace h := h y47 hy47
  obtain ⟨hin, h⟩ := h
  refine s_iast (n := 48) hG dX5_find_47 (gaC_27 hin) rfl ?_
  refine s_nf (fun f47 hf47 => ?_)
  replace h := h f47 hf47
  refine s_aload_n (n := 49) hG dX5_find_48 rfl rfl ?_
  refine s_aload_n (n := 50) hG dX5_find_49 rfl rfl ?_
  refine s_callV (n := 53) (st := [.ref (ad 5)]) hG (mX5_lastOfLots hE h) ceX5_lastOfLots lmX5_53 ⟨by decide, rfl, rfl⟩ rfl ⟨rfl, Nat.le_of_ble_eq_true rfl, by decide⟩ dX5_find_50 rfl ?_
  rintro _ _ ⟨r50, g50, f50, rfl, rfl, h⟩
  refine ptX5_35 (n := 56) hG dX5_find_53 rfl ?_
  refine s_ng (fun g53 hg53 => ?_)
  replace h := h g53 hg53
  refine s_aload_n (n := 57) hG dX5_find_56 rfl rfl ?_
  refine s_callV (n := 60) (st := []) hG (mX5_weigh hE h) ceX5_weigh lmX5_57 ⟨by decide, rfl, rfl⟩ rfl ⟨rfl, Nat.le_of_ble_eq_true rfl, by decide⟩ dX5_find_57 rfl ?_
  rintro _ _ ⟨g57, f57, rfl, rfl, h⟩
  refine s_aload_n (n := 61) hG dX5_find_60 rfl rfl ?_
  refine s_iload_n (n := 62) hG dX5_find_61 rfl rfl ?_
  refine s_callV (n := 65) (st := []) hG (mX5_foresee hE h) ceX5_foresee lmX5_60 ⟨by decide, rfl, rfl⟩ rfl ⟨rfl, Nat.le_of_ble_eq_true rfl, by decide⟩ dX5_find_62 rfl ?_
  rintro _ _ ⟨g62, f62, rfl, rfl, h⟩
  refine s_aload_n (n := 66) hG dX5_find_65 rfl rfl ?_
  refine s_iconst (n := 67) hG dX5_find_66 ki_0 rfl ?_
  refine s_iload_n (n := 68) hG dX5_find_67 rfl rfl ?_
  refine s_callV (n := 71) (st := []) hG (mX5_search hE 7 h) ceX5_search lmX5_64 ⟨by decide, rfl, rfl⟩ rfl ⟨rfl, Nat.le_of_ble_eq_true rfl, by decide⟩ dX5_find_68 rfl ?_
  rintro _ _ ⟨g68, f68, rfl, rfl, h⟩
  refine s_aload_n (n := 72) hG dX5_find_71 rfl rfl ?_
  refine gtX5_45 (n := 75) hG dX5_find_72 rfl ?_
  obtain ⟨hz, h⟩ := h
  exact s_zret hG dX5_find_75 (gz_n hz) (hQ _ _ ⟨_, _, _, rfl, rfl, h⟩)
end GWe
