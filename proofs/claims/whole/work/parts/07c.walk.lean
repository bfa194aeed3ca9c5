section GWc
variable {l : Launch} {D : va_G} {cs : gCs} {ad : Nat → Nat} {tX tY : Nat} {sK sV : Nat → Nat}
def wX5_lastOfLots (N : Nat)  (g : gFG) (f : gFF) (Q : Int32 → gFG → gFF → Prop) : Prop := wX4_length N g f (fun r4 g4 f4 => wJ9_max_7cf53 N (r4 - 1) 1 g4 f4 (fun r10 g10 f10 => wJ9_min_7cf53 N r10 5 g10 f10 (fun r14 g14 f14 => Q r14 g14 f14)))
theorem mX5_lastOfLots (hE : gInj layC ad) {N : Nat}  {g : gFG} {f : gFF} {Q : Int32 → gFG → gFF → Prop} (h : wX5_lastOfLots N  g f Q) : gCT l D cs layC ad (gZc ad tX tY sK sV) 2 yX5_lastOfLots cX5_lastOfLots 1 (some .int) [.ref (ad 5)] (g, f, 0) (gQi Q) := by
  refine met_walk (lv0 := [some (.ref (ad 5))]) ⟨hE, gZc_ok _ _ _ _ _⟩ (by decide) (Nat.le_of_ble_eq_true rfl) rfl (fun G Rt hG hQ => ?_)
  replace hG : gSim l D cs layC ad (gZc ad tX tY sK sV) 2 RX5 cX5_lastOfLots 1 (some .int) G Rt := hG
  unfold wX5_lastOfLots at h
  refine s_aload_n (n := 1) hG dX5_lastOfLots_0 rfl rfl ?_
  refine gtX5_49 (n := 4) hG dX5_lastOfLots_1 rfl ?_
  refine s_callV (n := 7) (st := []) hG (mX4_length hE h) ceX4_length lmX5_68 ⟨by decide, rfl, rfl⟩ rfl ⟨rfl, Nat.le_of_ble_eq_true rfl, by decide⟩ dX5_lastOfLots_4 rfl ?_
  rintro _ _ ⟨r4, g4, f4, rfl, rfl, h⟩
  refine s_iconst (n := 8) hG dX5_lastOfLots_7 ki_1 rfl ?_
  refine s_isub (n := 9) hG dX5_lastOfLots_8 rfl ?_
  refine s_iconst (n := 10) hG dX5_lastOfLots_9 ki_1 rfl ?_
  refine s_callS (n := 13) (st := []) hG (mJ9_max_7cf53 hE h) ceJ9_max_7cf53 lmX5_73 rfl ⟨rfl, Nat.le_of_ble_eq_true rfl, by decide⟩ dX5_lastOfLots_10 rfl ?_
  rintro _ _ ⟨r10, g10, f10, rfl, rfl, h⟩
  refine s_iconst (n := 14) hG dX5_lastOfLots_13 ki_5 rfl ?_
  refine s_callS (n := 17) (st := []) hG (mJ9_min_7cf53 hE h) ceJ9_min_7cf53 lmX5_79 rfl ⟨rfl, Nat.le_of_ble_eq_true rfl, by decide⟩ dX5_lastOfLots_14 rfl ?_
  rintro _ _ ⟨r14, g14, f14, rfl, rfl, h⟩
  exact s_iret hG dX5_lastOfLots_17 (hQ _ _ ⟨_, _, _, rfl, rfl, h⟩)
def wX5_weigh_l2 (N : Nat)   (Q : gFG → gFF → Prop) : Nat → Int32 → gFG → gFF → Prop
  | 0, _, _, _ => False
  | n + 1, v1, g, f => ((6 ≤ v1) → Q g f) ∧ ((¬ 6 ≤ v1) → (vp_in 0 4) ∧ (wX4_priceAt N v1 g f (fun r20 g20 f20 => (gia layC (31 + (0 : Int32).toNatClampNeg) v1) ∧ (∀ f23 : gFF, f23 = (va_up f20 (31 + (0 : Int32).toNatClampNeg) (upd (f20 (31 + (0 : Int32).toNatClampNeg)) v1.toNatClampNeg r20)) → (vp_in 1 4) ∧ (wX4_tinAt N v1 g20 f23 (fun r36 g36 f36 => (gia layC (31 + (1 : Int32).toNatClampNeg) v1) ∧ (∀ f39 : gFF, f39 = (va_up f36 (31 + (1 : Int32).toNatClampNeg) (upd (f36 (31 + (1 : Int32).toNatClampNeg)) v1.toNatClampNeg r36)) → (vp_in 2 4) ∧ (wX4_tinAt N v1 g36 f39 (fun r55 g55 f55 => ∀ y59 : Int32, y59 = (1000 - r55) → (gia layC (31 + (2 : Int32).toNatClampNeg) v1) ∧ (∀ f59 : gFF, f59 = (va_up f55 (31 + (2 : Int32).toNatClampNeg) (upd (f55 (31 + (2 : Int32).toNatClampNeg)) v1.toNatClampNeg y59)) → (vp_in 3 4) ∧ (wX4_leadAt N v1 g55 f59 (fun r72 g72 f72 => (gia layC (31 + (3 : Int32).toNatClampNeg) v1) ∧ (∀ f75 : gFF, f75 = (va_up f72 (31 + (3 : Int32).toNatClampNeg) (upd (f72 (31 + (3 : Int32).toNatClampNeg)) v1.toNatClampNeg r72)) → ∀ x1_76 : Int32, x1_76 = (v1 + 1) → wX5_weigh_l2 N   Q n x1_76 g72 f75)))))))))))))
theorem sX5_weigh_l2 {G : gG} {Rt : Option Value → gSt → Prop} (hE : gInj layC ad) (hG : gSim l D cs layC ad (gZc ad tX tY sK sV) 3 RX5 cX5_weigh 2 none G Rt) {Q : gFG → gFF → Prop} (hQ : ∀ v S, gQv Q v S → Rt v S) {N : Nat}     : ∀ (n : Nat) (v1 : Int32) (g : gFG) (f : gFF), wX5_weigh_l2 N   Q n v1 g f → G 2 [some (.ref (ad 5)), some (.int v1)] [] (g, f, 0) := by
  intro n
  induction n with
  | zero => intro _ _ _ h; unfold wX5_weigh_l2 at h; exact h.elim
  | succ n ih =>
    intro v1 g f h
    unfold wX5_weigh_l2 at h
    refine s_iload_n (n := 3) hG dX5_weigh_2 rfl rfl ?_
    refine s_bipush (n := 5) hG dX5_weigh_3 kb_6 rfl ?_
    refine s_icmp_ge (n := 8) (tgt := 82) hG dX5_weigh_5 rfl rfl (fun c => ?_) (fun c => ?_)
    · replace h := h.1 c
      exact s_vret hG dX5_weigh_82 (hQ _ _ ⟨_, _, rfl, rfl, h⟩)
    · replace h := h.2 c
      refine s_aload_n (n := 9) hG dX5_weigh_8 rfl rfl ?_
      refine gtX5_13 (n := 12) hG dX5_weigh_9 rfl ?_
      refine s_iconst (n := 13) hG dX5_weigh_12 ki_0 rfl ?_
      obtain ⟨hin, h⟩ := h
      refine s_aa24 (n := 14) hG dX5_weigh_13 hin rfl ?_
      refine s_iload_n (n := 15) hG dX5_weigh_14 rfl rfl ?_
      refine s_aload_n (n := 16) hG dX5_weigh_15 rfl rfl ?_
      refine gtX5_49 (n := 19) hG dX5_weigh_16 rfl ?_
      refine s_iload_n (n := 20) hG dX5_weigh_19 rfl rfl ?_
      refine s_callV (n := 23) (st := [.int v1, .ref (ad (31 + (0 : Int32).toNatClampNeg))]) hG (mX4_priceAt hE h) ceX4_priceAt lmX5_82 ⟨by decide, rfl, rfl⟩ rfl ⟨rfl, Nat.le_of_ble_eq_true rfl, by decide⟩ dX5_weigh_20 rfl ?_
      rintro _ _ ⟨r20, g20, f20, rfl, rfl, h⟩
      obtain ⟨hin, h⟩ := h
      refine s_iast (n := 24) hG dX5_weigh_23 hin rfl ?_
      refine s_nf (fun f23 hf23 => ?_)
      replace h := h f23 hf23
      refine s_aload_n (n := 25) hG dX5_weigh_24 rfl rfl ?_
      refine gtX5_13 (n := 28) hG dX5_weigh_25 rfl ?_
      refine s_iconst (n := 29) hG dX5_weigh_28 ki_1 rfl ?_
      obtain ⟨hin, h⟩ := h
      refine s_aa24 (n := 30) hG dX5_weigh_29 hin rfl ?_
      refine s_iload_n (n := 31) hG dX5_weigh_30 rfl rfl ?_
      refine s_aload_n (n := 32) hG dX5_weigh_31 rfl rfl ?_
      refine gtX5_49 (n := 35) hG dX5_weigh_32 rfl ?_
      refine s_iload_n (n := 36) hG dX5_weigh_35 rfl rfl ?_
      refine s_callV (n := 39) (st := [.int v1, .ref (ad (31 + (1 : Int32).toNatClampNeg))]) hG (mX4_tinAt hE h) ceX4_tinAt lmX5_86 ⟨by decide, rfl, rfl⟩ rfl ⟨rfl, Nat.le_of_ble_eq_true rfl, by decide⟩ dX5_weigh_36 rfl ?_
      rintro _ _ ⟨r36, g36, f36, rfl, rfl, h⟩
      obtain ⟨hin, h⟩ := h
      refine s_iast (n := 40) hG dX5_weigh_39 hin rfl ?_
      refine s_nf (fun f39 hf39 => ?_)
      replace h := h f39 hf39
      refine s_aload_n (n := 41) hG dX5_weigh_40 rfl rfl ?_
      refine gtX5_13 (n := 44) hG dX5_weigh_41 rfl ?_
      refine s_iconst (n := 45) hG dX5_weigh_44 ki_2 rfl ?_
      obtain ⟨hin, h⟩ := h
      refine s_aa24 (n := 46) hG dX5_weigh_45 hin rfl ?_
      refine s_iload_n (n := 47) hG dX5_weigh_46 rfl rfl ?_
      refine s_sipush (n := 50) hG dX5_weigh_47 ks_1000 rfl ?_
      refine s_aload_n (n := 51) hG dX5_weigh_50 rfl rfl ?_
      refine gtX5_49 (n := 54) hG dX5_weigh_51 rfl ?_
      refine s_iload_n (n := 55) hG dX5_weigh_54 rfl rfl ?_
      refine s_callV (n := 58) (st := [.int 1000, .int v1, .ref (ad (31 + (2 : Int32).toNatClampNeg))]) hG (mX4_tinAt hE h) ceX4_tinAt lmX5_86 ⟨by decide, rfl, rfl⟩ rfl ⟨rfl, Nat.le_of_ble_eq_true rfl, by decide⟩ dX5_weigh_55 rfl ?_
      rintro _ _ ⟨r55, g55, f55, rfl, rfl, h⟩
      refine s_isub (n := 59) hG dX5_weigh_58 rfl ?_
      refine s_topi (fun y59 hy59 => ?_)
      replace h := h y59 hy59
      obtain ⟨hin, h⟩ := h
      refine s_iast (n := 60) hG dX5_weigh_59 hin rfl ?_
      refine s_nf (fun f59 hf59 => ?_)
      replace h := h f59 hf59
      refine s_aload_n (n := 61) hG dX5_weigh_60 rfl rfl ?_
      refine gtX5_13 (n := 64) hG dX5_weigh_61 rfl ?_
      refine s_iconst (n := 65) hG dX5_weigh_64 ki_3 rfl ?_
      obtain ⟨hin, h⟩ := h
      refine s_aa24 (n := 66) hG dX5_weigh_65 hin rfl ?_
      refine s_iload_n (n := 67) hG dX5_weigh_66 rfl rfl ?_
      refine s_aload_n (n := 68) hG dX5_weigh_67 rfl rfl ?_
      refine gtX5_49 (n := 71) hG dX5_weigh_68 rfl ?_
      refine s_iload_n (n := 72) hG dX5_weigh_71 rfl rfl ?_
      refine s_callV (n := 75) (st := [.int v1, .ref (ad (31 + (3 : Int32).toNatClampNeg))]) hG (mX4_leadAt hE h) ceX4_leadAt lmX5_89 ⟨by decide, rfl, rfl⟩ rfl ⟨rfl, Nat.le_of_ble_eq_true rfl, by decide⟩ dX5_weigh_72 rfl ?_
      rintro _ _ ⟨r72, g72, f72, rfl, rfl, h⟩
      obtain ⟨hin, h⟩ := h
      refine s_iast (n := 76) hG dX5_weigh_75 hin rfl ?_
      refine s_nf (fun f75 hf75 => ?_)
      replace h := h f75 hf75
      obtain ⟨x1_76, hx1_76⟩ : ∃ z : Int32, z = (v1 + 1) := ⟨_, rfl⟩
      replace h := h x1_76 hx1_76
      refine s_iinc (n := 79) (v := x1_76) (lv2 := [some (.ref (ad 5)), some (.int x1_76)]) hG dX5_weigh_76 ki_1 rfl hx1_76 rfl rfl rfl ?_
      refine s_goto (tgt := 2) hG dX5_weigh_79 rfl ?_
      exact s_wk hG (ih _ _ _ h) ⟨rfl, rfl, trivial⟩
def wX5_weigh (N : Nat)  (g : gFG) (f : gFF) (Q : gFG → gFF → Prop) : Prop := wX5_weigh_l2 N  Q N 0 g f
theorem mX5_weigh (hE : gInj layC ad) {N : Nat}  {g : gFG} {f : gFF} {Q : gFG → gFF → Prop} (h : wX5_weigh N  g f Q) : gCT l D cs layC ad (gZc ad tX tY sK sV) 3 yX5_weigh cX5_weigh 2 none [.ref (ad 5)] (g, f, 0) (gQv Q) := by
  refine met_walk (lv0 := [some (.ref (ad 5)), none]) ⟨hE, gZc_ok _ _ _ _ _⟩ (by decide) (Nat.le_of_ble_eq_true rfl) rfl (fun G Rt hG hQ => ?_)
  replace hG : gSim l D cs layC ad (gZc ad tX tY sK sV) 3 RX5 cX5_weigh 2 none G Rt := hG
  unfold wX5_weigh at h
  refine s_iconst (n := 1) hG dX5_weigh_0 ki_0 rfl ?_
  refine s_istore_n (n := 2) (lv2 := [some (.ref (ad 5)), some (.int 0)]) hG dX5_weigh_1 rfl rfl rfl ?_
  exact s_wk hG (sX5_weigh_l2 hE hG hQ  N _ _ _ h) ⟨rfl, rfl, trivial⟩
def wX5_foreseeFrom_j197 (N : Nat) (K34 : Int32 → Int32 → gFG → gFF → Prop) (Q : gFG → gFF → Prop) (v1 : Int32) (v2 : Int32) (v3 : Int32) (v4 : Nat) (v5 : Int32) (v6 : Int32) (v7 : Int32) (v8 : Int32) (g : gFG) (f : gFF) : Prop := ∀ x8_197 : Int32, x8_197 = (v8 + 1) → K34 v7 x8_197 g f
theorem sX5_foreseeFrom_j197 {G : gG} {Rt : Option Value → gSt → Prop} (hE : gInj layC ad) (hG : gSim l D cs layC ad (gZc ad tX tY sK sV) 3 RX5 cX5_foreseeFrom 11 none G Rt) {Q : gFG → gFF → Prop} (hQ : ∀ v S, gQv Q v S → Rt v S) {N : Nat} {K34 : Int32 → Int32 → gFG → gFF → Prop}  {v1 : Int32} {v2 : Int32} {v3 : Int32} {v4 : Nat} {v5 : Int32} {v6 : Int32} {v7 : Int32} {v8 : Int32} {g : gFG} {f : gFF} (hK34 : ∀ (uv7 : Int32) (uv8 : Int32) (ug : gFG) (uf : gFF), K34 uv7 uv8 ug uf → G 34 [some (.ref (ad 5)), some (.int v1), some (.int v2), some (.int v3), some (.ref (ad v4)), some (.int v5), some (.int v6), some (.int uv7), some (.int uv8), none, none] [] (ug, uf, 0)) (h : wX5_foreseeFrom_j197 N K34 Q v1 v2 v3 v4 v5 v6 v7 v8 g f) : G 197 [some (.ref (ad 5)), some (.int v1), some (.int v2), some (.int v3), some (.ref (ad v4)), some (.int v5), some (.int v6), some (.int v7), some (.int v8), none, none] [] (g, f, 0) := by
  unfold wX5_foreseeFrom_j197 at h
  obtain ⟨x8_197, hx8_197⟩ : ∃ z : Int32, z = (v8 + 1) := ⟨_, rfl⟩
  replace h := h x8_197 hx8_197
  refine s_iinc (n := 200) (v := x8_197) (lv2 := [some (.ref (ad 5)), some (.int v1), some (.int v2), some (.int v3), some (.ref (ad v4)), some (.int v5), some (.int v6), some (.int v7), some (.int x8_197), none, none]) hG dX5_foreseeFrom_197 ki_1 rfl hx8_197 rfl rfl rfl ?_
  refine s_goto (tgt := 34) hG dX5_foreseeFrom_200 rfl ?_
  exact s_wk hG (hK34 _ _ _ _ h) ⟨rfl, rfl, rfl, rfl, rfl, rfl, rfl, rfl, rfl, trivial⟩
def wX5_foreseeFrom_j119 (N : Nat) (K34 : Int32 → Int32 → gFG → gFF → Prop) (Q : gFG → gFF → Prop) (v1 : Int32) (v2 : Int32) (v3 : Int32) (v4 : Nat) (v5 : Int32) (v6 : Int32) (v7 : Int32) (v8 : Int32) (v9 : Int32) (t0 : Int32) (g : gFG) (f : gFF) : Prop := ((t0 = 0) → ∀ i183 : Int32, i183 = (v5 + v8) → (gia layC v4 i183) ∧ ((vp_in v2 4) ∧ ((gia layC (31 + v2.toNatClampNeg) v1) ∧ (∀ y193 : Int32, y193 = ((f v4 i183.toNatClampNeg) + (f (31 + v2.toNatClampNeg) v1.toNatClampNeg)) → ∀ i193 : Int32, i193 = ((v5 + v8) + 1) → (gia layC v4 i193) ∧ (∀ f193 : gFF, f193 = (va_up f v4 (upd (f v4) i193.toNatClampNeg y193)) → ∀ x7_194 : Int32, x7_194 = (v7 + 1) → wX5_foreseeFrom_j197 N (K34) Q v1 v2 v3 v4 v5 v6 x7_194 v8 g f193))))) ∧ ((¬ t0 = 0) → ∀ i142 : Int32, i142 = (v5 + v8) → (gia layC v4 i142) ∧ (∀ i152 : Int32, i152 = ((v6 + v9) + 1) → (gia layC v4 i152) ∧ (∀ i161 : Int32, i161 = (v6 + v9) → (gia layC v4 i161) ∧ (∀ y163 : Int32, y163 = (((f v4 i142.toNatClampNeg) + (f v4 i152.toNatClampNeg)) - (f v4 i161.toNatClampNeg)) → ∀ i163 : Int32, i163 = ((v5 + v8) + 1) → (gia layC v4 i163) ∧ (∀ f163 : gFF, f163 = (va_up f v4 (upd (f v4) i163.toNatClampNeg y163)) → wX5_foreseeFrom_j197 N (K34) Q v1 v2 v3 v4 v5 v6 v7 v8 g f163)))))
theorem sX5_foreseeFrom_j119 {G : gG} {Rt : Option Value → gSt → Prop} (hE : gInj layC ad) (hG : gSim l D cs layC ad (gZc ad tX tY sK sV) 3 RX5 cX5_foreseeFrom 11 none G Rt) {Q : gFG → gFF → Prop} (hQ : ∀ v S, gQv Q v S → Rt v S) {N : Nat} {K34 : Int32 → Int32 → gFG → gFF → Prop}  {v1 : Int32} {v2 : Int32} {v3 : Int32} {v4 : Nat} {v5 : Int32} {v6 : Int32} {v7 : Int32} {v8 : Int32} {v9 : Int32} {t0 : Int32} {g : gFG} {f : gFF} (hK34 : ∀ (uv7 : Int32) (uv8 : Int32) (ug : gFG) (uf : gFF), K34 uv7 uv8 ug uf → G 34 [some (.ref (ad 5)), some (.int v1), some (.int v2), some (.int v3), some (.ref (ad v4)), some (.int v5), some (.int v6), some (.int uv7), some (.int uv8), none, none] [] (ug, uf, 0)) (h : wX5_foreseeFrom_j119 N K34 Q v1 v2 v3 v4 v5 v6 v7 v8 v9 t0 g f) : G 119 [some (.ref (ad 5)), some (.int v1), some (.int v2), some (.int v3), some (.ref (ad v4)), some (.int v5), some (.int v6), some (.int v7), some (.int v8), some (.int v9), none] [.int t0] (g, f, 0) := by
  unfold wX5_foreseeFrom_j119 at h
  refine s_istore (n := 121) (lv2 := [some (.ref (ad 5)), some (.int v1), some (.int v2), some (.int v3), some (.ref (ad v4)), some (.int v5), some (.int v6), some (.int v7), some (.int v8), some (.int v9), some (.int t0)]) hG dX5_foreseeFrom_119 rfl rfl rfl ?_
  refine s_iload (n := 123) hG dX5_foreseeFrom_121 rfl rfl ?_
  refine s_if_eq (n := 126) (tgt := 167) hG dX5_foreseeFrom_123 rfl rfl (fun c => ?_) (fun c => ?_)
  · replace h := h.1 c
    refine s_aload (n := 169) hG dX5_foreseeFrom_167 rfl rfl ?_
    refine s_iload (n := 171) hG dX5_foreseeFrom_169 rfl rfl ?_
    refine s_iload (n := 173) hG dX5_foreseeFrom_171 rfl rfl ?_
    refine s_iadd (n := 174) hG dX5_foreseeFrom_173 rfl ?_
    refine s_iconst (n := 175) hG dX5_foreseeFrom_174 ki_1 rfl ?_
    refine s_iadd (n := 176) hG dX5_foreseeFrom_175 rfl ?_
    refine s_aload (n := 178) hG dX5_foreseeFrom_176 rfl rfl ?_
    refine s_iload (n := 180) hG dX5_foreseeFrom_178 rfl rfl ?_
    refine s_iload (n := 182) hG dX5_foreseeFrom_180 rfl rfl ?_
    refine s_iadd (n := 183) hG dX5_foreseeFrom_182 rfl ?_
    refine s_topi (fun i183 hi183 => ?_)
    replace h := h i183 hi183
    obtain ⟨hin, h⟩ := h
    refine s_iald (n := 184) hG dX5_foreseeFrom_183 hin rfl ?_
    refine s_aload_n (n := 185) hG dX5_foreseeFrom_184 rfl rfl ?_
    refine gtX5_13 (n := 188) hG dX5_foreseeFrom_185 rfl ?_
    refine s_iload_n (n := 189) hG dX5_foreseeFrom_188 rfl rfl ?_
    obtain ⟨hin, h⟩ := h
    refine s_aa24 (n := 190) hG dX5_foreseeFrom_189 hin rfl ?_
    refine s_iload_n (n := 191) hG dX5_foreseeFrom_190 rfl rfl ?_
    obtain ⟨hin, h⟩ := h
    refine s_iald (n := 192) hG dX5_foreseeFrom_191 hin rfl ?_
    refine s_iadd (n := 193) hG dX5_foreseeFrom_192 rfl ?_
    refine s_topi (fun y193 hy193 => ?_)
    replace h := h y193 hy193
    refine s_topi2 (fun i193 hi193 => ?_)
    replace h := h i193 hi193
    obtain ⟨hin, h⟩ := h
    refine s_iast (n := 194) hG dX5_foreseeFrom_193 hin rfl ?_
    refine s_nf (fun f193 hf193 => ?_)
    replace h := h f193 hf193
    obtain ⟨x7_194, hx7_194⟩ : ∃ z : Int32, z = (v7 + 1) := ⟨_, rfl⟩
    replace h := h x7_194 hx7_194
    refine s_iinc (n := 197) (v := x7_194) (lv2 := [some (.ref (ad 5)), some (.int v1), some (.int v2), some (.int v3), some (.ref (ad v4)), some (.int v5), some (.int v6), some (.int x7_194), some (.int v8), some (.int v9), some (.int t0)]) hG dX5_foreseeFrom_194 ki_1 rfl hx7_194 rfl rfl rfl ?_
    exact s_wk hG (sX5_foreseeFrom_j197 hE hG hQ hK34 h) ⟨rfl, rfl, rfl, rfl, rfl, rfl, rfl, rfl, rfl, trivial⟩
  · replace h := h.2 c
    refine s_aload (n := 128) hG dX5_foreseeFrom_126 rfl rfl ?_
    refine s_iload (n := 130) hG dX5_foreseeFrom_128 rfl rfl ?_
    refine s_iload (n := 132) hG dX5_foreseeFrom_130 rfl rfl ?_
    refine s_iadd (n := 133) hG dX5_foreseeFrom_132 rfl ?_
    refine s_iconst (n := 134) hG dX5_foreseeFrom_133 ki_1 rfl ?_
    refine s_iadd (n := 135) hG dX5_foreseeFrom_134 rfl ?_
    refine s_aload (n := 137) hG dX5_foreseeFrom_135 rfl rfl ?_
    refine s_iload (n := 139) hG dX5_foreseeFrom_137 rfl rfl ?_
    refine s_iload (n := 141) hG dX5_foreseeFrom_139 rfl rfl ?_
    refine s_iadd (n := 142) hG dX5_foreseeFrom_141 rfl ?_
    refine s_topi (fun i142 hi142 => ?_)
    replace h := h i142 hi142
    obtain ⟨hin, h⟩ := h
    refine s_iald (n := 143) hG dX5_foreseeFrom_142 hin rfl ?_
    refine s_aload (n := 145) hG dX5_foreseeFrom_143 rfl rfl ?_
    refine s_iload (n := 147) hG dX5_foreseeFrom_145 rfl rfl ?_
    refine s_iload (n := 149) hG dX5_foreseeFrom_147 rfl rfl ?_
    refine s_iadd (n := 150) hG dX5_foreseeFrom_149 rfl ?_
    refine s_iconst (n := 151) hG dX5_foreseeFrom_150 ki_1 rfl ?_
    refine s_iadd (n := 152) hG dX5_foreseeFrom_151 rfl ?_
    refine s_topi (fun i152 hi152 => ?_)
    replace h := h i152 hi152
    obtain ⟨hin, h⟩ := h
    refine s_iald (n := 153) hG dX5_foreseeFrom_152 hin rfl ?_
    refine s_iadd (n := 154) hG dX5_foreseeFrom_153 rfl ?_
    refine s_aload (n := 156) hG dX5_foreseeFrom_154 rfl rfl ?_
    refine s_iload (n := 158) hG dX5_foreseeFrom_156 rfl rfl ?_
    refine s_iload (n := 160) hG dX5_foreseeFrom_158 rfl rfl ?_
    refine s_iadd (n := 161) hG dX5_foreseeFrom_160 rfl ?_
    refine s_topi (fun i161 hi161 => ?_)
    replace h := h i161 hi161
    obtain ⟨hin, h⟩ := h
    refine s_iald (n := 162) hG dX5_foreseeFrom_161 hin rfl ?_
    refine s_isub (n := 163) hG dX5_foreseeFrom_162 rfl ?_
    refine s_topi (fun y163 hy163 => ?_)
    replace h := h y163 hy163
    refine s_topi2 (fun i163 hi163 => ?_)
    replace h := h i163 hi163
    obtain ⟨hin, h⟩ := h
    refine s_iast (n := 164) hG dX5_foreseeFrom_163 hin rfl ?_
    refine s_nf (fun f163 hf163 => ?_)
    replace h := h f163 hf163
    refine s_goto (tgt := 197) hG dX5_foreseeFrom_164 rfl ?_
    exact s_wk hG (sX5_foreseeFrom_j197 hE hG hQ hK34 h) ⟨rfl, rfl, rfl, rfl, rfl, rfl, rfl, rfl, rfl, trivial⟩
def wX5_foreseeFrom_j114 (N : Nat) (K34 : Int32 → Int32 → gFG → gFF → Prop) (Q : gFG → gFF → Prop) (v1 : Int32) (v2 : Int32) (v3 : Int32) (v4 : Nat) (v5 : Int32) (v6 : Int32) (v7 : Int32) (v8 : Int32) (v9 : Int32) (g : gFG) (f : gFF) : Prop := wX5_foreseeFrom_j119 N (K34) Q v1 v2 v3 v4 v5 v6 v7 v8 v9 1 g f
theorem sX5_foreseeFrom_j114 {G : gG} {Rt : Option Value → gSt → Prop} (hE : gInj layC ad) (hG : gSim l D cs layC ad (gZc ad tX tY sK sV) 3 RX5 cX5_foreseeFrom 11 none G Rt) {Q : gFG → gFF → Prop} (hQ : ∀ v S, gQv Q v S → Rt v S) {N : Nat} {K34 : Int32 → Int32 → gFG → gFF → Prop}  {v1 : Int32} {v2 : Int32} {v3 : Int32} {v4 : Nat} {v5 : Int32} {v6 : Int32} {v7 : Int32} {v8 : Int32} {v9 : Int32} {g : gFG} {f : gFF} (hK34 : ∀ (uv7 : Int32) (uv8 : Int32) (ug : gFG) (uf : gFF), K34 uv7 uv8 ug uf → G 34 [some (.ref (ad 5)), some (.int v1), some (.int v2), some (.int v3), some (.ref (ad v4)), some (.int v5), some (.int v6), some (.int uv7), some (.int uv8), none, none] [] (ug, uf, 0)) (h : wX5_foreseeFrom_j114 N K34 Q v1 v2 v3 v4 v5 v6 v7 v8 v9 g f) : G 114 [some (.ref (ad 5)), some (.int v1), some (.int v2), some (.int v3), some (.ref (ad v4)), some (.int v5), some (.int v6), some (.int v7), some (.int v8), some (.int v9), none] [] (g, f, 0) := by
  unfold wX5_foreseeFrom_j114 at h
  refine s_iconst (n := 115) hG dX5_foreseeFrom_114 ki_1 rfl ?_
  refine s_goto (tgt := 119) hG dX5_foreseeFrom_115 rfl ?_
  exact s_wk hG (sX5_foreseeFrom_j119 hE hG hQ hK34 h) ⟨rfl, rfl, rfl, rfl, rfl, rfl, rfl, rfl, rfl, rfl, trivial⟩
def wX5_foreseeFrom_j118 (N : Nat) (K34 : Int32 → Int32 → gFG → gFF → Prop) (Q : gFG → gFF → Prop) (v1 : Int32) (v2 : Int32) (v3 : Int32) (v4 : Nat) (v5 : Int32) (v6 : Int32) (v7 : Int32) (v8 : Int32) (v9 : Int32) (g : gFG) (f : gFF) : Prop := wX5_foreseeFrom_j119 N (K34) Q v1 v2 v3 v4 v5 v6 v7 v8 v9 0 g f
theorem sX5_foreseeFrom_j118 {G : gG} {Rt : Option Value → gSt → Prop} (hE : gInj layC ad) (hG : gSim l D cs layC ad (gZc ad tX tY sK sV) 3 RX5 cX5_foreseeFrom 11 none G Rt) {Q : gFG → gFF → Prop} (hQ : ∀ v S, gQv Q v S → Rt v S) {N : Nat} {K34 : Int32 → Int32 → gFG → gFF → Prop}  {v1 : Int32} {v2 : Int32} {v3 : Int32} {v4 : Nat} {v5 : Int32} {v6 : Int32} {v7 : Int32} {v8 : Int32} {v9 : Int32} {g : gFG} {f : gFF} (hK34 : ∀ (uv7 : Int32) (uv8 : Int32) (ug : gFG) (uf : gFF), K34 uv7 uv8 ug uf → G 34 [some (.ref (ad 5)), some (.int v1), some (.int v2), some (.int v3), some (.ref (ad v4)), some (.int v5), some (.int v6), some (.int uv7), some (.int uv8), none, none] [] (ug, uf, 0)) (h : wX5_foreseeFrom_j118 N K34 Q v1 v2 v3 v4 v5 v6 v7 v8 v9 g f) : G 118 [some (.ref (ad 5)), some (.int v1), some (.int v2), some (.int v3), some (.ref (ad v4)), some (.int v5), some (.int v6), some (.int v7), some (.int v8), some (.int v9), none] [] (g, f, 0) := by
  unfold wX5_foreseeFrom_j118 at h
  refine s_iconst (n := 119) hG dX5_foreseeFrom_118 ki_0 rfl ?_
  exact s_wk hG (sX5_foreseeFrom_j119 hE hG hQ hK34 h) ⟨rfl, rfl, rfl, rfl, rfl, rfl, rfl, rfl, rfl, rfl, trivial⟩
def wX5_foreseeFrom_l34 (N : Nat) (v1 : Int32) (v2 : Int32) (v3 : Int32) (v4 : Nat) (v5 : Int32) (v6 : Int32)  (Q : gFG → gFF → Prop) : Nat → Int32 → Int32 → gFG → gFF → Prop
  | 0, _, _, _, _ => False
  | n + 1, v7, v8, g, f => ((v3 ≤ v8) → Q g f) ∧ ((¬ v3 ≤ v8) → (vp_in v1 7) ∧ ((((f 28 v1.toNatClampNeg) ≤ v8) → Q g f) ∧ ((¬ (f 28 v1.toNatClampNeg) ≤ v8) → ∀ x9_56 : Int32, x9_56 = (v8 - v7) → wX4_unitsAt N v1 g f (fun r65 g65 f65 => ((r65 ≤ v7) → wX5_foreseeFrom_j114 N (wX5_foreseeFrom_l34 N v1 v2 v3 v4 v5 v6  Q n) Q v1 v2 v3 v4 v5 v6 v7 v8 x9_56 g65 f65) ∧ ((¬ r65 ≤ v7) → ∀ i80 : Int32, i80 = (v1 + 1) → (vp_in i80 7) ∧ ((((f65 28 i80.toNatClampNeg) ≤ x9_56) → wX5_foreseeFrom_j118 N (wX5_foreseeFrom_l34 N v1 v2 v3 v4 v5 v6  Q n) Q v1 v2 v3 v4 v5 v6 v7 v8 x9_56 g65 f65) ∧ ((¬ (f65 28 i80.toNatClampNeg) ≤ x9_56) → ∀ i93 : Int32, i93 = ((v6 + x9_56) + 1) → (gia layC v4 i93) ∧ (∀ i101 : Int32, i101 = (v6 + x9_56) → (gia layC v4 i101) ∧ ((vp_in v2 4) ∧ ((gia layC (31 + v2.toNatClampNeg) v1) ∧ ((((f65 (31 + v2.toNatClampNeg) v1.toNatClampNeg) ≤ ((f65 v4 i93.toNatClampNeg) - (f65 v4 i101.toNatClampNeg))) → wX5_foreseeFrom_j118 N (wX5_foreseeFrom_l34 N v1 v2 v3 v4 v5 v6  Q n) Q v1 v2 v3 v4 v5 v6 v7 v8 x9_56 g65 f65) ∧ ((¬ (f65 (31 + v2.toNatClampNeg) v1.toNatClampNeg) ≤ ((f65 v4 i93.toNatClampNeg) - (f65 v4 i101.toNatClampNeg))) → wX5_foreseeFrom_j114 N (wX5_foreseeFrom_l34 N v1 v2 v3 v4 v5 v6  Q n) Q v1 v2 v3 v4 v5 v6 v7 v8 x9_56 g65 f65))))))))))))
theorem sX5_foreseeFrom_l34 {G : gG} {Rt : Option Value → gSt → Prop} (hE : gInj layC ad) (hG : gSim l D cs layC ad (gZc ad tX tY sK sV) 3 RX5 cX5_foreseeFrom 11 none G Rt) {Q : gFG → gFF → Prop} (hQ : ∀ v S, gQv Q v S → Rt v S) {N : Nat} {v1 : Int32} {v2 : Int32} {v3 : Int32} {v4 : Nat} {v5 : Int32} {v6 : Int32}    : ∀ (n : Nat) (v7 : Int32) (v8 : Int32) (g : gFG) (f : gFF), wX5_foreseeFrom_l34 N v1 v2 v3 v4 v5 v6  Q n v7 v8 g f → G 34 [some (.ref (ad 5)), some (.int v1), some (.int v2), some (.int v3), some (.ref (ad v4)), some (.int v5), some (.int v6), some (.int v7), some (.int v8), none, none] [] (g, f, 0) := by
  intro n
  induction n with
  | zero => intro _ _ _ _ h; unfold wX5_foreseeFrom_l34 at h; exact h.elim
  | succ n ih =>
    intro v7 v8 g f h
    unfold wX5_foreseeFrom_l34 at h
    refine s_iload (n := 36) hG dX5_foreseeFrom_34 rfl rfl ?_
    refine s_iload_n (n := 37) hG dX5_foreseeFrom_36 rfl rfl ?_
    refine s_icmp_ge (n := 40) (tgt := 203) hG dX5_foreseeFrom_37 rfl rfl (fun c => ?_) (fun c => ?_)
    · replace h := h.1 c
      exact s_vret hG dX5_foreseeFrom_203 (hQ _ _ ⟨_, _, rfl, rfl, h⟩)
    · replace h := h.2 c
      refine s_iload (n := 42) hG dX5_foreseeFrom_40 rfl rfl ?_
      refine s_aload_n (n := 43) hG dX5_foreseeFrom_42 rfl rfl ?_
      refine gtX5_26 (n := 46) hG dX5_foreseeFrom_43 rfl ?_
      refine s_iload_n (n := 47) hG dX5_foreseeFrom_46 rfl rfl ?_
      obtain ⟨hin, h⟩ := h
      refine s_iald (n := 48) hG dX5_foreseeFrom_47 (gaC_28 hin) rfl ?_
      refine s_icmp_ge (n := 51) (tgt := 203) hG dX5_foreseeFrom_48 rfl rfl (fun c => ?_) (fun c => ?_)
      · replace h := h.1 c
        exact s_vret hG dX5_foreseeFrom_203 (hQ _ _ ⟨_, _, rfl, rfl, h⟩)
      · replace h := h.2 c
        refine s_iload (n := 53) hG dX5_foreseeFrom_51 rfl rfl ?_
        refine s_iload (n := 55) hG dX5_foreseeFrom_53 rfl rfl ?_
        refine s_isub (n := 56) hG dX5_foreseeFrom_55 rfl ?_
        refine s_topi (fun x9_56 hx9_56 => ?_)
        replace h := h x9_56 hx9_56
        refine s_istore (n := 58) (lv2 := [some (.ref (ad 5)), some (.int v1), some (.int v2), some (.int v3), some (.ref (ad v4)), some (.int v5), some (.int v6), some (.int v7), some (.int v8), some (.int x9_56), none]) hG dX5_foreseeFrom_56 rfl rfl rfl ?_
        refine s_iload (n := 60) hG dX5_foreseeFrom_58 rfl rfl ?_
        refine s_aload_n (n := 61) hG dX5_foreseeFrom_60 rfl rfl ?_
        refine gtX5_49 (n := 64) hG dX5_foreseeFrom_61 rfl ?_
        refine s_iload_n (n := 65) hG dX5_foreseeFrom_64 rfl rfl ?_
        refine s_callV (n := 68) (st := [.int v7]) hG (mX4_unitsAt hE h) ceX4_unitsAt lmX5_92 ⟨by decide, rfl, rfl⟩ rfl ⟨rfl, Nat.le_of_ble_eq_true rfl, by decide⟩ dX5_foreseeFrom_65 rfl ?_
        rintro _ _ ⟨r65, g65, f65, rfl, rfl, h⟩
        refine s_icmp_ge (n := 71) (tgt := 114) hG dX5_foreseeFrom_68 rfl rfl (fun c => ?_) (fun c => ?_)
        · replace h := h.1 c
          exact s_wk hG (sX5_foreseeFrom_j114 hE hG hQ ih h) ⟨rfl, rfl, rfl, rfl, rfl, rfl, rfl, rfl, rfl, rfl, trivial⟩
        · replace h := h.2 c
          refine s_iload (n := 73) hG dX5_foreseeFrom_71 rfl rfl ?_
          refine s_aload_n (n := 74) hG dX5_foreseeFrom_73 rfl rfl ?_
          refine gtX5_26 (n := 77) hG dX5_foreseeFrom_74 rfl ?_
          refine s_iload_n (n := 78) hG dX5_foreseeFrom_77 rfl rfl ?_
          refine s_iconst (n := 79) hG dX5_foreseeFrom_78 ki_1 rfl ?_
          refine s_iadd (n := 80) hG dX5_foreseeFrom_79 rfl ?_
          refine s_topi (fun i80 hi80 => ?_)
          replace h := h i80 hi80
          obtain ⟨hin, h⟩ := h
          refine s_iald (n := 81) hG dX5_foreseeFrom_80 (gaC_28 hin) rfl ?_
          refine s_icmp_ge (n := 84) (tgt := 118) hG dX5_foreseeFrom_81 rfl rfl (fun c => ?_) (fun c => ?_)
          · replace h := h.1 c
            exact s_wk hG (sX5_foreseeFrom_j118 hE hG hQ ih h) ⟨rfl, rfl, rfl, rfl, rfl, rfl, rfl, rfl, rfl, rfl, trivial⟩
          · replace h := h.2 c
            refine s_aload (n := 86) hG dX5_foreseeFrom_84 rfl rfl ?_
            refine s_iload (n := 88) hG dX5_foreseeFrom_86 rfl rfl ?_
            refine s_iload (n := 90) hG dX5_foreseeFrom_88 rfl rfl ?_
            refine s_iadd (n := 91) hG dX5_foreseeFrom_90 rfl ?_
            refine s_iconst (n := 92) hG dX5_foreseeFrom_91 ki_1 rfl ?_
            refine s_iadd (n := 93) hG dX5_foreseeFrom_92 rfl ?_
            refine s_topi (fun i93 hi93 => ?_)
            replace h := h i93 hi93
            obtain ⟨hin, h⟩ := h
            refine s_iald (n := 94) hG dX5_foreseeFrom_93 hin rfl ?_
            refine s_aload (n := 96) hG dX5_foreseeFrom_94 rfl rfl ?_
            refine s_iload (n := 98) hG dX5_foreseeFrom_96 rfl rfl ?_
            refine s_iload (n := 100) hG dX5_foreseeFrom_98 rfl rfl ?_
            refine s_iadd (n := 101) hG dX5_foreseeFrom_100 rfl ?_
            refine s_topi (fun i101 hi101 => ?_)
            replace h := h i101 hi101
            obtain ⟨hin, h⟩ := h
            refine s_iald (n := 102) hG dX5_foreseeFrom_101 hin rfl ?_
            refine s_isub (n := 103) hG dX5_foreseeFrom_102 rfl ?_
            refine s_aload_n (n := 104) hG dX5_foreseeFrom_103 rfl rfl ?_
            refine gtX5_13 (n := 107) hG dX5_foreseeFrom_104 rfl ?_
            refine s_iload_n (n := 108) hG dX5_foreseeFrom_107 rfl rfl ?_
            obtain ⟨hin, h⟩ := h
            refine s_aa24 (n := 109) hG dX5_foreseeFrom_108 hin rfl ?_
            refine s_iload_n (n := 110) hG dX5_foreseeFrom_109 rfl rfl ?_
            obtain ⟨hin, h⟩ := h
            refine s_iald (n := 111) hG dX5_foreseeFrom_110 hin rfl ?_
            refine s_icmp_ge (n := 114) (tgt := 118) hG dX5_foreseeFrom_111 rfl rfl (fun c => ?_) (fun c => ?_)
            · replace h := h.1 c
              exact s_wk hG (sX5_foreseeFrom_j118 hE hG hQ ih h) ⟨rfl, rfl, rfl, rfl, rfl, rfl, rfl, rfl, rfl, rfl, trivial⟩
            · replace h := h.2 c
              exact s_wk hG (sX5_foreseeFrom_j114 hE hG hQ ih h) ⟨rfl, rfl, rfl, rfl, rfl, rfl, rfl, rfl, rfl, rfl, trivial⟩
def wX5_foreseeFrom (N : Nat) (a1 : Int32) (a2 : Int32) (a3 : Int32) (g : gFG) (f : gFF) (Q : gFG → gFF → Prop) : Prop := (vp_in a2 4) ∧ (∀ x5_12 : Int32, x5_12 = (a1 * 41) → ∀ x6_20 : Int32, x6_20 = ((a1 + 1) * 41) → (gia layC (35 + a2.toNatClampNeg) x5_12) ∧ (∀ f30 : gFF, f30 = (va_up f (35 + a2.toNatClampNeg) (upd (f (35 + a2.toNatClampNeg)) x5_12.toNatClampNeg 0)) → wX5_foreseeFrom_l34 N a1 a2 a3 (35 + a2.toNatClampNeg) x5_12 x6_20 Q N 0 0 g f30))
theorem mX5_foreseeFrom (hE : gInj layC ad) {N : Nat} {a1 : Int32} {a2 : Int32} {a3 : Int32} {g : gFG} {f : gFF} {Q : gFG → gFF → Prop} (h : wX5_foreseeFrom N a1 a2 a3 g f Q) : gCT l D cs layC ad (gZc ad tX tY sK sV) 3 yX5_foreseeFrom cX5_foreseeFrom 11 none [.ref (ad 5), .int a1, .int a2, .int a3] (g, f, 0) (gQv Q) := by
  refine met_walk (lv0 := [some (.ref (ad 5)), some (.int a1), some (.int a2), some (.int a3), none, none, none, none, none, none, none]) ⟨hE, gZc_ok _ _ _ _ _⟩ (by decide) (Nat.le_of_ble_eq_true rfl) rfl (fun G Rt hG hQ => ?_)
  replace hG : gSim l D cs layC ad (gZc ad tX tY sK sV) 3 RX5 cX5_foreseeFrom 11 none G Rt := hG
  unfold wX5_foreseeFrom at h
  refine s_aload_n (n := 1) hG dX5_foreseeFrom_0 rfl rfl ?_
  refine gtX5_16 (n := 4) hG dX5_foreseeFrom_1 rfl ?_
  refine s_iload_n (n := 5) hG dX5_foreseeFrom_4 rfl rfl ?_
  obtain ⟨hin, h⟩ := h
  refine s_aa25 (n := 6) hG dX5_foreseeFrom_5 hin rfl ?_
  refine s_astore (n := 8) (lv2 := [some (.ref (ad 5)), some (.int a1), some (.int a2), some (.int a3), some (.ref (ad (35 + a2.toNatClampNeg))), none, none, none, none, none, none]) hG dX5_foreseeFrom_6 rfl rfl rfl ?_
  refine s_iload_n (n := 9) hG dX5_foreseeFrom_8 rfl rfl ?_
  refine s_bipush (n := 11) hG dX5_foreseeFrom_9 kb_41 rfl ?_
  refine s_imul (n := 12) hG dX5_foreseeFrom_11 rfl ?_
  refine s_topi (fun x5_12 hx5_12 => ?_)
  replace h := h x5_12 hx5_12
  refine s_istore (n := 14) (lv2 := [some (.ref (ad 5)), some (.int a1), some (.int a2), some (.int a3), some (.ref (ad (35 + a2.toNatClampNeg))), some (.int x5_12), none, none, none, none, none]) hG dX5_foreseeFrom_12 rfl rfl rfl ?_
  refine s_iload_n (n := 15) hG dX5_foreseeFrom_14 rfl rfl ?_
  refine s_iconst (n := 16) hG dX5_foreseeFrom_15 ki_1 rfl ?_
  refine s_iadd (n := 17) hG dX5_foreseeFrom_16 rfl ?_
  refine s_bipush (n := 19) hG dX5_foreseeFrom_17 kb_41 rfl ?_
  refine s_imul (n := 20) hG dX5_foreseeFrom_19 rfl ?_
  refine s_topi (fun x6_20 hx6_20 => ?_)
  replace h := h x6_20 hx6_20
  refine s_istore (n := 22) (lv2 := [some (.ref (ad 5)), some (.int a1), some (.int a2), some (.int a3), some (.ref (ad (35 + a2.toNatClampNeg))), some (.int x5_12), some (.int x6_20), none, none, none, none]) hG dX5_foreseeFrom_20 rfl rfl rfl ?_
  refine s_iconst (n := 23) hG dX5_foreseeFrom_22 ki_0 rfl ?_
  refine s_istore (n := 25) (lv2 := [some (.ref (ad 5)), some (.int a1), some (.int a2), some (.int a3), some (.ref (ad (35 + a2.toNatClampNeg))), some (.int x5_12), some (.int x6_20), some (.int 0), none, none, none]) hG dX5_foreseeFrom_23 rfl rfl rfl ?_
  refine s_aload (n := 27) hG dX5_foreseeFrom_25 rfl rfl ?_
  refine s_iload (n := 29) hG dX5_foreseeFrom_27 rfl rfl ?_
  refine s_iconst (n := 30) hG dX5_foreseeFrom_29 ki_0 rfl ?_
  obtain ⟨hin, h⟩ := h
  refine s_iast (n := 31) hG dX5_foreseeFrom_30 hin rfl ?_
  refine s_nf (fun f30 hf30 => ?_)
  replace h := h f30 hf30
  refine s_iconst (n := 32) hG dX5_foreseeFrom_31 ki_0 rfl ?_
  refine s_istore (n := 34) (lv2 := [some (.ref (ad 5)), some (.int a1), some (.int a2), some (.int a3), some (.ref (ad (35 + a2.toNatClampNeg))), some (.int x5_12), some (.int x6_20), some (.int 0), some (.int 0), none, none]) hG dX5_foreseeFrom_32 rfl rfl rfl ?_
  exact s_wk hG (sX5_foreseeFrom_l34 hE hG hQ  N _ _ _ _ h) ⟨rfl, rfl, rfl, rfl, rfl, rfl, rfl, rfl, rfl, trivial⟩
def wX5_foresee_l46 (N : Nat) (v1 : Int32) (v2 : Int32) (K17 : Int32 → gFG → gFF → Prop) (Q : gFG → gFF → Prop) : Nat → Int32 → gFG → gFF → Prop
  | 0, _, _, _ => False
  | n + 1, v3, g, f => ((4 ≤ v3) → ∀ x2_64 : Int32, x2_64 = (v2 + (-1)) → K17 x2_64 g f) ∧ ((¬ 4 ≤ v3) → wX5_foreseeFrom N v2 v3 v1 g f (fun g55 f55 => ∀ x3_58 : Int32, x3_58 = (v3 + 1) → wX5_foresee_l46 N v1 v2 K17 Q n x3_58 g55 f55))
theorem sX5_foresee_l46 {G : gG} {Rt : Option Value → gSt → Prop} (hE : gInj layC ad) (hG : gSim l D cs layC ad (gZc ad tX tY sK sV) 4 RX5 cX5_foresee 4 none G Rt) {Q : gFG → gFF → Prop} (hQ : ∀ v S, gQv Q v S → Rt v S) {N : Nat} {v1 : Int32} {v2 : Int32} {K17 : Int32 → gFG → gFF → Prop}  (hK17 : ∀ (uv2 : Int32) (ug : gFG) (uf : gFF), K17 uv2 ug uf → G 17 [some (.ref (ad 5)), some (.int v1), some (.int uv2), none] [] (ug, uf, 0)) : ∀ (n : Nat) (v3 : Int32) (g : gFG) (f : gFF), wX5_foresee_l46 N v1 v2 K17 Q n v3 g f → G 46 [some (.ref (ad 5)), some (.int v1), some (.int v2), some (.int v3)] [] (g, f, 0) := by
  intro n
  induction n with
  | zero => intro _ _ _ h; unfold wX5_foresee_l46 at h; exact h.elim
  | succ n ih =>
    intro v3 g f h
    unfold wX5_foresee_l46 at h
    refine s_iload_n (n := 47) hG dX5_foresee_46 rfl rfl ?_
    refine s_iconst (n := 48) hG dX5_foresee_47 ki_4 rfl ?_
    refine s_icmp_ge (n := 51) (tgt := 64) hG dX5_foresee_48 rfl rfl (fun c => ?_) (fun c => ?_)
    · replace h := h.1 c
      obtain ⟨x2_64, hx2_64⟩ : ∃ z : Int32, z = (v2 + (-1)) := ⟨_, rfl⟩
      replace h := h x2_64 hx2_64
      refine s_iinc (n := 67) (v := x2_64) (lv2 := [some (.ref (ad 5)), some (.int v1), some (.int x2_64), some (.int v3)]) hG dX5_foresee_64 ki_m1 rfl hx2_64 rfl rfl rfl ?_
      refine s_goto (tgt := 17) hG dX5_foresee_67 rfl ?_
      exact s_wk hG (hK17 _ _ _ h) ⟨rfl, rfl, rfl, trivial⟩
    · replace h := h.2 c
      refine s_aload_n (n := 52) hG dX5_foresee_51 rfl rfl ?_
      refine s_iload_n (n := 53) hG dX5_foresee_52 rfl rfl ?_
      refine s_iload_n (n := 54) hG dX5_foresee_53 rfl rfl ?_
      refine s_iload_n (n := 55) hG dX5_foresee_54 rfl rfl ?_
      refine s_callV (n := 58) (st := []) hG (mX5_foreseeFrom hE h) ceX5_foreseeFrom lmX5_95 ⟨by decide, rfl, rfl⟩ rfl ⟨rfl, Nat.le_of_ble_eq_true rfl, by decide⟩ dX5_foresee_55 rfl ?_
      rintro _ _ ⟨g55, f55, rfl, rfl, h⟩
      obtain ⟨x3_58, hx3_58⟩ : ∃ z : Int32, z = (v3 + 1) := ⟨_, rfl⟩
      replace h := h x3_58 hx3_58
      refine s_iinc (n := 61) (v := x3_58) (lv2 := [some (.ref (ad 5)), some (.int v1), some (.int v2), some (.int x3_58)]) hG dX5_foresee_58 ki_1 rfl hx3_58 rfl rfl rfl ?_
      refine s_goto (tgt := 46) hG dX5_foresee_61 rfl ?_
      exact s_wk hG (ih _ _ _ h) ⟨rfl, rfl, rfl, rfl, trivial⟩
def wX5_foresee_l17 (N : Nat) (v1 : Int32)  (Q : gFG → gFF → Prop) : Nat → Int32 → gFG → gFF → Prop
  | 0, _, _, _ => False
  | n + 1, v2, g, f => ((v2 < 0) → Q g f) ∧ ((¬ v2 < 0) → ∀ i33 : Int32, i33 = (v2 + 1) → (vp_in i33 7) ∧ (wX4_unitsAt N v2 g f (fun r39 g39 f39 => ∀ y43 : Int32, y43 = ((f 28 i33.toNatClampNeg) + r39) → (vp_in v2 7) ∧ (∀ f43 : gFF, f43 = (va_up f39 28 (upd (f39 28) v2.toNatClampNeg y43)) → wX5_foresee_l46 N v1 v2 (wX5_foresee_l17 N v1  Q n) Q N 0 g39 f43))))
theorem sX5_foresee_l17 {G : gG} {Rt : Option Value → gSt → Prop} (hE : gInj layC ad) (hG : gSim l D cs layC ad (gZc ad tX tY sK sV) 4 RX5 cX5_foresee 4 none G Rt) {Q : gFG → gFF → Prop} (hQ : ∀ v S, gQv Q v S → Rt v S) {N : Nat} {v1 : Int32}    : ∀ (n : Nat) (v2 : Int32) (g : gFG) (f : gFF), wX5_foresee_l17 N v1  Q n v2 g f → G 17 [some (.ref (ad 5)), some (.int v1), some (.int v2), none] [] (g, f, 0) := by
  intro n
  induction n with
  | zero => intro _ _ _ h; unfold wX5_foresee_l17 at h; exact h.elim
  | succ n ih =>
    intro v2 g f h
    unfold wX5_foresee_l17 at h
    refine s_iload_n (n := 18) hG dX5_foresee_17 rfl rfl ?_
    refine s_if_lt (n := 21) (tgt := 70) hG dX5_foresee_18 rfl rfl (fun c => ?_) (fun c => ?_)
    · replace h := h.1 c
      exact s_vret hG dX5_foresee_70 (hQ _ _ ⟨_, _, rfl, rfl, h⟩)
    · replace h := h.2 c
      refine s_aload_n (n := 22) hG dX5_foresee_21 rfl rfl ?_
      refine gtX5_26 (n := 25) hG dX5_foresee_22 rfl ?_
      refine s_iload_n (n := 26) hG dX5_foresee_25 rfl rfl ?_
      refine s_aload_n (n := 27) hG dX5_foresee_26 rfl rfl ?_
      refine gtX5_26 (n := 30) hG dX5_foresee_27 rfl ?_
      refine s_iload_n (n := 31) hG dX5_foresee_30 rfl rfl ?_
      refine s_iconst (n := 32) hG dX5_foresee_31 ki_1 rfl ?_
      refine s_iadd (n := 33) hG dX5_foresee_32 rfl ?_
      refine s_topi (fun i33 hi33 => ?_)
      replace h := h i33 hi33
      obtain ⟨hin, h⟩ := h
      refine s_iald (n := 34) hG dX5_foresee_33 (gaC_28 hin) rfl ?_
      refine s_aload_n (n := 35) hG dX5_foresee_34 rfl rfl ?_
      refine gtX5_49 (n := 38) hG dX5_foresee_35 rfl ?_
      refine s_iload_n (n := 39) hG dX5_foresee_38 rfl rfl ?_
      refine s_callV (n := 42) (st := [.int (f 28 i33.toNatClampNeg), .int v2, .ref (ad 28)]) hG (mX4_unitsAt hE h) ceX4_unitsAt lmX5_92 ⟨by decide, rfl, rfl⟩ rfl ⟨rfl, Nat.le_of_ble_eq_true rfl, by decide⟩ dX5_foresee_39 rfl ?_
      rintro _ _ ⟨r39, g39, f39, rfl, rfl, h⟩
      refine s_iadd (n := 43) hG dX5_foresee_42 rfl ?_
      refine s_topi (fun y43 hy43 => ?_)
      replace h := h y43 hy43
      obtain ⟨hin, h⟩ := h
      refine s_iast (n := 44) hG dX5_foresee_43 (gaC_28 hin) rfl ?_
      refine s_nf (fun f43 hf43 => ?_)
      replace h := h f43 hf43
      refine s_iconst (n := 45) hG dX5_foresee_44 ki_0 rfl ?_
      refine s_istore_n (n := 46) (lv2 := [some (.ref (ad 5)), some (.int v1), some (.int v2), some (.int 0)]) hG dX5_foresee_45 rfl rfl rfl ?_
      exact s_wk hG (sX5_foresee_l46 hE hG hQ ih N _ _ _ h) ⟨rfl, rfl, rfl, rfl, trivial⟩
def wX5_foresee (N : Nat) (a1 : Int32) (g : gFG) (f : gFF) (Q : gFG → gFF → Prop) : Prop := ∀ i11 : Int32, i11 = ((g 14) + 1) → (vp_in i11 7) ∧ (∀ f11 : gFF, f11 = (va_up f 28 (upd (f 28) i11.toNatClampNeg 0)) → ∀ x2_16 : Int32, x2_16 = (g 14) → wX5_foresee_l17 N a1 Q N x2_16 g f11)
theorem mX5_foresee (hE : gInj layC ad) {N : Nat} {a1 : Int32} {g : gFG} {f : gFF} {Q : gFG → gFF → Prop} (h : wX5_foresee N a1 g f Q) : gCT l D cs layC ad (gZc ad tX tY sK sV) 4 yX5_foresee cX5_foresee 4 none [.ref (ad 5), .int a1] (g, f, 0) (gQv Q) := by
  refine met_walk (lv0 := [some (.ref (ad 5)), some (.int a1), none, none]) ⟨hE, gZc_ok _ _ _ _ _⟩ (by decide) (Nat.le_of_ble_eq_true rfl) rfl (fun G Rt hG hQ => ?_)
  replace hG : gSim l D cs layC ad (gZc ad tX tY sK sV) 4 RX5 cX5_foresee 4 none G Rt := hG
  unfold wX5_foresee at h
  refine s_aload_n (n := 1) hG dX5_foresee_0 rfl rfl ?_
  refine gtX5_26 (n := 4) hG dX5_foresee_1 rfl ?_
  refine s_aload_n (n := 5) hG dX5_foresee_4 rfl rfl ?_
  refine gtX5_35 (n := 8) hG dX5_foresee_5 rfl ?_
  refine s_iconst (n := 9) hG dX5_foresee_8 ki_1 rfl ?_
  refine s_iadd (n := 10) hG dX5_foresee_9 rfl ?_
  refine s_iconst (n := 11) hG dX5_foresee_10 ki_0 rfl ?_
  refine s_topi2 (fun i11 hi11 => ?_)
  replace h := h i11 hi11
  obtain ⟨hin, h⟩ := h
  refine s_iast (n := 12) hG dX5_foresee_11 (gaC_28 hin) rfl ?_
  refine s_nf (fun f11 hf11 => ?_)
  replace h := h f11 hf11
  refine s_aload_n (n := 13) hG dX5_foresee_12 rfl rfl ?_
  refine gtX5_35 (n := 16) hG dX5_foresee_13 rfl ?_
  refine s_topi (fun x2_16 hx2_16 => ?_)
  replace h := h x2_16 hx2_16
  refine s_istore_n (n := 17) (lv2 := [some (.ref (ad 5)), some (.int a1), some (.int x2_16), none]) hG dX5_foresee_16 rfl rfl rfl ?_
  exact s_wk hG (sX5_foresee_l17 hE hG hQ  N _ _ _ h) ⟨rfl, rfl, rfl, trivial⟩
def wX5_price (N : Nat)  (g : gFG) (f : gFF) (Q : Int32 → gFG → gFF → Prop) : Prop := (vp_in 0 4) ∧ (Q ((f 27 (0 : Int32).toNatClampNeg) + 1) g f)
theorem mX5_price (hE : gInj layC ad) {N : Nat}  {g : gFG} {f : gFF} {Q : Int32 → gFG → gFF → Prop} (h : wX5_price N  g f Q) : gCT l D cs layC ad (gZc ad tX tY sK sV) 1 yX5_price cX5_price 1 (some .int) [.ref (ad 5)] (g, f, 0) (gQi Q) := by
  refine met_walk (lv0 := [some (.ref (ad 5))]) ⟨hE, gZc_ok _ _ _ _ _⟩ (by decide) (Nat.le_of_ble_eq_true rfl) rfl (fun G Rt hG hQ => ?_)
  replace hG : gSim l D cs layC ad (gZc ad tX tY sK sV) 1 RX5 cX5_price 1 (some .int) G Rt := hG
  unfold wX5_price at h
  refine s_aload_n (n := 1) hG dX5_price_0 rfl rfl ?_
  refine gtX5_22 (n := 4) hG dX5_price_1 rfl ?_
  refine s_iconst (n := 5) hG dX5_price_4 ki_0 rfl ?_
  obtain ⟨hin, h⟩ := h
  refine s_iald (n := 6) hG dX5_price_5 (gaC_27 hin) rfl ?_
  refine s_iconst (n := 7) hG dX5_price_6 ki_1 rfl ?_
  refine s_iadd (n := 8) hG dX5_price_7 rfl ?_
  exact s_iret hG dX5_price_8 (hQ _ _ ⟨_, _, _, rfl, rfl, h⟩)
def wX5_unitsOf (N : Nat) (a1 : Int32) (g : gFG) (f : gFF) (Q : Int32 → gFG → gFF → Prop) : Prop := ((a1 < 0) → Q 0 g f) ∧ ((¬ a1 < 0) → ((6 ≤ a1) → Q 0 g f) ∧ ((¬ 6 ≤ a1) → (vp_in a1 6) ∧ (Q (f 30 a1.toNatClampNeg) g f)))
theorem mX5_unitsOf (hE : gInj layC ad) {N : Nat} {a1 : Int32} {g : gFG} {f : gFF} {Q : Int32 → gFG → gFF → Prop} (h : wX5_unitsOf N a1 g f Q) : gCT l D cs layC ad (gZc ad tX tY sK sV) 1 yX5_unitsOf cX5_unitsOf 2 (some .int) [.ref (ad 5), .int a1] (g, f, 0) (gQi Q) := by
  refine met_walk (lv0 := [some (.ref (ad 5)), some (.int a1)]) ⟨hE, gZc_ok _ _ _ _ _⟩ (by decide) (Nat.le_of_ble_eq_true rfl) rfl (fun G Rt hG hQ => ?_)
  replace hG : gSim l D cs layC ad (gZc ad tX tY sK sV) 1 RX5 cX5_unitsOf 2 (some .int) G Rt := hG
  unfold wX5_unitsOf at h
  refine s_iload_n (n := 1) hG dX5_unitsOf_0 rfl rfl ?_
  refine s_if_lt (n := 4) (tgt := 19) hG dX5_unitsOf_1 rfl rfl (fun c => ?_) (fun c => ?_)
  · replace h := h.1 c
    refine s_iconst (n := 20) hG dX5_unitsOf_19 ki_0 rfl ?_
    exact s_iret hG dX5_unitsOf_20 (hQ _ _ ⟨_, _, _, rfl, rfl, h⟩)
  · replace h := h.2 c
    refine s_iload_n (n := 5) hG dX5_unitsOf_4 rfl rfl ?_
    refine s_bipush (n := 7) hG dX5_unitsOf_5 kb_6 rfl ?_
    refine s_icmp_ge (n := 10) (tgt := 19) hG dX5_unitsOf_7 rfl rfl (fun c => ?_) (fun c => ?_)
    · replace h := h.1 c
      refine s_iconst (n := 20) hG dX5_unitsOf_19 ki_0 rfl ?_
      exact s_iret hG dX5_unitsOf_20 (hQ _ _ ⟨_, _, _, rfl, rfl, h⟩)
    · replace h := h.2 c
      refine s_aload_n (n := 11) hG dX5_unitsOf_10 rfl rfl ?_
      refine gtX5_32 (n := 14) hG dX5_unitsOf_11 rfl ?_
      refine s_iload_n (n := 15) hG dX5_unitsOf_14 rfl rfl ?_
      obtain ⟨hin, h⟩ := h
      refine s_iald (n := 16) hG dX5_unitsOf_15 (gaC_30 hin) rfl ?_
      refine s_goto (tgt := 20) hG dX5_unitsOf_16 rfl ?_
      exact s_iret hG dX5_unitsOf_20 (hQ _ _ ⟨_, _, _, rfl, rfl, h⟩)
def wX5_staysBelow_l3 (N : Nat) (v1 : Int32) (v2 : Int32) (v3 : Int32)  (Q : Int32 → gFG → gFF → Prop) : Nat → Int32 → gFG → gFF → Prop
  | 0, _, _, _ => False
  | n + 1, v4, g, f => ((4 ≤ v4) → Q 1 g f) ∧ ((¬ 4 ≤ v4) → (vp_in v4 4) ∧ ((gia layC (39 + v4.toNatClampNeg) v1) ∧ ((vp_in v4 4) ∧ ((gia layC (31 + v4.toNatClampNeg) v1) ∧ (∀ x5_30 : Int32, x5_30 = ((f (39 + v4.toNatClampNeg) v1.toNatClampNeg) + (v2 * (f (31 + v4.toNatClampNeg) v1.toNatClampNeg))) → (vp_in v4 4) ∧ (∀ i49 : Int32, i49 = (((v1 + 1) * 41) + v3) → (gia layC (35 + v4.toNatClampNeg) i49) ∧ ((vp_in v4 4) ∧ ((((x5_30 + (f (35 + v4.toNatClampNeg) i49.toNatClampNeg)) ≤ (f 27 v4.toNatClampNeg)) → (vp_in v4 4) ∧ (∀ i75 : Int32, i75 = (v1 + 1) → (gia layC (39 + v4.toNatClampNeg) i75) ∧ (∀ f75 : gFF, f75 = (va_up f (39 + v4.toNatClampNeg) (upd (f (39 + v4.toNatClampNeg)) i75.toNatClampNeg x5_30)) → ∀ x4_76 : Int32, x4_76 = (v4 + 1) → wX5_staysBelow_l3 N v1 v2 v3  Q n x4_76 g f75))) ∧ ((¬ (x5_30 + (f (35 + v4.toNatClampNeg) i49.toNatClampNeg)) ≤ (f 27 v4.toNatClampNeg)) → Q 0 g f)))))))))
theorem sX5_staysBelow_l3 {G : gG} {Rt : Option Value → gSt → Prop} (hE : gInj layC ad) (hG : gSim l D cs layC ad (gZc ad tX tY sK sV) 1 RX5 cX5_staysBelow 6 (some .boolean) G Rt) {Q : Int32 → gFG → gFF → Prop} (hQ : ∀ v S, gQi Q v S → Rt v S) {N : Nat} {v1 : Int32} {v2 : Int32} {v3 : Int32}    : ∀ (n : Nat) (v4 : Int32) (g : gFG) (f : gFF), wX5_staysBelow_l3 N v1 v2 v3  Q n v4 g f → G 3 [some (.ref (ad 5)), some (.int v1), some (.int v2), some (.int v3), some (.int v4), none] [] (g, f, 0) := by
  intro n
  induction n with
  | zero => intro _ _ _ h; unfold wX5_staysBelow_l3 at h; exact h.elim
  | succ n ih =>
    intro v4 g f h
    unfold wX5_staysBelow_l3 at h
    refine s_iload (n := 5) hG dX5_staysBelow_3 rfl rfl ?_
    refine s_iconst (n := 6) hG dX5_staysBelow_5 ki_4 rfl ?_
    refine s_icmp_ge (n := 9) (tgt := 82) hG dX5_staysBelow_6 rfl rfl (fun c => ?_) (fun c => ?_)
    · replace h := h.1 c
      refine s_iconst (n := 83) hG dX5_staysBelow_82 ki_1 rfl ?_
      exact s_zret hG dX5_staysBelow_83 (gz_n gz_1) (hQ _ _ ⟨_, _, _, rfl, rfl, h⟩)
    · replace h := h.2 c
      refine s_aload_n (n := 10) hG dX5_staysBelow_9 rfl rfl ?_
      refine gtX5_19 (n := 13) hG dX5_staysBelow_10 rfl ?_
      refine s_iload (n := 15) hG dX5_staysBelow_13 rfl rfl ?_
      obtain ⟨hin, h⟩ := h
      refine s_aa26 (n := 16) hG dX5_staysBelow_15 hin rfl ?_
      refine s_iload_n (n := 17) hG dX5_staysBelow_16 rfl rfl ?_
      obtain ⟨hin, h⟩ := h
      refine s_iald (n := 18) hG dX5_staysBelow_17 hin rfl ?_
      refine s_iload_n (n := 19) hG dX5_staysBelow_18 rfl rfl ?_
      refine s_aload_n (n := 20) hG dX5_staysBelow_19 rfl rfl ?_
      refine gtX5_13 (n := 23) hG dX5_staysBelow_20 rfl ?_
      refine s_iload (n := 25) hG dX5_staysBelow_23 rfl rfl ?_
      obtain ⟨hin, h⟩ := h
      refine s_aa24 (n := 26) hG dX5_staysBelow_25 hin rfl ?_
      refine s_iload_n (n := 27) hG dX5_staysBelow_26 rfl rfl ?_
      obtain ⟨hin, h⟩ := h
      refine s_iald (n := 28) hG dX5_staysBelow_27 hin rfl ?_
      refine s_imul (n := 29) hG dX5_staysBelow_28 rfl ?_
      refine s_iadd (n := 30) hG dX5_staysBelow_29 rfl ?_
      refine s_topi (fun x5_30 hx5_30 => ?_)
      replace h := h x5_30 hx5_30
      refine s_istore (n := 32) (lv2 := [some (.ref (ad 5)), some (.int v1), some (.int v2), some (.int v3), some (.int v4), some (.int x5_30)]) hG dX5_staysBelow_30 rfl rfl rfl ?_
      refine s_iload (n := 34) hG dX5_staysBelow_32 rfl rfl ?_
      refine s_aload_n (n := 35) hG dX5_staysBelow_34 rfl rfl ?_
      refine gtX5_16 (n := 38) hG dX5_staysBelow_35 rfl ?_
      refine s_iload (n := 40) hG dX5_staysBelow_38 rfl rfl ?_
      obtain ⟨hin, h⟩ := h
      refine s_aa25 (n := 41) hG dX5_staysBelow_40 hin rfl ?_
      refine s_iload_n (n := 42) hG dX5_staysBelow_41 rfl rfl ?_
      refine s_iconst (n := 43) hG dX5_staysBelow_42 ki_1 rfl ?_
      refine s_iadd (n := 44) hG dX5_staysBelow_43 rfl ?_
      refine s_bipush (n := 46) hG dX5_staysBelow_44 kb_41 rfl ?_
      refine s_imul (n := 47) hG dX5_staysBelow_46 rfl ?_
      refine s_iload_n (n := 48) hG dX5_staysBelow_47 rfl rfl ?_
      refine s_iadd (n := 49) hG dX5_staysBelow_48 rfl ?_
      refine s_topi (fun i49 hi49 => ?_)
      replace h := h i49 hi49
      obtain ⟨hin, h⟩ := h
      refine s_iald (n := 50) hG dX5_staysBelow_49 hin rfl ?_
      refine s_iadd (n := 51) hG dX5_staysBelow_50 rfl ?_
      refine s_aload_n (n := 52) hG dX5_staysBelow_51 rfl rfl ?_
      refine gtX5_22 (n := 55) hG dX5_staysBelow_52 rfl ?_
      refine s_iload (n := 57) hG dX5_staysBelow_55 rfl rfl ?_
      obtain ⟨hin, h⟩ := h
      refine s_iald (n := 58) hG dX5_staysBelow_57 (gaC_27 hin) rfl ?_
      refine s_icmp_le (n := 61) (tgt := 63) hG dX5_staysBelow_58 rfl rfl (fun c => ?_) (fun c => ?_)
      · replace h := h.1 c
        refine s_aload_n (n := 64) hG dX5_staysBelow_63 rfl rfl ?_
        refine gtX5_19 (n := 67) hG dX5_staysBelow_64 rfl ?_
        refine s_iload (n := 69) hG dX5_staysBelow_67 rfl rfl ?_
        obtain ⟨hin, h⟩ := h
        refine s_aa26 (n := 70) hG dX5_staysBelow_69 hin rfl ?_
        refine s_iload_n (n := 71) hG dX5_staysBelow_70 rfl rfl ?_
        refine s_iconst (n := 72) hG dX5_staysBelow_71 ki_1 rfl ?_
        refine s_iadd (n := 73) hG dX5_staysBelow_72 rfl ?_
        refine s_iload (n := 75) hG dX5_staysBelow_73 rfl rfl ?_
        refine s_topi2 (fun i75 hi75 => ?_)
        replace h := h i75 hi75
        obtain ⟨hin, h⟩ := h
        refine s_iast (n := 76) hG dX5_staysBelow_75 hin rfl ?_
        refine s_nf (fun f75 hf75 => ?_)
        replace h := h f75 hf75
        obtain ⟨x4_76, hx4_76⟩ : ∃ z : Int32, z = (v4 + 1) := ⟨_, rfl⟩
        replace h := h x4_76 hx4_76
        refine s_iinc (n := 79) (v := x4_76) (lv2 := [some (.ref (ad 5)), some (.int v1), some (.int v2), some (.int v3), some (.int x4_76), some (.int x5_30)]) hG dX5_staysBelow_76 ki_1 rfl hx4_76 rfl rfl rfl ?_
        refine s_goto (tgt := 3) hG dX5_staysBelow_79 rfl ?_
        exact s_wk hG (ih _ _ _ h) ⟨rfl, rfl, rfl, rfl, rfl, trivial⟩
      · replace h := h.2 c
        refine s_iconst (n := 62) hG dX5_staysBelow_61 ki_0 rfl ?_
        exact s_zret hG dX5_staysBelow_62 (gz_n gz_0) (hQ _ _ ⟨_, _, _, rfl, rfl, h⟩)
def wX5_staysBelow (N : Nat) (a1 : Int32) (a2 : Int32) (a3 : Int32) (g : gFG) (f : gFF) (Q : Int32 → gFG → gFF → Prop) : Prop := wX5_staysBelow_l3 N a1 a2 a3 Q N 0 g f
theorem mX5_staysBelow (hE : gInj layC ad) {N : Nat} {a1 : Int32} {a2 : Int32} {a3 : Int32} {g : gFG} {f : gFF} {Q : Int32 → gFG → gFF → Prop} (h : wX5_staysBelow N a1 a2 a3 g f Q) : gCT l D cs layC ad (gZc ad tX tY sK sV) 1 yX5_staysBelow cX5_staysBelow 6 (some .boolean) [.ref (ad 5), .int a1, .int a2, .int a3] (g, f, 0) (gQi Q) := by
  refine met_walk (lv0 := [some (.ref (ad 5)), some (.int a1), some (.int a2), some (.int a3), none, none]) ⟨hE, gZc_ok _ _ _ _ _⟩ (by decide) (Nat.le_of_ble_eq_true rfl) rfl (fun G Rt hG hQ => ?_)
  replace hG : gSim l D cs layC ad (gZc ad tX tY sK sV) 1 RX5 cX5_staysBelow 6 (some .boolean) G Rt := hG
  unfold wX5_staysBelow at h
  refine s_iconst (n := 1) hG dX5_staysBelow_0 ki_0 rfl ?_
  refine s_istore (n := 3) (lv2 := [some (.ref (ad 5)), some (.int a1), some (.int a2), some (.int a3), some (.int 0), none]) hG dX5_staysBelow_1 rfl rfl rfl ?_
  exact s_wk hG (sX5_staysBelow_l3 hE hG hQ  N _ _ _ h) ⟨rfl, rfl, rfl, rfl, rfl, trivial⟩
def wX5_narrow (N : Nat) (a1 : Int32) (a2 : Int32) (a3 : Int32) (g : gFG) (f : gFF) (Q : gFG → gFF → Prop) : Prop := (vp_in a1 4) ∧ ((gia layC (31 + a1.toNatClampNeg) a2) ∧ ((vp_in a1 4) ∧ (∀ i18 : Int32, i18 = (g 14) → (gia layC (31 + a1.toNatClampNeg) i18) ∧ (∀ x4_20 : Int32, x4_20 = ((f (31 + a1.toNatClampNeg) a2.toNatClampNeg) - (f (31 + a1.toNatClampNeg) i18.toNatClampNeg)) → (vp_in a1 4) ∧ ((vp_in a1 4) ∧ ((gia layC (39 + a1.toNatClampNeg) a2) ∧ ((vp_in a1 4) ∧ (∀ i48 : Int32, i48 = (g 14) → (gia layC (31 + a1.toNatClampNeg) i48) ∧ (∀ x5_51 : Int32, x5_51 = (((f 27 a1.toNatClampNeg) - (f (39 + a1.toNatClampNeg) a2.toNatClampNeg)) - (a3 * (f (31 + a1.toNatClampNeg) i48.toNatClampNeg))) → ((x4_20 ≤ 0) → ((0 ≤ x4_20) → ((0 ≤ x5_51) → Q g f) ∧ ((¬ 0 ≤ x5_51) → ∀ g114 : gFG, g114 = (va_up g 16 (-1)) → Q g114 f)) ∧ ((¬ 0 ≤ x4_20) → wJ9_floorDiv_7cf53 N x5_51 (-x4_20) g f (fun r94 g94 f94 => wJ9_max_7cf53 N (g 15) (-r94) g94 f94 (fun r98 g98 f98 => ∀ g101 : gFG, g101 = (va_up g98 15 r98) → Q g101 f98)))) ∧ ((¬ x4_20 ≤ 0) → wJ9_floorDiv_7cf53 N x5_51 x4_20 g f (fun r67 g67 f67 => wJ9_min_7cf53 N (g 16) r67 g67 f67 (fun r70 g70 f70 => ∀ g73 : gFG, g73 = (va_up g70 16 r70) → Q g73 f70))))))))))))
theorem mX5_narrow (hE : gInj layC ad) {N : Nat} {a1 : Int32} {a2 : Int32} {a3 : Int32} {g : gFG} {f : gFF} {Q : gFG → gFF → Prop} (h : wX5_narrow N a1 a2 a3 g f Q) : gCT l D cs layC ad (gZc ad tX tY sK sV) 2 yX5_narrow cX5_narrow 6 none [.ref (ad 5), .int a1, .int a2, .int a3] (g, f, 0) (gQv Q) := by
  refine met_walk (lv0 := [some (.ref (ad 5)), some (.int a1), some (.int a2), some (.int a3), none, none]) ⟨hE, gZc_ok _ _ _ _ _⟩ (by decide) (Nat.le_of_ble_eq_true rfl) rfl (fun G Rt hG hQ => ?_)
  replace hG : gSim l D cs layC ad (gZc ad tX tY sK sV) 2 RX5 cX5_narrow 6 none G Rt := hG
  unfold wX5_narrow at h
  refine s_aload_n (n := 1) hG dX5_narrow_0 rfl rfl ?_
  refine gtX5_13 (n := 4) hG dX5_narrow_1 rfl ?_
  refine s_iload_n (n := 5) hG dX5_narrow_4 rfl rfl ?_
  obtain ⟨hin, h⟩ := h
  refine s_aa24 (n := 6) hG dX5_narrow_5 hin rfl ?_
  refine s_iload_n (n := 7) hG dX5_narrow_6 rfl rfl ?_
  obtain ⟨hin, h⟩ := h
  refine s_iald (n := 8) hG dX5_narrow_7 hin rfl ?_
  refine s_aload_n (n := 9) hG dX5_narrow_8 rfl rfl ?_
  refine gtX5_13 (n := 12) hG dX5_narrow_9 rfl ?_
  refine s_iload_n (n := 13) hG dX5_narrow_12 rfl rfl ?_
  obtain ⟨hin, h⟩ := h
  refine s_aa24 (n := 14) hG dX5_narrow_13 hin rfl ?_
  refine s_aload_n (n := 15) hG dX5_narrow_14 rfl rfl ?_
  refine gtX5_35 (n := 18) hG dX5_narrow_15 rfl ?_
  refine s_topi (fun i18 hi18 => ?_)
  replace h := h i18 hi18
  obtain ⟨hin, h⟩ := h
  refine s_iald (n := 19) hG dX5_narrow_18 hin rfl ?_
  refine s_isub (n := 20) hG dX5_narrow_19 rfl ?_
  refine s_topi (fun x4_20 hx4_20 => ?_)
  replace h := h x4_20 hx4_20
  refine s_istore (n := 22) (lv2 := [some (.ref (ad 5)), some (.int a1), some (.int a2), some (.int a3), some (.int x4_20), none]) hG dX5_narrow_20 rfl rfl rfl ?_
  refine s_aload_n (n := 23) hG dX5_narrow_22 rfl rfl ?_
  refine gtX5_22 (n := 26) hG dX5_narrow_23 rfl ?_
  refine s_iload_n (n := 27) hG dX5_narrow_26 rfl rfl ?_
  obtain ⟨hin, h⟩ := h
  refine s_iald (n := 28) hG dX5_narrow_27 (gaC_27 hin) rfl ?_
  refine s_aload_n (n := 29) hG dX5_narrow_28 rfl rfl ?_
  refine gtX5_19 (n := 32) hG dX5_narrow_29 rfl ?_
  refine s_iload_n (n := 33) hG dX5_narrow_32 rfl rfl ?_
  obtain ⟨hin, h⟩ := h
  refine s_aa26 (n := 34) hG dX5_narrow_33 hin rfl ?_
  refine s_iload_n (n := 35) hG dX5_narrow_34 rfl rfl ?_
  obtain ⟨hin, h⟩ := h
  refine s_iald (n := 36) hG dX5_narrow_35 hin rfl ?_
  refine s_isub (n := 37) hG dX5_narrow_36 rfl ?_
  refine s_iload_n (n := 38) hG dX5_narrow_37 rfl rfl ?_
  refine s_aload_n (n := 39) hG dX5_narrow_38 rfl rfl ?_
  refine gtX5_13 (n := 42) hG dX5_narrow_39 rfl ?_
  refine s_iload_n (n := 43) hG dX5_narrow_42 rfl rfl ?_
  obtain ⟨hin, h⟩ := h
  refine s_aa24 (n := 44) hG dX5_narrow_43 hin rfl ?_
  refine s_aload_n (n := 45) hG dX5_narrow_44 rfl rfl ?_
  refine gtX5_35 (n := 48) hG dX5_narrow_45 rfl ?_
  refine s_topi (fun i48 hi48 => ?_)
  replace h := h i48 hi48
  obtain ⟨hin, h⟩ := h
  refine s_iald (n := 49) hG dX5_narrow_48 hin rfl ?_
  refine s_imul (n := 50) hG dX5_narrow_49 rfl ?_
  refine s_isub (n := 51) hG dX5_narrow_50 rfl ?_
  refine s_topi (fun x5_51 hx5_51 => ?_)
  replace h := h x5_51 hx5_51
  refine s_istore (n := 53) (lv2 := [some (.ref (ad 5)), some (.int a1), some (.int a2), some (.int a3), some (.int x4_20), some (.int x5_51)]) hG dX5_narrow_51 rfl rfl rfl ?_
  refine s_iload (n := 55) hG dX5_narrow_53 rfl rfl ?_
  refine s_if_le (n := 58) (tgt := 79) hG dX5_narrow_55 rfl rfl (fun c => ?_) (fun c => ?_)
  · replace h := h.1 c
    refine s_iload (n := 81) hG dX5_narrow_79 rfl rfl ?_
    refine s_if_ge (n := 84) (tgt := 107) hG dX5_narrow_81 rfl rfl (fun c => ?_) (fun c => ?_)
    · replace h := h.1 c
      refine s_iload (n := 109) hG dX5_narrow_107 rfl rfl ?_
      refine s_if_ge (n := 112) (tgt := 117) hG dX5_narrow_109 rfl rfl (fun c => ?_) (fun c => ?_)
      · replace h := h.1 c
        exact s_vret hG dX5_narrow_117 (hQ _ _ ⟨_, _, rfl, rfl, h⟩)
      · replace h := h.2 c
        refine s_aload_n (n := 113) hG dX5_narrow_112 rfl rfl ?_
        refine s_iconst (n := 114) hG dX5_narrow_113 ki_m1 rfl ?_
        refine ptX5_42 (n := 117) hG dX5_narrow_114 rfl ?_
        refine s_ng (fun g114 hg114 => ?_)
        replace h := h g114 hg114
        exact s_vret hG dX5_narrow_117 (hQ _ _ ⟨_, _, rfl, rfl, h⟩)
    · replace h := h.2 c
      refine s_aload_n (n := 85) hG dX5_narrow_84 rfl rfl ?_
      refine s_aload_n (n := 86) hG dX5_narrow_85 rfl rfl ?_
      refine gtX5_39 (n := 89) hG dX5_narrow_86 rfl ?_
      refine s_iload (n := 91) hG dX5_narrow_89 rfl rfl ?_
      refine s_iload (n := 93) hG dX5_narrow_91 rfl rfl ?_
      refine s_ineg (n := 94) hG dX5_narrow_93 rfl ?_
      refine s_callS (n := 97) (st := [.int (g 15), .ref (ad 5)]) hG (mJ9_floorDiv_7cf53 hE h) ceJ9_floorDiv_7cf53 lmX5_115 rfl ⟨rfl, Nat.le_of_ble_eq_true rfl, by decide⟩ dX5_narrow_94 rfl ?_
      rintro _ _ ⟨r94, g94, f94, rfl, rfl, h⟩
      refine s_ineg (n := 98) hG dX5_narrow_97 rfl ?_
      refine s_callS (n := 101) (st := [.ref (ad 5)]) hG (mJ9_max_7cf53 hE h) ceJ9_max_7cf53 lmX5_73 rfl ⟨rfl, Nat.le_of_ble_eq_true rfl, by decide⟩ dX5_narrow_98 rfl ?_
      rintro _ _ ⟨r98, g98, f98, rfl, rfl, h⟩
      refine ptX5_39 (n := 104) hG dX5_narrow_101 rfl ?_
      refine s_ng (fun g101 hg101 => ?_)
      replace h := h g101 hg101
      refine s_goto (tgt := 117) hG dX5_narrow_104 rfl ?_
      exact s_vret hG dX5_narrow_117 (hQ _ _ ⟨_, _, rfl, rfl, h⟩)
  · replace h := h.2 c
    refine s_aload_n (n := 59) hG dX5_narrow_58 rfl rfl ?_
    refine s_aload_n (n := 60) hG dX5_narrow_59 rfl rfl ?_
    refine gtX5_42 (n := 63) hG dX5_narrow_60 rfl ?_
    refine s_iload (n := 65) hG dX5_narrow_63 rfl rfl ?_
    refine s_iload (n := 67) hG dX5_narrow_65 rfl rfl ?_
    refine s_callS (n := 70) (st := [.int (g 16), .ref (ad 5)]) hG (mJ9_floorDiv_7cf53 hE h) ceJ9_floorDiv_7cf53 lmX5_115 rfl ⟨rfl, Nat.le_of_ble_eq_true rfl, by decide⟩ dX5_narrow_67 rfl ?_
    rintro _ _ ⟨r67, g67, f67, rfl, rfl, h⟩
    refine s_callS (n := 73) (st := [.ref (ad 5)]) hG (mJ9_min_7cf53 hE h) ceJ9_min_7cf53 lmX5_79 rfl ⟨rfl, Nat.le_of_ble_eq_true rfl, by decide⟩ dX5_narrow_70 rfl ?_
    rintro _ _ ⟨r70, g70, f70, rfl, rfl, h⟩
    refine ptX5_42 (n := 76) hG dX5_narrow_73 rfl ?_
    refine s_ng (fun g73 hg73 => ?_)
    replace h := h g73 hg73
    refine s_goto (tgt := 117) hG dX5_narrow_76 rfl ?_
    exact s_vret hG dX5_narrow_117 (hQ _ _ ⟨_, _, rfl, rfl, h⟩)
def wX5_keepRow (N : Nat)  (g : gFG) (f : gFF) (Q : gFG → gFF → Prop) : Prop := (vp_in 0 4) ∧ (∀ i12 : Int32, i12 = ((g 14) - 1) → (gia layC (39 + (0 : Int32).toNatClampNeg) i12) ∧ (∀ i23 : Int32, i23 = ((g 14) - 1) → (vp_in i23 6) ∧ ((vp_in 0 4) ∧ (∀ i36 : Int32, i36 = ((g 14) - 1) → (gia layC (31 + (0 : Int32).toNatClampNeg) i36) ∧ (∀ i47 : Int32, i47 = (g 14) → (vp_in i47 6) ∧ ((vp_in 0 4) ∧ (∀ i58 : Int32, i58 = (g 14) → (gia layC (31 + (0 : Int32).toNatClampNeg) i58) ∧ (∀ x1_61 : Int32, x1_61 = (((f (39 + (0 : Int32).toNatClampNeg) i12.toNatClampNeg) + ((f 29 i23.toNatClampNeg) * (f (31 + (0 : Int32).toNatClampNeg) i36.toNatClampNeg))) + ((f 29 i47.toNatClampNeg) * (f (31 + (0 : Int32).toNatClampNeg) i58.toNatClampNeg))) → ∀ g64 : gFG, g64 = (va_up g 17 1) → ∀ y75 : Int32, y75 = (x1_61 - 1) → (vp_in 0 4) ∧ (∀ f75 : gFF, f75 = (va_up f 27 (upd (f 27) (0 : Int32).toNatClampNeg y75)) → Q g64 (va_up f75 30 (va_cpy (f75 29) (f75 30) (0 : Int32).toNatClampNeg (0 : Int32).toNatClampNeg (6 : Int32).toNatClampNeg)))))))))))
theorem mX5_keepRow (hE : gInj layC ad) {N : Nat}  {g : gFG} {f : gFF} {Q : gFG → gFF → Prop} (h : wX5_keepRow N  g f Q) : gCT l D cs layC ad (gZc ad tX tY sK sV) 2 yX5_keepRow cX5_keepRow 2 none [.ref (ad 5)] (g, f, 0) (gQv Q) := by
  refine met_walk (lv0 := [some (.ref (ad 5)), none]) ⟨hE, gZc_ok _ _ _ _ _⟩ (by decide) (Nat.le_of_ble_eq_true rfl) rfl (fun G Rt hG hQ => ?_)
  replace hG : gSim l D cs layC ad (gZc ad tX tY sK sV) 2 RX5 cX5_keepRow 2 none G Rt := hG
  unfold wX5_keepRow at h
  refine s_aload_n (n := 1) hG dX5_keepRow_0 rfl rfl ?_
  refine gtX5_19 (n := 4) hG dX5_keepRow_1 rfl ?_
  refine s_iconst (n := 5) hG dX5_keepRow_4 ki_0 rfl ?_
  obtain ⟨hin, h⟩ := h
  refine s_aa26 (n := 6) hG dX5_keepRow_5 hin rfl ?_
  refine s_aload_n (n := 7) hG dX5_keepRow_6 rfl rfl ?_
  refine gtX5_35 (n := 10) hG dX5_keepRow_7 rfl ?_
  refine s_iconst (n := 11) hG dX5_keepRow_10 ki_1 rfl ?_
  refine s_isub (n := 12) hG dX5_keepRow_11 rfl ?_
  refine s_topi (fun i12 hi12 => ?_)
  replace h := h i12 hi12
  obtain ⟨hin, h⟩ := h
  refine s_iald (n := 13) hG dX5_keepRow_12 hin rfl ?_
  refine s_aload_n (n := 14) hG dX5_keepRow_13 rfl rfl ?_
  refine gtX5_29 (n := 17) hG dX5_keepRow_14 rfl ?_
  refine s_aload_n (n := 18) hG dX5_keepRow_17 rfl rfl ?_
  refine gtX5_35 (n := 21) hG dX5_keepRow_18 rfl ?_
  refine s_iconst (n := 22) hG dX5_keepRow_21 ki_1 rfl ?_
  refine s_isub (n := 23) hG dX5_keepRow_22 rfl ?_
  refine s_topi (fun i23 hi23 => ?_)
  replace h := h i23 hi23
  obtain ⟨hin, h⟩ := h
  refine s_iald (n := 24) hG dX5_keepRow_23 (gaC_29 hin) rfl ?_
  refine s_aload_n (n := 25) hG dX5_keepRow_24 rfl rfl ?_
  refine gtX5_13 (n := 28) hG dX5_keepRow_25 rfl ?_
  refine s_iconst (n := 29) hG dX5_keepRow_28 ki_0 rfl ?_
  obtain ⟨hin, h⟩ := h
  refine s_aa24 (n := 30) hG dX5_keepRow_29 hin rfl ?_
  refine s_aload_n (n := 31) hG dX5_keepRow_30 rfl rfl ?_
  refine gtX5_35 (n := 34) hG dX5_keepRow_31 rfl ?_
  refine s_iconst (n := 35) hG dX5_keepRow_34 ki_1 rfl ?_
  refine s_isub (n := 36) hG dX5_keepRow_35 rfl ?_
  refine s_topi (fun i36 hi36 => ?_)
  replace h := h i36 hi36
  obtain ⟨hin, h⟩ := h
  refine s_iald (n := 37) hG dX5_keepRow_36 hin rfl ?_
  refine s_imul (n := 38) hG dX5_keepRow_37 rfl ?_
  refine s_iadd (n := 39) hG dX5_keepRow_38 rfl ?_
  refine s_aload_n (n := 40) hG dX5_keepRow_39 rfl rfl ?_
  refine gtX5_29 (n := 43) hG dX5_keepRow_40 rfl ?_
  refine s_aload_n (n := 44) hG dX5_keepRow_43 rfl rfl ?_
  refine gtX5_35 (n := 47) hG dX5_keepRow_44 rfl ?_
  refine s_topi (fun i47 hi47 => ?_)
  replace h := h i47 hi47
  obtain ⟨hin, h⟩ := h
  refine s_iald (n := 48) hG dX5_keepRow_47 (gaC_29 hin) rfl ?_
  refine s_aload_n (n := 49) hG dX5_keepRow_48 rfl rfl ?_
  refine gtX5_13 (n := 52) hG dX5_keepRow_49 rfl ?_
  refine s_iconst (n := 53) hG dX5_keepRow_52 ki_0 rfl ?_
  obtain ⟨hin, h⟩ := h
  refine s_aa24 (n := 54) hG dX5_keepRow_53 hin rfl ?_
  refine s_aload_n (n := 55) hG dX5_keepRow_54 rfl rfl ?_
  refine gtX5_35 (n := 58) hG dX5_keepRow_55 rfl ?_
  refine s_topi (fun i58 hi58 => ?_)
  replace h := h i58 hi58
  obtain ⟨hin, h⟩ := h
  refine s_iald (n := 59) hG dX5_keepRow_58 hin rfl ?_
  refine s_imul (n := 60) hG dX5_keepRow_59 rfl ?_
  refine s_iadd (n := 61) hG dX5_keepRow_60 rfl ?_
  refine s_topi (fun x1_61 hx1_61 => ?_)
  replace h := h x1_61 hx1_61
  refine s_istore_n (n := 62) (lv2 := [some (.ref (ad 5)), some (.int x1_61)]) hG dX5_keepRow_61 rfl rfl rfl ?_
  refine s_aload_n (n := 63) hG dX5_keepRow_62 rfl rfl ?_
  refine s_iconst (n := 64) hG dX5_keepRow_63 ki_1 rfl ?_
  refine ptX5_45 (n := 67) hG gz_1 dX5_keepRow_64 rfl ?_
  refine s_ng (fun g64 hg64 => ?_)
  replace h := h g64 hg64
  refine s_aload_n (n := 68) hG dX5_keepRow_67 rfl rfl ?_
  refine gtX5_22 (n := 71) hG dX5_keepRow_68 rfl ?_
  refine s_iconst (n := 72) hG dX5_keepRow_71 ki_0 rfl ?_
  refine s_iload_n (n := 73) hG dX5_keepRow_72 rfl rfl ?_
  refine s_iconst (n := 74) hG dX5_keepRow_73 ki_1 rfl ?_
  refine s_isub (n := 75) hG dX5_keepRow_74 rfl ?_
  refine s_topi (fun y75 hy75 => ?_)
  replace h := h y75 hy75
  obtain ⟨hin, h⟩ := h
  refine s_iast (n := 76) hG dX5_keepRow_75 (gaC_27 hin) rfl ?_
  refine s_nf (fun f75 hf75 => ?_)
  replace h := h f75 hf75
  refine s_aload_n (n := 77) hG dX5_keepRow_76 rfl rfl ?_
  refine gtX5_29 (n := 80) hG dX5_keepRow_77 rfl ?_
  refine s_iconst (n := 81) hG dX5_keepRow_80 ki_0 rfl ?_
  refine s_aload_n (n := 82) hG dX5_keepRow_81 rfl rfl ?_
  refine gtX5_32 (n := 85) hG dX5_keepRow_82 rfl ?_
  refine s_iconst (n := 86) hG dX5_keepRow_85 ki_0 rfl ?_
  refine s_bipush (n := 88) hG dX5_keepRow_86 kb_6 rfl ?_
  refine s_acopy (n := 91) (st := []) hG dX5_keepRow_88 (by decide) lmX5_118 ⟨by decide, rfl, by decide, rfl⟩ (by decide) (by decide) (Nat.le_of_ble_eq_true rfl) rfl ?_
  exact s_vret hG dX5_keepRow_91 (hQ _ _ ⟨_, _, rfl, rfl, h⟩)
def wX5_shareOut_j114 (N : Nat)  (Q : gFG → gFF → Prop) (v1 : Int32) (v2 : Int32) (t0 : Int32) (t1 : Int32) (g : gFG) (f : gFF) : Prop := (vp_in t1 6) ∧ (∀ f114 : gFF, f114 = (va_up f 29 (upd (f 29) t1.toNatClampNeg t0)) → (vp_in v2 6) ∧ (∀ y131 : Int32, y131 = (v1 - (f114 29 v2.toNatClampNeg)) → ∀ i131 : Int32, i131 = (g 14) → (vp_in i131 6) ∧ (∀ f131 : gFF, f131 = (va_up f114 29 (upd (f114 29) i131.toNatClampNeg y131)) → wX5_keepRow N g f131 (fun g133 f133 => Q g133 f133))))
theorem sX5_shareOut_j114 {G : gG} {Rt : Option Value → gSt → Prop} (hE : gInj layC ad) (hG : gSim l D cs layC ad (gZc ad tX tY sK sV) 3 RX5 cX5_shareOut 4 none G Rt) {Q : gFG → gFF → Prop} (hQ : ∀ v S, gQv Q v S → Rt v S) {N : Nat}   {v1 : Int32} {v2 : Int32} {t0 : Int32} {t1 : Int32} {g : gFG} {f : gFF}  (h : wX5_shareOut_j114 N  Q v1 v2 t0 t1 g f) : G 114 [some (.ref (ad 5)), some (.int v1), some (.int v2), none] [.int t0, .int t1, .ref (ad 29)] (g, f, 0) := by
  unfold wX5_shareOut_j114 at h
  obtain ⟨hin, h⟩ := h
  refine s_iast (n := 115) hG dX5_shareOut_114 (gaC_29 hin) rfl ?_
  refine s_nf (fun f114 hf114 => ?_)
  replace h := h f114 hf114
  refine s_aload_n (n := 116) hG dX5_shareOut_115 rfl rfl ?_
  refine gtX5_29 (n := 119) hG dX5_shareOut_116 rfl ?_
  refine s_aload_n (n := 120) hG dX5_shareOut_119 rfl rfl ?_
  refine gtX5_35 (n := 123) hG dX5_shareOut_120 rfl ?_
  refine s_iload_n (n := 124) hG dX5_shareOut_123 rfl rfl ?_
  refine s_aload_n (n := 125) hG dX5_shareOut_124 rfl rfl ?_
  refine gtX5_29 (n := 128) hG dX5_shareOut_125 rfl ?_
  refine s_iload_n (n := 129) hG dX5_shareOut_128 rfl rfl ?_
  obtain ⟨hin, h⟩ := h
  refine s_iald (n := 130) hG dX5_shareOut_129 (gaC_29 hin) rfl ?_
  refine s_isub (n := 131) hG dX5_shareOut_130 rfl ?_
  refine s_topi (fun y131 hy131 => ?_)
  replace h := h y131 hy131
  refine s_topi2 (fun i131 hi131 => ?_)
  replace h := h i131 hi131
  obtain ⟨hin, h⟩ := h
  refine s_iast (n := 132) hG dX5_shareOut_131 (gaC_29 hin) rfl ?_
  refine s_nf (fun f131 hf131 => ?_)
  replace h := h f131 hf131
  refine s_aload_n (n := 133) hG dX5_shareOut_132 rfl rfl ?_
  refine s_callV (n := 136) (st := []) hG (mX5_keepRow hE h) ceX5_keepRow lmX5_112 ⟨by decide, rfl, rfl⟩ rfl ⟨rfl, Nat.le_of_ble_eq_true rfl, by decide⟩ dX5_shareOut_133 rfl ?_
  rintro _ _ ⟨g133, f133, rfl, rfl, h⟩
  exact s_vret hG dX5_shareOut_136 (hQ _ _ ⟨_, _, rfl, rfl, h⟩)
def wX5_shareOut_l46 (N : Nat) (v1 : Int32) (v2 : Int32)  (Q : gFG → gFF → Prop) : Nat → Int32 → gFG → gFF → Prop
  | 0, _, _, _ => False
  | n + 1, v3, g, f => ((4 ≤ v3) → (((g 15) ≤ (g 16)) → (vp_in 0 4) ∧ ((gia layC (31 + (0 : Int32).toNatClampNeg) v2) ∧ ((vp_in 0 4) ∧ (∀ i99 : Int32, i99 = (g 14) → (gia layC (31 + (0 : Int32).toNatClampNeg) i99) ∧ ((((f (31 + (0 : Int32).toNatClampNeg) v2.toNatClampNeg) < (f (31 + (0 : Int32).toNatClampNeg) i99.toNatClampNeg)) → wX5_shareOut_j114 N  Q v1 v2 (g 16) v2 g f) ∧ ((¬ (f (31 + (0 : Int32).toNatClampNeg) v2.toNatClampNeg) < (f (31 + (0 : Int32).toNatClampNeg) i99.toNatClampNeg)) → wX5_shareOut_j114 N  Q v1 v2 (g 15) v2 g f)))))) ∧ ((¬ (g 15) ≤ (g 16)) → Q g f)) ∧ ((¬ 4 ≤ v3) → wX5_narrow N v3 v2 v1 g f (fun g55 f55 => ∀ x3_58 : Int32, x3_58 = (v3 + 1) → wX5_shareOut_l46 N v1 v2  Q n x3_58 g55 f55))
theorem sX5_shareOut_l46 {G : gG} {Rt : Option Value → gSt → Prop} (hE : gInj layC ad) (hG : gSim l D cs layC ad (gZc ad tX tY sK sV) 3 RX5 cX5_shareOut 4 none G Rt) {Q : gFG → gFF → Prop} (hQ : ∀ v S, gQv Q v S → Rt v S) {N : Nat} {v1 : Int32} {v2 : Int32}    : ∀ (n : Nat) (v3 : Int32) (g : gFG) (f : gFF), wX5_shareOut_l46 N v1 v2  Q n v3 g f → G 46 [some (.ref (ad 5)), some (.int v1), some (.int v2), some (.int v3)] [] (g, f, 0) := by
  intro n
  induction n with
  | zero => intro _ _ _ h; unfold wX5_shareOut_l46 at h; exact h.elim
  | succ n ih =>
    intro v3 g f h
    unfold wX5_shareOut_l46 at h
    refine s_iload_n (n := 47) hG dX5_shareOut_46 rfl rfl ?_
    refine s_iconst (n := 48) hG dX5_shareOut_47 ki_4 rfl ?_
    refine s_icmp_ge (n := 51) (tgt := 64) hG dX5_shareOut_48 rfl rfl (fun c => ?_) (fun c => ?_)
    · replace h := h.1 c
      refine s_aload_n (n := 65) hG dX5_shareOut_64 rfl rfl ?_
      refine gtX5_39 (n := 68) hG dX5_shareOut_65 rfl ?_
      refine s_aload_n (n := 69) hG dX5_shareOut_68 rfl rfl ?_
      refine gtX5_42 (n := 72) hG dX5_shareOut_69 rfl ?_
      refine s_icmp_le (n := 75) (tgt := 76) hG dX5_shareOut_72 rfl rfl (fun c => ?_) (fun c => ?_)
      · replace h := h.1 c
        refine s_aload_n (n := 77) hG dX5_shareOut_76 rfl rfl ?_
        refine gtX5_29 (n := 80) hG dX5_shareOut_77 rfl ?_
        refine s_iload_n (n := 81) hG dX5_shareOut_80 rfl rfl ?_
        refine s_aload_n (n := 82) hG dX5_shareOut_81 rfl rfl ?_
        refine gtX5_13 (n := 85) hG dX5_shareOut_82 rfl ?_
        refine s_iconst (n := 86) hG dX5_shareOut_85 ki_0 rfl ?_
        obtain ⟨hin, h⟩ := h
        refine s_aa24 (n := 87) hG dX5_shareOut_86 hin rfl ?_
        refine s_iload_n (n := 88) hG dX5_shareOut_87 rfl rfl ?_
        obtain ⟨hin, h⟩ := h
        refine s_iald (n := 89) hG dX5_shareOut_88 hin rfl ?_
        refine s_aload_n (n := 90) hG dX5_shareOut_89 rfl rfl ?_
        refine gtX5_13 (n := 93) hG dX5_shareOut_90 rfl ?_
        refine s_iconst (n := 94) hG dX5_shareOut_93 ki_0 rfl ?_
        obtain ⟨hin, h⟩ := h
        refine s_aa24 (n := 95) hG dX5_shareOut_94 hin rfl ?_
        refine s_aload_n (n := 96) hG dX5_shareOut_95 rfl rfl ?_
        refine gtX5_35 (n := 99) hG dX5_shareOut_96 rfl ?_
        refine s_topi (fun i99 hi99 => ?_)
        replace h := h i99 hi99
        obtain ⟨hin, h⟩ := h
        refine s_iald (n := 100) hG dX5_shareOut_99 hin rfl ?_
        refine s_icmp_lt (n := 103) (tgt := 110) hG dX5_shareOut_100 rfl rfl (fun c => ?_) (fun c => ?_)
        · replace h := h.1 c
          refine s_aload_n (n := 111) hG dX5_shareOut_110 rfl rfl ?_
          refine gtX5_42 (n := 114) hG dX5_shareOut_111 rfl ?_
          exact s_wk hG (sX5_shareOut_j114 hE hG hQ  h) ⟨rfl, rfl, rfl, trivial⟩
        · replace h := h.2 c
          refine s_aload_n (n := 104) hG dX5_shareOut_103 rfl rfl ?_
          refine gtX5_39 (n := 107) hG dX5_shareOut_104 rfl ?_
          refine s_goto (tgt := 114) hG dX5_shareOut_107 rfl ?_
          exact s_wk hG (sX5_shareOut_j114 hE hG hQ  h) ⟨rfl, rfl, rfl, trivial⟩
      · replace h := h.2 c
        exact s_vret hG dX5_shareOut_75 (hQ _ _ ⟨_, _, rfl, rfl, h⟩)
    · replace h := h.2 c
      refine s_aload_n (n := 52) hG dX5_shareOut_51 rfl rfl ?_
      refine s_iload_n (n := 53) hG dX5_shareOut_52 rfl rfl ?_
      refine s_iload_n (n := 54) hG dX5_shareOut_53 rfl rfl ?_
      refine s_iload_n (n := 55) hG dX5_shareOut_54 rfl rfl ?_
      refine s_callV (n := 58) (st := []) hG (mX5_narrow hE h) ceX5_narrow lmX5_109 ⟨by decide, rfl, rfl⟩ rfl ⟨rfl, Nat.le_of_ble_eq_true rfl, by decide⟩ dX5_shareOut_55 rfl ?_
      rintro _ _ ⟨g55, f55, rfl, rfl, h⟩
      obtain ⟨x3_58, hx3_58⟩ : ∃ z : Int32, z = (v3 + 1) := ⟨_, rfl⟩
      replace h := h x3_58 hx3_58
      refine s_iinc (n := 61) (v := x3_58) (lv2 := [some (.ref (ad 5)), some (.int v1), some (.int v2), some (.int x3_58)]) hG dX5_shareOut_58 ki_1 rfl hx3_58 rfl rfl rfl ?_
      refine s_goto (tgt := 46) hG dX5_shareOut_61 rfl ?_
      exact s_wk hG (ih _ _ _ h) ⟨rfl, rfl, rfl, rfl, trivial⟩
def wX5_shareOut (N : Nat) (a1 : Int32) (g : gFG) (f : gFF) (Q : gFG → gFF → Prop) : Prop := ∀ x2_6 : Int32, x2_6 = ((g 14) - 1) → wX4_unitsAt N (g 14) g f (fun r18 g18 f18 => wJ9_max_7cf53 N 0 (a1 - r18) g18 f18 (fun r22 g22 f22 => ∀ g25 : gFG, g25 = (va_up g22 15 r22) → wX4_unitsAt N x2_6 g25 f22 (fun r35 g35 f35 => wJ9_min_7cf53 N a1 r35 g35 f35 (fun r38 g38 f38 => ∀ g41 : gFG, g41 = (va_up g38 16 r38) → wX5_shareOut_l46 N a1 x2_6 Q N 0 g41 f38))))
theorem mX5_shareOut (hE : gInj layC ad) {N : Nat} {a1 : Int32} {g : gFG} {f : gFF} {Q : gFG → gFF → Prop} (h : wX5_shareOut N a1 g f Q) : gCT l D cs layC ad (gZc ad tX tY sK sV) 3 yX5_shareOut cX5_shareOut 4 none [.ref (ad 5), .int a1] (g, f, 0) (gQv Q) := by
  refine met_walk (lv0 := [some (.ref (ad 5)), some (.int a1), none, none]) ⟨hE, gZc_ok _ _ _ _ _⟩ (by decide) (Nat.le_of_ble_eq_true rfl) rfl (fun G Rt hG hQ => ?_)
  replace hG : gSim l D cs layC ad (gZc ad tX tY sK sV) 3 RX5 cX5_shareOut 4 none G Rt := hG
  unfold wX5_shareOut at h
  refine s_aload_n (n := 1) hG dX5_shareOut_0 rfl rfl ?_
  refine gtX5_35 (n := 4) hG dX5_shareOut_1 rfl ?_
  refine s_iconst (n := 5) hG dX5_shareOut_4 ki_1 rfl ?_
  refine s_isub (n := 6) hG dX5_shareOut_5 rfl ?_
  refine s_topi (fun x2_6 hx2_6 => ?_)
  replace h := h x2_6 hx2_6
  refine s_istore_n (n := 7) (lv2 := [some (.ref (ad 5)), some (.int a1), some (.int x2_6), none]) hG dX5_shareOut_6 rfl rfl rfl ?_
  refine s_aload_n (n := 8) hG dX5_shareOut_7 rfl rfl ?_
  refine s_iconst (n := 9) hG dX5_shareOut_8 ki_0 rfl ?_
  refine s_iload_n (n := 10) hG dX5_shareOut_9 rfl rfl ?_
  refine s_aload_n (n := 11) hG dX5_shareOut_10 rfl rfl ?_
  refine gtX5_49 (n := 14) hG dX5_shareOut_11 rfl ?_
  refine s_aload_n (n := 15) hG dX5_shareOut_14 rfl rfl ?_
  refine gtX5_35 (n := 18) hG dX5_shareOut_15 rfl ?_
  refine s_callV (n := 21) (st := [.int a1, .int 0, .ref (ad 5)]) hG (mX4_unitsAt hE h) ceX4_unitsAt lmX5_92 ⟨by decide, rfl, rfl⟩ rfl ⟨rfl, Nat.le_of_ble_eq_true rfl, by decide⟩ dX5_shareOut_18 rfl ?_
  rintro _ _ ⟨r18, g18, f18, rfl, rfl, h⟩
  refine s_isub (n := 22) hG dX5_shareOut_21 rfl ?_
  refine s_callS (n := 25) (st := [.ref (ad 5)]) hG (mJ9_max_7cf53 hE h) ceJ9_max_7cf53 lmX5_73 rfl ⟨rfl, Nat.le_of_ble_eq_true rfl, by decide⟩ dX5_shareOut_22 rfl ?_
  rintro _ _ ⟨r22, g22, f22, rfl, rfl, h⟩
  refine ptX5_39 (n := 28) hG dX5_shareOut_25 rfl ?_
  refine s_ng (fun g25 hg25 => ?_)
  replace h := h g25 hg25
  refine s_aload_n (n := 29) hG dX5_shareOut_28 rfl rfl ?_
  refine s_iload_n (n := 30) hG dX5_shareOut_29 rfl rfl ?_
  refine s_aload_n (n := 31) hG dX5_shareOut_30 rfl rfl ?_
  refine gtX5_49 (n := 34) hG dX5_shareOut_31 rfl ?_
  refine s_iload_n (n := 35) hG dX5_shareOut_34 rfl rfl ?_
  refine s_callV (n := 38) (st := [.int a1, .ref (ad 5)]) hG (mX4_unitsAt hE h) ceX4_unitsAt lmX5_92 ⟨by decide, rfl, rfl⟩ rfl ⟨rfl, Nat.le_of_ble_eq_true rfl, by decide⟩ dX5_shareOut_35 rfl ?_
  rintro _ _ ⟨r35, g35, f35, rfl, rfl, h⟩
  refine s_callS (n := 41) (st := [.ref (ad 5)]) hG (mJ9_min_7cf53 hE h) ceJ9_min_7cf53 lmX5_79 rfl ⟨rfl, Nat.le_of_ble_eq_true rfl, by decide⟩ dX5_shareOut_38 rfl ?_
  rintro _ _ ⟨r38, g38, f38, rfl, rfl, h⟩
  refine ptX5_42 (n := 44) hG dX5_shareOut_41 rfl ?_
  refine s_ng (fun g41 hg41 => ?_)
  replace h := h g41 hg41
  refine s_iconst (n := 45) hG dX5_shareOut_44 ki_0 rfl ?_
  refine s_istore_n (n := 46) (lv2 := [some (.ref (ad 5)), some (.int a1), some (.int x2_6), some (.int 0)]) hG dX5_shareOut_45 rfl rfl rfl ?_
  exact s_wk hG (sX5_shareOut_l46 hE hG hQ  N _ _ _ h) ⟨rfl, rfl, rfl, rfl, trivial⟩
end GWc
