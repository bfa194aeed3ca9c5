section GWd
variable {l : Launch} {D : va_G} {cs : gCs} {ad : Nat → Nat} {tX tY : Nat} {sK sV : Nat → Nat}
def wX7_isLetter (N : Nat) (a1 : Int32) (g : gFG) (f : gFF) (Q : Int32 → gFG → gFF → Prop) : Prop := ((a1 < 97) → Q 0 g f) ∧ ((¬ a1 < 97) → ((122 < a1) → Q 0 g f) ∧ ((¬ 122 < a1) → Q 1 g f))
theorem mX7_isLetter (hE : gInj layC ad) {N : Nat} {a1 : Int32} {g : gFG} {f : gFF} {Q : Int32 → gFG → gFF → Prop} (h : wX7_isLetter N a1 g f Q) : gCT l D cs layC ad (gZc ad tX tY sK sV) 1 yX7_isLetter cX7_isLetter 1 (some .boolean) [.int a1] (g, f, 0) (gQi Q) := by
  refine met_walk (lv0 := [some (.int a1)]) ⟨hE, gZc_ok _ _ _ _ _⟩ (by decide) (Nat.le_of_ble_eq_true rfl) rfl (fun G Rt hG hQ => ?_)
  replace hG : gSim l D cs layC ad (gZc ad tX tY sK sV) 1 RX7 cX7_isLetter 1 (some .boolean) G Rt := hG
  unfold wX7_isLetter at h
  refine s_iload_n (n := 1) hG dX7_isLetter_0 rfl rfl ?_
  refine s_bipush (n := 3) hG dX7_isLetter_1 kb_97 rfl ?_
  refine s_icmp_lt (n := 6) (tgt := 16) hG dX7_isLetter_3 rfl rfl (fun c => ?_) (fun c => ?_)
  · replace h := h.1 c
    refine s_iconst (n := 17) hG dX7_isLetter_16 ki_0 rfl ?_
    exact s_zret hG dX7_isLetter_17 (gz_n gz_0) (hQ _ _ ⟨_, _, _, rfl, rfl, h⟩)
  · replace h := h.2 c
    refine s_iload_n (n := 7) hG dX7_isLetter_6 rfl rfl ?_
    refine s_bipush (n := 9) hG dX7_isLetter_7 kb_122 rfl ?_
    refine s_icmp_gt (n := 12) (tgt := 16) hG dX7_isLetter_9 rfl rfl (fun c => ?_) (fun c => ?_)
    · replace h := h.1 c
      refine s_iconst (n := 17) hG dX7_isLetter_16 ki_0 rfl ?_
      exact s_zret hG dX7_isLetter_17 (gz_n gz_0) (hQ _ _ ⟨_, _, _, rfl, rfl, h⟩)
    · replace h := h.2 c
      refine s_iconst (n := 13) hG dX7_isLetter_12 ki_1 rfl ?_
      refine s_goto (tgt := 17) hG dX7_isLetter_13 rfl ?_
      exact s_zret hG dX7_isLetter_17 (gz_n gz_1) (hQ _ _ ⟨_, _, _, rfl, rfl, h⟩)
def wX7_isDigit (N : Nat) (a1 : Int32) (g : gFG) (f : gFF) (Q : Int32 → gFG → gFF → Prop) : Prop := ((a1 < 48) → Q 0 g f) ∧ ((¬ a1 < 48) → ((57 < a1) → Q 0 g f) ∧ ((¬ 57 < a1) → Q 1 g f))
theorem mX7_isDigit (hE : gInj layC ad) {N : Nat} {a1 : Int32} {g : gFG} {f : gFF} {Q : Int32 → gFG → gFF → Prop} (h : wX7_isDigit N a1 g f Q) : gCT l D cs layC ad (gZc ad tX tY sK sV) 1 yX7_isDigit cX7_isDigit 1 (some .boolean) [.int a1] (g, f, 0) (gQi Q) := by
  refine met_walk (lv0 := [some (.int a1)]) ⟨hE, gZc_ok _ _ _ _ _⟩ (by decide) (Nat.le_of_ble_eq_true rfl) rfl (fun G Rt hG hQ => ?_)
  replace hG : gSim l D cs layC ad (gZc ad tX tY sK sV) 1 RX7 cX7_isDigit 1 (some .boolean) G Rt := hG
  unfold wX7_isDigit at h
  refine s_iload_n (n := 1) hG dX7_isDigit_0 rfl rfl ?_
  refine s_bipush (n := 3) hG dX7_isDigit_1 kb_48 rfl ?_
  refine s_icmp_lt (n := 6) (tgt := 16) hG dX7_isDigit_3 rfl rfl (fun c => ?_) (fun c => ?_)
  · replace h := h.1 c
    refine s_iconst (n := 17) hG dX7_isDigit_16 ki_0 rfl ?_
    exact s_zret hG dX7_isDigit_17 (gz_n gz_0) (hQ _ _ ⟨_, _, _, rfl, rfl, h⟩)
  · replace h := h.2 c
    refine s_iload_n (n := 7) hG dX7_isDigit_6 rfl rfl ?_
    refine s_bipush (n := 9) hG dX7_isDigit_7 kb_57 rfl ?_
    refine s_icmp_gt (n := 12) (tgt := 16) hG dX7_isDigit_9 rfl rfl (fun c => ?_) (fun c => ?_)
    · replace h := h.1 c
      refine s_iconst (n := 17) hG dX7_isDigit_16 ki_0 rfl ?_
      exact s_zret hG dX7_isDigit_17 (gz_n gz_0) (hQ _ _ ⟨_, _, _, rfl, rfl, h⟩)
    · replace h := h.2 c
      refine s_iconst (n := 13) hG dX7_isDigit_12 ki_1 rfl ?_
      refine s_goto (tgt := 17) hG dX7_isDigit_13 rfl ?_
      exact s_zret hG dX7_isDigit_17 (gz_n gz_1) (hQ _ _ ⟨_, _, _, rfl, rfl, h⟩)
def wX7_advance_j157 (N : Nat) (K101 : gFG → gFF → Prop) (Q : gFG → gFF → Prop) (v1 : Int32) (v2 : Int32) (g : gFG) (f : gFF) : Prop := ∀ y164 : Int32, y164 = ((g 20) + 1) → ∀ g164 : gFG, g164 = (va_up g 20 y164) → K101 g164 f
theorem sX7_advance_j157 {G : gG} {Rt : Option Value → gSt → Prop} (hE : gInj layC ad) (hG : gSim l D cs layC ad (gZc ad tX tY sK sV) 2 RX7 cX7_advance 3 none G Rt) {Q : gFG → gFF → Prop} (hQ : ∀ v S, gQv Q v S → Rt v S) {N : Nat} {K101 : gFG → gFF → Prop}  {v1 : Int32} {v2 : Int32} {g : gFG} {f : gFF} (hK101 : ∀  (ug : gFG) (uf : gFF), K101  ug uf → G 101 [some (.ref (ad 8)), some (.int v1), some (.int v2)] [] (ug, uf, 0)) (h : wX7_advance_j157 N K101 Q v1 v2 g f) : G 157 [some (.ref (ad 8)), some (.int v1), some (.int v2)] [] (g, f, 0) := by
  unfold wX7_advance_j157 at h
  refine s_aload_n (n := 158) hG dX7_advance_157 rfl rfl ?_
  refine s_dup (n := 159) hG dX7_advance_158 rfl rfl ?_
  refine gtX7_15 (n := 162) hG dX7_advance_159 rfl ?_
  refine s_iconst (n := 163) hG dX7_advance_162 ki_1 rfl ?_
  refine s_iadd (n := 164) hG dX7_advance_163 rfl ?_
  refine s_topi (fun y164 hy164 => ?_)
  replace h := h y164 hy164
  refine ptX7_15 (n := 167) hG dX7_advance_164 rfl ?_
  refine s_ng (fun g164 hg164 => ?_)
  replace h := h g164 hg164
  refine s_goto (tgt := 101) hG dX7_advance_167 rfl ?_
  exact s_wk hG (hK101 _ _ h) ⟨rfl, rfl, rfl, trivial⟩
def wX7_advance_j136 (N : Nat) (K101 : gFG → gFF → Prop) (Q : gFG → gFF → Prop) (v1 : Int32) (v2 : Int32) (g : gFG) (f : gFF) : Prop := ((v2 = 0) → Q g f) ∧ ((¬ v2 = 0) → wX9_byteAt N (g 20) g f (fun r148 g148 f148 => wX7_isDigit N r148 g148 f148 (fun r151 g151 f151 => ((r151 = 0) → Q g151 f151) ∧ ((¬ r151 = 0) → wX7_advance_j157 N (K101) Q v1 v2 g151 f151))))
theorem sX7_advance_j136 {G : gG} {Rt : Option Value → gSt → Prop} (hE : gInj layC ad) (hG : gSim l D cs layC ad (gZc ad tX tY sK sV) 2 RX7 cX7_advance 3 none G Rt) {Q : gFG → gFF → Prop} (hQ : ∀ v S, gQv Q v S → Rt v S) {N : Nat} {K101 : gFG → gFF → Prop}  {v1 : Int32} {v2 : Int32} {g : gFG} {f : gFF} (hK101 : ∀  (ug : gFG) (uf : gFF), K101  ug uf → G 101 [some (.ref (ad 8)), some (.int v1), some (.int v2)] [] (ug, uf, 0)) (h : wX7_advance_j136 N K101 Q v1 v2 g f) : G 136 [some (.ref (ad 8)), some (.int v1), some (.int v2)] [] (g, f, 0) := by
  unfold wX7_advance_j136 at h
  refine s_iload_n (n := 137) hG dX7_advance_136 rfl rfl ?_
  refine s_if_eq (n := 140) (tgt := 170) hG dX7_advance_137 rfl rfl (fun c => ?_) (fun c => ?_)
  · replace h := h.1 c
    exact s_vret hG dX7_advance_170 (hQ _ _ ⟨_, _, rfl, rfl, h⟩)
  · replace h := h.2 c
    refine s_aload_n (n := 141) hG dX7_advance_140 rfl rfl ?_
    refine gtX7_18 (n := 144) hG dX7_advance_141 rfl ?_
    refine s_aload_n (n := 145) hG dX7_advance_144 rfl rfl ?_
    refine gtX7_15 (n := 148) hG dX7_advance_145 rfl ?_
    refine s_callV (n := 151) (st := []) hG (mX9_byteAt hE h) ceX9_byteAt lmX7_104 ⟨by decide, rfl, rfl⟩ rfl ⟨rfl, Nat.le_of_ble_eq_true rfl, by decide⟩ dX7_advance_148 rfl ?_
    rintro _ _ ⟨r148, g148, f148, rfl, rfl, h⟩
    refine s_callS (n := 154) (st := []) hG (mX7_isDigit hE h) ceX7_isDigit lmX7_109 rfl ⟨rfl, Nat.le_of_ble_eq_true rfl, by decide⟩ dX7_advance_151 rfl ?_
    rintro _ _ ⟨r151, g151, f151, rfl, rfl, h⟩
    refine s_if_eq (n := 157) (tgt := 170) hG dX7_advance_154 rfl rfl (fun c => ?_) (fun c => ?_)
    · replace h := h.1 c
      exact s_vret hG dX7_advance_170 (hQ _ _ ⟨_, _, rfl, rfl, h⟩)
    · replace h := h.2 c
      exact s_wk hG (sX7_advance_j157 hE hG hQ hK101 h) ⟨rfl, rfl, rfl, trivial⟩
def wX7_advance_l101 (N : Nat) (v1 : Int32) (v2 : Int32)  (Q : gFG → gFF → Prop) : Nat → gFG → gFF → Prop
  | 0, _, _ => False
  | n + 1, g, f => wX9_length N g f (fun r109 g109 f109 => ((r109 ≤ (g 20)) → Q g109 f109) ∧ ((¬ r109 ≤ (g 20)) → ((v1 = 0) → wX7_advance_j136 N (wX7_advance_l101 N v1 v2  Q n) Q v1 v2 g109 f109) ∧ ((¬ v1 = 0) → wX9_byteAt N (g109 20) g109 f109 (fun r127 g127 f127 => wX7_isLetter N r127 g127 f127 (fun r130 g130 f130 => ((¬ r130 = 0) → wX7_advance_j157 N (wX7_advance_l101 N v1 v2  Q n) Q v1 v2 g130 f130) ∧ ((r130 = 0) → wX7_advance_j136 N (wX7_advance_l101 N v1 v2  Q n) Q v1 v2 g130 f130))))))
theorem sX7_advance_l101 {G : gG} {Rt : Option Value → gSt → Prop} (hE : gInj layC ad) (hG : gSim l D cs layC ad (gZc ad tX tY sK sV) 2 RX7 cX7_advance 3 none G Rt) {Q : gFG → gFF → Prop} (hQ : ∀ v S, gQv Q v S → Rt v S) {N : Nat} {v1 : Int32} {v2 : Int32}    : ∀ (n : Nat)  (g : gFG) (f : gFF), wX7_advance_l101 N v1 v2  Q n  g f → G 101 [some (.ref (ad 8)), some (.int v1), some (.int v2)] [] (g, f, 0) := by
  intro n
  induction n with
  | zero => intro _ _ h; unfold wX7_advance_l101 at h; exact h.elim
  | succ n ih =>
    intro  g f h
    unfold wX7_advance_l101 at h
    refine s_aload_n (n := 102) hG dX7_advance_101 rfl rfl ?_
    refine gtX7_15 (n := 105) hG dX7_advance_102 rfl ?_
    refine s_aload_n (n := 106) hG dX7_advance_105 rfl rfl ?_
    refine gtX7_18 (n := 109) hG dX7_advance_106 rfl ?_
    refine s_callV (n := 112) (st := [.int (g 20)]) hG (mX9_length hE h) ceX9_length lmX7_125 ⟨by decide, rfl, rfl⟩ rfl ⟨rfl, Nat.le_of_ble_eq_true rfl, by decide⟩ dX7_advance_109 rfl ?_
    rintro _ _ ⟨r109, g109, f109, rfl, rfl, h⟩
    refine s_icmp_ge (n := 115) (tgt := 170) hG dX7_advance_112 rfl rfl (fun c => ?_) (fun c => ?_)
    · replace h := h.1 c
      exact s_vret hG dX7_advance_170 (hQ _ _ ⟨_, _, rfl, rfl, h⟩)
    · replace h := h.2 c
      refine s_iload_n (n := 116) hG dX7_advance_115 rfl rfl ?_
      refine s_if_eq (n := 119) (tgt := 136) hG dX7_advance_116 rfl rfl (fun c => ?_) (fun c => ?_)
      · replace h := h.1 c
        exact s_wk hG (sX7_advance_j136 hE hG hQ ih h) ⟨rfl, rfl, rfl, trivial⟩
      · replace h := h.2 c
        refine s_aload_n (n := 120) hG dX7_advance_119 rfl rfl ?_
        refine gtX7_18 (n := 123) hG dX7_advance_120 rfl ?_
        refine s_aload_n (n := 124) hG dX7_advance_123 rfl rfl ?_
        refine gtX7_15 (n := 127) hG dX7_advance_124 rfl ?_
        refine s_callV (n := 130) (st := []) hG (mX9_byteAt hE h) ceX9_byteAt lmX7_104 ⟨by decide, rfl, rfl⟩ rfl ⟨rfl, Nat.le_of_ble_eq_true rfl, by decide⟩ dX7_advance_127 rfl ?_
        rintro _ _ ⟨r127, g127, f127, rfl, rfl, h⟩
        refine s_callS (n := 133) (st := []) hG (mX7_isLetter hE h) ceX7_isLetter lmX7_126 rfl ⟨rfl, Nat.le_of_ble_eq_true rfl, by decide⟩ dX7_advance_130 rfl ?_
        rintro _ _ ⟨r130, g130, f130, rfl, rfl, h⟩
        refine s_if_ne (n := 136) (tgt := 157) hG dX7_advance_133 rfl rfl (fun c => ?_) (fun c => ?_)
        · replace h := h.1 c
          exact s_wk hG (sX7_advance_j157 hE hG hQ ih h) ⟨rfl, rfl, rfl, trivial⟩
        · replace h := h.2 c
          exact s_wk hG (sX7_advance_j136 hE hG hQ ih h) ⟨rfl, rfl, rfl, trivial⟩
def wX7_advance_j51 (N : Nat)  (Q : gFG → gFF → Prop)  (g : gFG) (f : gFF) : Prop := wX9_length N g f (fun r62 g62 f62 => wJ9_min_7cf53 N ((g 19) + 1) r62 g62 f62 (fun r65 g65 f65 => ∀ g68 : gFG, g68 = (va_up g65 20 r65) → wX9_byteAt N (g68 19) g68 f65 (fun r79 g79 f79 => wX7_isLetter N r79 g79 f79 (fun r82 g82 f82 => wX9_byteAt N (g82 19) g82 f82 (fun r94 g94 f94 => wX7_isDigit N r94 g94 f94 (fun r97 g97 f97 => wX7_advance_l101 N r82 r97 Q N g97 f97))))))
theorem sX7_advance_j51 {G : gG} {Rt : Option Value → gSt → Prop} (hE : gInj layC ad) (hG : gSim l D cs layC ad (gZc ad tX tY sK sV) 2 RX7 cX7_advance 3 none G Rt) {Q : gFG → gFF → Prop} (hQ : ∀ v S, gQv Q v S → Rt v S) {N : Nat}    {g : gFG} {f : gFF}  (h : wX7_advance_j51 N  Q  g f) : G 51 [some (.ref (ad 8)), none, none] [] (g, f, 0) := by
  unfold wX7_advance_j51 at h
  refine s_aload_n (n := 52) hG dX7_advance_51 rfl rfl ?_
  refine s_aload_n (n := 53) hG dX7_advance_52 rfl rfl ?_
  refine gtX7_9 (n := 56) hG dX7_advance_53 rfl ?_
  refine s_iconst (n := 57) hG dX7_advance_56 ki_1 rfl ?_
  refine s_iadd (n := 58) hG dX7_advance_57 rfl ?_
  refine s_aload_n (n := 59) hG dX7_advance_58 rfl rfl ?_
  refine gtX7_18 (n := 62) hG dX7_advance_59 rfl ?_
  refine s_callV (n := 65) (st := [.int ((g 19) + 1), .ref (ad 8)]) hG (mX9_length hE h) ceX9_length lmX7_125 ⟨by decide, rfl, rfl⟩ rfl ⟨rfl, Nat.le_of_ble_eq_true rfl, by decide⟩ dX7_advance_62 rfl ?_
  rintro _ _ ⟨r62, g62, f62, rfl, rfl, h⟩
  refine s_callS (n := 68) (st := [.ref (ad 8)]) hG (mJ9_min_7cf53 hE h) ceJ9_min_7cf53 lmX7_112 rfl ⟨rfl, Nat.le_of_ble_eq_true rfl, by decide⟩ dX7_advance_65 rfl ?_
  rintro _ _ ⟨r65, g65, f65, rfl, rfl, h⟩
  refine ptX7_15 (n := 71) hG dX7_advance_68 rfl ?_
  refine s_ng (fun g68 hg68 => ?_)
  replace h := h g68 hg68
  refine s_aload_n (n := 72) hG dX7_advance_71 rfl rfl ?_
  refine gtX7_18 (n := 75) hG dX7_advance_72 rfl ?_
  refine s_aload_n (n := 76) hG dX7_advance_75 rfl rfl ?_
  refine gtX7_9 (n := 79) hG dX7_advance_76 rfl ?_
  refine s_callV (n := 82) (st := []) hG (mX9_byteAt hE h) ceX9_byteAt lmX7_104 ⟨by decide, rfl, rfl⟩ rfl ⟨rfl, Nat.le_of_ble_eq_true rfl, by decide⟩ dX7_advance_79 rfl ?_
  rintro _ _ ⟨r79, g79, f79, rfl, rfl, h⟩
  refine s_callS (n := 85) (st := []) hG (mX7_isLetter hE h) ceX7_isLetter lmX7_126 rfl ⟨rfl, Nat.le_of_ble_eq_true rfl, by decide⟩ dX7_advance_82 rfl ?_
  rintro _ _ ⟨r82, g82, f82, rfl, rfl, h⟩
  refine s_istore_n (n := 86) (lv2 := [some (.ref (ad 8)), some (.int r82), none]) hG dX7_advance_85 rfl rfl rfl ?_
  refine s_aload_n (n := 87) hG dX7_advance_86 rfl rfl ?_
  refine gtX7_18 (n := 90) hG dX7_advance_87 rfl ?_
  refine s_aload_n (n := 91) hG dX7_advance_90 rfl rfl ?_
  refine gtX7_9 (n := 94) hG dX7_advance_91 rfl ?_
  refine s_callV (n := 97) (st := []) hG (mX9_byteAt hE h) ceX9_byteAt lmX7_104 ⟨by decide, rfl, rfl⟩ rfl ⟨rfl, Nat.le_of_ble_eq_true rfl, by decide⟩ dX7_advance_94 rfl ?_
  rintro _ _ ⟨r94, g94, f94, rfl, rfl, h⟩
  refine s_callS (n := 100) (st := []) hG (mX7_isDigit hE h) ceX7_isDigit lmX7_109 rfl ⟨rfl, Nat.le_of_ble_eq_true rfl, by decide⟩ dX7_advance_97 rfl ?_
  rintro _ _ ⟨r97, g97, f97, rfl, rfl, h⟩
  refine s_istore_n (n := 101) (lv2 := [some (.ref (ad 8)), some (.int r82), some (.int r97)]) hG dX7_advance_100 rfl rfl rfl ?_
  exact s_wk hG (sX7_advance_l101 hE hG hQ  N _ _ h) ⟨rfl, rfl, rfl, trivial⟩
def wX7_advance_l8 (N : Nat)   (Q : gFG → gFF → Prop) : Nat → gFG → gFF → Prop
  | 0, _, _ => False
  | n + 1, g, f => wX9_length N g f (fun r16 g16 f16 => ((r16 ≤ (g 19)) → wX7_advance_j51 N  Q g16 f16) ∧ ((¬ r16 ≤ (g 19)) → wX9_byteAt N (g16 19) g16 f16 (fun r30 g30 f30 => ((¬ r30 = 32) → wX7_advance_j51 N  Q g30 f30) ∧ ((r30 = 32) → ∀ y45 : Int32, y45 = ((g30 19) + 1) → ∀ g45 : gFG, g45 = (va_up g30 19 y45) → wX7_advance_l8 N   Q n g45 f30))))
theorem sX7_advance_l8 {G : gG} {Rt : Option Value → gSt → Prop} (hE : gInj layC ad) (hG : gSim l D cs layC ad (gZc ad tX tY sK sV) 2 RX7 cX7_advance 3 none G Rt) {Q : gFG → gFF → Prop} (hQ : ∀ v S, gQv Q v S → Rt v S) {N : Nat}     : ∀ (n : Nat)  (g : gFG) (f : gFF), wX7_advance_l8 N   Q n  g f → G 8 [some (.ref (ad 8)), none, none] [] (g, f, 0) := by
  intro n
  induction n with
  | zero => intro _ _ h; unfold wX7_advance_l8 at h; exact h.elim
  | succ n ih =>
    intro  g f h
    unfold wX7_advance_l8 at h
    refine s_aload_n (n := 9) hG dX7_advance_8 rfl rfl ?_
    refine gtX7_9 (n := 12) hG dX7_advance_9 rfl ?_
    refine s_aload_n (n := 13) hG dX7_advance_12 rfl rfl ?_
    refine gtX7_18 (n := 16) hG dX7_advance_13 rfl ?_
    refine s_callV (n := 19) (st := [.int (g 19)]) hG (mX9_length hE h) ceX9_length lmX7_125 ⟨by decide, rfl, rfl⟩ rfl ⟨rfl, Nat.le_of_ble_eq_true rfl, by decide⟩ dX7_advance_16 rfl ?_
    rintro _ _ ⟨r16, g16, f16, rfl, rfl, h⟩
    refine s_icmp_ge (n := 22) (tgt := 51) hG dX7_advance_19 rfl rfl (fun c => ?_) (fun c => ?_)
    · replace h := h.1 c
      exact s_wk hG (sX7_advance_j51 hE hG hQ  h) ⟨rfl, trivial⟩
    · replace h := h.2 c
      refine s_aload_n (n := 23) hG dX7_advance_22 rfl rfl ?_
      refine gtX7_18 (n := 26) hG dX7_advance_23 rfl ?_
      refine s_aload_n (n := 27) hG dX7_advance_26 rfl rfl ?_
      refine gtX7_9 (n := 30) hG dX7_advance_27 rfl ?_
      refine s_callV (n := 33) (st := []) hG (mX9_byteAt hE h) ceX9_byteAt lmX7_104 ⟨by decide, rfl, rfl⟩ rfl ⟨rfl, Nat.le_of_ble_eq_true rfl, by decide⟩ dX7_advance_30 rfl ?_
      rintro _ _ ⟨r30, g30, f30, rfl, rfl, h⟩
      refine s_bipush (n := 35) hG dX7_advance_33 kb_32 rfl ?_
      refine s_icmp_ne (n := 38) (tgt := 51) hG dX7_advance_35 rfl rfl (fun c => ?_) (fun c => ?_)
      · replace h := h.1 c
        exact s_wk hG (sX7_advance_j51 hE hG hQ  h) ⟨rfl, trivial⟩
      · replace h := h.2 c
        refine s_aload_n (n := 39) hG dX7_advance_38 rfl rfl ?_
        refine s_dup (n := 40) hG dX7_advance_39 rfl rfl ?_
        refine gtX7_9 (n := 43) hG dX7_advance_40 rfl ?_
        refine s_iconst (n := 44) hG dX7_advance_43 ki_1 rfl ?_
        refine s_iadd (n := 45) hG dX7_advance_44 rfl ?_
        refine s_topi (fun y45 hy45 => ?_)
        replace h := h y45 hy45
        refine ptX7_9 (n := 48) hG dX7_advance_45 rfl ?_
        refine s_ng (fun g45 hg45 => ?_)
        replace h := h g45 hg45
        refine s_goto (tgt := 8) hG dX7_advance_48 rfl ?_
        exact s_wk hG (ih _ _ h) ⟨rfl, trivial⟩
def wX7_advance (N : Nat)  (g : gFG) (f : gFF) (Q : gFG → gFF → Prop) : Prop := ∀ y5 : Int32, y5 = (g 20) → ∀ g5 : gFG, g5 = (va_up g 19 y5) → wX7_advance_l8 N  Q N g5 f
theorem mX7_advance (hE : gInj layC ad) {N : Nat}  {g : gFG} {f : gFF} {Q : gFG → gFF → Prop} (h : wX7_advance N  g f Q) : gCT l D cs layC ad (gZc ad tX tY sK sV) 2 yX7_advance cX7_advance 3 none [.ref (ad 8)] (g, f, 0) (gQv Q) := by
  refine met_walk (lv0 := [some (.ref (ad 8)), none, none]) ⟨hE, gZc_ok _ _ _ _ _⟩ (by decide) (Nat.le_of_ble_eq_true rfl) rfl (fun G Rt hG hQ => ?_)
  replace hG : gSim l D cs layC ad (gZc ad tX tY sK sV) 2 RX7 cX7_advance 3 none G Rt := hG
  unfold wX7_advance at h
  refine s_aload_n (n := 1) hG dX7_advance_0 rfl rfl ?_
  refine s_aload_n (n := 2) hG dX7_advance_1 rfl rfl ?_
  refine gtX7_15 (n := 5) hG dX7_advance_2 rfl ?_
  refine s_topi (fun y5 hy5 => ?_)
  replace h := h y5 hy5
  refine ptX7_9 (n := 8) hG dX7_advance_5 rfl ?_
  refine s_ng (fun g5 hg5 => ?_)
  replace h := h g5 hg5
  exact s_wk hG (sX7_advance_l8 hE hG hQ  N _ _ h) ⟨rfl, trivial⟩
def wX7_isAtEnd (N : Nat)  (g : gFG) (f : gFF) (Q : Int32 → gFG → gFF → Prop) : Prop := wX9_length N g f (fun r8 g8 f8 => (((g 19) < r8) → Q 0 g8 f8) ∧ ((¬ (g 19) < r8) → Q 1 g8 f8))
theorem mX7_isAtEnd (hE : gInj layC ad) {N : Nat}  {g : gFG} {f : gFF} {Q : Int32 → gFG → gFF → Prop} (h : wX7_isAtEnd N  g f Q) : gCT l D cs layC ad (gZc ad tX tY sK sV) 2 yX7_isAtEnd cX7_isAtEnd 1 (some .boolean) [.ref (ad 8)] (g, f, 0) (gQi Q) := by
  refine met_walk (lv0 := [some (.ref (ad 8))]) ⟨hE, gZc_ok _ _ _ _ _⟩ (by decide) (Nat.le_of_ble_eq_true rfl) rfl (fun G Rt hG hQ => ?_)
  replace hG : gSim l D cs layC ad (gZc ad tX tY sK sV) 2 RX7 cX7_isAtEnd 1 (some .boolean) G Rt := hG
  unfold wX7_isAtEnd at h
  refine s_aload_n (n := 1) hG dX7_isAtEnd_0 rfl rfl ?_
  refine gtX7_9 (n := 4) hG dX7_isAtEnd_1 rfl ?_
  refine s_aload_n (n := 5) hG dX7_isAtEnd_4 rfl rfl ?_
  refine gtX7_18 (n := 8) hG dX7_isAtEnd_5 rfl ?_
  refine s_callV (n := 11) (st := [.int (g 19)]) hG (mX9_length hE h) ceX9_length lmX7_125 ⟨by decide, rfl, rfl⟩ rfl ⟨rfl, Nat.le_of_ble_eq_true rfl, by decide⟩ dX7_isAtEnd_8 rfl ?_
  rintro _ _ ⟨r8, g8, f8, rfl, rfl, h⟩
  refine s_icmp_lt (n := 14) (tgt := 18) hG dX7_isAtEnd_11 rfl rfl (fun c => ?_) (fun c => ?_)
  · replace h := h.1 c
    refine s_iconst (n := 19) hG dX7_isAtEnd_18 ki_0 rfl ?_
    exact s_zret hG dX7_isAtEnd_19 (gz_n gz_0) (hQ _ _ ⟨_, _, _, rfl, rfl, h⟩)
  · replace h := h.2 c
    refine s_iconst (n := 15) hG dX7_isAtEnd_14 ki_1 rfl ?_
    refine s_goto (tgt := 19) hG dX7_isAtEnd_15 rfl ?_
    exact s_zret hG dX7_isAtEnd_19 (gz_n gz_1) (hQ _ _ ⟨_, _, _, rfl, rfl, h⟩)
def wX7_nameOf (N : Nat) (a1 : Int32) (g : gFG) (f : gFF) (Q : Nat → gFG → gFF → Prop) : Prop := ((a1 = 0) → Q 0 g f) ∧ ((¬ a1 = 0) → ((a1 = 1) → Q 1 g f) ∧ ((¬ a1 = 1) → ((a1 = 2) → Q 2 g f) ∧ ((¬ a1 = 2) → ((a1 = 3) → Q 3 g f) ∧ ((¬ a1 = 3) → ((a1 = 4) → Q 4 g f) ∧ ((¬ a1 = 4) → ((a1 = 5) → Q 5 g f) ∧ ((¬ a1 = 5) → ((a1 = 6) → Q 6 g f) ∧ ((¬ a1 = 6) → ((a1 = 7) → Q 7 g f) ∧ ((¬ a1 = 7) → Q 8 g f))))))))
theorem mX7_nameOf (hE : gInj layC ad) {N : Nat} {a1 : Int32} {g : gFG} {f : gFF} {Q : Nat → gFG → gFF → Prop} (h : wX7_nameOf N a1 g f Q) : gCT l D cs layC ad (gZc ad tX tY sK sV) 1 yX7_nameOf cX7_nameOf 1 (some (.object "java/lang/String")) [.int a1] (g, f, 0) (gQs sK Q) := by
  refine met_walk (lv0 := [some (.int a1)]) ⟨hE, gZc_ok _ _ _ _ _⟩ (by decide) (Nat.le_of_ble_eq_true rfl) rfl (fun G Rt hG hQ => ?_)
  replace hG : gSim l D cs layC ad (gZc ad tX tY sK sV) 1 RX7 cX7_nameOf 1 (some (.object "java/lang/String")) G Rt := hG
  unfold wX7_nameOf at h
  refine s_iload_n (n := 1) hG dX7_nameOf_0 rfl rfl ?_
  by_cases c0 : a1 = 0
  · replace h := h.1 c0
    refine s_tabIn (v := 0) (tgt := 48) (off := 47) hG dX7_nameOf_1 c0 (by decide) ?_
    refine s_ldcS (n := 50) (i := 0) hG dX7_nameOf_48 rfl rfl ?_
    exact s_aret hG dX7_nameOf_50 (hQ _ _ ⟨_, _, _, rfl, rfl, h⟩)
  · replace h := h.2 c0
    by_cases c1 : a1 = 1
    · replace h := h.1 c1
      refine s_tabIn (v := 1) (tgt := 51) (off := 50) hG dX7_nameOf_1 c1 (by decide) ?_
      refine s_ldcS (n := 53) (i := 1) hG dX7_nameOf_51 rfl rfl ?_
      exact s_aret hG dX7_nameOf_53 (hQ _ _ ⟨_, _, _, rfl, rfl, h⟩)
    · replace h := h.2 c1
      by_cases c2 : a1 = 2
      · replace h := h.1 c2
        refine s_tabIn (v := 2) (tgt := 54) (off := 53) hG dX7_nameOf_1 c2 (by decide) ?_
        refine s_ldcS (n := 56) (i := 2) hG dX7_nameOf_54 rfl rfl ?_
        exact s_aret hG dX7_nameOf_56 (hQ _ _ ⟨_, _, _, rfl, rfl, h⟩)
      · replace h := h.2 c2
        by_cases c3 : a1 = 3
        · replace h := h.1 c3
          refine s_tabIn (v := 3) (tgt := 57) (off := 56) hG dX7_nameOf_1 c3 (by decide) ?_
          refine s_ldcS (n := 59) (i := 3) hG dX7_nameOf_57 rfl rfl ?_
          exact s_aret hG dX7_nameOf_59 (hQ _ _ ⟨_, _, _, rfl, rfl, h⟩)
        · replace h := h.2 c3
          by_cases c4 : a1 = 4
          · replace h := h.1 c4
            refine s_tabIn (v := 4) (tgt := 60) (off := 59) hG dX7_nameOf_1 c4 (by decide) ?_
            refine s_ldcS (n := 62) (i := 4) hG dX7_nameOf_60 rfl rfl ?_
            exact s_aret hG dX7_nameOf_62 (hQ _ _ ⟨_, _, _, rfl, rfl, h⟩)
          · replace h := h.2 c4
            by_cases c5 : a1 = 5
            · replace h := h.1 c5
              refine s_tabIn (v := 5) (tgt := 63) (off := 62) hG dX7_nameOf_1 c5 (by decide) ?_
              refine s_ldcS (n := 65) (i := 5) hG dX7_nameOf_63 rfl rfl ?_
              exact s_aret hG dX7_nameOf_65 (hQ _ _ ⟨_, _, _, rfl, rfl, h⟩)
            · replace h := h.2 c5
              by_cases c6 : a1 = 6
              · replace h := h.1 c6
                refine s_tabIn (v := 6) (tgt := 66) (off := 65) hG dX7_nameOf_1 c6 (by decide) ?_
                refine s_ldcS (n := 68) (i := 6) hG dX7_nameOf_66 rfl rfl ?_
                exact s_aret hG dX7_nameOf_68 (hQ _ _ ⟨_, _, _, rfl, rfl, h⟩)
              · replace h := h.2 c6
                by_cases c7 : a1 = 7
                · replace h := h.1 c7
                  refine s_tabIn (v := 7) (tgt := 69) (off := 68) hG dX7_nameOf_1 c7 (by decide) ?_
                  refine s_ldcS (n := 71) (i := 7) hG dX7_nameOf_69 rfl rfl ?_
                  exact s_aret hG dX7_nameOf_71 (hQ _ _ ⟨_, _, _, rfl, rfl, h⟩)
                · replace h := h.2 c7
                  refine s_tabOut (tgt := 72) hG dX7_nameOf_1 (by have hh := And.intro trivial trivial; have q0 := lv_neT c0 (show (0 : Int32).toInt = 0 from by decide); have q1 := lv_neT c1 (show (1 : Int32).toInt = 1 from by decide); have q2 := lv_neT c2 (show (2 : Int32).toInt = 2 from by decide); have q3 := lv_neT c3 (show (3 : Int32).toInt = 3 from by decide); have q4 := lv_neT c4 (show (4 : Int32).toInt = 4 from by decide); have q5 := lv_neT c5 (show (5 : Int32).toInt = 5 from by decide); have q6 := lv_neT c6 (show (6 : Int32).toInt = 6 from by decide); have q7 := lv_neT c7 (show (7 : Int32).toInt = 7 from by decide);  omega) rfl ?_
                  refine s_ldcS (n := 74) (i := 8) hG dX7_nameOf_72 rfl rfl ?_
                  exact s_aret hG dX7_nameOf_74 (hQ _ _ ⟨_, _, _, rfl, rfl, h⟩)
def wX7_isWord_l20 (N : Nat) (v1 : Nat)  (Q : Int32 → gFG → gFF → Prop) : Nat → Int32 → gFG → gFF → Prop
  | 0, _, _, _ => False
  | n + 1, v2, g, f => (v1 < 14) ∧ ((((gsN v1) ≤ v2) → Q 1 g f) ∧ ((¬ (gsN v1) ≤ v2) → wX9_byteAt N ((g 19) + v2) g f (fun r38 g38 f38 => (v1 < 14 ∧ vp_in v2 (gsl.getD v1 0)) ∧ (((r38 = (gsC v1 v2)) → ∀ x2_51 : Int32, x2_51 = (v2 + 1) → wX7_isWord_l20 N v1  Q n x2_51 g38 f38) ∧ ((¬ r38 = (gsC v1 v2)) → Q 0 g38 f38)))))
theorem sX7_isWord_l20 {G : gG} {Rt : Option Value → gSt → Prop} (hE : gInj layC ad) (hG : gSim l D cs layC ad (gZc ad tX tY sK sV) 6 RX7 cX7_isWord 3 (some .boolean) G Rt) {Q : Int32 → gFG → gFF → Prop} (hQ : ∀ v S, gQi Q v S → Rt v S) {N : Nat} {v1 : Nat}    : ∀ (n : Nat) (v2 : Int32) (g : gFG) (f : gFF), wX7_isWord_l20 N v1  Q n v2 g f → G 20 [some (.ref (ad 8)), some (.ref (sK v1)), some (.int v2)] [] (g, f, 0) := by
  intro n
  induction n with
  | zero => intro _ _ _ h; unfold wX7_isWord_l20 at h; exact h.elim
  | succ n ih =>
    intro v2 g f h
    unfold wX7_isWord_l20 at h
    refine s_iload_n (n := 21) hG dX7_isWord_20 rfl rfl ?_
    refine s_aload_n (n := 22) hG dX7_isWord_21 rfl rfl ?_
    obtain ⟨hin, h⟩ := h
    refine s_slen (n := 25) (st := [.int v2]) hG hE dX7_isWord_22 hin (Nat.le_of_ble_eq_true rfl) (by decide) rfl ?_
    refine s_icmp_ge (n := 28) (tgt := 57) hG dX7_isWord_25 rfl rfl (fun c => ?_) (fun c => ?_)
    · replace h := h.1 c
      refine s_iconst (n := 58) hG dX7_isWord_57 ki_1 rfl ?_
      exact s_zret hG dX7_isWord_58 (gz_n gz_1) (hQ _ _ ⟨_, _, _, rfl, rfl, h⟩)
    · replace h := h.2 c
      refine s_aload_n (n := 29) hG dX7_isWord_28 rfl rfl ?_
      refine gtX7_18 (n := 32) hG dX7_isWord_29 rfl ?_
      refine s_aload_n (n := 33) hG dX7_isWord_32 rfl rfl ?_
      refine gtX7_9 (n := 36) hG dX7_isWord_33 rfl ?_
      refine s_iload_n (n := 37) hG dX7_isWord_36 rfl rfl ?_
      refine s_iadd (n := 38) hG dX7_isWord_37 rfl ?_
      refine s_callV (n := 41) (st := []) hG (mX9_byteAt hE h) ceX9_byteAt lmX7_104 ⟨by decide, rfl, rfl⟩ rfl ⟨rfl, Nat.le_of_ble_eq_true rfl, by decide⟩ dX7_isWord_38 rfl ?_
      rintro _ _ ⟨r38, g38, f38, rfl, rfl, h⟩
      refine s_aload_n (n := 42) hG dX7_isWord_41 rfl rfl ?_
      refine s_iload_n (n := 43) hG dX7_isWord_42 rfl rfl ?_
      obtain ⟨hin, h⟩ := h
      refine s_schar (n := 46) (st := [.int r38]) hG hE dX7_isWord_43 hin (Nat.le_of_ble_eq_true rfl) (by decide) rfl ?_
      refine s_icmp_eq (n := 49) (tgt := 51) hG dX7_isWord_46 rfl rfl (fun c => ?_) (fun c => ?_)
      · replace h := h.1 c
        obtain ⟨x2_51, hx2_51⟩ : ∃ z : Int32, z = (v2 + 1) := ⟨_, rfl⟩
        replace h := h x2_51 hx2_51
        refine s_iinc (n := 54) (v := x2_51) (lv2 := [some (.ref (ad 8)), some (.ref (sK v1)), some (.int x2_51)]) hG dX7_isWord_51 ki_1 rfl hx2_51 rfl rfl rfl ?_
        refine s_goto (tgt := 20) hG dX7_isWord_54 rfl ?_
        exact s_wk hG (ih _ _ _ h) ⟨rfl, rfl, rfl, trivial⟩
      · replace h := h.2 c
        refine s_iconst (n := 50) hG dX7_isWord_49 ki_0 rfl ?_
        exact s_zret hG dX7_isWord_50 (gz_n gz_0) (hQ _ _ ⟨_, _, _, rfl, rfl, h⟩)
def wX7_isWord (N : Nat) (a1 : Nat) (g : gFG) (f : gFF) (Q : Int32 → gFG → gFF → Prop) : Prop := (a1 < 14) ∧ (((((g 20) - (g 19)) = (gsN a1)) → wX7_isWord_l20 N a1 Q N 0 g f) ∧ ((¬ ((g 20) - (g 19)) = (gsN a1)) → Q 0 g f))
theorem mX7_isWord (hE : gInj layC ad) {N : Nat} {a1 : Nat} {g : gFG} {f : gFF} {Q : Int32 → gFG → gFF → Prop} (h : wX7_isWord N a1 g f Q) : gCT l D cs layC ad (gZc ad tX tY sK sV) 6 yX7_isWord cX7_isWord 3 (some .boolean) [.ref (ad 8), .ref (sK a1)] (g, f, 0) (gQi Q) := by
  refine met_walk (lv0 := [some (.ref (ad 8)), some (.ref (sK a1)), none]) ⟨hE, gZc_ok _ _ _ _ _⟩ (by decide) (Nat.le_of_ble_eq_true rfl) rfl (fun G Rt hG hQ => ?_)
  replace hG : gSim l D cs layC ad (gZc ad tX tY sK sV) 6 RX7 cX7_isWord 3 (some .boolean) G Rt := hG
  unfold wX7_isWord at h
  refine s_aload_n (n := 1) hG dX7_isWord_0 rfl rfl ?_
  refine gtX7_15 (n := 4) hG dX7_isWord_1 rfl ?_
  refine s_aload_n (n := 5) hG dX7_isWord_4 rfl rfl ?_
  refine gtX7_9 (n := 8) hG dX7_isWord_5 rfl ?_
  refine s_isub (n := 9) hG dX7_isWord_8 rfl ?_
  refine s_aload_n (n := 10) hG dX7_isWord_9 rfl rfl ?_
  obtain ⟨hin, h⟩ := h
  refine s_slen (n := 13) (st := [.int ((g 20) - (g 19))]) hG hE dX7_isWord_10 hin (Nat.le_of_ble_eq_true rfl) (by decide) rfl ?_
  refine s_icmp_eq (n := 16) (tgt := 18) hG dX7_isWord_13 rfl rfl (fun c => ?_) (fun c => ?_)
  · replace h := h.1 c
    refine s_iconst (n := 19) hG dX7_isWord_18 ki_0 rfl ?_
    refine s_istore_n (n := 20) (lv2 := [some (.ref (ad 8)), some (.ref (sK a1)), some (.int 0)]) hG dX7_isWord_19 rfl rfl rfl ?_
    exact s_wk hG (sX7_isWord_l20 hE hG hQ  N _ _ _ h) ⟨rfl, rfl, rfl, trivial⟩
  · replace h := h.2 c
    refine s_iconst (n := 17) hG dX7_isWord_16 ki_0 rfl ?_
    exact s_zret hG dX7_isWord_17 (gz_n gz_0) (hQ _ _ ⟨_, _, _, rfl, rfl, h⟩)
def wX7_kindHere_l2 (N : Nat)   (Q : Int32 → gFG → gFF → Prop) : Nat → Int32 → gFG → gFF → Prop
  | 0, _, _, _ => False
  | n + 1, v1, g, f => ((9 ≤ v1) → Q (-1) g f) ∧ ((¬ 9 ≤ v1) → wX7_nameOf N v1 g f (fun r10 g10 f10 => wX7_isWord N r10 g10 f10 (fun r13 g13 f13 => ((r13 = 0) → ∀ x1_21 : Int32, x1_21 = (v1 + 1) → wX7_kindHere_l2 N   Q n x1_21 g13 f13) ∧ ((¬ r13 = 0) → Q v1 g13 f13))))
theorem sX7_kindHere_l2 {G : gG} {Rt : Option Value → gSt → Prop} (hE : gInj layC ad) (hG : gSim l D cs layC ad (gZc ad tX tY sK sV) 7 RX7 cX7_kindHere 2 (some .int) G Rt) {Q : Int32 → gFG → gFF → Prop} (hQ : ∀ v S, gQi Q v S → Rt v S) {N : Nat}     : ∀ (n : Nat) (v1 : Int32) (g : gFG) (f : gFF), wX7_kindHere_l2 N   Q n v1 g f → G 2 [some (.ref (ad 8)), some (.int v1)] [] (g, f, 0) := by
  intro n
  induction n with
  | zero => intro _ _ _ h; unfold wX7_kindHere_l2 at h; exact h.elim
  | succ n ih =>
    intro v1 g f h
    unfold wX7_kindHere_l2 at h
    refine s_iload_n (n := 3) hG dX7_kindHere_2 rfl rfl ?_
    refine s_bipush (n := 5) hG dX7_kindHere_3 kb_9 rfl ?_
    refine s_icmp_ge (n := 8) (tgt := 27) hG dX7_kindHere_5 rfl rfl (fun c => ?_) (fun c => ?_)
    · replace h := h.1 c
      refine s_iconst (n := 28) hG dX7_kindHere_27 ki_m1 rfl ?_
      exact s_iret hG dX7_kindHere_28 (hQ _ _ ⟨_, _, _, rfl, rfl, h⟩)
    · replace h := h.2 c
      refine s_aload_n (n := 9) hG dX7_kindHere_8 rfl rfl ?_
      refine s_iload_n (n := 10) hG dX7_kindHere_9 rfl rfl ?_
      refine s_callS (n := 13) (st := [.ref (ad 8)]) hG (mX7_nameOf hE h) ceX7_nameOf lmX7_71 rfl ⟨rfl, Nat.le_of_ble_eq_true rfl, by decide⟩ dX7_kindHere_10 rfl ?_
      rintro _ _ ⟨r10, g10, f10, rfl, rfl, h⟩
      refine s_callV (n := 16) (st := []) hG (mX7_isWord hE h) ceX7_isWord lmX7_40 ⟨by decide, rfl, rfl⟩ rfl ⟨rfl, Nat.le_of_ble_eq_true rfl, by decide⟩ dX7_kindHere_13 rfl ?_
      rintro _ _ ⟨r13, g13, f13, rfl, rfl, h⟩
      refine s_if_eq (n := 19) (tgt := 21) hG dX7_kindHere_16 rfl rfl (fun c => ?_) (fun c => ?_)
      · replace h := h.1 c
        obtain ⟨x1_21, hx1_21⟩ : ∃ z : Int32, z = (v1 + 1) := ⟨_, rfl⟩
        replace h := h x1_21 hx1_21
        refine s_iinc (n := 24) (v := x1_21) (lv2 := [some (.ref (ad 8)), some (.int x1_21)]) hG dX7_kindHere_21 ki_1 rfl hx1_21 rfl rfl rfl ?_
        refine s_goto (tgt := 2) hG dX7_kindHere_24 rfl ?_
        exact s_wk hG (ih _ _ _ h) ⟨rfl, rfl, trivial⟩
      · replace h := h.2 c
        refine s_iload_n (n := 20) hG dX7_kindHere_19 rfl rfl ?_
        exact s_iret hG dX7_kindHere_20 (hQ _ _ ⟨_, _, _, rfl, rfl, h⟩)
def wX7_kindHere (N : Nat)  (g : gFG) (f : gFF) (Q : Int32 → gFG → gFF → Prop) : Prop := wX7_kindHere_l2 N  Q N 0 g f
theorem mX7_kindHere (hE : gInj layC ad) {N : Nat}  {g : gFG} {f : gFF} {Q : Int32 → gFG → gFF → Prop} (h : wX7_kindHere N  g f Q) : gCT l D cs layC ad (gZc ad tX tY sK sV) 7 yX7_kindHere cX7_kindHere 2 (some .int) [.ref (ad 8)] (g, f, 0) (gQi Q) := by
  refine met_walk (lv0 := [some (.ref (ad 8)), none]) ⟨hE, gZc_ok _ _ _ _ _⟩ (by decide) (Nat.le_of_ble_eq_true rfl) rfl (fun G Rt hG hQ => ?_)
  replace hG : gSim l D cs layC ad (gZc ad tX tY sK sV) 7 RX7 cX7_kindHere 2 (some .int) G Rt := hG
  unfold wX7_kindHere at h
  refine s_iconst (n := 1) hG dX7_kindHere_0 ki_0 rfl ?_
  refine s_istore_n (n := 2) (lv2 := [some (.ref (ad 8)), some (.int 0)]) hG dX7_kindHere_1 rfl rfl rfl ?_
  exact s_wk hG (sX7_kindHere_l2 hE hG hQ  N _ _ _ h) ⟨rfl, rfl, trivial⟩
def wX7_isOfMetal_j14 (N : Nat)  (Q : Int32 → gFG → gFF → Prop)  (g : gFG) (f : gFF) : Prop := Q 1 g f
theorem sX7_isOfMetal_j14 {G : gG} {Rt : Option Value → gSt → Prop} (hE : gInj layC ad) (hG : gSim l D cs layC ad (gZc ad tX tY sK sV) 1 RX7 cX7_isOfMetal 1 (some .boolean) G Rt) {Q : Int32 → gFG → gFF → Prop} (hQ : ∀ v S, gQi Q v S → Rt v S) {N : Nat}    {g : gFG} {f : gFF}  (h : wX7_isOfMetal_j14 N  Q  g f) : G 14 [none] [] (g, f, 0) := by
  unfold wX7_isOfMetal_j14 at h
  refine s_iconst (n := 15) hG dX7_isOfMetal_14 ki_1 rfl ?_
  refine s_goto (tgt := 19) hG dX7_isOfMetal_15 rfl ?_
  exact s_zret hG dX7_isOfMetal_19 (gz_n gz_1) (hQ _ _ ⟨_, _, _, rfl, rfl, h⟩)
def wX7_isOfMetal (N : Nat) (a1 : Int32) (g : gFG) (f : gFF) (Q : Int32 → gFG → gFF → Prop) : Prop := ((a1 = 0) → wX7_isOfMetal_j14 N  Q g f) ∧ ((¬ a1 = 0) → ((a1 = 1) → wX7_isOfMetal_j14 N  Q g f) ∧ ((¬ a1 = 1) → ((¬ a1 = 2) → Q 0 g f) ∧ ((a1 = 2) → wX7_isOfMetal_j14 N  Q g f)))
theorem mX7_isOfMetal (hE : gInj layC ad) {N : Nat} {a1 : Int32} {g : gFG} {f : gFF} {Q : Int32 → gFG → gFF → Prop} (h : wX7_isOfMetal N a1 g f Q) : gCT l D cs layC ad (gZc ad tX tY sK sV) 1 yX7_isOfMetal cX7_isOfMetal 1 (some .boolean) [.int a1] (g, f, 0) (gQi Q) := by
  refine met_walk (lv0 := [some (.int a1)]) ⟨hE, gZc_ok _ _ _ _ _⟩ (by decide) (Nat.le_of_ble_eq_true rfl) rfl (fun G Rt hG hQ => ?_)
  replace hG : gSim l D cs layC ad (gZc ad tX tY sK sV) 1 RX7 cX7_isOfMetal 1 (some .boolean) G Rt := hG
  unfold wX7_isOfMetal at h
  refine s_iload_n (n := 1) hG dX7_isOfMetal_0 rfl rfl ?_
  refine s_if_eq (n := 4) (tgt := 14) hG dX7_isOfMetal_1 rfl rfl (fun c => ?_) (fun c => ?_)
  · replace h := h.1 c
    exact s_wk hG (sX7_isOfMetal_j14 hE hG hQ  h) trivial
  · replace h := h.2 c
    refine s_iload_n (n := 5) hG dX7_isOfMetal_4 rfl rfl ?_
    refine s_iconst (n := 6) hG dX7_isOfMetal_5 ki_1 rfl ?_
    refine s_icmp_eq (n := 9) (tgt := 14) hG dX7_isOfMetal_6 rfl rfl (fun c => ?_) (fun c => ?_)
    · replace h := h.1 c
      exact s_wk hG (sX7_isOfMetal_j14 hE hG hQ  h) trivial
    · replace h := h.2 c
      refine s_iload_n (n := 10) hG dX7_isOfMetal_9 rfl rfl ?_
      refine s_iconst (n := 11) hG dX7_isOfMetal_10 ki_2 rfl ?_
      refine s_icmp_ne (n := 14) (tgt := 18) hG dX7_isOfMetal_11 rfl rfl (fun c => ?_) (fun c => ?_)
      · replace h := h.1 c
        refine s_iconst (n := 19) hG dX7_isOfMetal_18 ki_0 rfl ?_
        exact s_zret hG dX7_isOfMetal_19 (gz_n gz_0) (hQ _ _ ⟨_, _, _, rfl, rfl, h⟩)
      · replace h := h.2 c
        exact s_wk hG (sX7_isOfMetal_j14 hE hG hQ  h) trivial
def wX7_wordAhead (N : Nat) (a1 : Int32) (g : gFG) (f : gFF) (Q : Nat → gFG → gFF → Prop) : Prop := wX7_isOfMetal N a1 g f (fun r1 g1 f1 => ((r1 = 0) → Q 10 g1 f1) ∧ ((¬ r1 = 0) → Q 9 g1 f1))
theorem mX7_wordAhead (hE : gInj layC ad) {N : Nat} {a1 : Int32} {g : gFG} {f : gFF} {Q : Nat → gFG → gFF → Prop} (h : wX7_wordAhead N a1 g f Q) : gCT l D cs layC ad (gZc ad tX tY sK sV) 2 yX7_wordAhead cX7_wordAhead 1 (some (.object "java/lang/String")) [.int a1] (g, f, 0) (gQs sK Q) := by
  refine met_walk (lv0 := [some (.int a1)]) ⟨hE, gZc_ok _ _ _ _ _⟩ (by decide) (Nat.le_of_ble_eq_true rfl) rfl (fun G Rt hG hQ => ?_)
  replace hG : gSim l D cs layC ad (gZc ad tX tY sK sV) 2 RX7 cX7_wordAhead 1 (some (.object "java/lang/String")) G Rt := hG
  unfold wX7_wordAhead at h
  refine s_iload_n (n := 1) hG dX7_wordAhead_0 rfl rfl ?_
  refine s_callS (n := 4) (st := []) hG (mX7_isOfMetal hE h) ceX7_isOfMetal lmX7_92 rfl ⟨rfl, Nat.le_of_ble_eq_true rfl, by decide⟩ dX7_wordAhead_1 rfl ?_
  rintro _ _ ⟨r1, g1, f1, rfl, rfl, h⟩
  refine s_if_eq (n := 7) (tgt := 12) hG dX7_wordAhead_4 rfl rfl (fun c => ?_) (fun c => ?_)
  · replace h := h.1 c
    refine s_ldcS (n := 14) (i := 10) hG dX7_wordAhead_12 rfl rfl ?_
    exact s_aret hG dX7_wordAhead_14 (hQ _ _ ⟨_, _, _, rfl, rfl, h⟩)
  · replace h := h.2 c
    refine s_ldcS (n := 9) (i := 9) hG dX7_wordAhead_7 rfl rfl ?_
    refine s_goto (tgt := 14) hG dX7_wordAhead_9 rfl ?_
    exact s_aret hG dX7_wordAhead_14 (hQ _ _ ⟨_, _, _, rfl, rfl, h⟩)
def wX7_skipWord (N : Nat) (a1 : Nat) (g : gFG) (f : gFF) (Q : Int32 → gFG → gFF → Prop) : Prop := wX7_isWord N a1 g f (fun r2 g2 f2 => ((¬ r2 = 0) → wX7_advance N g2 f2 (fun g11 f11 => Q 1 g11 f11)) ∧ ((r2 = 0) → Q 0 g2 f2))
theorem mX7_skipWord (hE : gInj layC ad) {N : Nat} {a1 : Nat} {g : gFG} {f : gFF} {Q : Int32 → gFG → gFF → Prop} (h : wX7_skipWord N a1 g f Q) : gCT l D cs layC ad (gZc ad tX tY sK sV) 7 yX7_skipWord cX7_skipWord 2 (some .boolean) [.ref (ad 8), .ref (sK a1)] (g, f, 0) (gQi Q) := by
  refine met_walk (lv0 := [some (.ref (ad 8)), some (.ref (sK a1))]) ⟨hE, gZc_ok _ _ _ _ _⟩ (by decide) (Nat.le_of_ble_eq_true rfl) rfl (fun G Rt hG hQ => ?_)
  replace hG : gSim l D cs layC ad (gZc ad tX tY sK sV) 7 RX7 cX7_skipWord 2 (some .boolean) G Rt := hG
  unfold wX7_skipWord at h
  refine s_aload_n (n := 1) hG dX7_skipWord_0 rfl rfl ?_
  refine s_aload_n (n := 2) hG dX7_skipWord_1 rfl rfl ?_
  refine s_callV (n := 5) (st := []) hG (mX7_isWord hE h) ceX7_isWord lmX7_40 ⟨by decide, rfl, rfl⟩ rfl ⟨rfl, Nat.le_of_ble_eq_true rfl, by decide⟩ dX7_skipWord_2 rfl ?_
  rintro _ _ ⟨r2, g2, f2, rfl, rfl, h⟩
  refine s_if_ne (n := 8) (tgt := 10) hG dX7_skipWord_5 rfl rfl (fun c => ?_) (fun c => ?_)
  · replace h := h.1 c
    refine s_aload_n (n := 11) hG dX7_skipWord_10 rfl rfl ?_
    refine s_callV (n := 14) (st := []) hG (mX7_advance hE h) ceX7_advance lmX7_27 ⟨by decide, rfl, rfl⟩ rfl ⟨rfl, Nat.le_of_ble_eq_true rfl, by decide⟩ dX7_skipWord_11 rfl ?_
    rintro _ _ ⟨g11, f11, rfl, rfl, h⟩
    refine s_iconst (n := 15) hG dX7_skipWord_14 ki_1 rfl ?_
    exact s_zret hG dX7_skipWord_15 (gz_n gz_1) (hQ _ _ ⟨_, _, _, rfl, rfl, h⟩)
  · replace h := h.2 c
    refine s_iconst (n := 9) hG dX7_skipWord_8 ki_0 rfl ?_
    exact s_zret hG dX7_skipWord_9 (gz_n gz_0) (hQ _ _ ⟨_, _, _, rfl, rfl, h⟩)
def wX7_readNumber_l26 (N : Nat) (v1 : Int32)  (Q : Int32 → gFG → gFF → Prop) : Nat → Int32 → Int32 → gFG → gFF → Prop
  | 0, _, _, _, _ => False
  | n + 1, v2, v3, g, f => (((g 20) ≤ v3) → ((v2 < v1) → Q (-1) g f) ∧ ((¬ v2 < v1) → ((v2 ≤ 1000) → wX7_advance N g f (fun g78 f78 => Q v2 g78 f78)) ∧ ((¬ v2 ≤ 1000) → Q (-1) g f))) ∧ ((¬ (g 20) ≤ v3) → wX9_byteAt N v3 g f (fun r43 g43 f43 => wJ9_min_7cf53 N (((v2 * 10) + r43) - 48) 1001 g43 f43 (fun r53 g53 f53 => ∀ x3_57 : Int32, x3_57 = (v3 + 1) → wX7_readNumber_l26 N v1  Q n r53 x3_57 g53 f53)))
theorem sX7_readNumber_l26 {G : gG} {Rt : Option Value → gSt → Prop} (hE : gInj layC ad) (hG : gSim l D cs layC ad (gZc ad tX tY sK sV) 3 RX7 cX7_readNumber 4 (some .int) G Rt) {Q : Int32 → gFG → gFF → Prop} (hQ : ∀ v S, gQi Q v S → Rt v S) {N : Nat} {v1 : Int32}    : ∀ (n : Nat) (v2 : Int32) (v3 : Int32) (g : gFG) (f : gFF), wX7_readNumber_l26 N v1  Q n v2 v3 g f → G 26 [some (.ref (ad 8)), some (.int v1), some (.int v2), some (.int v3)] [] (g, f, 0) := by
  intro n
  induction n with
  | zero => intro _ _ _ _ h; unfold wX7_readNumber_l26 at h; exact h.elim
  | succ n ih =>
    intro v2 v3 g f h
    unfold wX7_readNumber_l26 at h
    refine s_iload_n (n := 27) hG dX7_readNumber_26 rfl rfl ?_
    refine s_aload_n (n := 28) hG dX7_readNumber_27 rfl rfl ?_
    refine gtX7_15 (n := 31) hG dX7_readNumber_28 rfl ?_
    refine s_icmp_ge (n := 34) (tgt := 63) hG dX7_readNumber_31 rfl rfl (fun c => ?_) (fun c => ?_)
    · replace h := h.1 c
      refine s_iload_n (n := 64) hG dX7_readNumber_63 rfl rfl ?_
      refine s_iload_n (n := 65) hG dX7_readNumber_64 rfl rfl ?_
      refine s_icmp_lt (n := 68) (tgt := 75) hG dX7_readNumber_65 rfl rfl (fun c => ?_) (fun c => ?_)
      · replace h := h.1 c
        refine s_iconst (n := 76) hG dX7_readNumber_75 ki_m1 rfl ?_
        exact s_iret hG dX7_readNumber_76 (hQ _ _ ⟨_, _, _, rfl, rfl, h⟩)
      · replace h := h.2 c
        refine s_iload_n (n := 69) hG dX7_readNumber_68 rfl rfl ?_
        refine s_sipush (n := 72) hG dX7_readNumber_69 ks_1000 rfl ?_
        refine s_icmp_le (n := 75) (tgt := 77) hG dX7_readNumber_72 rfl rfl (fun c => ?_) (fun c => ?_)
        · replace h := h.1 c
          refine s_aload_n (n := 78) hG dX7_readNumber_77 rfl rfl ?_
          refine s_callV (n := 81) (st := []) hG (mX7_advance hE h) ceX7_advance lmX7_27 ⟨by decide, rfl, rfl⟩ rfl ⟨rfl, Nat.le_of_ble_eq_true rfl, by decide⟩ dX7_readNumber_78 rfl ?_
          rintro _ _ ⟨g78, f78, rfl, rfl, h⟩
          refine s_iload_n (n := 82) hG dX7_readNumber_81 rfl rfl ?_
          exact s_iret hG dX7_readNumber_82 (hQ _ _ ⟨_, _, _, rfl, rfl, h⟩)
        · replace h := h.2 c
          refine s_iconst (n := 76) hG dX7_readNumber_75 ki_m1 rfl ?_
          exact s_iret hG dX7_readNumber_76 (hQ _ _ ⟨_, _, _, rfl, rfl, h⟩)
    · replace h := h.2 c
      refine s_iload_n (n := 35) hG dX7_readNumber_34 rfl rfl ?_
      refine s_bipush (n := 37) hG dX7_readNumber_35 kb_10 rfl ?_
      refine s_imul (n := 38) hG dX7_readNumber_37 rfl ?_
      refine s_aload_n (n := 39) hG dX7_readNumber_38 rfl rfl ?_
      refine gtX7_18 (n := 42) hG dX7_readNumber_39 rfl ?_
      refine s_iload_n (n := 43) hG dX7_readNumber_42 rfl rfl ?_
      refine s_callV (n := 46) (st := [.int (v2 * 10)]) hG (mX9_byteAt hE h) ceX9_byteAt lmX7_104 ⟨by decide, rfl, rfl⟩ rfl ⟨rfl, Nat.le_of_ble_eq_true rfl, by decide⟩ dX7_readNumber_43 rfl ?_
      rintro _ _ ⟨r43, g43, f43, rfl, rfl, h⟩
      refine s_iadd (n := 47) hG dX7_readNumber_46 rfl ?_
      refine s_bipush (n := 49) hG dX7_readNumber_47 kb_48 rfl ?_
      refine s_isub (n := 50) hG dX7_readNumber_49 rfl ?_
      refine s_sipush (n := 53) hG dX7_readNumber_50 ks_1001 rfl ?_
      refine s_callS (n := 56) (st := []) hG (mJ9_min_7cf53 hE h) ceJ9_min_7cf53 lmX7_112 rfl ⟨rfl, Nat.le_of_ble_eq_true rfl, by decide⟩ dX7_readNumber_53 rfl ?_
      rintro _ _ ⟨r53, g53, f53, rfl, rfl, h⟩
      refine s_istore_n (n := 57) (lv2 := [some (.ref (ad 8)), some (.int v1), some (.int r53), some (.int v3)]) hG dX7_readNumber_56 rfl rfl rfl ?_
      obtain ⟨x3_57, hx3_57⟩ : ∃ z : Int32, z = (v3 + 1) := ⟨_, rfl⟩
      replace h := h x3_57 hx3_57
      refine s_iinc (n := 60) (v := x3_57) (lv2 := [some (.ref (ad 8)), some (.int v1), some (.int r53), some (.int x3_57)]) hG dX7_readNumber_57 ki_1 rfl hx3_57 rfl rfl rfl ?_
      refine s_goto (tgt := 26) hG dX7_readNumber_60 rfl ?_
      exact s_wk hG (ih _ _ _ _ h) ⟨rfl, rfl, rfl, rfl, trivial⟩
def wX7_readNumber (N : Nat) (a1 : Int32) (g : gFG) (f : gFF) (Q : Int32 → gFG → gFF → Prop) : Prop := wX9_byteAt N (g 19) g f (fun r8 g8 f8 => wX7_isDigit N r8 g8 f8 (fun r11 g11 f11 => ((¬ r11 = 0) → ∀ x3_25 : Int32, x3_25 = (g11 19) → wX7_readNumber_l26 N a1 Q N 0 x3_25 g11 f11) ∧ ((r11 = 0) → Q (-1) g11 f11)))
theorem mX7_readNumber (hE : gInj layC ad) {N : Nat} {a1 : Int32} {g : gFG} {f : gFF} {Q : Int32 → gFG → gFF → Prop} (h : wX7_readNumber N a1 g f Q) : gCT l D cs layC ad (gZc ad tX tY sK sV) 3 yX7_readNumber cX7_readNumber 4 (some .int) [.ref (ad 8), .int a1] (g, f, 0) (gQi Q) := by
  refine met_walk (lv0 := [some (.ref (ad 8)), some (.int a1), none, none]) ⟨hE, gZc_ok _ _ _ _ _⟩ (by decide) (Nat.le_of_ble_eq_true rfl) rfl (fun G Rt hG hQ => ?_)
  replace hG : gSim l D cs layC ad (gZc ad tX tY sK sV) 3 RX7 cX7_readNumber 4 (some .int) G Rt := hG
  unfold wX7_readNumber at h
  refine s_aload_n (n := 1) hG dX7_readNumber_0 rfl rfl ?_
  refine gtX7_18 (n := 4) hG dX7_readNumber_1 rfl ?_
  refine s_aload_n (n := 5) hG dX7_readNumber_4 rfl rfl ?_
  refine gtX7_9 (n := 8) hG dX7_readNumber_5 rfl ?_
  refine s_callV (n := 11) (st := []) hG (mX9_byteAt hE h) ceX9_byteAt lmX7_104 ⟨by decide, rfl, rfl⟩ rfl ⟨rfl, Nat.le_of_ble_eq_true rfl, by decide⟩ dX7_readNumber_8 rfl ?_
  rintro _ _ ⟨r8, g8, f8, rfl, rfl, h⟩
  refine s_callS (n := 14) (st := []) hG (mX7_isDigit hE h) ceX7_isDigit lmX7_109 rfl ⟨rfl, Nat.le_of_ble_eq_true rfl, by decide⟩ dX7_readNumber_11 rfl ?_
  rintro _ _ ⟨r11, g11, f11, rfl, rfl, h⟩
  refine s_if_ne (n := 17) (tgt := 19) hG dX7_readNumber_14 rfl rfl (fun c => ?_) (fun c => ?_)
  · replace h := h.1 c
    refine s_iconst (n := 20) hG dX7_readNumber_19 ki_0 rfl ?_
    refine s_istore_n (n := 21) (lv2 := [some (.ref (ad 8)), some (.int a1), some (.int 0), none]) hG dX7_readNumber_20 rfl rfl rfl ?_
    refine s_aload_n (n := 22) hG dX7_readNumber_21 rfl rfl ?_
    refine gtX7_9 (n := 25) hG dX7_readNumber_22 rfl ?_
    refine s_topi (fun x3_25 hx3_25 => ?_)
    replace h := h x3_25 hx3_25
    refine s_istore_n (n := 26) (lv2 := [some (.ref (ad 8)), some (.int a1), some (.int 0), some (.int x3_25)]) hG dX7_readNumber_25 rfl rfl rfl ?_
    exact s_wk hG (sX7_readNumber_l26 hE hG hQ  N _ _ _ _ h) ⟨rfl, rfl, rfl, rfl, trivial⟩
  · replace h := h.2 c
    refine s_iconst (n := 18) hG dX7_readNumber_17 ki_m1 rfl ?_
    exact s_iret hG dX7_readNumber_18 (hQ _ _ ⟨_, _, _, rfl, rfl, h⟩)
def wX7_wordBetween (N : Nat) (a1 : Int32) (g : gFG) (f : gFF) (Q : Nat → gFG → gFF → Prop) : Prop := wX7_isOfMetal N a1 g f (fun r1 g1 f1 => ((r1 = 0) → ((¬ a1 = 8) → Q 10 g1 f1) ∧ ((a1 = 8) → Q 12 g1 f1)) ∧ ((¬ r1 = 0) → Q 11 g1 f1))
theorem mX7_wordBetween (hE : gInj layC ad) {N : Nat} {a1 : Int32} {g : gFG} {f : gFF} {Q : Nat → gFG → gFF → Prop} (h : wX7_wordBetween N a1 g f Q) : gCT l D cs layC ad (gZc ad tX tY sK sV) 2 yX7_wordBetween cX7_wordBetween 1 (some (.object "java/lang/String")) [.int a1] (g, f, 0) (gQs sK Q) := by
  refine met_walk (lv0 := [some (.int a1)]) ⟨hE, gZc_ok _ _ _ _ _⟩ (by decide) (Nat.le_of_ble_eq_true rfl) rfl (fun G Rt hG hQ => ?_)
  replace hG : gSim l D cs layC ad (gZc ad tX tY sK sV) 2 RX7 cX7_wordBetween 1 (some (.object "java/lang/String")) G Rt := hG
  unfold wX7_wordBetween at h
  refine s_iload_n (n := 1) hG dX7_wordBetween_0 rfl rfl ?_
  refine s_callS (n := 4) (st := []) hG (mX7_isOfMetal hE h) ceX7_isOfMetal lmX7_92 rfl ⟨rfl, Nat.le_of_ble_eq_true rfl, by decide⟩ dX7_wordBetween_1 rfl ?_
  rintro _ _ ⟨r1, g1, f1, rfl, rfl, h⟩
  refine s_if_eq (n := 7) (tgt := 10) hG dX7_wordBetween_4 rfl rfl (fun c => ?_) (fun c => ?_)
  · replace h := h.1 c
    refine s_iload_n (n := 11) hG dX7_wordBetween_10 rfl rfl ?_
    refine s_bipush (n := 13) hG dX7_wordBetween_11 kb_8 rfl ?_
    refine s_icmp_ne (n := 16) (tgt := 21) hG dX7_wordBetween_13 rfl rfl (fun c => ?_) (fun c => ?_)
    · replace h := h.1 c
      refine s_ldcS (n := 23) (i := 10) hG dX7_wordBetween_21 rfl rfl ?_
      exact s_aret hG dX7_wordBetween_23 (hQ _ _ ⟨_, _, _, rfl, rfl, h⟩)
    · replace h := h.2 c
      refine s_ldcS (n := 18) (i := 12) hG dX7_wordBetween_16 rfl rfl ?_
      refine s_goto (tgt := 23) hG dX7_wordBetween_18 rfl ?_
      exact s_aret hG dX7_wordBetween_23 (hQ _ _ ⟨_, _, _, rfl, rfl, h⟩)
  · replace h := h.2 c
    refine s_ldcS (n := 9) (i := 11) hG dX7_wordBetween_7 rfl rfl ?_
    exact s_aret hG dX7_wordBetween_9 (hQ _ _ ⟨_, _, _, rfl, rfl, h⟩)
def wX7_readRule_j101 (N : Nat)  (Q : Int32 → gFG → gFF → Prop) (v1 : Int32) (v2 : Int32) (v4 : Int32) (t0 : Int32) (g : gFG) (f : gFF) : Prop := wX7_readNumber N t0 g f (fun r101 g101 f101 => ((¬ r101 = (-1)) → wX6_add N v1 v2 v4 r101 g101 f101 (fun g120 f120 => Q 1 g120 f120)) ∧ ((r101 = (-1)) → Q 0 g101 f101))
theorem sX7_readRule_j101 {G : gG} {Rt : Option Value → gSt → Prop} (hE : gInj layC ad) (hG : gSim l D cs layC ad (gZc ad tX tY sK sV) 8 RX7 cX7_readRule 7 (some .boolean) G Rt) {Q : Int32 → gFG → gFF → Prop} (hQ : ∀ v S, gQi Q v S → Rt v S) {N : Nat}   {v1 : Int32} {v2 : Int32} {v4 : Int32} {t0 : Int32} {g : gFG} {f : gFF}  (h : wX7_readRule_j101 N  Q v1 v2 v4 t0 g f) : G 101 [none, some (.ref (ad (gbk v1))), some (.int v2), none, some (.int v4), none, none] [.int t0, .ref (ad 8)] (g, f, 0) := by
  unfold wX7_readRule_j101 at h
  refine s_callV (n := 104) (st := []) hG (mX7_readNumber hE h) ceX7_readNumber lmX7_60 ⟨by decide, rfl, rfl⟩ rfl ⟨rfl, Nat.le_of_ble_eq_true rfl, by decide⟩ dX7_readRule_101 rfl ?_
  rintro _ _ ⟨r101, g101, f101, rfl, rfl, h⟩
  refine s_istore (n := 106) (lv2 := [none, some (.ref (ad (gbk v1))), some (.int v2), none, some (.int v4), none, some (.int r101)]) hG dX7_readRule_104 rfl rfl rfl ?_
  refine s_iload (n := 108) hG dX7_readRule_106 rfl rfl ?_
  refine s_iconst (n := 109) hG dX7_readRule_108 ki_m1 rfl ?_
  refine s_icmp_ne (n := 112) (tgt := 114) hG dX7_readRule_109 rfl rfl (fun c => ?_) (fun c => ?_)
  · replace h := h.1 c
    refine s_aload_n (n := 115) hG dX7_readRule_114 rfl rfl ?_
    refine s_iload_n (n := 116) hG dX7_readRule_115 rfl rfl ?_
    refine s_iload (n := 118) hG dX7_readRule_116 rfl rfl ?_
    refine s_iload (n := 120) hG dX7_readRule_118 rfl rfl ?_
    refine s_callV (n := 123) (st := []) hG (mX6_add hE h) ceX6_add lmX7_67 (gbk_o _) rfl ⟨rfl, Nat.le_of_ble_eq_true rfl, by decide⟩ dX7_readRule_120 rfl ?_
    rintro _ _ ⟨g120, f120, rfl, rfl, h⟩
    refine s_iconst (n := 124) hG dX7_readRule_123 ki_1 rfl ?_
    exact s_zret hG dX7_readRule_124 (gz_n gz_1) (hQ _ _ ⟨_, _, _, rfl, rfl, h⟩)
  · replace h := h.2 c
    refine s_iconst (n := 113) hG dX7_readRule_112 ki_0 rfl ?_
    exact s_zret hG dX7_readRule_113 (gz_n gz_0) (hQ _ _ ⟨_, _, _, rfl, rfl, h⟩)
def wX7_readRule_j38 (N : Nat)  (Q : Int32 → gFG → gFF → Prop) (v1 : Int32) (v2 : Int32) (g : gFG) (f : gFF) : Prop := wX7_readNumber N 0 g f (fun r40 g40 f40 => ((¬ r40 = (-1)) → wX7_wordBetween N v2 g40 f40 (fun r54 g54 f54 => (r54 < 14) ∧ ((((gsE r54) = 0) → wX7_skipWord N r54 g54 f54 (fun r80 g80 f80 => ((¬ r80 = 0) → ((¬ v2 = 8) → wX7_readRule_j101 N  Q v1 v2 r40 r40 g80 f80) ∧ ((v2 = 8) → wX7_readRule_j101 N  Q v1 v2 r40 1 g80 f80)) ∧ ((r80 = 0) → Q 0 g80 f80))) ∧ ((¬ (gsE r54) = 0) → wX6_add N v1 v2 r40 0 g54 f54 (fun g72 f72 => Q 1 g72 f72))))) ∧ ((r40 = (-1)) → Q 0 g40 f40))
theorem sX7_readRule_j38 {G : gG} {Rt : Option Value → gSt → Prop} (hE : gInj layC ad) (hG : gSim l D cs layC ad (gZc ad tX tY sK sV) 8 RX7 cX7_readRule 7 (some .boolean) G Rt) {Q : Int32 → gFG → gFF → Prop} (hQ : ∀ v S, gQi Q v S → Rt v S) {N : Nat}   {v1 : Int32} {v2 : Int32} {g : gFG} {f : gFF}  (h : wX7_readRule_j38 N  Q v1 v2 g f) : G 38 [some (.ref (ad 8)), some (.ref (ad (gbk v1))), some (.int v2), none, none, none, none] [] (g, f, 0) := by
  unfold wX7_readRule_j38 at h
  refine s_aload_n (n := 39) hG dX7_readRule_38 rfl rfl ?_
  refine s_iconst (n := 40) hG dX7_readRule_39 ki_0 rfl ?_
  refine s_callV (n := 43) (st := []) hG (mX7_readNumber hE h) ceX7_readNumber lmX7_60 ⟨by decide, rfl, rfl⟩ rfl ⟨rfl, Nat.le_of_ble_eq_true rfl, by decide⟩ dX7_readRule_40 rfl ?_
  rintro _ _ ⟨r40, g40, f40, rfl, rfl, h⟩
  refine s_istore (n := 45) (lv2 := [some (.ref (ad 8)), some (.ref (ad (gbk v1))), some (.int v2), none, some (.int r40), none, none]) hG dX7_readRule_43 rfl rfl rfl ?_
  refine s_iload (n := 47) hG dX7_readRule_45 rfl rfl ?_
  refine s_iconst (n := 48) hG dX7_readRule_47 ki_m1 rfl ?_
  refine s_icmp_ne (n := 51) (tgt := 53) hG dX7_readRule_48 rfl rfl (fun c => ?_) (fun c => ?_)
  · replace h := h.1 c
    refine s_iload_n (n := 54) hG dX7_readRule_53 rfl rfl ?_
    refine s_callS (n := 57) (st := []) hG (mX7_wordBetween hE h) ceX7_wordBetween lmX7_64 rfl ⟨rfl, Nat.le_of_ble_eq_true rfl, by decide⟩ dX7_readRule_54 rfl ?_
    rintro _ _ ⟨r54, g54, f54, rfl, rfl, h⟩
    refine s_astore (n := 59) (lv2 := [some (.ref (ad 8)), some (.ref (ad (gbk v1))), some (.int v2), none, some (.int r40), some (.ref (sK r54)), none]) hG dX7_readRule_57 rfl rfl rfl ?_
    refine s_aload (n := 61) hG dX7_readRule_59 rfl rfl ?_
    obtain ⟨hin, h⟩ := h
    refine s_sempty (n := 64) (st := []) hG hE dX7_readRule_61 hin (Nat.le_of_ble_eq_true rfl) (by decide) rfl ?_
    refine s_if_eq (n := 67) (tgt := 77) hG dX7_readRule_64 rfl rfl (fun c => ?_) (fun c => ?_)
    · replace h := h.1 c
      refine s_aload_n (n := 78) hG dX7_readRule_77 rfl rfl ?_
      refine s_aload (n := 80) hG dX7_readRule_78 rfl rfl ?_
      refine s_callV (n := 83) (st := []) hG (mX7_skipWord hE h) ceX7_skipWord lmX7_57 ⟨by decide, rfl, rfl⟩ rfl ⟨rfl, Nat.le_of_ble_eq_true rfl, by decide⟩ dX7_readRule_80 rfl ?_
      rintro _ _ ⟨r80, g80, f80, rfl, rfl, h⟩
      refine s_if_ne (n := 86) (tgt := 88) hG dX7_readRule_83 rfl rfl (fun c => ?_) (fun c => ?_)
      · replace h := h.1 c
        refine s_aload_n (n := 89) hG dX7_readRule_88 rfl rfl ?_
        refine s_iload_n (n := 90) hG dX7_readRule_89 rfl rfl ?_
        refine s_bipush (n := 92) hG dX7_readRule_90 kb_8 rfl ?_
        refine s_icmp_ne (n := 95) (tgt := 99) hG dX7_readRule_92 rfl rfl (fun c => ?_) (fun c => ?_)
        · replace h := h.1 c
          refine s_iload (n := 101) hG dX7_readRule_99 rfl rfl ?_
          exact s_wk hG (sX7_readRule_j101 hE hG hQ  h) ⟨rfl, rfl, rfl, trivial⟩
        · replace h := h.2 c
          refine s_iconst (n := 96) hG dX7_readRule_95 ki_1 rfl ?_
          refine s_goto (tgt := 101) hG dX7_readRule_96 rfl ?_
          exact s_wk hG (sX7_readRule_j101 hE hG hQ  h) ⟨rfl, rfl, rfl, trivial⟩
      · replace h := h.2 c
        refine s_iconst (n := 87) hG dX7_readRule_86 ki_0 rfl ?_
        exact s_zret hG dX7_readRule_87 (gz_n gz_0) (hQ _ _ ⟨_, _, _, rfl, rfl, h⟩)
    · replace h := h.2 c
      refine s_aload_n (n := 68) hG dX7_readRule_67 rfl rfl ?_
      refine s_iload_n (n := 69) hG dX7_readRule_68 rfl rfl ?_
      refine s_iload (n := 71) hG dX7_readRule_69 rfl rfl ?_
      refine s_iconst (n := 72) hG dX7_readRule_71 ki_0 rfl ?_
      refine s_callV (n := 75) (st := []) hG (mX6_add hE h) ceX6_add lmX7_67 (gbk_o _) rfl ⟨rfl, Nat.le_of_ble_eq_true rfl, by decide⟩ dX7_readRule_72 rfl ?_
      rintro _ _ ⟨g72, f72, rfl, rfl, h⟩
      refine s_iconst (n := 76) hG dX7_readRule_75 ki_1 rfl ?_
      exact s_zret hG dX7_readRule_76 (gz_n gz_1) (hQ _ _ ⟨_, _, _, rfl, rfl, h⟩)
  · replace h := h.2 c
    refine s_iconst (n := 52) hG dX7_readRule_51 ki_0 rfl ?_
    exact s_zret hG dX7_readRule_52 (gz_n gz_0) (hQ _ _ ⟨_, _, _, rfl, rfl, h⟩)
def wX7_readRule (N : Nat) (a1 : Int32) (g : gFG) (f : gFF) (Q : Int32 → gFG → gFF → Prop) : Prop := wX7_kindHere N g f (fun r1 g1 f1 => ((¬ r1 = (-1)) → wX7_advance N g1 f1 (fun g13 f13 => wX7_wordAhead N r1 g13 f13 (fun r17 g17 f17 => (r17 < 14) ∧ (((¬ (gsE r17) = 0) → wX7_readRule_j38 N  Q a1 r1 g17 f17) ∧ (((gsE r17) = 0) → wX7_skipWord N r17 g17 f17 (fun r30 g30 f30 => ((¬ r30 = 0) → wX7_readRule_j38 N  Q a1 r1 g30 f30) ∧ ((r30 = 0) → Q 0 g30 f30))))))) ∧ ((r1 = (-1)) → Q 0 g1 f1))
theorem mX7_readRule (hE : gInj layC ad) {N : Nat} {a1 : Int32} {g : gFG} {f : gFF} {Q : Int32 → gFG → gFF → Prop} (h : wX7_readRule N a1 g f Q) : gCT l D cs layC ad (gZc ad tX tY sK sV) 8 yX7_readRule cX7_readRule 7 (some .boolean) [.ref (ad 8), .ref (ad (gbk a1))] (g, f, 0) (gQi Q) := by
  refine met_walk (lv0 := [some (.ref (ad 8)), some (.ref (ad (gbk a1))), none, none, none, none, none]) ⟨hE, gZc_ok _ _ _ _ _⟩ (by decide) (Nat.le_of_ble_eq_true rfl) rfl (fun G Rt hG hQ => ?_)
  replace hG : gSim l D cs layC ad (gZc ad tX tY sK sV) 8 RX7 cX7_readRule 7 (some .boolean) G Rt := hG
  unfold wX7_readRule at h
  refine s_aload_n (n := 1) hG dX7_readRule_0 rfl rfl ?_
  refine s_callV (n := 4) (st := []) hG (mX7_kindHere hE h) ceX7_kindHere lmX7_44 ⟨by decide, rfl, rfl⟩ rfl ⟨rfl, Nat.le_of_ble_eq_true rfl, by decide⟩ dX7_readRule_1 rfl ?_
  rintro _ _ ⟨r1, g1, f1, rfl, rfl, h⟩
  refine s_istore_n (n := 5) (lv2 := [some (.ref (ad 8)), some (.ref (ad (gbk a1))), some (.int r1), none, none, none, none]) hG dX7_readRule_4 rfl rfl rfl ?_
  refine s_iload_n (n := 6) hG dX7_readRule_5 rfl rfl ?_
  refine s_iconst (n := 7) hG dX7_readRule_6 ki_m1 rfl ?_
  refine s_icmp_ne (n := 10) (tgt := 12) hG dX7_readRule_7 rfl rfl (fun c => ?_) (fun c => ?_)
  · replace h := h.1 c
    refine s_aload_n (n := 13) hG dX7_readRule_12 rfl rfl ?_
    refine s_callV (n := 16) (st := []) hG (mX7_advance hE h) ceX7_advance lmX7_27 ⟨by decide, rfl, rfl⟩ rfl ⟨rfl, Nat.le_of_ble_eq_true rfl, by decide⟩ dX7_readRule_13 rfl ?_
    rintro _ _ ⟨g13, f13, rfl, rfl, h⟩
    refine s_iload_n (n := 17) hG dX7_readRule_16 rfl rfl ?_
    refine s_callS (n := 20) (st := []) hG (mX7_wordAhead hE h) ceX7_wordAhead lmX7_48 rfl ⟨rfl, Nat.le_of_ble_eq_true rfl, by decide⟩ dX7_readRule_17 rfl ?_
    rintro _ _ ⟨r17, g17, f17, rfl, rfl, h⟩
    refine s_astore_n (n := 21) (lv2 := [some (.ref (ad 8)), some (.ref (ad (gbk a1))), some (.int r1), some (.ref (sK r17)), none, none, none]) hG dX7_readRule_20 rfl rfl rfl ?_
    refine s_aload_n (n := 22) hG dX7_readRule_21 rfl rfl ?_
    obtain ⟨hin, h⟩ := h
    refine s_sempty (n := 25) (st := []) hG hE dX7_readRule_22 hin (Nat.le_of_ble_eq_true rfl) (by decide) rfl ?_
    refine s_if_ne (n := 28) (tgt := 38) hG dX7_readRule_25 rfl rfl (fun c => ?_) (fun c => ?_)
    · replace h := h.1 c
      exact s_wk hG (sX7_readRule_j38 hE hG hQ  h) ⟨rfl, rfl, rfl, trivial⟩
    · replace h := h.2 c
      refine s_aload_n (n := 29) hG dX7_readRule_28 rfl rfl ?_
      refine s_aload_n (n := 30) hG dX7_readRule_29 rfl rfl ?_
      refine s_callV (n := 33) (st := []) hG (mX7_skipWord hE h) ceX7_skipWord lmX7_57 ⟨by decide, rfl, rfl⟩ rfl ⟨rfl, Nat.le_of_ble_eq_true rfl, by decide⟩ dX7_readRule_30 rfl ?_
      rintro _ _ ⟨r30, g30, f30, rfl, rfl, h⟩
      refine s_if_ne (n := 36) (tgt := 38) hG dX7_readRule_33 rfl rfl (fun c => ?_) (fun c => ?_)
      · replace h := h.1 c
        exact s_wk hG (sX7_readRule_j38 hE hG hQ  h) ⟨rfl, rfl, rfl, trivial⟩
      · replace h := h.2 c
        refine s_iconst (n := 37) hG dX7_readRule_36 ki_0 rfl ?_
        exact s_zret hG dX7_readRule_37 (gz_n gz_0) (hQ _ _ ⟨_, _, _, rfl, rfl, h⟩)
  · replace h := h.2 c
    refine s_iconst (n := 11) hG dX7_readRule_10 ki_0 rfl ?_
    exact s_zret hG dX7_readRule_11 (gz_n gz_0) (hQ _ _ ⟨_, _, _, rfl, rfl, h⟩)
def wX7_read_l24 (N : Nat) (v1 : Int32)  (Q : Int32 → gFG → gFF → Prop) : Nat → Int32 → gFG → gFF → Prop
  | 0, _, _, _ => False
  | n + 1, v2, g, f => ((20 ≤ v2) → Q (g 19) g f) ∧ ((¬ 20 ≤ v2) → wX7_readRule N v1 g f (fun r32 g32 f32 => ((¬ r32 = 0) → wX7_isAtEnd N g32 f32 (fun r44 g44 f44 => ((r44 = 0) → wX7_isWord N 13 g44 f44 (fun r55 g55 f55 => ((¬ r55 = 0) → wX7_advance N g55 f55 (fun g67 f67 => ∀ x2_70 : Int32, x2_70 = (v2 + 1) → wX7_read_l24 N v1  Q n x2_70 g67 f67)) ∧ ((r55 = 0) → Q (g55 19) g55 f55))) ∧ ((¬ r44 = 0) → Q (-1) g44 f44))) ∧ ((r32 = 0) → Q (g32 19) g32 f32)))
theorem sX7_read_l24 {G : gG} {Rt : Option Value → gSt → Prop} (hE : gInj layC ad) (hG : gSim l D cs layC ad (gZc ad tX tY sK sV) 9 RX7 cX7_read 3 (some .int) G Rt) {Q : Int32 → gFG → gFF → Prop} (hQ : ∀ v S, gQi Q v S → Rt v S) {N : Nat} {v1 : Int32}    : ∀ (n : Nat) (v2 : Int32) (g : gFG) (f : gFF), wX7_read_l24 N v1  Q n v2 g f → G 24 [some (.ref (ad 8)), some (.ref (ad (gbk v1))), some (.int v2)] [] (g, f, 0) := by
  intro n
  induction n with
  | zero => intro _ _ _ h; unfold wX7_read_l24 at h; exact h.elim
  | succ n ih =>
    intro v2 g f h
    unfold wX7_read_l24 at h
    refine s_iload_n (n := 25) hG dX7_read_24 rfl rfl ?_
    refine s_bipush (n := 27) hG dX7_read_25 kb_20 rfl ?_
    refine s_icmp_ge (n := 30) (tgt := 76) hG dX7_read_27 rfl rfl (fun c => ?_) (fun c => ?_)
    · replace h := h.1 c
      refine s_aload_n (n := 77) hG dX7_read_76 rfl rfl ?_
      refine gtX7_9 (n := 80) hG dX7_read_77 rfl ?_
      exact s_iret hG dX7_read_80 (hQ _ _ ⟨_, _, _, rfl, rfl, h⟩)
    · replace h := h.2 c
      refine s_aload_n (n := 31) hG dX7_read_30 rfl rfl ?_
      refine s_aload_n (n := 32) hG dX7_read_31 rfl rfl ?_
      refine s_callV (n := 35) (st := []) hG (mX7_readRule hE h) ceX7_readRule lmX7_34 ⟨by decide, rfl, rfl⟩ rfl ⟨rfl, Nat.le_of_ble_eq_true rfl, by decide⟩ dX7_read_32 rfl ?_
      rintro _ _ ⟨r32, g32, f32, rfl, rfl, h⟩
      refine s_if_ne (n := 38) (tgt := 43) hG dX7_read_35 rfl rfl (fun c => ?_) (fun c => ?_)
      · replace h := h.1 c
        refine s_aload_n (n := 44) hG dX7_read_43 rfl rfl ?_
        refine s_callV (n := 47) (st := []) hG (mX7_isAtEnd hE h) ceX7_isAtEnd lmX7_30 ⟨by decide, rfl, rfl⟩ rfl ⟨rfl, Nat.le_of_ble_eq_true rfl, by decide⟩ dX7_read_44 rfl ?_
        rintro _ _ ⟨r44, g44, f44, rfl, rfl, h⟩
        refine s_if_eq (n := 50) (tgt := 52) hG dX7_read_47 rfl rfl (fun c => ?_) (fun c => ?_)
        · replace h := h.1 c
          refine s_aload_n (n := 53) hG dX7_read_52 rfl rfl ?_
          refine s_ldcS (n := 55) (i := 13) hG dX7_read_53 rfl rfl ?_
          refine s_callV (n := 58) (st := []) hG (mX7_isWord hE h) ceX7_isWord lmX7_40 ⟨by decide, rfl, rfl⟩ rfl ⟨rfl, Nat.le_of_ble_eq_true rfl, by decide⟩ dX7_read_55 rfl ?_
          rintro _ _ ⟨r55, g55, f55, rfl, rfl, h⟩
          refine s_if_ne (n := 61) (tgt := 66) hG dX7_read_58 rfl rfl (fun c => ?_) (fun c => ?_)
          · replace h := h.1 c
            refine s_aload_n (n := 67) hG dX7_read_66 rfl rfl ?_
            refine s_callV (n := 70) (st := []) hG (mX7_advance hE h) ceX7_advance lmX7_27 ⟨by decide, rfl, rfl⟩ rfl ⟨rfl, Nat.le_of_ble_eq_true rfl, by decide⟩ dX7_read_67 rfl ?_
            rintro _ _ ⟨g67, f67, rfl, rfl, h⟩
            obtain ⟨x2_70, hx2_70⟩ : ∃ z : Int32, z = (v2 + 1) := ⟨_, rfl⟩
            replace h := h x2_70 hx2_70
            refine s_iinc (n := 73) (v := x2_70) (lv2 := [some (.ref (ad 8)), some (.ref (ad (gbk v1))), some (.int x2_70)]) hG dX7_read_70 ki_1 rfl hx2_70 rfl rfl rfl ?_
            refine s_goto (tgt := 24) hG dX7_read_73 rfl ?_
            exact s_wk hG (ih _ _ _ h) ⟨rfl, rfl, rfl, trivial⟩
          · replace h := h.2 c
            refine s_aload_n (n := 62) hG dX7_read_61 rfl rfl ?_
            refine gtX7_9 (n := 65) hG dX7_read_62 rfl ?_
            exact s_iret hG dX7_read_65 (hQ _ _ ⟨_, _, _, rfl, rfl, h⟩)
        · replace h := h.2 c
          refine s_iconst (n := 51) hG dX7_read_50 ki_m1 rfl ?_
          exact s_iret hG dX7_read_51 (hQ _ _ ⟨_, _, _, rfl, rfl, h⟩)
      · replace h := h.2 c
        refine s_aload_n (n := 39) hG dX7_read_38 rfl rfl ?_
        refine gtX7_9 (n := 42) hG dX7_read_39 rfl ?_
        exact s_iret hG dX7_read_42 (hQ _ _ ⟨_, _, _, rfl, rfl, h⟩)
def wX7_read (N : Nat) (a1 : Int32) (g : gFG) (f : gFF) (Q : Int32 → gFG → gFF → Prop) : Prop := wX6_clear N a1 g f (fun g1 f1 => ∀ g6 : gFG, g6 = (va_up g1 20 0) → wX7_advance N g6 f1 (fun g10 f10 => wX7_isAtEnd N g10 f10 (fun r14 g14 f14 => ((r14 = 0) → wX7_read_l24 N a1 Q N 0 g14 f14) ∧ ((¬ r14 = 0) → Q (-1) g14 f14))))
theorem mX7_read (hE : gInj layC ad) {N : Nat} {a1 : Int32} {g : gFG} {f : gFF} {Q : Int32 → gFG → gFF → Prop} (h : wX7_read N a1 g f Q) : gCT l D cs layC ad (gZc ad tX tY sK sV) 9 yX7_read cX7_read 3 (some .int) [.ref (ad 8), .ref (ad (gbk a1))] (g, f, 0) (gQi Q) := by
  refine met_walk (lv0 := [some (.ref (ad 8)), some (.ref (ad (gbk a1))), none]) ⟨hE, gZc_ok _ _ _ _ _⟩ (by decide) (Nat.le_of_ble_eq_true rfl) rfl (fun G Rt hG hQ => ?_)
  replace hG : gSim l D cs layC ad (gZc ad tX tY sK sV) 9 RX7 cX7_read 3 (some .int) G Rt := hG
  unfold wX7_read at h
  refine s_aload_n (n := 1) hG dX7_read_0 rfl rfl ?_
  refine s_callV (n := 4) (st := []) hG (mX6_clear hE h) ceX6_clear lmX7_22 (gbk_o _) rfl ⟨rfl, Nat.le_of_ble_eq_true rfl, by decide⟩ dX7_read_1 rfl ?_
  rintro _ _ ⟨g1, f1, rfl, rfl, h⟩
  refine s_aload_n (n := 5) hG dX7_read_4 rfl rfl ?_
  refine s_iconst (n := 6) hG dX7_read_5 ki_0 rfl ?_
  refine ptX7_15 (n := 9) hG dX7_read_6 rfl ?_
  refine s_ng (fun g6 hg6 => ?_)
  replace h := h g6 hg6
  refine s_aload_n (n := 10) hG dX7_read_9 rfl rfl ?_
  refine s_callV (n := 13) (st := []) hG (mX7_advance hE h) ceX7_advance lmX7_27 ⟨by decide, rfl, rfl⟩ rfl ⟨rfl, Nat.le_of_ble_eq_true rfl, by decide⟩ dX7_read_10 rfl ?_
  rintro _ _ ⟨g10, f10, rfl, rfl, h⟩
  refine s_aload_n (n := 14) hG dX7_read_13 rfl rfl ?_
  refine s_callV (n := 17) (st := []) hG (mX7_isAtEnd hE h) ceX7_isAtEnd lmX7_30 ⟨by decide, rfl, rfl⟩ rfl ⟨rfl, Nat.le_of_ble_eq_true rfl, by decide⟩ dX7_read_14 rfl ?_
  rintro _ _ ⟨r14, g14, f14, rfl, rfl, h⟩
  refine s_if_eq (n := 20) (tgt := 22) hG dX7_read_17 rfl rfl (fun c => ?_) (fun c => ?_)
  · replace h := h.1 c
    refine s_iconst (n := 23) hG dX7_read_22 ki_0 rfl ?_
    refine s_istore_n (n := 24) (lv2 := [some (.ref (ad 8)), some (.ref (ad (gbk a1))), some (.int 0)]) hG dX7_read_23 rfl rfl rfl ?_
    exact s_wk hG (sX7_read_l24 hE hG hQ  N _ _ _ h) ⟨rfl, rfl, rfl, trivial⟩
  · replace h := h.2 c
    refine s_iconst (n := 21) hG dX7_read_20 ki_m1 rfl ?_
    exact s_iret hG dX7_read_21 (hQ _ _ ⟨_, _, _, rfl, rfl, h⟩)
end GWd
