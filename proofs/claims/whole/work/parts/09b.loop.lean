theorem lad1 (a : Nat) : nI a + 1 = nI (a + 1) := nI_add a 1
theorem lad2 (a : Nat) : nI a + 2 = nI (a + 2) := nI_add a 2
theorem lad3 (a : Nat) : nI a + 3 = nI (a + 3) := nI_add a 3
theorem lad4 (a : Nat) : nI a + 4 = nI (a + 4) := nI_add a 4
theorem lad5 (a : Nat) : nI a + 5 = nI (a + 5) := nI_add a 5
theorem lad6 (a : Nat) : nI (6 * a) + 6 = nI (6 * (a + 1)) := nI_add (6 * a) 6
def ls_size (N : Nat) (Inv : Nat → gFG → gFF → gFG → gFF → Int64 → Prop) : Prop := ∀ (n : Nat) (a1 a2 : Int32) (gS : gFG) (fS : gFF) (gT : gFG) (fT : gFF) (wT : Int64), n < 512 → Inv n gS fS gT fT wT → wX11_size N a1 a2 gS fS (fun r g f => wX12_size N a1 a2 gT fT wT (fun r2 g2 f2 w2 => r = r2 ∧ Inv (n + 1) g f g2 f2 w2))
def ls_draw (N : Nat) (Inv : Nat → gFG → gFF → gFG → gFF → Int64 → Prop) : Prop := ∀ (n : Nat) (a1 a2 a3 a4 a5 : Int32) (gS : gFG) (fS : gFF) (gT : gFG) (fT : gFF) (wT : Int64), n < 512 → Inv n gS fS gT fT wT → wX11_draw N a1 a2 a3 a4 a5 gS fS (fun r g f => wX12_draw N a1 a2 a3 a4 a5 gT fT wT (fun r2 g2 f2 w2 => r = r2 ∧ Inv (n + 1) g f g2 f2 w2))
def ls_cell (N : Nat) (Inv : Nat → gFG → gFF → gFG → gFF → Int64 → Prop) : Prop := ∀ (n : Nat) (a1 a2 a3 : Int32) (gS : gFG) (fS : gFF) (gT : gFG) (fT : gFF) (wT : Int64), n < 512 → Inv n gS fS gT fT wT → wX11_cell N a1 a2 a3 gS fS (fun r g f => wX12_cell N a1 a2 a3 gT fT wT (fun r2 g2 f2 w2 => r = r2 ∧ Inv (n + 1) g f g2 f2 w2))
def ls_repair (N : Nat) (Inv : Nat → gFG → gFF → gFG → gFF → Int64 → Prop) : Prop := ∀ (n : Nat) (a1 a2 : Int32) (gS : gFG) (fS : gFF) (gT : gFG) (fT : gFF) (wT : Int64), n < 512 → Inv n gS fS gT fT wT → wX11_repair N a1 a2 gS fS (fun r g f => wX12_repair N a1 a2 gT fT wT (fun r2 g2 f2 w2 => r = r2 ∧ Inv (n + 1) g f g2 f2 w2))
def ls_wall (N : Nat) (Inv : Nat → gFG → gFF → gFG → gFF → Int64 → Prop) : Prop := ∀ (n : Nat) (a1 a2 : Int32) (gS : gFG) (fS : gFF) (gT : gFG) (fT : gFF) (wT : Int64), n < 512 → Inv n gS fS gT fT wT → wX11_wall N a1 a2 gS fS (fun r g f => wX12_wall N a1 a2 gT fT wT (fun r2 g2 f2 w2 => r = r2 ∧ Inv (n + 1) g f g2 f2 w2))
def ls_many (N : Nat) (Inv : Nat → gFG → gFF → gFG → gFF → Int64 → Prop) : Prop := ∀ (n : Nat) (a1 : Int32) (gS : gFG) (fS : gFF) (gT : gFG) (fT : gFF) (wT : Int64), n < 512 → Inv n gS fS gT fT wT → wX11_many N a1 gS fS (fun r g f => wX12_many N a1 gT fT wT (fun r2 g2 f2 w2 => r = r2 ∧ Inv (n + 1) g f g2 f2 w2))
def ls_off (N : Nat) (Inv : Nat → gFG → gFF → gFG → gFF → Int64 → Prop) : Prop := ∀ (n : Nat) (a1 a2 : Int32) (gS : gFG) (fS : gFF) (gT : gFG) (fT : gFF) (wT : Int64), n < 512 → Inv n gS fS gT fT wT → wX11_off N a1 a2 gS fS (fun r g f => wX12_off N a1 a2 gT fT wT (fun r2 g2 f2 w2 => r = r2 ∧ Inv (n + 1) g f g2 f2 w2))
def ls_lot (N : Nat) (Inv : Nat → gFG → gFF → gFG → gFF → Int64 → Prop) : Prop := ∀ (n : Nat) (a1 a2 a3 a4 : Int32) (gS : gFG) (fS : gFF) (gT : gFG) (fT : gFF) (wT : Int64), n < 512 → Inv n gS fS gT fT wT → wX11_lot N a1 a2 a3 a4 gS fS (fun r g f => wX12_lot N a1 a2 a3 a4 gT fT wT (fun r2 g2 f2 w2 => r = r2 ∧ Inv (n + 1) g f g2 f2 w2))
def ls_mix (N : Nat) (Inv : Nat → gFG → gFF → gFG → gFF → Int64 → Prop) : Prop := ∀ (n : Nat) (a1 a2 a3 a4 : Int32) (gS : gFG) (fS : gFF) (gT : gFG) (fT : gFF) (wT : Int64), n < 512 → Inv n gS fS gT fT wT → wX11_mix N a1 a2 a3 a4 gS fS (fun r g f => wX12_mix N a1 a2 a3 a4 gT fT wT (fun r2 g2 f2 w2 => r = r2 ∧ Inv (n + 1) g f g2 f2 w2))
def ls_mixed (N : Nat) (Inv : Nat → gFG → gFF → gFG → gFF → Int64 → Prop) : Prop := ∀ (n : Nat) (a1 : Int32) (gS : gFG) (fS : gFF) (gT : gFG) (fT : gFF) (wT : Int64), n < 512 → Inv n gS fS gT fT wT → wX11_mixed N a1 gS fS (fun r g f => wX12_mixed N a1 gT fT wT (fun r2 g2 f2 w2 => r = r2 ∧ Inv (n + 1) g f g2 f2 w2))
def ls_pour (N : Nat) (Inv : Nat → gFG → gFF → gFG → gFF → Int64 → Prop) : Prop := ∀ (n : Nat)  (gS : gFG) (fS : gFF) (gT : gFG) (fT : gFF) (wT : Int64), n < 512 → Inv n gS fS gT fT wT → wX11_pour N  gS fS (fun r g f => wX12_pour N  gT fT wT (fun r2 g2 f2 w2 => r = r2 ∧ Inv (n + 1) g f g2 f2 w2))
def ls_left (N : Nat) (Inv : Nat → gFG → gFF → gFG → gFF → Int64 → Prop) : Prop := ∀ (n : Nat) (a1 : Int32) (gS : gFG) (fS : gFF) (gT : gFG) (fT : gFF) (wT : Int64), n < 512 → Inv n gS fS gT fT wT → wX11_left N a1 gS fS (fun r g f => wX12_left N a1 gT fT wT (fun r2 g2 f2 w2 => r = r2 ∧ Inv (n + 1) g f g2 f2 w2))
def ls_feed (N : Nat) (Inv : Nat → gFG → gFF → gFG → gFF → Int64 → Prop) : Prop := ∀ (n : Nat) (a1 a2 a3 a4 a5 : Int32) (gS : gFG) (fS : gFF) (gT : gFG) (fT : gFF) (wT : Int64), n < 512 → Inv n gS fS gT fT wT → wX11_feed N a1 a2 a3 a4 a5 gS fS (fun r g f => wX12_feed N a1 a2 a3 a4 a5 gT fT wT (fun r2 g2 f2 w2 => r = r2 ∧ Inv (n + 1) g f g2 f2 w2))
def ls_end (N : Nat) (Inv : Nat → gFG → gFF → gFG → gFF → Int64 → Prop) : Prop := ∀ (n : Nat) (a1 : Int32) (gS : gFG) (fS : gFF) (gT : gFG) (fT : gFF) (wT : Int64), n < 512 → Inv n gS fS gT fT wT → wX11_end N a1 gS fS (fun r g f => wX12_end N a1 gT fT wT (fun r2 g2 f2 w2 => r = r2 ∧ Inv (n + 1) g f g2 f2 w2))
def ls_rules (N : Nat) (Inv : Nat → gFG → gFF → gFG → gFF → Int64 → Prop) : Prop := ∀ (n : Nat)  (gS : gFG) (fS : gFF) (gT : gFG) (fT : gFF) (wT : Int64), n < 512 → Inv n gS fS gT fT wT → wX11_rules N  gS fS (fun r g f => wX12_rules N  gT fT wT (fun r2 g2 f2 w2 => r = r2 ∧ Inv (n + 1) g f g2 f2 w2))
def ls_fault (N : Nat) (Inv : Nat → gFG → gFF → gFG → gFF → Int64 → Prop) : Prop := ∀ (n : Nat)  (gS : gFG) (fS : gFF) (gT : gFG) (fT : gFF) (wT : Int64), n < 512 → Inv n gS fS gT fT wT → wX11_fault N  gS fS (fun r g f => wX12_fault N  gT fT wT (fun r2 g2 f2 w2 => r = r2 ∧ Inv (n + 1) g f g2 f2 w2))
def ls_broken (N : Nat) (Inv : Nat → gFG → gFF → gFG → gFF → Int64 → Prop) : Prop := ∀ (n : Nat) (a1 : Int32) (gS : gFG) (fS : gFF) (gT : gFG) (fT : gFF) (wT : Int64), n < 512 → Inv n gS fS gT fT wT → wX11_broken N a1 gS fS (fun r g f => wX12_broken N a1 gT fT wT (fun r2 g2 f2 w2 => r = r2 ∧ Inv (n + 1) g f g2 f2 w2))
def ls_vessel (N : Nat) (Inv : Nat → gFG → gFF → gFG → gFF → Int64 → Prop) : Prop := ∀ (n : Nat) (a1 : Int32) (gS : gFG) (fS : gFF) (gT : gFG) (fT : gFF) (wT : Int64), n < 512 → Inv n gS fS gT fT wT → wX11_vessel N a1 gS fS (fun r g f => wX12_vessel N a1 gT fT wT (fun r2 g2 f2 w2 => r = r2 ∧ Inv (n + 1) g f g2 f2 w2))
def ls_like (N : Nat) (Inv : Nat → gFG → gFF → gFG → gFF → Int64 → Prop) : Prop := ∀ (n : Nat) (a1 a2 : Int32) (gS : gFG) (fS : gFF) (gT : gFG) (fT : gFF) (wT : Int64), n < 512 → Inv n gS fS gT fT wT → wX11_like N a1 a2 gS fS (fun r g f => wX12_like N a1 a2 gT fT wT (fun r2 g2 f2 w2 => r = r2 ∧ Inv (n + 1) g f g2 f2 w2))
def ls_tell (N : Nat) (Inv : Nat → gFG → gFF → gFG → gFF → Int64 → Prop) : Prop := ∀ (n : Nat) (a1 a2 a3 : Int32) (gS : gFG) (fS : gFF) (gT : gFG) (fT : gFF) (wT : Int64), n < 512 → Inv n gS fS gT fT wT → wX11_tell N a1 a2 a3 gS fS (fun r g f => wX12_tell N a1 a2 a3 gT fT wT (fun r2 g2 f2 w2 => r = r2 ∧ Inv (n + 1) g f g2 f2 w2))
def ls_of (N : Nat) (Inv : Nat → gFG → gFF → gFG → gFF → Int64 → Prop) : Prop := ∀ (n : Nat) (a1 a2 : Int32) (gS : gFG) (fS : gFF) (gT : gFG) (fT : gFF) (wT : Int64), n < 512 → Inv n gS fS gT fT wT → wX11_of N a1 a2 gS fS (fun r g f => wX12_of N a1 a2 gT fT wT (fun r2 g2 f2 w2 => r = r2 ∧ Inv (n + 1) g f g2 f2 w2))
def ls_by (N : Nat) (Inv : Nat → gFG → gFF → gFG → gFF → Int64 → Prop) : Prop := ∀ (n : Nat) (a1 a2 : Int32) (gS : gFG) (fS : gFF) (gT : gFG) (fT : gFF) (wT : Int64), n < 512 → Inv n gS fS gT fT wT → wX11_by N a1 a2 gS fS (fun r g f => wX12_by N a1 a2 gT fT wT (fun r2 g2 f2 w2 => r = r2 ∧ Inv (n + 1) g f g2 f2 w2))
def ls_count (N : Nat) (Inv : Nat → gFG → gFF → gFG → gFF → Int64 → Prop) : Prop := ∀ (n : Nat) (a1 : Int32) (gS : gFG) (fS : gFF) (gT : gFG) (fT : gFF) (wT : Int64), n < 512 → Inv n gS fS gT fT wT → wX11_count N a1 gS fS (fun r g f => wX12_count N a1 gT fT wT (fun r2 g2 f2 w2 => r = r2 ∧ Inv (n + 1) g f g2 f2 w2))
def ls_status (N : Nat) (Inv : Nat → gFG → gFF → gFG → gFF → Int64 → Prop) : Prop := ∀ (n : Nat)  (gS : gFG) (fS : gFF) (gT : gFG) (fT : gFF) (wT : Int64), n < 512 → Inv n gS fS gT fT wT → wX11_status N  gS fS (fun r g f => wX12_status N  gT fT wT (fun r2 g2 f2 w2 => r = r2 ∧ Inv (n + 1) g f g2 f2 w2))
section LLOOP
variable {l : Launch} {D : va_G} {cs : gCs} {adC adM : Nat → Nat} {tX tY : Nat} {sK sV : Nat → Nat} {b L : Nat} {xs : Nat → Int32} {G : lG} {n : Nat}
theorem lc_size (hG : lSim l D cs adC adM tX tY sK sV b L xs G) (hE1 : gInj layC adC) (hE2 : gInj layM adM ∧ gZok (gA layM adM) (fun _ => True)) (hn : 6 * n + 6 ≤ L) (hL : L ≤ 3072) {N : Nat} {Inv : Nat → gFG → gFF → gFG → gFF → Int64 → Prop} (hs : ls_size N Inv) {gS : gFG} {fS : gFF} {gT : gFG} {fT : gFF} {wT : Int64} (hI : Inv n gS fS gT fT wT) (kk : ∀ (gS : gFG) (fS : gFF) (gT : gFG) (fT : gFF) (wT : Int64), Inv (n + 1) gS fS gT fT wT → G 906 [some (.ref b), some (.ref (adC 0)), some (.ref (adM 0)), some (.int (nI (6 * n)))] [] (gS, fS, 0) (gT, fT, wT)) : G 144 [some (.ref b), some (.ref (adC 0)), some (.ref (adM 0)), some (.int (nI (6 * n)))] [] (gS, fS, 0) (gT, fT, wT) := by
  have h := hs n (xs (6 * n + 1)) (xs (6 * n + 2)) gS fS gT fT wT (by omega) hI
  refine l_aload_n (n := 145) hG dL_law_144 rfl rfl ?_
  refine l_aload_n (n := 146) hG dL_law_145 rfl rfl ?_
  refine l_iload_n (n := 147) hG dL_law_146 rfl rfl ?_
  refine l_iconst (n := 148) hG dL_law_147 ki_1 rfl ?_
  refine l_iadd (n := 149) hG dL_law_148 rfl ?_
  refine l_sald (n := 150) (j := 6 * n + 1) hG dL_law_149 ⟨lad1 _, by omega, hL⟩ rfl ?_
  refine l_aload_n (n := 151) hG dL_law_150 rfl rfl ?_
  refine l_iload_n (n := 152) hG dL_law_151 rfl rfl ?_
  refine l_iconst (n := 153) hG dL_law_152 ki_2 rfl ?_
  refine l_iadd (n := 154) hG dL_law_153 rfl ?_
  refine l_sald (n := 155) (j := 6 * n + 2) hG dL_law_154 ⟨lad2 _, by omega, hL⟩ rfl ?_
  refine l_callC (n := 158) (st := []) hG (mX11_size hE1 h) ceX11_size rfl lmL_13 rfl ⟨rfl, Nat.le_of_ble_eq_true rfl, by decide⟩ dL_law_155 rfl ?_
  rintro _ _ ⟨r1, gS1, fS1, rfl, rfl, h⟩
  refine l_aload_n (n := 159) hG dL_law_158 rfl rfl ?_
  refine l_aload_n (n := 160) hG dL_law_159 rfl rfl ?_
  refine l_iload_n (n := 161) hG dL_law_160 rfl rfl ?_
  refine l_iconst (n := 162) hG dL_law_161 ki_1 rfl ?_
  refine l_iadd (n := 163) hG dL_law_162 rfl ?_
  refine l_sald (n := 164) (j := 6 * n + 1) hG dL_law_163 ⟨lad1 _, by omega, hL⟩ rfl ?_
  refine l_aload_n (n := 165) hG dL_law_164 rfl rfl ?_
  refine l_iload_n (n := 166) hG dL_law_165 rfl rfl ?_
  refine l_iconst (n := 167) hG dL_law_166 ki_2 rfl ?_
  refine l_iadd (n := 168) hG dL_law_167 rfl ?_
  refine l_sald (n := 169) (j := 6 * n + 2) hG dL_law_168 ⟨lad2 _, by omega, hL⟩ rfl ?_
  refine l_callM (n := 172) (st := [.int r1]) hG (mX12_size hE2 h) ceX12_size rfl lmL_17 rfl ⟨rfl, Nat.le_of_ble_eq_true rfl, by decide⟩ dL_law_169 rfl ?_
  rintro _ _ ⟨r2, gT1, fT1, wT1, rfl, rfl, hr, hI1⟩
  refine l_icmp_eq (n := 175) (tgt := 906) hG dL_law_172 rfl rfl (fun c => ?_) (fun c => absurd hr c)
  exact kk _ _ _ _ _ hI1
theorem lc_draw (hG : lSim l D cs adC adM tX tY sK sV b L xs G) (hE1 : gInj layC adC) (hE2 : gInj layM adM ∧ gZok (gA layM adM) (fun _ => True)) (hn : 6 * n + 6 ≤ L) (hL : L ≤ 3072) {N : Nat} {Inv : Nat → gFG → gFF → gFG → gFF → Int64 → Prop} (hs : ls_draw N Inv) {gS : gFG} {fS : gFF} {gT : gFG} {fT : gFF} {wT : Int64} (hI : Inv n gS fS gT fT wT) (kk : ∀ (gS : gFG) (fS : gFF) (gT : gFG) (fT : gFF) (wT : Int64), Inv (n + 1) gS fS gT fT wT → G 906 [some (.ref b), some (.ref (adC 0)), some (.ref (adM 0)), some (.int (nI (6 * n)))] [] (gS, fS, 0) (gT, fT, wT)) : G 177 [some (.ref b), some (.ref (adC 0)), some (.ref (adM 0)), some (.int (nI (6 * n)))] [] (gS, fS, 0) (gT, fT, wT) := by
  have h := hs n (xs (6 * n + 1)) (xs (6 * n + 2)) (xs (6 * n + 3)) (xs (6 * n + 4)) (xs (6 * n + 5)) gS fS gT fT wT (by omega) hI
  refine l_aload_n (n := 178) hG dL_law_177 rfl rfl ?_
  refine l_aload_n (n := 179) hG dL_law_178 rfl rfl ?_
  refine l_iload_n (n := 180) hG dL_law_179 rfl rfl ?_
  refine l_iconst (n := 181) hG dL_law_180 ki_1 rfl ?_
  refine l_iadd (n := 182) hG dL_law_181 rfl ?_
  refine l_sald (n := 183) (j := 6 * n + 1) hG dL_law_182 ⟨lad1 _, by omega, hL⟩ rfl ?_
  refine l_aload_n (n := 184) hG dL_law_183 rfl rfl ?_
  refine l_iload_n (n := 185) hG dL_law_184 rfl rfl ?_
  refine l_iconst (n := 186) hG dL_law_185 ki_2 rfl ?_
  refine l_iadd (n := 187) hG dL_law_186 rfl ?_
  refine l_sald (n := 188) (j := 6 * n + 2) hG dL_law_187 ⟨lad2 _, by omega, hL⟩ rfl ?_
  refine l_aload_n (n := 189) hG dL_law_188 rfl rfl ?_
  refine l_iload_n (n := 190) hG dL_law_189 rfl rfl ?_
  refine l_iconst (n := 191) hG dL_law_190 ki_3 rfl ?_
  refine l_iadd (n := 192) hG dL_law_191 rfl ?_
  refine l_sald (n := 193) (j := 6 * n + 3) hG dL_law_192 ⟨lad3 _, by omega, hL⟩ rfl ?_
  refine l_aload_n (n := 194) hG dL_law_193 rfl rfl ?_
  refine l_iload_n (n := 195) hG dL_law_194 rfl rfl ?_
  refine l_iconst (n := 196) hG dL_law_195 ki_4 rfl ?_
  refine l_iadd (n := 197) hG dL_law_196 rfl ?_
  refine l_sald (n := 198) (j := 6 * n + 4) hG dL_law_197 ⟨lad4 _, by omega, hL⟩ rfl ?_
  refine l_aload_n (n := 199) hG dL_law_198 rfl rfl ?_
  refine l_iload_n (n := 200) hG dL_law_199 rfl rfl ?_
  refine l_iconst (n := 201) hG dL_law_200 ki_5 rfl ?_
  refine l_iadd (n := 202) hG dL_law_201 rfl ?_
  refine l_sald (n := 203) (j := 6 * n + 5) hG dL_law_202 ⟨lad5 _, by omega, hL⟩ rfl ?_
  refine l_callC (n := 206) (st := []) hG (mX11_draw hE1 h) ceX11_draw rfl lmL_18 rfl ⟨rfl, Nat.le_of_ble_eq_true rfl, by decide⟩ dL_law_203 rfl ?_
  rintro _ _ ⟨r1, gS1, fS1, rfl, rfl, h⟩
  refine l_aload_n (n := 207) hG dL_law_206 rfl rfl ?_
  refine l_aload_n (n := 208) hG dL_law_207 rfl rfl ?_
  refine l_iload_n (n := 209) hG dL_law_208 rfl rfl ?_
  refine l_iconst (n := 210) hG dL_law_209 ki_1 rfl ?_
  refine l_iadd (n := 211) hG dL_law_210 rfl ?_
  refine l_sald (n := 212) (j := 6 * n + 1) hG dL_law_211 ⟨lad1 _, by omega, hL⟩ rfl ?_
  refine l_aload_n (n := 213) hG dL_law_212 rfl rfl ?_
  refine l_iload_n (n := 214) hG dL_law_213 rfl rfl ?_
  refine l_iconst (n := 215) hG dL_law_214 ki_2 rfl ?_
  refine l_iadd (n := 216) hG dL_law_215 rfl ?_
  refine l_sald (n := 217) (j := 6 * n + 2) hG dL_law_216 ⟨lad2 _, by omega, hL⟩ rfl ?_
  refine l_aload_n (n := 218) hG dL_law_217 rfl rfl ?_
  refine l_iload_n (n := 219) hG dL_law_218 rfl rfl ?_
  refine l_iconst (n := 220) hG dL_law_219 ki_3 rfl ?_
  refine l_iadd (n := 221) hG dL_law_220 rfl ?_
  refine l_sald (n := 222) (j := 6 * n + 3) hG dL_law_221 ⟨lad3 _, by omega, hL⟩ rfl ?_
  refine l_aload_n (n := 223) hG dL_law_222 rfl rfl ?_
  refine l_iload_n (n := 224) hG dL_law_223 rfl rfl ?_
  refine l_iconst (n := 225) hG dL_law_224 ki_4 rfl ?_
  refine l_iadd (n := 226) hG dL_law_225 rfl ?_
  refine l_sald (n := 227) (j := 6 * n + 4) hG dL_law_226 ⟨lad4 _, by omega, hL⟩ rfl ?_
  refine l_aload_n (n := 228) hG dL_law_227 rfl rfl ?_
  refine l_iload_n (n := 229) hG dL_law_228 rfl rfl ?_
  refine l_iconst (n := 230) hG dL_law_229 ki_5 rfl ?_
  refine l_iadd (n := 231) hG dL_law_230 rfl ?_
  refine l_sald (n := 232) (j := 6 * n + 5) hG dL_law_231 ⟨lad5 _, by omega, hL⟩ rfl ?_
  refine l_callM (n := 235) (st := [.int r1]) hG (mX12_draw hE2 h) ceX12_draw rfl lmL_22 rfl ⟨rfl, Nat.le_of_ble_eq_true rfl, by decide⟩ dL_law_232 rfl ?_
  rintro _ _ ⟨r2, gT1, fT1, wT1, rfl, rfl, hr, hI1⟩
  refine l_icmp_eq (n := 238) (tgt := 906) hG dL_law_235 rfl rfl (fun c => ?_) (fun c => absurd hr c)
  exact kk _ _ _ _ _ hI1
theorem lc_cell (hG : lSim l D cs adC adM tX tY sK sV b L xs G) (hE1 : gInj layC adC) (hE2 : gInj layM adM ∧ gZok (gA layM adM) (fun _ => True)) (hn : 6 * n + 6 ≤ L) (hL : L ≤ 3072) {N : Nat} {Inv : Nat → gFG → gFF → gFG → gFF → Int64 → Prop} (hs : ls_cell N Inv) {gS : gFG} {fS : gFF} {gT : gFG} {fT : gFF} {wT : Int64} (hI : Inv n gS fS gT fT wT) (kk : ∀ (gS : gFG) (fS : gFF) (gT : gFG) (fT : gFF) (wT : Int64), Inv (n + 1) gS fS gT fT wT → G 906 [some (.ref b), some (.ref (adC 0)), some (.ref (adM 0)), some (.int (nI (6 * n)))] [] (gS, fS, 0) (gT, fT, wT)) : G 240 [some (.ref b), some (.ref (adC 0)), some (.ref (adM 0)), some (.int (nI (6 * n)))] [] (gS, fS, 0) (gT, fT, wT) := by
  have h := hs n (xs (6 * n + 1)) (xs (6 * n + 2)) (xs (6 * n + 3)) gS fS gT fT wT (by omega) hI
  refine l_aload_n (n := 241) hG dL_law_240 rfl rfl ?_
  refine l_aload_n (n := 242) hG dL_law_241 rfl rfl ?_
  refine l_iload_n (n := 243) hG dL_law_242 rfl rfl ?_
  refine l_iconst (n := 244) hG dL_law_243 ki_1 rfl ?_
  refine l_iadd (n := 245) hG dL_law_244 rfl ?_
  refine l_sald (n := 246) (j := 6 * n + 1) hG dL_law_245 ⟨lad1 _, by omega, hL⟩ rfl ?_
  refine l_aload_n (n := 247) hG dL_law_246 rfl rfl ?_
  refine l_iload_n (n := 248) hG dL_law_247 rfl rfl ?_
  refine l_iconst (n := 249) hG dL_law_248 ki_2 rfl ?_
  refine l_iadd (n := 250) hG dL_law_249 rfl ?_
  refine l_sald (n := 251) (j := 6 * n + 2) hG dL_law_250 ⟨lad2 _, by omega, hL⟩ rfl ?_
  refine l_aload_n (n := 252) hG dL_law_251 rfl rfl ?_
  refine l_iload_n (n := 253) hG dL_law_252 rfl rfl ?_
  refine l_iconst (n := 254) hG dL_law_253 ki_3 rfl ?_
  refine l_iadd (n := 255) hG dL_law_254 rfl ?_
  refine l_sald (n := 256) (j := 6 * n + 3) hG dL_law_255 ⟨lad3 _, by omega, hL⟩ rfl ?_
  refine l_callC (n := 259) (st := []) hG (mX11_cell hE1 h) ceX11_cell rfl lmL_23 rfl ⟨rfl, Nat.le_of_ble_eq_true rfl, by decide⟩ dL_law_256 rfl ?_
  rintro _ _ ⟨r1, gS1, fS1, rfl, rfl, h⟩
  refine l_aload_n (n := 260) hG dL_law_259 rfl rfl ?_
  refine l_aload_n (n := 261) hG dL_law_260 rfl rfl ?_
  refine l_iload_n (n := 262) hG dL_law_261 rfl rfl ?_
  refine l_iconst (n := 263) hG dL_law_262 ki_1 rfl ?_
  refine l_iadd (n := 264) hG dL_law_263 rfl ?_
  refine l_sald (n := 265) (j := 6 * n + 1) hG dL_law_264 ⟨lad1 _, by omega, hL⟩ rfl ?_
  refine l_aload_n (n := 266) hG dL_law_265 rfl rfl ?_
  refine l_iload_n (n := 267) hG dL_law_266 rfl rfl ?_
  refine l_iconst (n := 268) hG dL_law_267 ki_2 rfl ?_
  refine l_iadd (n := 269) hG dL_law_268 rfl ?_
  refine l_sald (n := 270) (j := 6 * n + 2) hG dL_law_269 ⟨lad2 _, by omega, hL⟩ rfl ?_
  refine l_aload_n (n := 271) hG dL_law_270 rfl rfl ?_
  refine l_iload_n (n := 272) hG dL_law_271 rfl rfl ?_
  refine l_iconst (n := 273) hG dL_law_272 ki_3 rfl ?_
  refine l_iadd (n := 274) hG dL_law_273 rfl ?_
  refine l_sald (n := 275) (j := 6 * n + 3) hG dL_law_274 ⟨lad3 _, by omega, hL⟩ rfl ?_
  refine l_callM (n := 278) (st := [.int r1]) hG (mX12_cell hE2 h) ceX12_cell rfl lmL_27 rfl ⟨rfl, Nat.le_of_ble_eq_true rfl, by decide⟩ dL_law_275 rfl ?_
  rintro _ _ ⟨r2, gT1, fT1, wT1, rfl, rfl, hr, hI1⟩
  refine l_icmp_eq (n := 281) (tgt := 906) hG dL_law_278 rfl rfl (fun c => ?_) (fun c => absurd hr c)
  exact kk _ _ _ _ _ hI1
theorem lc_repair (hG : lSim l D cs adC adM tX tY sK sV b L xs G) (hE1 : gInj layC adC) (hE2 : gInj layM adM ∧ gZok (gA layM adM) (fun _ => True)) (hn : 6 * n + 6 ≤ L) (hL : L ≤ 3072) {N : Nat} {Inv : Nat → gFG → gFF → gFG → gFF → Int64 → Prop} (hs : ls_repair N Inv) {gS : gFG} {fS : gFF} {gT : gFG} {fT : gFF} {wT : Int64} (hI : Inv n gS fS gT fT wT) (kk : ∀ (gS : gFG) (fS : gFF) (gT : gFG) (fT : gFF) (wT : Int64), Inv (n + 1) gS fS gT fT wT → G 906 [some (.ref b), some (.ref (adC 0)), some (.ref (adM 0)), some (.int (nI (6 * n)))] [] (gS, fS, 0) (gT, fT, wT)) : G 283 [some (.ref b), some (.ref (adC 0)), some (.ref (adM 0)), some (.int (nI (6 * n)))] [] (gS, fS, 0) (gT, fT, wT) := by
  have h := hs n (xs (6 * n + 1)) (xs (6 * n + 2)) gS fS gT fT wT (by omega) hI
  refine l_aload_n (n := 284) hG dL_law_283 rfl rfl ?_
  refine l_aload_n (n := 285) hG dL_law_284 rfl rfl ?_
  refine l_iload_n (n := 286) hG dL_law_285 rfl rfl ?_
  refine l_iconst (n := 287) hG dL_law_286 ki_1 rfl ?_
  refine l_iadd (n := 288) hG dL_law_287 rfl ?_
  refine l_sald (n := 289) (j := 6 * n + 1) hG dL_law_288 ⟨lad1 _, by omega, hL⟩ rfl ?_
  refine l_aload_n (n := 290) hG dL_law_289 rfl rfl ?_
  refine l_iload_n (n := 291) hG dL_law_290 rfl rfl ?_
  refine l_iconst (n := 292) hG dL_law_291 ki_2 rfl ?_
  refine l_iadd (n := 293) hG dL_law_292 rfl ?_
  refine l_sald (n := 294) (j := 6 * n + 2) hG dL_law_293 ⟨lad2 _, by omega, hL⟩ rfl ?_
  refine l_callC (n := 297) (st := []) hG (mX11_repair hE1 h) ceX11_repair rfl lmL_28 rfl ⟨rfl, Nat.le_of_ble_eq_true rfl, by decide⟩ dL_law_294 rfl ?_
  rintro _ _ ⟨r1, gS1, fS1, rfl, rfl, h⟩
  refine l_aload_n (n := 298) hG dL_law_297 rfl rfl ?_
  refine l_aload_n (n := 299) hG dL_law_298 rfl rfl ?_
  refine l_iload_n (n := 300) hG dL_law_299 rfl rfl ?_
  refine l_iconst (n := 301) hG dL_law_300 ki_1 rfl ?_
  refine l_iadd (n := 302) hG dL_law_301 rfl ?_
  refine l_sald (n := 303) (j := 6 * n + 1) hG dL_law_302 ⟨lad1 _, by omega, hL⟩ rfl ?_
  refine l_aload_n (n := 304) hG dL_law_303 rfl rfl ?_
  refine l_iload_n (n := 305) hG dL_law_304 rfl rfl ?_
  refine l_iconst (n := 306) hG dL_law_305 ki_2 rfl ?_
  refine l_iadd (n := 307) hG dL_law_306 rfl ?_
  refine l_sald (n := 308) (j := 6 * n + 2) hG dL_law_307 ⟨lad2 _, by omega, hL⟩ rfl ?_
  refine l_callM (n := 311) (st := [.int r1]) hG (mX12_repair hE2 h) ceX12_repair rfl lmL_31 rfl ⟨rfl, Nat.le_of_ble_eq_true rfl, by decide⟩ dL_law_308 rfl ?_
  rintro _ _ ⟨r2, gT1, fT1, wT1, rfl, rfl, hr, hI1⟩
  refine l_icmp_eq (n := 314) (tgt := 906) hG dL_law_311 rfl rfl (fun c => ?_) (fun c => absurd hr c)
  exact kk _ _ _ _ _ hI1
theorem lc_wall (hG : lSim l D cs adC adM tX tY sK sV b L xs G) (hE1 : gInj layC adC) (hE2 : gInj layM adM ∧ gZok (gA layM adM) (fun _ => True)) (hn : 6 * n + 6 ≤ L) (hL : L ≤ 3072) {N : Nat} {Inv : Nat → gFG → gFF → gFG → gFF → Int64 → Prop} (hs : ls_wall N Inv) {gS : gFG} {fS : gFF} {gT : gFG} {fT : gFF} {wT : Int64} (hI : Inv n gS fS gT fT wT) (kk : ∀ (gS : gFG) (fS : gFF) (gT : gFG) (fT : gFF) (wT : Int64), Inv (n + 1) gS fS gT fT wT → G 906 [some (.ref b), some (.ref (adC 0)), some (.ref (adM 0)), some (.int (nI (6 * n)))] [] (gS, fS, 0) (gT, fT, wT)) : G 316 [some (.ref b), some (.ref (adC 0)), some (.ref (adM 0)), some (.int (nI (6 * n)))] [] (gS, fS, 0) (gT, fT, wT) := by
  have h := hs n (xs (6 * n + 1)) (xs (6 * n + 2)) gS fS gT fT wT (by omega) hI
  refine l_aload_n (n := 317) hG dL_law_316 rfl rfl ?_
  refine l_aload_n (n := 318) hG dL_law_317 rfl rfl ?_
  refine l_iload_n (n := 319) hG dL_law_318 rfl rfl ?_
  refine l_iconst (n := 320) hG dL_law_319 ki_1 rfl ?_
  refine l_iadd (n := 321) hG dL_law_320 rfl ?_
  refine l_sald (n := 322) (j := 6 * n + 1) hG dL_law_321 ⟨lad1 _, by omega, hL⟩ rfl ?_
  refine l_aload_n (n := 323) hG dL_law_322 rfl rfl ?_
  refine l_iload_n (n := 324) hG dL_law_323 rfl rfl ?_
  refine l_iconst (n := 325) hG dL_law_324 ki_2 rfl ?_
  refine l_iadd (n := 326) hG dL_law_325 rfl ?_
  refine l_sald (n := 327) (j := 6 * n + 2) hG dL_law_326 ⟨lad2 _, by omega, hL⟩ rfl ?_
  refine l_callC (n := 330) (st := []) hG (mX11_wall hE1 h) ceX11_wall rfl lmL_32 rfl ⟨rfl, Nat.le_of_ble_eq_true rfl, by decide⟩ dL_law_327 rfl ?_
  rintro _ _ ⟨r1, gS1, fS1, rfl, rfl, h⟩
  refine l_aload_n (n := 331) hG dL_law_330 rfl rfl ?_
  refine l_aload_n (n := 332) hG dL_law_331 rfl rfl ?_
  refine l_iload_n (n := 333) hG dL_law_332 rfl rfl ?_
  refine l_iconst (n := 334) hG dL_law_333 ki_1 rfl ?_
  refine l_iadd (n := 335) hG dL_law_334 rfl ?_
  refine l_sald (n := 336) (j := 6 * n + 1) hG dL_law_335 ⟨lad1 _, by omega, hL⟩ rfl ?_
  refine l_aload_n (n := 337) hG dL_law_336 rfl rfl ?_
  refine l_iload_n (n := 338) hG dL_law_337 rfl rfl ?_
  refine l_iconst (n := 339) hG dL_law_338 ki_2 rfl ?_
  refine l_iadd (n := 340) hG dL_law_339 rfl ?_
  refine l_sald (n := 341) (j := 6 * n + 2) hG dL_law_340 ⟨lad2 _, by omega, hL⟩ rfl ?_
  refine l_callM (n := 344) (st := [.int r1]) hG (mX12_wall hE2 h) ceX12_wall rfl lmL_35 rfl ⟨rfl, Nat.le_of_ble_eq_true rfl, by decide⟩ dL_law_341 rfl ?_
  rintro _ _ ⟨r2, gT1, fT1, wT1, rfl, rfl, hr, hI1⟩
  refine l_icmp_eq (n := 347) (tgt := 906) hG dL_law_344 rfl rfl (fun c => ?_) (fun c => absurd hr c)
  exact kk _ _ _ _ _ hI1
theorem lc_many (hG : lSim l D cs adC adM tX tY sK sV b L xs G) (hE1 : gInj layC adC) (hE2 : gInj layM adM ∧ gZok (gA layM adM) (fun _ => True)) (hn : 6 * n + 6 ≤ L) (hL : L ≤ 3072) {N : Nat} {Inv : Nat → gFG → gFF → gFG → gFF → Int64 → Prop} (hs : ls_many N Inv) {gS : gFG} {fS : gFF} {gT : gFG} {fT : gFF} {wT : Int64} (hI : Inv n gS fS gT fT wT) (kk : ∀ (gS : gFG) (fS : gFF) (gT : gFG) (fT : gFF) (wT : Int64), Inv (n + 1) gS fS gT fT wT → G 906 [some (.ref b), some (.ref (adC 0)), some (.ref (adM 0)), some (.int (nI (6 * n)))] [] (gS, fS, 0) (gT, fT, wT)) : G 349 [some (.ref b), some (.ref (adC 0)), some (.ref (adM 0)), some (.int (nI (6 * n)))] [] (gS, fS, 0) (gT, fT, wT) := by
  have h := hs n (xs (6 * n + 1)) gS fS gT fT wT (by omega) hI
  refine l_aload_n (n := 350) hG dL_law_349 rfl rfl ?_
  refine l_aload_n (n := 351) hG dL_law_350 rfl rfl ?_
  refine l_iload_n (n := 352) hG dL_law_351 rfl rfl ?_
  refine l_iconst (n := 353) hG dL_law_352 ki_1 rfl ?_
  refine l_iadd (n := 354) hG dL_law_353 rfl ?_
  refine l_sald (n := 355) (j := 6 * n + 1) hG dL_law_354 ⟨lad1 _, by omega, hL⟩ rfl ?_
  refine l_callC (n := 358) (st := []) hG (mX11_many hE1 h) ceX11_many rfl lmL_36 rfl ⟨rfl, Nat.le_of_ble_eq_true rfl, by decide⟩ dL_law_355 rfl ?_
  rintro _ _ ⟨r1, gS1, fS1, rfl, rfl, h⟩
  refine l_aload_n (n := 359) hG dL_law_358 rfl rfl ?_
  refine l_aload_n (n := 360) hG dL_law_359 rfl rfl ?_
  refine l_iload_n (n := 361) hG dL_law_360 rfl rfl ?_
  refine l_iconst (n := 362) hG dL_law_361 ki_1 rfl ?_
  refine l_iadd (n := 363) hG dL_law_362 rfl ?_
  refine l_sald (n := 364) (j := 6 * n + 1) hG dL_law_363 ⟨lad1 _, by omega, hL⟩ rfl ?_
  refine l_callM (n := 367) (st := [.int r1]) hG (mX12_many hE2 h) ceX12_many rfl lmL_40 rfl ⟨rfl, Nat.le_of_ble_eq_true rfl, by decide⟩ dL_law_364 rfl ?_
  rintro _ _ ⟨r2, gT1, fT1, wT1, rfl, rfl, hr, hI1⟩
  refine l_icmp_eq (n := 370) (tgt := 906) hG dL_law_367 rfl rfl (fun c => ?_) (fun c => absurd hr c)
  exact kk _ _ _ _ _ hI1
theorem lc_off (hG : lSim l D cs adC adM tX tY sK sV b L xs G) (hE1 : gInj layC adC) (hE2 : gInj layM adM ∧ gZok (gA layM adM) (fun _ => True)) (hn : 6 * n + 6 ≤ L) (hL : L ≤ 3072) {N : Nat} {Inv : Nat → gFG → gFF → gFG → gFF → Int64 → Prop} (hs : ls_off N Inv) {gS : gFG} {fS : gFF} {gT : gFG} {fT : gFF} {wT : Int64} (hI : Inv n gS fS gT fT wT) (kk : ∀ (gS : gFG) (fS : gFF) (gT : gFG) (fT : gFF) (wT : Int64), Inv (n + 1) gS fS gT fT wT → G 906 [some (.ref b), some (.ref (adC 0)), some (.ref (adM 0)), some (.int (nI (6 * n)))] [] (gS, fS, 0) (gT, fT, wT)) : G 372 [some (.ref b), some (.ref (adC 0)), some (.ref (adM 0)), some (.int (nI (6 * n)))] [] (gS, fS, 0) (gT, fT, wT) := by
  have h := hs n (xs (6 * n + 1)) (xs (6 * n + 2)) gS fS gT fT wT (by omega) hI
  refine l_aload_n (n := 373) hG dL_law_372 rfl rfl ?_
  refine l_aload_n (n := 374) hG dL_law_373 rfl rfl ?_
  refine l_iload_n (n := 375) hG dL_law_374 rfl rfl ?_
  refine l_iconst (n := 376) hG dL_law_375 ki_1 rfl ?_
  refine l_iadd (n := 377) hG dL_law_376 rfl ?_
  refine l_sald (n := 378) (j := 6 * n + 1) hG dL_law_377 ⟨lad1 _, by omega, hL⟩ rfl ?_
  refine l_aload_n (n := 379) hG dL_law_378 rfl rfl ?_
  refine l_iload_n (n := 380) hG dL_law_379 rfl rfl ?_
  refine l_iconst (n := 381) hG dL_law_380 ki_2 rfl ?_
  refine l_iadd (n := 382) hG dL_law_381 rfl ?_
  refine l_sald (n := 383) (j := 6 * n + 2) hG dL_law_382 ⟨lad2 _, by omega, hL⟩ rfl ?_
  refine l_callC (n := 386) (st := []) hG (mX11_off hE1 h) ceX11_off rfl lmL_41 rfl ⟨rfl, Nat.le_of_ble_eq_true rfl, by decide⟩ dL_law_383 rfl ?_
  rintro _ _ ⟨r1, gS1, fS1, rfl, rfl, h⟩
  refine l_aload_n (n := 387) hG dL_law_386 rfl rfl ?_
  refine l_aload_n (n := 388) hG dL_law_387 rfl rfl ?_
  refine l_iload_n (n := 389) hG dL_law_388 rfl rfl ?_
  refine l_iconst (n := 390) hG dL_law_389 ki_1 rfl ?_
  refine l_iadd (n := 391) hG dL_law_390 rfl ?_
  refine l_sald (n := 392) (j := 6 * n + 1) hG dL_law_391 ⟨lad1 _, by omega, hL⟩ rfl ?_
  refine l_aload_n (n := 393) hG dL_law_392 rfl rfl ?_
  refine l_iload_n (n := 394) hG dL_law_393 rfl rfl ?_
  refine l_iconst (n := 395) hG dL_law_394 ki_2 rfl ?_
  refine l_iadd (n := 396) hG dL_law_395 rfl ?_
  refine l_sald (n := 397) (j := 6 * n + 2) hG dL_law_396 ⟨lad2 _, by omega, hL⟩ rfl ?_
  refine l_callM (n := 400) (st := [.int r1]) hG (mX12_off hE2 h) ceX12_off rfl lmL_44 rfl ⟨rfl, Nat.le_of_ble_eq_true rfl, by decide⟩ dL_law_397 rfl ?_
  rintro _ _ ⟨r2, gT1, fT1, wT1, rfl, rfl, hr, hI1⟩
  refine l_icmp_eq (n := 403) (tgt := 906) hG dL_law_400 rfl rfl (fun c => ?_) (fun c => absurd hr c)
  exact kk _ _ _ _ _ hI1
theorem lc_lot (hG : lSim l D cs adC adM tX tY sK sV b L xs G) (hE1 : gInj layC adC) (hE2 : gInj layM adM ∧ gZok (gA layM adM) (fun _ => True)) (hn : 6 * n + 6 ≤ L) (hL : L ≤ 3072) {N : Nat} {Inv : Nat → gFG → gFF → gFG → gFF → Int64 → Prop} (hs : ls_lot N Inv) {gS : gFG} {fS : gFF} {gT : gFG} {fT : gFF} {wT : Int64} (hI : Inv n gS fS gT fT wT) (kk : ∀ (gS : gFG) (fS : gFF) (gT : gFG) (fT : gFF) (wT : Int64), Inv (n + 1) gS fS gT fT wT → G 906 [some (.ref b), some (.ref (adC 0)), some (.ref (adM 0)), some (.int (nI (6 * n)))] [] (gS, fS, 0) (gT, fT, wT)) : G 405 [some (.ref b), some (.ref (adC 0)), some (.ref (adM 0)), some (.int (nI (6 * n)))] [] (gS, fS, 0) (gT, fT, wT) := by
  have h := hs n (xs (6 * n + 1)) (xs (6 * n + 2)) (xs (6 * n + 3)) (xs (6 * n + 4)) gS fS gT fT wT (by omega) hI
  refine l_aload_n (n := 406) hG dL_law_405 rfl rfl ?_
  refine l_aload_n (n := 407) hG dL_law_406 rfl rfl ?_
  refine l_iload_n (n := 408) hG dL_law_407 rfl rfl ?_
  refine l_iconst (n := 409) hG dL_law_408 ki_1 rfl ?_
  refine l_iadd (n := 410) hG dL_law_409 rfl ?_
  refine l_sald (n := 411) (j := 6 * n + 1) hG dL_law_410 ⟨lad1 _, by omega, hL⟩ rfl ?_
  refine l_aload_n (n := 412) hG dL_law_411 rfl rfl ?_
  refine l_iload_n (n := 413) hG dL_law_412 rfl rfl ?_
  refine l_iconst (n := 414) hG dL_law_413 ki_2 rfl ?_
  refine l_iadd (n := 415) hG dL_law_414 rfl ?_
  refine l_sald (n := 416) (j := 6 * n + 2) hG dL_law_415 ⟨lad2 _, by omega, hL⟩ rfl ?_
  refine l_aload_n (n := 417) hG dL_law_416 rfl rfl ?_
  refine l_iload_n (n := 418) hG dL_law_417 rfl rfl ?_
  refine l_iconst (n := 419) hG dL_law_418 ki_3 rfl ?_
  refine l_iadd (n := 420) hG dL_law_419 rfl ?_
  refine l_sald (n := 421) (j := 6 * n + 3) hG dL_law_420 ⟨lad3 _, by omega, hL⟩ rfl ?_
  refine l_aload_n (n := 422) hG dL_law_421 rfl rfl ?_
  refine l_iload_n (n := 423) hG dL_law_422 rfl rfl ?_
  refine l_iconst (n := 424) hG dL_law_423 ki_4 rfl ?_
  refine l_iadd (n := 425) hG dL_law_424 rfl ?_
  refine l_sald (n := 426) (j := 6 * n + 4) hG dL_law_425 ⟨lad4 _, by omega, hL⟩ rfl ?_
  refine l_callC (n := 429) (st := []) hG (mX11_lot hE1 h) ceX11_lot rfl lmL_45 rfl ⟨rfl, Nat.le_of_ble_eq_true rfl, by decide⟩ dL_law_426 rfl ?_
  rintro _ _ ⟨r1, gS1, fS1, rfl, rfl, h⟩
  refine l_aload_n (n := 430) hG dL_law_429 rfl rfl ?_
  refine l_aload_n (n := 431) hG dL_law_430 rfl rfl ?_
  refine l_iload_n (n := 432) hG dL_law_431 rfl rfl ?_
  refine l_iconst (n := 433) hG dL_law_432 ki_1 rfl ?_
  refine l_iadd (n := 434) hG dL_law_433 rfl ?_
  refine l_sald (n := 435) (j := 6 * n + 1) hG dL_law_434 ⟨lad1 _, by omega, hL⟩ rfl ?_
  refine l_aload_n (n := 436) hG dL_law_435 rfl rfl ?_
  refine l_iload_n (n := 437) hG dL_law_436 rfl rfl ?_
  refine l_iconst (n := 438) hG dL_law_437 ki_2 rfl ?_
  refine l_iadd (n := 439) hG dL_law_438 rfl ?_
  refine l_sald (n := 440) (j := 6 * n + 2) hG dL_law_439 ⟨lad2 _, by omega, hL⟩ rfl ?_
  refine l_aload_n (n := 441) hG dL_law_440 rfl rfl ?_
  refine l_iload_n (n := 442) hG dL_law_441 rfl rfl ?_
  refine l_iconst (n := 443) hG dL_law_442 ki_3 rfl ?_
  refine l_iadd (n := 444) hG dL_law_443 rfl ?_
  refine l_sald (n := 445) (j := 6 * n + 3) hG dL_law_444 ⟨lad3 _, by omega, hL⟩ rfl ?_
  refine l_aload_n (n := 446) hG dL_law_445 rfl rfl ?_
  refine l_iload_n (n := 447) hG dL_law_446 rfl rfl ?_
  refine l_iconst (n := 448) hG dL_law_447 ki_4 rfl ?_
  refine l_iadd (n := 449) hG dL_law_448 rfl ?_
  refine l_sald (n := 450) (j := 6 * n + 4) hG dL_law_449 ⟨lad4 _, by omega, hL⟩ rfl ?_
  refine l_callM (n := 453) (st := [.int r1]) hG (mX12_lot hE2 h) ceX12_lot rfl lmL_49 rfl ⟨rfl, Nat.le_of_ble_eq_true rfl, by decide⟩ dL_law_450 rfl ?_
  rintro _ _ ⟨r2, gT1, fT1, wT1, rfl, rfl, hr, hI1⟩
  refine l_icmp_eq (n := 456) (tgt := 906) hG dL_law_453 rfl rfl (fun c => ?_) (fun c => absurd hr c)
  exact kk _ _ _ _ _ hI1
theorem lc_mix (hG : lSim l D cs adC adM tX tY sK sV b L xs G) (hE1 : gInj layC adC) (hE2 : gInj layM adM ∧ gZok (gA layM adM) (fun _ => True)) (hn : 6 * n + 6 ≤ L) (hL : L ≤ 3072) {N : Nat} {Inv : Nat → gFG → gFF → gFG → gFF → Int64 → Prop} (hs : ls_mix N Inv) {gS : gFG} {fS : gFF} {gT : gFG} {fT : gFF} {wT : Int64} (hI : Inv n gS fS gT fT wT) (kk : ∀ (gS : gFG) (fS : gFF) (gT : gFG) (fT : gFF) (wT : Int64), Inv (n + 1) gS fS gT fT wT → G 906 [some (.ref b), some (.ref (adC 0)), some (.ref (adM 0)), some (.int (nI (6 * n)))] [] (gS, fS, 0) (gT, fT, wT)) : G 458 [some (.ref b), some (.ref (adC 0)), some (.ref (adM 0)), some (.int (nI (6 * n)))] [] (gS, fS, 0) (gT, fT, wT) := by
  have h := hs n (xs (6 * n + 1)) (xs (6 * n + 2)) (xs (6 * n + 3)) (xs (6 * n + 4)) gS fS gT fT wT (by omega) hI
  refine l_aload_n (n := 459) hG dL_law_458 rfl rfl ?_
  refine l_aload_n (n := 460) hG dL_law_459 rfl rfl ?_
  refine l_iload_n (n := 461) hG dL_law_460 rfl rfl ?_
  refine l_iconst (n := 462) hG dL_law_461 ki_1 rfl ?_
  refine l_iadd (n := 463) hG dL_law_462 rfl ?_
  refine l_sald (n := 464) (j := 6 * n + 1) hG dL_law_463 ⟨lad1 _, by omega, hL⟩ rfl ?_
  refine l_aload_n (n := 465) hG dL_law_464 rfl rfl ?_
  refine l_iload_n (n := 466) hG dL_law_465 rfl rfl ?_
  refine l_iconst (n := 467) hG dL_law_466 ki_2 rfl ?_
  refine l_iadd (n := 468) hG dL_law_467 rfl ?_
  refine l_sald (n := 469) (j := 6 * n + 2) hG dL_law_468 ⟨lad2 _, by omega, hL⟩ rfl ?_
  refine l_aload_n (n := 470) hG dL_law_469 rfl rfl ?_
  refine l_iload_n (n := 471) hG dL_law_470 rfl rfl ?_
  refine l_iconst (n := 472) hG dL_law_471 ki_3 rfl ?_
  refine l_iadd (n := 473) hG dL_law_472 rfl ?_
  refine l_sald (n := 474) (j := 6 * n + 3) hG dL_law_473 ⟨lad3 _, by omega, hL⟩ rfl ?_
  refine l_aload_n (n := 475) hG dL_law_474 rfl rfl ?_
  refine l_iload_n (n := 476) hG dL_law_475 rfl rfl ?_
  refine l_iconst (n := 477) hG dL_law_476 ki_4 rfl ?_
  refine l_iadd (n := 478) hG dL_law_477 rfl ?_
  refine l_sald (n := 479) (j := 6 * n + 4) hG dL_law_478 ⟨lad4 _, by omega, hL⟩ rfl ?_
  refine l_callC (n := 482) (st := []) hG (mX11_mix hE1 h) ceX11_mix rfl lmL_50 rfl ⟨rfl, Nat.le_of_ble_eq_true rfl, by decide⟩ dL_law_479 rfl ?_
  rintro _ _ ⟨r1, gS1, fS1, rfl, rfl, h⟩
  refine l_aload_n (n := 483) hG dL_law_482 rfl rfl ?_
  refine l_aload_n (n := 484) hG dL_law_483 rfl rfl ?_
  refine l_iload_n (n := 485) hG dL_law_484 rfl rfl ?_
  refine l_iconst (n := 486) hG dL_law_485 ki_1 rfl ?_
  refine l_iadd (n := 487) hG dL_law_486 rfl ?_
  refine l_sald (n := 488) (j := 6 * n + 1) hG dL_law_487 ⟨lad1 _, by omega, hL⟩ rfl ?_
  refine l_aload_n (n := 489) hG dL_law_488 rfl rfl ?_
  refine l_iload_n (n := 490) hG dL_law_489 rfl rfl ?_
  refine l_iconst (n := 491) hG dL_law_490 ki_2 rfl ?_
  refine l_iadd (n := 492) hG dL_law_491 rfl ?_
  refine l_sald (n := 493) (j := 6 * n + 2) hG dL_law_492 ⟨lad2 _, by omega, hL⟩ rfl ?_
  refine l_aload_n (n := 494) hG dL_law_493 rfl rfl ?_
  refine l_iload_n (n := 495) hG dL_law_494 rfl rfl ?_
  refine l_iconst (n := 496) hG dL_law_495 ki_3 rfl ?_
  refine l_iadd (n := 497) hG dL_law_496 rfl ?_
  refine l_sald (n := 498) (j := 6 * n + 3) hG dL_law_497 ⟨lad3 _, by omega, hL⟩ rfl ?_
  refine l_aload_n (n := 499) hG dL_law_498 rfl rfl ?_
  refine l_iload_n (n := 500) hG dL_law_499 rfl rfl ?_
  refine l_iconst (n := 501) hG dL_law_500 ki_4 rfl ?_
  refine l_iadd (n := 502) hG dL_law_501 rfl ?_
  refine l_sald (n := 503) (j := 6 * n + 4) hG dL_law_502 ⟨lad4 _, by omega, hL⟩ rfl ?_
  refine l_callM (n := 506) (st := [.int r1]) hG (mX12_mix hE2 h) ceX12_mix rfl lmL_53 rfl ⟨rfl, Nat.le_of_ble_eq_true rfl, by decide⟩ dL_law_503 rfl ?_
  rintro _ _ ⟨r2, gT1, fT1, wT1, rfl, rfl, hr, hI1⟩
  refine l_icmp_eq (n := 509) (tgt := 906) hG dL_law_506 rfl rfl (fun c => ?_) (fun c => absurd hr c)
  exact kk _ _ _ _ _ hI1
theorem lc_mixed (hG : lSim l D cs adC adM tX tY sK sV b L xs G) (hE1 : gInj layC adC) (hE2 : gInj layM adM ∧ gZok (gA layM adM) (fun _ => True)) (hn : 6 * n + 6 ≤ L) (hL : L ≤ 3072) {N : Nat} {Inv : Nat → gFG → gFF → gFG → gFF → Int64 → Prop} (hs : ls_mixed N Inv) {gS : gFG} {fS : gFF} {gT : gFG} {fT : gFF} {wT : Int64} (hI : Inv n gS fS gT fT wT) (kk : ∀ (gS : gFG) (fS : gFF) (gT : gFG) (fT : gFF) (wT : Int64), Inv (n + 1) gS fS gT fT wT → G 906 [some (.ref b), some (.ref (adC 0)), some (.ref (adM 0)), some (.int (nI (6 * n)))] [] (gS, fS, 0) (gT, fT, wT)) : G 511 [some (.ref b), some (.ref (adC 0)), some (.ref (adM 0)), some (.int (nI (6 * n)))] [] (gS, fS, 0) (gT, fT, wT) := by
  have h := hs n (xs (6 * n + 1)) gS fS gT fT wT (by omega) hI
  refine l_aload_n (n := 512) hG dL_law_511 rfl rfl ?_
  refine l_aload_n (n := 513) hG dL_law_512 rfl rfl ?_
  refine l_iload_n (n := 514) hG dL_law_513 rfl rfl ?_
  refine l_iconst (n := 515) hG dL_law_514 ki_1 rfl ?_
  refine l_iadd (n := 516) hG dL_law_515 rfl ?_
  refine l_sald (n := 517) (j := 6 * n + 1) hG dL_law_516 ⟨lad1 _, by omega, hL⟩ rfl ?_
  refine l_callC (n := 520) (st := []) hG (mX11_mixed hE1 h) ceX11_mixed rfl lmL_54 rfl ⟨rfl, Nat.le_of_ble_eq_true rfl, by decide⟩ dL_law_517 rfl ?_
  rintro _ _ ⟨r1, gS1, fS1, rfl, rfl, h⟩
  refine l_aload_n (n := 521) hG dL_law_520 rfl rfl ?_
  refine l_aload_n (n := 522) hG dL_law_521 rfl rfl ?_
  refine l_iload_n (n := 523) hG dL_law_522 rfl rfl ?_
  refine l_iconst (n := 524) hG dL_law_523 ki_1 rfl ?_
  refine l_iadd (n := 525) hG dL_law_524 rfl ?_
  refine l_sald (n := 526) (j := 6 * n + 1) hG dL_law_525 ⟨lad1 _, by omega, hL⟩ rfl ?_
  refine l_callM (n := 529) (st := [.int r1]) hG (mX12_mixed hE2 h) ceX12_mixed rfl lmL_57 rfl ⟨rfl, Nat.le_of_ble_eq_true rfl, by decide⟩ dL_law_526 rfl ?_
  rintro _ _ ⟨r2, gT1, fT1, wT1, rfl, rfl, hr, hI1⟩
  refine l_icmp_eq (n := 532) (tgt := 906) hG dL_law_529 rfl rfl (fun c => ?_) (fun c => absurd hr c)
  exact kk _ _ _ _ _ hI1
theorem lc_pour (hG : lSim l D cs adC adM tX tY sK sV b L xs G) (hE1 : gInj layC adC) (hE2 : gInj layM adM ∧ gZok (gA layM adM) (fun _ => True)) (hn : 6 * n + 6 ≤ L) (hL : L ≤ 3072) {N : Nat} {Inv : Nat → gFG → gFF → gFG → gFF → Int64 → Prop} (hs : ls_pour N Inv) {gS : gFG} {fS : gFF} {gT : gFG} {fT : gFF} {wT : Int64} (hI : Inv n gS fS gT fT wT) (kk : ∀ (gS : gFG) (fS : gFF) (gT : gFG) (fT : gFF) (wT : Int64), Inv (n + 1) gS fS gT fT wT → G 906 [some (.ref b), some (.ref (adC 0)), some (.ref (adM 0)), some (.int (nI (6 * n)))] [] (gS, fS, 0) (gT, fT, wT)) : G 534 [some (.ref b), some (.ref (adC 0)), some (.ref (adM 0)), some (.int (nI (6 * n)))] [] (gS, fS, 0) (gT, fT, wT) := by
  have h := hs n  gS fS gT fT wT (by omega) hI
  refine l_aload_n (n := 535) hG dL_law_534 rfl rfl ?_
  refine l_callC (n := 538) (st := []) hG (mX11_pour hE1 h) ceX11_pour rfl lmL_58 rfl ⟨rfl, Nat.le_of_ble_eq_true rfl, by decide⟩ dL_law_535 rfl ?_
  rintro _ _ ⟨r1, gS1, fS1, rfl, rfl, h⟩
  refine l_aload_n (n := 539) hG dL_law_538 rfl rfl ?_
  refine l_callM (n := 542) (st := [.int r1]) hG (mX12_pour hE2 h) ceX12_pour rfl lmL_62 rfl ⟨rfl, Nat.le_of_ble_eq_true rfl, by decide⟩ dL_law_539 rfl ?_
  rintro _ _ ⟨r2, gT1, fT1, wT1, rfl, rfl, hr, hI1⟩
  refine l_icmp_eq (n := 545) (tgt := 906) hG dL_law_542 rfl rfl (fun c => ?_) (fun c => absurd hr c)
  exact kk _ _ _ _ _ hI1
theorem lc_left (hG : lSim l D cs adC adM tX tY sK sV b L xs G) (hE1 : gInj layC adC) (hE2 : gInj layM adM ∧ gZok (gA layM adM) (fun _ => True)) (hn : 6 * n + 6 ≤ L) (hL : L ≤ 3072) {N : Nat} {Inv : Nat → gFG → gFF → gFG → gFF → Int64 → Prop} (hs : ls_left N Inv) {gS : gFG} {fS : gFF} {gT : gFG} {fT : gFF} {wT : Int64} (hI : Inv n gS fS gT fT wT) (kk : ∀ (gS : gFG) (fS : gFF) (gT : gFG) (fT : gFF) (wT : Int64), Inv (n + 1) gS fS gT fT wT → G 906 [some (.ref b), some (.ref (adC 0)), some (.ref (adM 0)), some (.int (nI (6 * n)))] [] (gS, fS, 0) (gT, fT, wT)) : G 547 [some (.ref b), some (.ref (adC 0)), some (.ref (adM 0)), some (.int (nI (6 * n)))] [] (gS, fS, 0) (gT, fT, wT) := by
  have h := hs n (xs (6 * n + 1)) gS fS gT fT wT (by omega) hI
  refine l_aload_n (n := 548) hG dL_law_547 rfl rfl ?_
  refine l_aload_n (n := 549) hG dL_law_548 rfl rfl ?_
  refine l_iload_n (n := 550) hG dL_law_549 rfl rfl ?_
  refine l_iconst (n := 551) hG dL_law_550 ki_1 rfl ?_
  refine l_iadd (n := 552) hG dL_law_551 rfl ?_
  refine l_sald (n := 553) (j := 6 * n + 1) hG dL_law_552 ⟨lad1 _, by omega, hL⟩ rfl ?_
  refine l_callC (n := 556) (st := []) hG (mX11_left hE1 h) ceX11_left rfl lmL_63 rfl ⟨rfl, Nat.le_of_ble_eq_true rfl, by decide⟩ dL_law_553 rfl ?_
  rintro _ _ ⟨r1, gS1, fS1, rfl, rfl, h⟩
  refine l_aload_n (n := 557) hG dL_law_556 rfl rfl ?_
  refine l_aload_n (n := 558) hG dL_law_557 rfl rfl ?_
  refine l_iload_n (n := 559) hG dL_law_558 rfl rfl ?_
  refine l_iconst (n := 560) hG dL_law_559 ki_1 rfl ?_
  refine l_iadd (n := 561) hG dL_law_560 rfl ?_
  refine l_sald (n := 562) (j := 6 * n + 1) hG dL_law_561 ⟨lad1 _, by omega, hL⟩ rfl ?_
  refine l_callM (n := 565) (st := [.int r1]) hG (mX12_left hE2 h) ceX12_left rfl lmL_66 rfl ⟨rfl, Nat.le_of_ble_eq_true rfl, by decide⟩ dL_law_562 rfl ?_
  rintro _ _ ⟨r2, gT1, fT1, wT1, rfl, rfl, hr, hI1⟩
  refine l_icmp_eq (n := 568) (tgt := 906) hG dL_law_565 rfl rfl (fun c => ?_) (fun c => absurd hr c)
  exact kk _ _ _ _ _ hI1
theorem lc_feed (hG : lSim l D cs adC adM tX tY sK sV b L xs G) (hE1 : gInj layC adC) (hE2 : gInj layM adM ∧ gZok (gA layM adM) (fun _ => True)) (hn : 6 * n + 6 ≤ L) (hL : L ≤ 3072) {N : Nat} {Inv : Nat → gFG → gFF → gFG → gFF → Int64 → Prop} (hs : ls_feed N Inv) {gS : gFG} {fS : gFF} {gT : gFG} {fT : gFF} {wT : Int64} (hI : Inv n gS fS gT fT wT) (kk : ∀ (gS : gFG) (fS : gFF) (gT : gFG) (fT : gFF) (wT : Int64), Inv (n + 1) gS fS gT fT wT → G 906 [some (.ref b), some (.ref (adC 0)), some (.ref (adM 0)), some (.int (nI (6 * n)))] [] (gS, fS, 0) (gT, fT, wT)) : G 570 [some (.ref b), some (.ref (adC 0)), some (.ref (adM 0)), some (.int (nI (6 * n)))] [] (gS, fS, 0) (gT, fT, wT) := by
  have h := hs n (xs (6 * n + 1)) (xs (6 * n + 2)) (xs (6 * n + 3)) (xs (6 * n + 4)) (xs (6 * n + 5)) gS fS gT fT wT (by omega) hI
  refine l_aload_n (n := 571) hG dL_law_570 rfl rfl ?_
  refine l_aload_n (n := 572) hG dL_law_571 rfl rfl ?_
  refine l_iload_n (n := 573) hG dL_law_572 rfl rfl ?_
  refine l_iconst (n := 574) hG dL_law_573 ki_1 rfl ?_
  refine l_iadd (n := 575) hG dL_law_574 rfl ?_
  refine l_sald (n := 576) (j := 6 * n + 1) hG dL_law_575 ⟨lad1 _, by omega, hL⟩ rfl ?_
  refine l_aload_n (n := 577) hG dL_law_576 rfl rfl ?_
  refine l_iload_n (n := 578) hG dL_law_577 rfl rfl ?_
  refine l_iconst (n := 579) hG dL_law_578 ki_2 rfl ?_
  refine l_iadd (n := 580) hG dL_law_579 rfl ?_
  refine l_sald (n := 581) (j := 6 * n + 2) hG dL_law_580 ⟨lad2 _, by omega, hL⟩ rfl ?_
  refine l_aload_n (n := 582) hG dL_law_581 rfl rfl ?_
  refine l_iload_n (n := 583) hG dL_law_582 rfl rfl ?_
  refine l_iconst (n := 584) hG dL_law_583 ki_3 rfl ?_
  refine l_iadd (n := 585) hG dL_law_584 rfl ?_
  refine l_sald (n := 586) (j := 6 * n + 3) hG dL_law_585 ⟨lad3 _, by omega, hL⟩ rfl ?_
  refine l_aload_n (n := 587) hG dL_law_586 rfl rfl ?_
  refine l_iload_n (n := 588) hG dL_law_587 rfl rfl ?_
  refine l_iconst (n := 589) hG dL_law_588 ki_4 rfl ?_
  refine l_iadd (n := 590) hG dL_law_589 rfl ?_
  refine l_sald (n := 591) (j := 6 * n + 4) hG dL_law_590 ⟨lad4 _, by omega, hL⟩ rfl ?_
  refine l_aload_n (n := 592) hG dL_law_591 rfl rfl ?_
  refine l_iload_n (n := 593) hG dL_law_592 rfl rfl ?_
  refine l_iconst (n := 594) hG dL_law_593 ki_5 rfl ?_
  refine l_iadd (n := 595) hG dL_law_594 rfl ?_
  refine l_sald (n := 596) (j := 6 * n + 5) hG dL_law_595 ⟨lad5 _, by omega, hL⟩ rfl ?_
  refine l_callC (n := 599) (st := []) hG (mX11_feed hE1 h) ceX11_feed rfl lmL_67 rfl ⟨rfl, Nat.le_of_ble_eq_true rfl, by decide⟩ dL_law_596 rfl ?_
  rintro _ _ ⟨r1, gS1, fS1, rfl, rfl, h⟩
  refine l_aload_n (n := 600) hG dL_law_599 rfl rfl ?_
  refine l_aload_n (n := 601) hG dL_law_600 rfl rfl ?_
  refine l_iload_n (n := 602) hG dL_law_601 rfl rfl ?_
  refine l_iconst (n := 603) hG dL_law_602 ki_1 rfl ?_
  refine l_iadd (n := 604) hG dL_law_603 rfl ?_
  refine l_sald (n := 605) (j := 6 * n + 1) hG dL_law_604 ⟨lad1 _, by omega, hL⟩ rfl ?_
  refine l_aload_n (n := 606) hG dL_law_605 rfl rfl ?_
  refine l_iload_n (n := 607) hG dL_law_606 rfl rfl ?_
  refine l_iconst (n := 608) hG dL_law_607 ki_2 rfl ?_
  refine l_iadd (n := 609) hG dL_law_608 rfl ?_
  refine l_sald (n := 610) (j := 6 * n + 2) hG dL_law_609 ⟨lad2 _, by omega, hL⟩ rfl ?_
  refine l_aload_n (n := 611) hG dL_law_610 rfl rfl ?_
  refine l_iload_n (n := 612) hG dL_law_611 rfl rfl ?_
  refine l_iconst (n := 613) hG dL_law_612 ki_3 rfl ?_
  refine l_iadd (n := 614) hG dL_law_613 rfl ?_
  refine l_sald (n := 615) (j := 6 * n + 3) hG dL_law_614 ⟨lad3 _, by omega, hL⟩ rfl ?_
  refine l_aload_n (n := 616) hG dL_law_615 rfl rfl ?_
  refine l_iload_n (n := 617) hG dL_law_616 rfl rfl ?_
  refine l_iconst (n := 618) hG dL_law_617 ki_4 rfl ?_
  refine l_iadd (n := 619) hG dL_law_618 rfl ?_
  refine l_sald (n := 620) (j := 6 * n + 4) hG dL_law_619 ⟨lad4 _, by omega, hL⟩ rfl ?_
  refine l_aload_n (n := 621) hG dL_law_620 rfl rfl ?_
  refine l_iload_n (n := 622) hG dL_law_621 rfl rfl ?_
  refine l_iconst (n := 623) hG dL_law_622 ki_5 rfl ?_
  refine l_iadd (n := 624) hG dL_law_623 rfl ?_
  refine l_sald (n := 625) (j := 6 * n + 5) hG dL_law_624 ⟨lad5 _, by omega, hL⟩ rfl ?_
  refine l_callM (n := 628) (st := [.int r1]) hG (mX12_feed hE2 h) ceX12_feed rfl lmL_70 rfl ⟨rfl, Nat.le_of_ble_eq_true rfl, by decide⟩ dL_law_625 rfl ?_
  rintro _ _ ⟨r2, gT1, fT1, wT1, rfl, rfl, hr, hI1⟩
  refine l_icmp_eq (n := 631) (tgt := 906) hG dL_law_628 rfl rfl (fun c => ?_) (fun c => absurd hr c)
  exact kk _ _ _ _ _ hI1
theorem lc_end (hG : lSim l D cs adC adM tX tY sK sV b L xs G) (hE1 : gInj layC adC) (hE2 : gInj layM adM ∧ gZok (gA layM adM) (fun _ => True)) (hn : 6 * n + 6 ≤ L) (hL : L ≤ 3072) {N : Nat} {Inv : Nat → gFG → gFF → gFG → gFF → Int64 → Prop} (hs : ls_end N Inv) {gS : gFG} {fS : gFF} {gT : gFG} {fT : gFF} {wT : Int64} (hI : Inv n gS fS gT fT wT) (kk : ∀ (gS : gFG) (fS : gFF) (gT : gFG) (fT : gFF) (wT : Int64), Inv (n + 1) gS fS gT fT wT → G 906 [some (.ref b), some (.ref (adC 0)), some (.ref (adM 0)), some (.int (nI (6 * n)))] [] (gS, fS, 0) (gT, fT, wT)) : G 633 [some (.ref b), some (.ref (adC 0)), some (.ref (adM 0)), some (.int (nI (6 * n)))] [] (gS, fS, 0) (gT, fT, wT) := by
  have h := hs n (xs (6 * n + 1)) gS fS gT fT wT (by omega) hI
  refine l_aload_n (n := 634) hG dL_law_633 rfl rfl ?_
  refine l_aload_n (n := 635) hG dL_law_634 rfl rfl ?_
  refine l_iload_n (n := 636) hG dL_law_635 rfl rfl ?_
  refine l_iconst (n := 637) hG dL_law_636 ki_1 rfl ?_
  refine l_iadd (n := 638) hG dL_law_637 rfl ?_
  refine l_sald (n := 639) (j := 6 * n + 1) hG dL_law_638 ⟨lad1 _, by omega, hL⟩ rfl ?_
  refine l_callC (n := 642) (st := []) hG (mX11_end hE1 h) ceX11_end rfl lmL_71 rfl ⟨rfl, Nat.le_of_ble_eq_true rfl, by decide⟩ dL_law_639 rfl ?_
  rintro _ _ ⟨r1, gS1, fS1, rfl, rfl, h⟩
  refine l_aload_n (n := 643) hG dL_law_642 rfl rfl ?_
  refine l_aload_n (n := 644) hG dL_law_643 rfl rfl ?_
  refine l_iload_n (n := 645) hG dL_law_644 rfl rfl ?_
  refine l_iconst (n := 646) hG dL_law_645 ki_1 rfl ?_
  refine l_iadd (n := 647) hG dL_law_646 rfl ?_
  refine l_sald (n := 648) (j := 6 * n + 1) hG dL_law_647 ⟨lad1 _, by omega, hL⟩ rfl ?_
  refine l_callM (n := 651) (st := [.int r1]) hG (mX12_end hE2 h) ceX12_end rfl lmL_74 rfl ⟨rfl, Nat.le_of_ble_eq_true rfl, by decide⟩ dL_law_648 rfl ?_
  rintro _ _ ⟨r2, gT1, fT1, wT1, rfl, rfl, hr, hI1⟩
  refine l_icmp_eq (n := 654) (tgt := 906) hG dL_law_651 rfl rfl (fun c => ?_) (fun c => absurd hr c)
  exact kk _ _ _ _ _ hI1
theorem lc_rules (hG : lSim l D cs adC adM tX tY sK sV b L xs G) (hE1 : gInj layC adC) (hE2 : gInj layM adM ∧ gZok (gA layM adM) (fun _ => True)) (hn : 6 * n + 6 ≤ L) (hL : L ≤ 3072) {N : Nat} {Inv : Nat → gFG → gFF → gFG → gFF → Int64 → Prop} (hs : ls_rules N Inv) {gS : gFG} {fS : gFF} {gT : gFG} {fT : gFF} {wT : Int64} (hI : Inv n gS fS gT fT wT) (kk : ∀ (gS : gFG) (fS : gFF) (gT : gFG) (fT : gFF) (wT : Int64), Inv (n + 1) gS fS gT fT wT → G 906 [some (.ref b), some (.ref (adC 0)), some (.ref (adM 0)), some (.int (nI (6 * n)))] [] (gS, fS, 0) (gT, fT, wT)) : G 656 [some (.ref b), some (.ref (adC 0)), some (.ref (adM 0)), some (.int (nI (6 * n)))] [] (gS, fS, 0) (gT, fT, wT) := by
  have h := hs n  gS fS gT fT wT (by omega) hI
  refine l_aload_n (n := 657) hG dL_law_656 rfl rfl ?_
  refine l_callC (n := 660) (st := []) hG (mX11_rules hE1 h) ceX11_rules rfl lmL_75 rfl ⟨rfl, Nat.le_of_ble_eq_true rfl, by decide⟩ dL_law_657 rfl ?_
  rintro _ _ ⟨r1, gS1, fS1, rfl, rfl, h⟩
  refine l_aload_n (n := 661) hG dL_law_660 rfl rfl ?_
  refine l_callM (n := 664) (st := [.int r1]) hG (mX12_rules hE2 h) ceX12_rules rfl lmL_78 rfl ⟨rfl, Nat.le_of_ble_eq_true rfl, by decide⟩ dL_law_661 rfl ?_
  rintro _ _ ⟨r2, gT1, fT1, wT1, rfl, rfl, hr, hI1⟩
  refine l_icmp_eq (n := 667) (tgt := 906) hG dL_law_664 rfl rfl (fun c => ?_) (fun c => absurd hr c)
  exact kk _ _ _ _ _ hI1
theorem lc_fault (hG : lSim l D cs adC adM tX tY sK sV b L xs G) (hE1 : gInj layC adC) (hE2 : gInj layM adM ∧ gZok (gA layM adM) (fun _ => True)) (hn : 6 * n + 6 ≤ L) (hL : L ≤ 3072) {N : Nat} {Inv : Nat → gFG → gFF → gFG → gFF → Int64 → Prop} (hs : ls_fault N Inv) {gS : gFG} {fS : gFF} {gT : gFG} {fT : gFF} {wT : Int64} (hI : Inv n gS fS gT fT wT) (kk : ∀ (gS : gFG) (fS : gFF) (gT : gFG) (fT : gFF) (wT : Int64), Inv (n + 1) gS fS gT fT wT → G 906 [some (.ref b), some (.ref (adC 0)), some (.ref (adM 0)), some (.int (nI (6 * n)))] [] (gS, fS, 0) (gT, fT, wT)) : G 669 [some (.ref b), some (.ref (adC 0)), some (.ref (adM 0)), some (.int (nI (6 * n)))] [] (gS, fS, 0) (gT, fT, wT) := by
  have h := hs n  gS fS gT fT wT (by omega) hI
  refine l_aload_n (n := 670) hG dL_law_669 rfl rfl ?_
  refine l_callC (n := 673) (st := []) hG (mX11_fault hE1 h) ceX11_fault rfl lmL_79 rfl ⟨rfl, Nat.le_of_ble_eq_true rfl, by decide⟩ dL_law_670 rfl ?_
  rintro _ _ ⟨r1, gS1, fS1, rfl, rfl, h⟩
  refine l_aload_n (n := 674) hG dL_law_673 rfl rfl ?_
  refine l_callM (n := 677) (st := [.int r1]) hG (mX12_fault hE2 h) ceX12_fault rfl lmL_82 rfl ⟨rfl, Nat.le_of_ble_eq_true rfl, by decide⟩ dL_law_674 rfl ?_
  rintro _ _ ⟨r2, gT1, fT1, wT1, rfl, rfl, hr, hI1⟩
  refine l_icmp_eq (n := 680) (tgt := 906) hG dL_law_677 rfl rfl (fun c => ?_) (fun c => absurd hr c)
  exact kk _ _ _ _ _ hI1
theorem lc_broken (hG : lSim l D cs adC adM tX tY sK sV b L xs G) (hE1 : gInj layC adC) (hE2 : gInj layM adM ∧ gZok (gA layM adM) (fun _ => True)) (hn : 6 * n + 6 ≤ L) (hL : L ≤ 3072) {N : Nat} {Inv : Nat → gFG → gFF → gFG → gFF → Int64 → Prop} (hs : ls_broken N Inv) {gS : gFG} {fS : gFF} {gT : gFG} {fT : gFF} {wT : Int64} (hI : Inv n gS fS gT fT wT) (kk : ∀ (gS : gFG) (fS : gFF) (gT : gFG) (fT : gFF) (wT : Int64), Inv (n + 1) gS fS gT fT wT → G 906 [some (.ref b), some (.ref (adC 0)), some (.ref (adM 0)), some (.int (nI (6 * n)))] [] (gS, fS, 0) (gT, fT, wT)) : G 682 [some (.ref b), some (.ref (adC 0)), some (.ref (adM 0)), some (.int (nI (6 * n)))] [] (gS, fS, 0) (gT, fT, wT) := by
  have h := hs n (xs (6 * n + 1)) gS fS gT fT wT (by omega) hI
  refine l_aload_n (n := 683) hG dL_law_682 rfl rfl ?_
  refine l_aload_n (n := 684) hG dL_law_683 rfl rfl ?_
  refine l_iload_n (n := 685) hG dL_law_684 rfl rfl ?_
  refine l_iconst (n := 686) hG dL_law_685 ki_1 rfl ?_
  refine l_iadd (n := 687) hG dL_law_686 rfl ?_
  refine l_sald (n := 688) (j := 6 * n + 1) hG dL_law_687 ⟨lad1 _, by omega, hL⟩ rfl ?_
  refine l_callC (n := 691) (st := []) hG (mX11_broken hE1 h) ceX11_broken rfl lmL_83 rfl ⟨rfl, Nat.le_of_ble_eq_true rfl, by decide⟩ dL_law_688 rfl ?_
  rintro _ _ ⟨r1, gS1, fS1, rfl, rfl, h⟩
  refine l_aload_n (n := 692) hG dL_law_691 rfl rfl ?_
  refine l_aload_n (n := 693) hG dL_law_692 rfl rfl ?_
  refine l_iload_n (n := 694) hG dL_law_693 rfl rfl ?_
  refine l_iconst (n := 695) hG dL_law_694 ki_1 rfl ?_
  refine l_iadd (n := 696) hG dL_law_695 rfl ?_
  refine l_sald (n := 697) (j := 6 * n + 1) hG dL_law_696 ⟨lad1 _, by omega, hL⟩ rfl ?_
  refine l_callM (n := 700) (st := [.int r1]) hG (mX12_broken hE2 h) ceX12_broken rfl lmL_86 rfl ⟨rfl, Nat.le_of_ble_eq_true rfl, by decide⟩ dL_law_697 rfl ?_
  rintro _ _ ⟨r2, gT1, fT1, wT1, rfl, rfl, hr, hI1⟩
  refine l_icmp_eq (n := 703) (tgt := 906) hG dL_law_700 rfl rfl (fun c => ?_) (fun c => absurd hr c)
  exact kk _ _ _ _ _ hI1
theorem lc_vessel (hG : lSim l D cs adC adM tX tY sK sV b L xs G) (hE1 : gInj layC adC) (hE2 : gInj layM adM ∧ gZok (gA layM adM) (fun _ => True)) (hn : 6 * n + 6 ≤ L) (hL : L ≤ 3072) {N : Nat} {Inv : Nat → gFG → gFF → gFG → gFF → Int64 → Prop} (hs : ls_vessel N Inv) {gS : gFG} {fS : gFF} {gT : gFG} {fT : gFF} {wT : Int64} (hI : Inv n gS fS gT fT wT) (kk : ∀ (gS : gFG) (fS : gFF) (gT : gFG) (fT : gFF) (wT : Int64), Inv (n + 1) gS fS gT fT wT → G 906 [some (.ref b), some (.ref (adC 0)), some (.ref (adM 0)), some (.int (nI (6 * n)))] [] (gS, fS, 0) (gT, fT, wT)) : G 705 [some (.ref b), some (.ref (adC 0)), some (.ref (adM 0)), some (.int (nI (6 * n)))] [] (gS, fS, 0) (gT, fT, wT) := by
  have h := hs n (xs (6 * n + 1)) gS fS gT fT wT (by omega) hI
  refine l_aload_n (n := 706) hG dL_law_705 rfl rfl ?_
  refine l_aload_n (n := 707) hG dL_law_706 rfl rfl ?_
  refine l_iload_n (n := 708) hG dL_law_707 rfl rfl ?_
  refine l_iconst (n := 709) hG dL_law_708 ki_1 rfl ?_
  refine l_iadd (n := 710) hG dL_law_709 rfl ?_
  refine l_sald (n := 711) (j := 6 * n + 1) hG dL_law_710 ⟨lad1 _, by omega, hL⟩ rfl ?_
  refine l_callC (n := 714) (st := []) hG (mX11_vessel hE1 h) ceX11_vessel rfl lmL_87 rfl ⟨rfl, Nat.le_of_ble_eq_true rfl, by decide⟩ dL_law_711 rfl ?_
  rintro _ _ ⟨r1, gS1, fS1, rfl, rfl, h⟩
  refine l_aload_n (n := 715) hG dL_law_714 rfl rfl ?_
  refine l_aload_n (n := 716) hG dL_law_715 rfl rfl ?_
  refine l_iload_n (n := 717) hG dL_law_716 rfl rfl ?_
  refine l_iconst (n := 718) hG dL_law_717 ki_1 rfl ?_
  refine l_iadd (n := 719) hG dL_law_718 rfl ?_
  refine l_sald (n := 720) (j := 6 * n + 1) hG dL_law_719 ⟨lad1 _, by omega, hL⟩ rfl ?_
  refine l_callM (n := 723) (st := [.int r1]) hG (mX12_vessel hE2 h) ceX12_vessel rfl lmL_90 rfl ⟨rfl, Nat.le_of_ble_eq_true rfl, by decide⟩ dL_law_720 rfl ?_
  rintro _ _ ⟨r2, gT1, fT1, wT1, rfl, rfl, hr, hI1⟩
  refine l_icmp_eq (n := 726) (tgt := 906) hG dL_law_723 rfl rfl (fun c => ?_) (fun c => absurd hr c)
  exact kk _ _ _ _ _ hI1
theorem lc_like (hG : lSim l D cs adC adM tX tY sK sV b L xs G) (hE1 : gInj layC adC) (hE2 : gInj layM adM ∧ gZok (gA layM adM) (fun _ => True)) (hn : 6 * n + 6 ≤ L) (hL : L ≤ 3072) {N : Nat} {Inv : Nat → gFG → gFF → gFG → gFF → Int64 → Prop} (hs : ls_like N Inv) {gS : gFG} {fS : gFF} {gT : gFG} {fT : gFF} {wT : Int64} (hI : Inv n gS fS gT fT wT) (kk : ∀ (gS : gFG) (fS : gFF) (gT : gFG) (fT : gFF) (wT : Int64), Inv (n + 1) gS fS gT fT wT → G 906 [some (.ref b), some (.ref (adC 0)), some (.ref (adM 0)), some (.int (nI (6 * n)))] [] (gS, fS, 0) (gT, fT, wT)) : G 728 [some (.ref b), some (.ref (adC 0)), some (.ref (adM 0)), some (.int (nI (6 * n)))] [] (gS, fS, 0) (gT, fT, wT) := by
  have h := hs n (xs (6 * n + 1)) (xs (6 * n + 2)) gS fS gT fT wT (by omega) hI
  refine l_aload_n (n := 729) hG dL_law_728 rfl rfl ?_
  refine l_aload_n (n := 730) hG dL_law_729 rfl rfl ?_
  refine l_iload_n (n := 731) hG dL_law_730 rfl rfl ?_
  refine l_iconst (n := 732) hG dL_law_731 ki_1 rfl ?_
  refine l_iadd (n := 733) hG dL_law_732 rfl ?_
  refine l_sald (n := 734) (j := 6 * n + 1) hG dL_law_733 ⟨lad1 _, by omega, hL⟩ rfl ?_
  refine l_aload_n (n := 735) hG dL_law_734 rfl rfl ?_
  refine l_iload_n (n := 736) hG dL_law_735 rfl rfl ?_
  refine l_iconst (n := 737) hG dL_law_736 ki_2 rfl ?_
  refine l_iadd (n := 738) hG dL_law_737 rfl ?_
  refine l_sald (n := 739) (j := 6 * n + 2) hG dL_law_738 ⟨lad2 _, by omega, hL⟩ rfl ?_
  refine l_callC (n := 742) (st := []) hG (mX11_like hE1 h) ceX11_like rfl lmL_91 rfl ⟨rfl, Nat.le_of_ble_eq_true rfl, by decide⟩ dL_law_739 rfl ?_
  rintro _ _ ⟨r1, gS1, fS1, rfl, rfl, h⟩
  refine l_aload_n (n := 743) hG dL_law_742 rfl rfl ?_
  refine l_aload_n (n := 744) hG dL_law_743 rfl rfl ?_
  refine l_iload_n (n := 745) hG dL_law_744 rfl rfl ?_
  refine l_iconst (n := 746) hG dL_law_745 ki_1 rfl ?_
  refine l_iadd (n := 747) hG dL_law_746 rfl ?_
  refine l_sald (n := 748) (j := 6 * n + 1) hG dL_law_747 ⟨lad1 _, by omega, hL⟩ rfl ?_
  refine l_aload_n (n := 749) hG dL_law_748 rfl rfl ?_
  refine l_iload_n (n := 750) hG dL_law_749 rfl rfl ?_
  refine l_iconst (n := 751) hG dL_law_750 ki_2 rfl ?_
  refine l_iadd (n := 752) hG dL_law_751 rfl ?_
  refine l_sald (n := 753) (j := 6 * n + 2) hG dL_law_752 ⟨lad2 _, by omega, hL⟩ rfl ?_
  refine l_callM (n := 756) (st := [.int r1]) hG (mX12_like hE2 h) ceX12_like rfl lmL_94 rfl ⟨rfl, Nat.le_of_ble_eq_true rfl, by decide⟩ dL_law_753 rfl ?_
  rintro _ _ ⟨r2, gT1, fT1, wT1, rfl, rfl, hr, hI1⟩
  refine l_icmp_eq (n := 759) (tgt := 906) hG dL_law_756 rfl rfl (fun c => ?_) (fun c => absurd hr c)
  exact kk _ _ _ _ _ hI1
theorem lc_tell (hG : lSim l D cs adC adM tX tY sK sV b L xs G) (hE1 : gInj layC adC) (hE2 : gInj layM adM ∧ gZok (gA layM adM) (fun _ => True)) (hn : 6 * n + 6 ≤ L) (hL : L ≤ 3072) {N : Nat} {Inv : Nat → gFG → gFF → gFG → gFF → Int64 → Prop} (hs : ls_tell N Inv) {gS : gFG} {fS : gFF} {gT : gFG} {fT : gFF} {wT : Int64} (hI : Inv n gS fS gT fT wT) (kk : ∀ (gS : gFG) (fS : gFF) (gT : gFG) (fT : gFF) (wT : Int64), Inv (n + 1) gS fS gT fT wT → G 906 [some (.ref b), some (.ref (adC 0)), some (.ref (adM 0)), some (.int (nI (6 * n)))] [] (gS, fS, 0) (gT, fT, wT)) : G 761 [some (.ref b), some (.ref (adC 0)), some (.ref (adM 0)), some (.int (nI (6 * n)))] [] (gS, fS, 0) (gT, fT, wT) := by
  have h := hs n (xs (6 * n + 1)) (xs (6 * n + 2)) (xs (6 * n + 3)) gS fS gT fT wT (by omega) hI
  refine l_aload_n (n := 762) hG dL_law_761 rfl rfl ?_
  refine l_aload_n (n := 763) hG dL_law_762 rfl rfl ?_
  refine l_iload_n (n := 764) hG dL_law_763 rfl rfl ?_
  refine l_iconst (n := 765) hG dL_law_764 ki_1 rfl ?_
  refine l_iadd (n := 766) hG dL_law_765 rfl ?_
  refine l_sald (n := 767) (j := 6 * n + 1) hG dL_law_766 ⟨lad1 _, by omega, hL⟩ rfl ?_
  refine l_aload_n (n := 768) hG dL_law_767 rfl rfl ?_
  refine l_iload_n (n := 769) hG dL_law_768 rfl rfl ?_
  refine l_iconst (n := 770) hG dL_law_769 ki_2 rfl ?_
  refine l_iadd (n := 771) hG dL_law_770 rfl ?_
  refine l_sald (n := 772) (j := 6 * n + 2) hG dL_law_771 ⟨lad2 _, by omega, hL⟩ rfl ?_
  refine l_aload_n (n := 773) hG dL_law_772 rfl rfl ?_
  refine l_iload_n (n := 774) hG dL_law_773 rfl rfl ?_
  refine l_iconst (n := 775) hG dL_law_774 ki_3 rfl ?_
  refine l_iadd (n := 776) hG dL_law_775 rfl ?_
  refine l_sald (n := 777) (j := 6 * n + 3) hG dL_law_776 ⟨lad3 _, by omega, hL⟩ rfl ?_
  refine l_callC (n := 780) (st := []) hG (mX11_tell hE1 h) ceX11_tell rfl lmL_95 rfl ⟨rfl, Nat.le_of_ble_eq_true rfl, by decide⟩ dL_law_777 rfl ?_
  rintro _ _ ⟨r1, gS1, fS1, rfl, rfl, h⟩
  refine l_aload_n (n := 781) hG dL_law_780 rfl rfl ?_
  refine l_aload_n (n := 782) hG dL_law_781 rfl rfl ?_
  refine l_iload_n (n := 783) hG dL_law_782 rfl rfl ?_
  refine l_iconst (n := 784) hG dL_law_783 ki_1 rfl ?_
  refine l_iadd (n := 785) hG dL_law_784 rfl ?_
  refine l_sald (n := 786) (j := 6 * n + 1) hG dL_law_785 ⟨lad1 _, by omega, hL⟩ rfl ?_
  refine l_aload_n (n := 787) hG dL_law_786 rfl rfl ?_
  refine l_iload_n (n := 788) hG dL_law_787 rfl rfl ?_
  refine l_iconst (n := 789) hG dL_law_788 ki_2 rfl ?_
  refine l_iadd (n := 790) hG dL_law_789 rfl ?_
  refine l_sald (n := 791) (j := 6 * n + 2) hG dL_law_790 ⟨lad2 _, by omega, hL⟩ rfl ?_
  refine l_aload_n (n := 792) hG dL_law_791 rfl rfl ?_
  refine l_iload_n (n := 793) hG dL_law_792 rfl rfl ?_
  refine l_iconst (n := 794) hG dL_law_793 ki_3 rfl ?_
  refine l_iadd (n := 795) hG dL_law_794 rfl ?_
  refine l_sald (n := 796) (j := 6 * n + 3) hG dL_law_795 ⟨lad3 _, by omega, hL⟩ rfl ?_
  refine l_callM (n := 799) (st := [.int r1]) hG (mX12_tell hE2 h) ceX12_tell rfl lmL_98 rfl ⟨rfl, Nat.le_of_ble_eq_true rfl, by decide⟩ dL_law_796 rfl ?_
  rintro _ _ ⟨r2, gT1, fT1, wT1, rfl, rfl, hr, hI1⟩
  refine l_icmp_eq (n := 802) (tgt := 906) hG dL_law_799 rfl rfl (fun c => ?_) (fun c => absurd hr c)
  exact kk _ _ _ _ _ hI1
theorem lc_of (hG : lSim l D cs adC adM tX tY sK sV b L xs G) (hE1 : gInj layC adC) (hE2 : gInj layM adM ∧ gZok (gA layM adM) (fun _ => True)) (hn : 6 * n + 6 ≤ L) (hL : L ≤ 3072) {N : Nat} {Inv : Nat → gFG → gFF → gFG → gFF → Int64 → Prop} (hs : ls_of N Inv) {gS : gFG} {fS : gFF} {gT : gFG} {fT : gFF} {wT : Int64} (hI : Inv n gS fS gT fT wT) (kk : ∀ (gS : gFG) (fS : gFF) (gT : gFG) (fT : gFF) (wT : Int64), Inv (n + 1) gS fS gT fT wT → G 906 [some (.ref b), some (.ref (adC 0)), some (.ref (adM 0)), some (.int (nI (6 * n)))] [] (gS, fS, 0) (gT, fT, wT)) : G 804 [some (.ref b), some (.ref (adC 0)), some (.ref (adM 0)), some (.int (nI (6 * n)))] [] (gS, fS, 0) (gT, fT, wT) := by
  have h := hs n (xs (6 * n + 1)) (xs (6 * n + 2)) gS fS gT fT wT (by omega) hI
  refine l_aload_n (n := 805) hG dL_law_804 rfl rfl ?_
  refine l_aload_n (n := 806) hG dL_law_805 rfl rfl ?_
  refine l_iload_n (n := 807) hG dL_law_806 rfl rfl ?_
  refine l_iconst (n := 808) hG dL_law_807 ki_1 rfl ?_
  refine l_iadd (n := 809) hG dL_law_808 rfl ?_
  refine l_sald (n := 810) (j := 6 * n + 1) hG dL_law_809 ⟨lad1 _, by omega, hL⟩ rfl ?_
  refine l_aload_n (n := 811) hG dL_law_810 rfl rfl ?_
  refine l_iload_n (n := 812) hG dL_law_811 rfl rfl ?_
  refine l_iconst (n := 813) hG dL_law_812 ki_2 rfl ?_
  refine l_iadd (n := 814) hG dL_law_813 rfl ?_
  refine l_sald (n := 815) (j := 6 * n + 2) hG dL_law_814 ⟨lad2 _, by omega, hL⟩ rfl ?_
  refine l_callC (n := 818) (st := []) hG (mX11_of hE1 h) ceX11_of rfl lmL_99 rfl ⟨rfl, Nat.le_of_ble_eq_true rfl, by decide⟩ dL_law_815 rfl ?_
  rintro _ _ ⟨r1, gS1, fS1, rfl, rfl, h⟩
  refine l_aload_n (n := 819) hG dL_law_818 rfl rfl ?_
  refine l_aload_n (n := 820) hG dL_law_819 rfl rfl ?_
  refine l_iload_n (n := 821) hG dL_law_820 rfl rfl ?_
  refine l_iconst (n := 822) hG dL_law_821 ki_1 rfl ?_
  refine l_iadd (n := 823) hG dL_law_822 rfl ?_
  refine l_sald (n := 824) (j := 6 * n + 1) hG dL_law_823 ⟨lad1 _, by omega, hL⟩ rfl ?_
  refine l_aload_n (n := 825) hG dL_law_824 rfl rfl ?_
  refine l_iload_n (n := 826) hG dL_law_825 rfl rfl ?_
  refine l_iconst (n := 827) hG dL_law_826 ki_2 rfl ?_
  refine l_iadd (n := 828) hG dL_law_827 rfl ?_
  refine l_sald (n := 829) (j := 6 * n + 2) hG dL_law_828 ⟨lad2 _, by omega, hL⟩ rfl ?_
  refine l_callM (n := 832) (st := [.int r1]) hG (mX12_of hE2 h) ceX12_of rfl lmL_102 rfl ⟨rfl, Nat.le_of_ble_eq_true rfl, by decide⟩ dL_law_829 rfl ?_
  rintro _ _ ⟨r2, gT1, fT1, wT1, rfl, rfl, hr, hI1⟩
  refine l_icmp_eq (n := 835) (tgt := 906) hG dL_law_832 rfl rfl (fun c => ?_) (fun c => absurd hr c)
  exact kk _ _ _ _ _ hI1
theorem lc_by (hG : lSim l D cs adC adM tX tY sK sV b L xs G) (hE1 : gInj layC adC) (hE2 : gInj layM adM ∧ gZok (gA layM adM) (fun _ => True)) (hn : 6 * n + 6 ≤ L) (hL : L ≤ 3072) {N : Nat} {Inv : Nat → gFG → gFF → gFG → gFF → Int64 → Prop} (hs : ls_by N Inv) {gS : gFG} {fS : gFF} {gT : gFG} {fT : gFF} {wT : Int64} (hI : Inv n gS fS gT fT wT) (kk : ∀ (gS : gFG) (fS : gFF) (gT : gFG) (fT : gFF) (wT : Int64), Inv (n + 1) gS fS gT fT wT → G 906 [some (.ref b), some (.ref (adC 0)), some (.ref (adM 0)), some (.int (nI (6 * n)))] [] (gS, fS, 0) (gT, fT, wT)) : G 837 [some (.ref b), some (.ref (adC 0)), some (.ref (adM 0)), some (.int (nI (6 * n)))] [] (gS, fS, 0) (gT, fT, wT) := by
  have h := hs n (xs (6 * n + 1)) (xs (6 * n + 2)) gS fS gT fT wT (by omega) hI
  refine l_aload_n (n := 838) hG dL_law_837 rfl rfl ?_
  refine l_aload_n (n := 839) hG dL_law_838 rfl rfl ?_
  refine l_iload_n (n := 840) hG dL_law_839 rfl rfl ?_
  refine l_iconst (n := 841) hG dL_law_840 ki_1 rfl ?_
  refine l_iadd (n := 842) hG dL_law_841 rfl ?_
  refine l_sald (n := 843) (j := 6 * n + 1) hG dL_law_842 ⟨lad1 _, by omega, hL⟩ rfl ?_
  refine l_aload_n (n := 844) hG dL_law_843 rfl rfl ?_
  refine l_iload_n (n := 845) hG dL_law_844 rfl rfl ?_
  refine l_iconst (n := 846) hG dL_law_845 ki_2 rfl ?_
  refine l_iadd (n := 847) hG dL_law_846 rfl ?_
  refine l_sald (n := 848) (j := 6 * n + 2) hG dL_law_847 ⟨lad2 _, by omega, hL⟩ rfl ?_
  refine l_callC (n := 851) (st := []) hG (mX11_by hE1 h) ceX11_by rfl lmL_103 rfl ⟨rfl, Nat.le_of_ble_eq_true rfl, by decide⟩ dL_law_848 rfl ?_
  rintro _ _ ⟨r1, gS1, fS1, rfl, rfl, h⟩
  refine l_aload_n (n := 852) hG dL_law_851 rfl rfl ?_
  refine l_aload_n (n := 853) hG dL_law_852 rfl rfl ?_
  refine l_iload_n (n := 854) hG dL_law_853 rfl rfl ?_
  refine l_iconst (n := 855) hG dL_law_854 ki_1 rfl ?_
  refine l_iadd (n := 856) hG dL_law_855 rfl ?_
  refine l_sald (n := 857) (j := 6 * n + 1) hG dL_law_856 ⟨lad1 _, by omega, hL⟩ rfl ?_
  refine l_aload_n (n := 858) hG dL_law_857 rfl rfl ?_
  refine l_iload_n (n := 859) hG dL_law_858 rfl rfl ?_
  refine l_iconst (n := 860) hG dL_law_859 ki_2 rfl ?_
  refine l_iadd (n := 861) hG dL_law_860 rfl ?_
  refine l_sald (n := 862) (j := 6 * n + 2) hG dL_law_861 ⟨lad2 _, by omega, hL⟩ rfl ?_
  refine l_callM (n := 865) (st := [.int r1]) hG (mX12_by hE2 h) ceX12_by rfl lmL_106 rfl ⟨rfl, Nat.le_of_ble_eq_true rfl, by decide⟩ dL_law_862 rfl ?_
  rintro _ _ ⟨r2, gT1, fT1, wT1, rfl, rfl, hr, hI1⟩
  refine l_icmp_eq (n := 868) (tgt := 906) hG dL_law_865 rfl rfl (fun c => ?_) (fun c => absurd hr c)
  exact kk _ _ _ _ _ hI1
theorem lc_count (hG : lSim l D cs adC adM tX tY sK sV b L xs G) (hE1 : gInj layC adC) (hE2 : gInj layM adM ∧ gZok (gA layM adM) (fun _ => True)) (hn : 6 * n + 6 ≤ L) (hL : L ≤ 3072) {N : Nat} {Inv : Nat → gFG → gFF → gFG → gFF → Int64 → Prop} (hs : ls_count N Inv) {gS : gFG} {fS : gFF} {gT : gFG} {fT : gFF} {wT : Int64} (hI : Inv n gS fS gT fT wT) (kk : ∀ (gS : gFG) (fS : gFF) (gT : gFG) (fT : gFF) (wT : Int64), Inv (n + 1) gS fS gT fT wT → G 906 [some (.ref b), some (.ref (adC 0)), some (.ref (adM 0)), some (.int (nI (6 * n)))] [] (gS, fS, 0) (gT, fT, wT)) : G 870 [some (.ref b), some (.ref (adC 0)), some (.ref (adM 0)), some (.int (nI (6 * n)))] [] (gS, fS, 0) (gT, fT, wT) := by
  have h := hs n (xs (6 * n + 1)) gS fS gT fT wT (by omega) hI
  refine l_aload_n (n := 871) hG dL_law_870 rfl rfl ?_
  refine l_aload_n (n := 872) hG dL_law_871 rfl rfl ?_
  refine l_iload_n (n := 873) hG dL_law_872 rfl rfl ?_
  refine l_iconst (n := 874) hG dL_law_873 ki_1 rfl ?_
  refine l_iadd (n := 875) hG dL_law_874 rfl ?_
  refine l_sald (n := 876) (j := 6 * n + 1) hG dL_law_875 ⟨lad1 _, by omega, hL⟩ rfl ?_
  refine l_callC (n := 879) (st := []) hG (mX11_count hE1 h) ceX11_count rfl lmL_107 rfl ⟨rfl, Nat.le_of_ble_eq_true rfl, by decide⟩ dL_law_876 rfl ?_
  rintro _ _ ⟨r1, gS1, fS1, rfl, rfl, h⟩
  refine l_aload_n (n := 880) hG dL_law_879 rfl rfl ?_
  refine l_aload_n (n := 881) hG dL_law_880 rfl rfl ?_
  refine l_iload_n (n := 882) hG dL_law_881 rfl rfl ?_
  refine l_iconst (n := 883) hG dL_law_882 ki_1 rfl ?_
  refine l_iadd (n := 884) hG dL_law_883 rfl ?_
  refine l_sald (n := 885) (j := 6 * n + 1) hG dL_law_884 ⟨lad1 _, by omega, hL⟩ rfl ?_
  refine l_callM (n := 888) (st := [.int r1]) hG (mX12_count hE2 h) ceX12_count rfl lmL_110 rfl ⟨rfl, Nat.le_of_ble_eq_true rfl, by decide⟩ dL_law_885 rfl ?_
  rintro _ _ ⟨r2, gT1, fT1, wT1, rfl, rfl, hr, hI1⟩
  refine l_icmp_eq (n := 891) (tgt := 906) hG dL_law_888 rfl rfl (fun c => ?_) (fun c => absurd hr c)
  exact kk _ _ _ _ _ hI1
theorem lc_status (hG : lSim l D cs adC adM tX tY sK sV b L xs G) (hE1 : gInj layC adC) (hE2 : gInj layM adM ∧ gZok (gA layM adM) (fun _ => True)) (hn : 6 * n + 6 ≤ L) (hL : L ≤ 3072) {N : Nat} {Inv : Nat → gFG → gFF → gFG → gFF → Int64 → Prop} (hs : ls_status N Inv) {gS : gFG} {fS : gFF} {gT : gFG} {fT : gFF} {wT : Int64} (hI : Inv n gS fS gT fT wT) (kk : ∀ (gS : gFG) (fS : gFF) (gT : gFG) (fT : gFF) (wT : Int64), Inv (n + 1) gS fS gT fT wT → G 906 [some (.ref b), some (.ref (adC 0)), some (.ref (adM 0)), some (.int (nI (6 * n)))] [] (gS, fS, 0) (gT, fT, wT)) : G 893 [some (.ref b), some (.ref (adC 0)), some (.ref (adM 0)), some (.int (nI (6 * n)))] [] (gS, fS, 0) (gT, fT, wT) := by
  have h := hs n  gS fS gT fT wT (by omega) hI
  refine l_aload_n (n := 894) hG dL_law_893 rfl rfl ?_
  refine l_callC (n := 897) (st := []) hG (mX11_status hE1 h) ceX11_status rfl lmL_111 rfl ⟨rfl, Nat.le_of_ble_eq_true rfl, by decide⟩ dL_law_894 rfl ?_
  rintro _ _ ⟨r1, gS1, fS1, rfl, rfl, h⟩
  refine l_aload_n (n := 898) hG dL_law_897 rfl rfl ?_
  refine l_callM (n := 901) (st := [.int r1]) hG (mX12_status hE2 h) ceX12_status rfl lmL_114 rfl ⟨rfl, Nat.le_of_ble_eq_true rfl, by decide⟩ dL_law_898 rfl ?_
  rintro _ _ ⟨r2, gT1, fT1, wT1, rfl, rfl, hr, hI1⟩
  refine l_icmp_eq (n := 904) (tgt := 906) hG dL_law_901 rfl rfl (fun c => ?_) (fun c => absurd hr c)
  exact kk _ _ _ _ _ hI1
theorem law_loop (hG : lSim l D cs adC adM tX tY sK sV b L xs G) (hE1 : gInj layC adC) (hE2 : gInj layM adM ∧ gZok (gA layM adM) (fun _ => True)) (hL : L ≤ 3072) {N : Nat} {Inv : Nat → gFG → gFF → gFG → gFF → Int64 → Prop} (hskip : ∀ (n : Nat) (gS : gFG) (fS : gFF) (gT : gFG) (fT : gFF) (wT : Int64), Inv n gS fS gT fT wT → Inv (n + 1) gS fS gT fT wT) (h_size : ls_size N Inv) (h_draw : ls_draw N Inv) (h_cell : ls_cell N Inv) (h_repair : ls_repair N Inv) (h_wall : ls_wall N Inv) (h_many : ls_many N Inv) (h_off : ls_off N Inv) (h_lot : ls_lot N Inv) (h_mix : ls_mix N Inv) (h_mixed : ls_mixed N Inv) (h_pour : ls_pour N Inv) (h_left : ls_left N Inv) (h_feed : ls_feed N Inv) (h_end : ls_end N Inv) (h_rules : ls_rules N Inv) (h_fault : ls_fault N Inv) (h_broken : ls_broken N Inv) (h_vessel : ls_vessel N Inv) (h_like : ls_like N Inv) (h_tell : ls_tell N Inv) (h_of : ls_of N Inv) (h_by : ls_by N Inv) (h_count : ls_count N Inv) (h_status : ls_status N Inv) : ∀ (k n : Nat) (gS : gFG) (fS : gFF) (gT : gFG) (fT : gFF) (wT : Int64), 512 < n + k → n ≤ 512 → Inv n gS fS gT fT wT → G 18 [some (.ref b), some (.ref (adC 0)), some (.ref (adM 0)), some (.int (nI (6 * n)))] [] (gS, fS, 0) (gT, fT, wT) := by
  intro k
  induction k with
  | zero => intro n gS fS gT fT wT h1 h2 _; omega
  | succ k ih =>
    intro n gS fS gT fT wT h1 h2 hI
    refine l_iload_n (n := 19) hG dL_law_18 rfl rfl ?_
    refine l_aload_n (n := 20) hG dL_law_19 rfl rfl ?_
    refine l_slen (n := 21) hG dL_law_20 rfl ?_
    refine l_bipush (n := 23) hG dL_law_21 kb_6 rfl ?_
    refine l_isub (n := 24) hG dL_law_23 rfl ?_
    have hsub : (nI L - 6).toInt = (L : Int) - 6 := pk_sub_toInt (b := 6) (by omega) (by decide)
    have hxi : (nI (6 * n)).toInt = ((6 * n : Nat) : Int) := nI_toInt (by omega)
    refine l_icmp_gt (n := 27) (tgt := 912) hG dL_law_24 rfl rfl (fun c => ?_) (fun c => ?_)
    · refine l_iconst (n := 913) hG dL_law_912 ki_1 rfl ?_
      exact l_ret hG dL_law_913
    · have hn : 6 * n + 6 ≤ L := by
        rw [Int32.lt_iff_toInt_lt, hsub, hxi] at c
        omega
      refine l_aload_n (n := 28) hG dL_law_27 rfl rfl ?_
      refine l_iload_n (n := 29) hG dL_law_28 rfl rfl ?_
      refine l_sald (n := 30) (j := 6 * n) hG dL_law_29 ⟨rfl, by omega, hL⟩ rfl ?_
      refine l_bipush (n := 32) hG dL_law_30 kb_31 rfl ?_
      refine l_iand (n := 33) hG dL_law_32 rfl ?_
      have kk : ∀ (gS : gFG) (fS : gFF) (gT : gFG) (fT : gFF) (wT : Int64), Inv (n + 1) gS fS gT fT wT → G 906 [some (.ref b), some (.ref (adC 0)), some (.ref (adM 0)), some (.int (nI (6 * n)))] [] (gS, fS, 0) (gT, fT, wT) := by
        intro gS fS gT fT wT hI1
        refine l_iinc (n := 909) (lv2 := [some (.ref b), some (.ref (adC 0)), some (.ref (adM 0)), some (.int (nI (6 * n) + 6))]) hG dL_law_906 rfl rfl rfl rfl ?_
        refine l_goto (tgt := 18) hG dL_law_909 rfl ?_
        rw [lad6]
        exact ih (n + 1) gS fS gT fT wT (by omega) (by omega) hI1
      by_cases c0 : (xs (6 * n) &&& 31) = 0
      · exact l_tabIn (v := 0) (tgt := 144) (off := 111) hG dL_law_33 c0 (by decide) (lc_size hG hE1 hE2 hn hL h_size hI kk)
      by_cases c1 : (xs (6 * n) &&& 31) = 1
      · exact l_tabIn (v := 1) (tgt := 177) (off := 144) hG dL_law_33 c1 (by decide) (lc_draw hG hE1 hE2 hn hL h_draw hI kk)
      by_cases c2 : (xs (6 * n) &&& 31) = 2
      · exact l_tabIn (v := 2) (tgt := 240) (off := 207) hG dL_law_33 c2 (by decide) (lc_cell hG hE1 hE2 hn hL h_cell hI kk)
      by_cases c3 : (xs (6 * n) &&& 31) = 3
      · exact l_tabIn (v := 3) (tgt := 283) (off := 250) hG dL_law_33 c3 (by decide) (lc_repair hG hE1 hE2 hn hL h_repair hI kk)
      by_cases c4 : (xs (6 * n) &&& 31) = 4
      · exact l_tabIn (v := 4) (tgt := 316) (off := 283) hG dL_law_33 c4 (by decide) (lc_wall hG hE1 hE2 hn hL h_wall hI kk)
      by_cases c5 : (xs (6 * n) &&& 31) = 5
      · exact l_tabIn (v := 5) (tgt := 349) (off := 316) hG dL_law_33 c5 (by decide) (lc_many hG hE1 hE2 hn hL h_many hI kk)
      by_cases c6 : (xs (6 * n) &&& 31) = 6
      · exact l_tabIn (v := 6) (tgt := 372) (off := 339) hG dL_law_33 c6 (by decide) (lc_off hG hE1 hE2 hn hL h_off hI kk)
      by_cases c7 : (xs (6 * n) &&& 31) = 7
      · exact l_tabIn (v := 7) (tgt := 405) (off := 372) hG dL_law_33 c7 (by decide) (lc_lot hG hE1 hE2 hn hL h_lot hI kk)
      by_cases c8 : (xs (6 * n) &&& 31) = 8
      · exact l_tabIn (v := 8) (tgt := 458) (off := 425) hG dL_law_33 c8 (by decide) (lc_mix hG hE1 hE2 hn hL h_mix hI kk)
      by_cases c9 : (xs (6 * n) &&& 31) = 9
      · exact l_tabIn (v := 9) (tgt := 511) (off := 478) hG dL_law_33 c9 (by decide) (lc_mixed hG hE1 hE2 hn hL h_mixed hI kk)
      by_cases c10 : (xs (6 * n) &&& 31) = 10
      · exact l_tabIn (v := 10) (tgt := 534) (off := 501) hG dL_law_33 c10 (by decide) (lc_pour hG hE1 hE2 hn hL h_pour hI kk)
      by_cases c11 : (xs (6 * n) &&& 31) = 11
      · exact l_tabIn (v := 11) (tgt := 547) (off := 514) hG dL_law_33 c11 (by decide) (lc_left hG hE1 hE2 hn hL h_left hI kk)
      by_cases c12 : (xs (6 * n) &&& 31) = 12
      · exact l_tabIn (v := 12) (tgt := 570) (off := 537) hG dL_law_33 c12 (by decide) (lc_feed hG hE1 hE2 hn hL h_feed hI kk)
      by_cases c13 : (xs (6 * n) &&& 31) = 13
      · exact l_tabIn (v := 13) (tgt := 633) (off := 600) hG dL_law_33 c13 (by decide) (lc_end hG hE1 hE2 hn hL h_end hI kk)
      by_cases c14 : (xs (6 * n) &&& 31) = 14
      · exact l_tabIn (v := 14) (tgt := 656) (off := 623) hG dL_law_33 c14 (by decide) (lc_rules hG hE1 hE2 hn hL h_rules hI kk)
      by_cases c15 : (xs (6 * n) &&& 31) = 15
      · exact l_tabIn (v := 15) (tgt := 669) (off := 636) hG dL_law_33 c15 (by decide) (lc_fault hG hE1 hE2 hn hL h_fault hI kk)
      by_cases c16 : (xs (6 * n) &&& 31) = 16
      · exact l_tabIn (v := 16) (tgt := 682) (off := 649) hG dL_law_33 c16 (by decide) (lc_broken hG hE1 hE2 hn hL h_broken hI kk)
      by_cases c17 : (xs (6 * n) &&& 31) = 17
      · exact l_tabIn (v := 17) (tgt := 705) (off := 672) hG dL_law_33 c17 (by decide) (lc_vessel hG hE1 hE2 hn hL h_vessel hI kk)
      by_cases c18 : (xs (6 * n) &&& 31) = 18
      · exact l_tabIn (v := 18) (tgt := 728) (off := 695) hG dL_law_33 c18 (by decide) (lc_like hG hE1 hE2 hn hL h_like hI kk)
      by_cases c19 : (xs (6 * n) &&& 31) = 19
      · exact l_tabIn (v := 19) (tgt := 761) (off := 728) hG dL_law_33 c19 (by decide) (lc_tell hG hE1 hE2 hn hL h_tell hI kk)
      by_cases c20 : (xs (6 * n) &&& 31) = 20
      · exact l_tabIn (v := 20) (tgt := 804) (off := 771) hG dL_law_33 c20 (by decide) (lc_of hG hE1 hE2 hn hL h_of hI kk)
      by_cases c21 : (xs (6 * n) &&& 31) = 21
      · exact l_tabIn (v := 21) (tgt := 837) (off := 804) hG dL_law_33 c21 (by decide) (lc_by hG hE1 hE2 hn hL h_by hI kk)
      by_cases c22 : (xs (6 * n) &&& 31) = 22
      · exact l_tabIn (v := 22) (tgt := 870) (off := 837) hG dL_law_33 c22 (by decide) (lc_count hG hE1 hE2 hn hL h_count hI kk)
      by_cases c23 : (xs (6 * n) &&& 31) = 23
      · exact l_tabIn (v := 23) (tgt := 893) (off := 860) hG dL_law_33 c23 (by decide) (lc_status hG hE1 hE2 hn hL h_status hI kk)
      refine l_tabOut (tgt := 906) hG dL_law_33 (by have q0 := lv_neT c0 (show (0 : Int32).toInt = 0 from by decide); have q1 := lv_neT c1 (show (1 : Int32).toInt = 1 from by decide); have q2 := lv_neT c2 (show (2 : Int32).toInt = 2 from by decide); have q3 := lv_neT c3 (show (3 : Int32).toInt = 3 from by decide); have q4 := lv_neT c4 (show (4 : Int32).toInt = 4 from by decide); have q5 := lv_neT c5 (show (5 : Int32).toInt = 5 from by decide); have q6 := lv_neT c6 (show (6 : Int32).toInt = 6 from by decide); have q7 := lv_neT c7 (show (7 : Int32).toInt = 7 from by decide); have q8 := lv_neT c8 (show (8 : Int32).toInt = 8 from by decide); have q9 := lv_neT c9 (show (9 : Int32).toInt = 9 from by decide); have q10 := lv_neT c10 (show (10 : Int32).toInt = 10 from by decide); have q11 := lv_neT c11 (show (11 : Int32).toInt = 11 from by decide); have q12 := lv_neT c12 (show (12 : Int32).toInt = 12 from by decide); have q13 := lv_neT c13 (show (13 : Int32).toInt = 13 from by decide); have q14 := lv_neT c14 (show (14 : Int32).toInt = 14 from by decide); have q15 := lv_neT c15 (show (15 : Int32).toInt = 15 from by decide); have q16 := lv_neT c16 (show (16 : Int32).toInt = 16 from by decide); have q17 := lv_neT c17 (show (17 : Int32).toInt = 17 from by decide); have q18 := lv_neT c18 (show (18 : Int32).toInt = 18 from by decide); have q19 := lv_neT c19 (show (19 : Int32).toInt = 19 from by decide); have q20 := lv_neT c20 (show (20 : Int32).toInt = 20 from by decide); have q21 := lv_neT c21 (show (21 : Int32).toInt = 21 from by decide); have q22 := lv_neT c22 (show (22 : Int32).toInt = 22 from by decide); have q23 := lv_neT c23 (show (23 : Int32).toInt = 23 from by decide);  omega) rfl ?_
      exact kk _ _ _ _ _ (hskip _ _ _ _ _ _ hI)
end LLOOP
